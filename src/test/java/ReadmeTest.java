import java.io.IOException;
import java.nio.file.Files;
import java.nio.file.Path;
import java.util.List;

/** The example in README.md: its calls stand there as here, and answer what it says. */
public final class ReadmeTest {
    private final SyntheticChain chain = new SyntheticChain();
    private final List<String> lines;
    private int next = 0;

    private ReadmeTest(List<String> lines) {
        this.lines = lines;
    }

    public static void main(String[] args) throws IOException {
        List<String> calls = Files.readAllLines(Path.of("README.md")).stream()
            .map(String::strip).filter(line -> line.contains("chain.") && line.contains("; ")).toList();
        ReadmeTest test = new ReadmeTest(calls);
        test.example();
        Due.is("calls of the example", test.next, calls.size());
        Due.end();
    }

    private void example() {
        answers("chain.put(0, 10);", chain.put(0, 10));
        int first = chain.take(0);
        answers("int first = chain.take(0);", first);
        answers("chain.put(0, 11);", chain.put(0, 11));
        answers("chain.advance(7);", chain.advance(7));
        answers("chain.take(1);", chain.take(1));
        answers("chain.changedSince(first);", chain.changedSince(first));
        answers("chain.restore(first);", chain.restore(first));
        answers("chain.live(0);", chain.live(0));
        answers("chain.pin(first, 1);", chain.pin(first, 1));
        answers("chain.prune(742);", chain.prune(742));
        answers("chain.forget(first);", chain.forget(first));
    }

    /** The example's next line is this call, and the number that its comment begins with is this answer. */
    private void answers(String call, int got) {
        String line = next < lines.size() ? lines.get(next) : "";
        next++;
        Due.is(call + " stands in README.md, where there is: " + line, line.startsWith(call) ? 1 : 0, 1);
        String said = line.replaceFirst(".*// *", "").replaceFirst("[^-0-9].*", "");
        Due.is(call + " as README.md says", got, said.isEmpty() ? Integer.MIN_VALUE : Integer.parseInt(said));
    }
}
