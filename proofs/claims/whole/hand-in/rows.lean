section
theorem pk_us {f : Nat → Int32} {k : Nat} {x : Int32} : upd f k x k = x := if_pos rfl
theorem pk_un {f : Nat → Int32} {k j : Nat} {x : Int32} (h : j ≠ k) : upd f k x j = f j := if_neg h
theorem pk_sub {a b : Nat} (h : b ≤ a) : nI a - nI b = nI (a - b) := by
  obtain ⟨c, rfl⟩ : ∃ c, a = c + b := ⟨a - b, by omega⟩
  rw [← nI_add, Int32.add_sub_cancel, Nat.add_sub_cancel]
theorem pk_m1 (n : Nat) : nI (n + 1) + (-1) = nI n := by
  rw [← nI_1, Int32.add_assoc, show (1 : Int32) + (-1) = 0 from rfl, Int32.add_zero]
theorem pk_mul (a b : Nat) : nI a * nI b = nI (a * b) := (Int32.ofNat_mul a b).symm
theorem pk_div {a d : Nat} (ha : a < 2 ^ 31) (h0 : 0 < d) (hd : d < 2 ^ 31) : nI a / nI d = nI (a / d) := by
  apply Int32.toInt_inj.mp
  rw [lg_idiv_nonneg (by rw [nI_toInt ha]; omega) (by rw [nI_toInt hd]; omega), nI_toInt ha, nI_toInt hd, nI_toInt (Nat.lt_of_le_of_lt (Nat.div_le_self a d) ha)]
  first | rfl | exact (Int.natCast_ediv _ _).symm
theorem pk_rem {a d : Nat} (ha : a < 2 ^ 31) (h0 : 0 < d) (hd : d < 2 ^ 31) : nI a - nI a / nI d * nI d = nI (a % d) := by
  rw [pk_div ha h0 hd, pk_mul, pk_sub (Nat.div_mul_le_self a d)]
  exact congrArg nI (by have := Nat.div_add_mod' a d; omega)
theorem pk_ix (x : Int32) {n : Nat} (hn : n < 2 ^ 31) : x < 0 ∨ nI n ≤ x ∨ ∃ j : Nat, j < n ∧ x = nI j := by
  by_cases h : x < 0
  · exact Or.inl h
  · obtain ⟨j, hj, rfl⟩ := nI_of h
    by_cases h2 : j < n
    · exact Or.inr (Or.inr ⟨j, h2, rfl⟩)
    · exact Or.inr (Or.inl (nI_le (by omega) hj))
theorem pk_le {x y : Int32} {A B : Prop} (a b : Nat) (f : a ≤ b → A) (g : b < a → B) (hx : x = nI a := by rfl) (hy : y = nI b := by rfl) (ha : a < 2 ^ 31 := by omega) (hb : b < 2 ^ 31 := by omega) : (x ≤ y → A) ∧ (¬ x ≤ y → B) := by
  subst hx hy
  rw [nI_leI ha hb]
  exact ⟨f, fun z => g (by omega)⟩
theorem pk_lt {x y : Int32} {A B : Prop} (a b : Nat) (f : a < b → A) (g : b ≤ a → B) (hx : x = nI a := by rfl) (hy : y = nI b := by rfl) (ha : a < 2 ^ 31 := by omega) (hb : b < 2 ^ 31 := by omega) : (x < y → A) ∧ (¬ x < y → B) := by
  subst hx hy
  rw [nI_ltI ha hb]
  exact ⟨f, fun z => g (by omega)⟩
theorem pk_eq {x y : Int32} {A B : Prop} (a b : Nat) (f : a = b → A) (g : a ≠ b → B) (hx : x = nI a := by rfl) (hy : y = nI b := by rfl) (ha : a < 2 ^ 31 := by omega) (hb : b < 2 ^ 31 := by omega) : (x = y → A) ∧ (¬ x = y → B) := by
  subst hx hy
  rw [nI_eq ha hb]
  exact ⟨f, g⟩
theorem pk_in {x : Int32} (n N : Nat) (h : n < N) (hx : x = nI n := by rfl) (hN : N < 2 ^ 31 := by omega) : vp_in x N := by
  subst hx
  exact vp_in_nI h hN
theorem pk_cl {x : Int32} (n : Nat) (hx : x = nI n := by rfl) (h : n < 2 ^ 31 := by omega) : x.toNatClampNeg = n := by
  subst hx
  exact nI_clamp h
/-! own rows: stores of truth values, cells -/
def sc_B (a : Nat → Int32) : Prop := ∀ i, a i = 0 ∨ a i = 1
theorem sc_n0 : vp_nar .boolean 0 = 0 := by decide
theorem sc_n1 : vp_nar .boolean 1 = 1 := by decide
theorem sc_nB {x : Int32} (h : x = 0 ∨ x = 1) : vp_nar .boolean x = x := by
  cases h with
  | inl h => rw [h]; exact sc_n0
  | inr h => rw [h]; exact sc_n1
theorem sc_Bu {a : Nat → Int32} (h : sc_B a) (k : Nat) {x : Int32} (hx : x = 0 ∨ x = 1) : sc_B (upd a k x) := fun i => by
  unfold upd
  by_cases e : i = k
  · rw [if_pos e]; exact hx
  · rw [if_neg e]; exact h i
theorem sc_xc (a f : Nat) : nI a * 16 + nI f = nI (16 * a + f) := by
  rw [show (16 : Int32) = nI 16 from rfl, pk_mul, nI_add, Nat.mul_comm]
theorem sc_x14 (f : Nat) : 14 * 16 + nI f = nI (224 + f) := sc_xc 14 f
theorem sc_yc (a f : Nat) : 16 * nI a + nI f = nI (16 * a + f) := by
  rw [show (16 : Int32) = nI 16 from rfl, pk_mul, nI_add]
theorem sc_file (x : Int32) : (x < 0 ∨ 16 ≤ x) ∨ ∃ f : Nat, f < 16 ∧ x = nI f := by
  rcases pk_ix x (n := 16) (by decide) with h | h | h
  · exact Or.inl (Or.inl h)
  · exact Or.inl (Or.inr h)
  · exact Or.inr h
theorem sc_point (x : Int32) {n : Nat} (hn : n ≤ 14) : (x < 0 ∨ nI n ≤ x) ∨ ∃ p : Nat, p < n ∧ x = nI p := by
  rcases pk_ix x (n := n) (by omega) with h | h | h
  · exact Or.inl (Or.inl h)
  · exact Or.inl (Or.inr h)
  · exact Or.inr h
/-- 0 if both pairs are equal, else 1 -/
def sc_ne (x y z w : Int32) : Int32 := if x = y ∧ z = w then 0 else 1
theorem sc_ne01 (x y z w : Int32) : sc_ne x y z w = 0 ∨ sc_ne x y z w = 1 := by
  unfold sc_ne
  by_cases h : x = y ∧ z = w
  · rw [if_pos h]; exact Or.inl rfl
  · rw [if_neg h]; exact Or.inr rfl
theorem sc_neC (x y z w : Int32) : sc_ne x y z w = sc_ne y x w z := by
  unfold sc_ne
  by_cases h : x = y ∧ z = w
  · rw [if_pos h, if_pos ⟨h.1.symm, h.2.symm⟩]
  · rw [if_neg h, if_neg (fun k => h ⟨k.1.symm, k.2.symm⟩)]
theorem sc_neI {post : Int32 → Prop} {x y z w : Int32} {P Q : Prop} (hP : P) (hQ : Q) (h : post (sc_ne x y z w)) :
    (x = y → (P ∧ (Q ∧ ((z = w → post 0) ∧ (¬ z = w → post 1))))) ∧ (¬ x = y → post 1) := by
  unfold sc_ne at h
  refine ⟨fun e => ⟨hP, hQ, fun g => ?_, fun g => ?_⟩, fun e => ?_⟩
  · rw [if_pos ⟨e, g⟩] at h; exact h
  · rw [if_neg (fun k => g k.2)] at h; exact h
  · rw [if_neg (fun k => e k.1)] at h; exact h
/-- x and then g i, g (i + 1) .., d of them -/
def sc_sm (g : Nat → Int32) : Nat → Nat → Int32 → Int32
  | 0, _, x => x
  | d + 1, i, x => sc_sm g d (i + 1) (x + g i)
theorem sc_smC {g h : Nat → Int32} : ∀ (d i : Nat) (x : Int32), (∀ j, i ≤ j → j < i + d → g j = h j) → sc_sm g d i x = sc_sm h d i x := by
  intro d
  induction d with
  | zero => intro i x _; rfl
  | succ d ih =>
    intro i x H
    show sc_sm g d (i + 1) (x + g i) = sc_sm h d (i + 1) (x + h i)
    rw [H i (by omega) (by omega)]
    exact ih (i + 1) _ (fun j h1 h2 => H j (by omega) (by omega))
/-! row maps -/
/-- the first k cells of row a over those of row b -/
def sc_cp (g : Nat → Int32) (a b k : Nat) : Nat → Int32 := fun i => if 16 * b ≤ i ∧ i < 16 * b + k then g (16 * a + (i - 16 * b)) else g i
theorem sc_cp0 (g : Nat → Int32) (a b : Nat) : sc_cp g a b 0 = g := by
  funext i
  unfold sc_cp
  rw [if_neg (by omega)]
theorem sc_cpA (g : Nat → Int32) (a b k : Nat) (hk : k < 16) : sc_cp g a b k (16 * a + k) = g (16 * a + k) := by
  unfold sc_cp
  rw [if_neg (by omega)]
theorem sc_cpS (g : Nat → Int32) (a b k : Nat) (hk : k < 16) : upd (sc_cp g a b k) (16 * b + k) (sc_cp g a b k (16 * a + k)) = sc_cp g a b (k + 1) := by
  rw [sc_cpA g a b k hk]
  funext i
  unfold upd sc_cp
  by_cases h : i = 16 * b + k
  · rw [if_pos h, if_pos (by omega), h]
    congr 1
    omega
  · rw [if_neg h]
    by_cases h2 : 16 * b ≤ i ∧ i < 16 * b + k
    · rw [if_pos h2, if_pos (by omega)]
    · rw [if_neg h2, if_neg (by omega)]
theorem sc_cpB {g : Nat → Int32} (h : sc_B g) (a b k : Nat) : sc_B (sc_cp g a b k) := fun i => by
  unfold sc_cp
  by_cases e : 16 * b ≤ i ∧ i < 16 * b + k
  · rw [if_pos e]; exact h _
  · rw [if_neg e]; exact h i
def sc_un (t : Nat → Nat) (b v : Nat) : Nat → Nat := fun j => if j = b then v else t j
def sc_rows (g : Nat → Int32) (t : Nat → Nat) : Nat → Int32 := fun i => g (16 * t (i / 16) + i % 16)
def sc_pt (g : Nat → Int32) (t : Nat → Nat) : Nat → Int32 := fun j => g (t j)
theorem sc_rowsI (g : Nat → Int32) : sc_rows g id = g := by
  funext i
  unfold sc_rows
  congr 1
  exact Nat.div_add_mod i 16
theorem sc_ptI (g : Nat → Int32) : sc_pt g id = g := rfl
theorem sc_rowsB {g : Nat → Int32} (h : sc_B g) (t : Nat → Nat) : sc_B (sc_rows g t) := fun _ => h _
theorem sc_ptB {g : Nat → Int32} (h : sc_B g) (t : Nat → Nat) : sc_B (sc_pt g t) := fun _ => h _
theorem sc_rowsA (g : Nat → Int32) (t : Nat → Nat) {p f : Nat} (hf : f < 16) : sc_rows g t (16 * p + f) = g (16 * t p + f) := by
  unfold sc_rows
  rw [show (16 * p + f) / 16 = p by omega, show (16 * p + f) % 16 = f by omega]
theorem sc_rowsM (g : Nat → Int32) (t : Nat → Nat) (a b : Nat) : sc_cp (sc_rows g t) a b 16 = sc_rows g (sc_un t b (t a)) := by
  funext i
  unfold sc_cp
  by_cases e : 16 * b ≤ i ∧ i < 16 * b + 16
  · rw [if_pos e, sc_rowsA g t (by omega)]
    unfold sc_rows sc_un
    rw [show i / 16 = b by omega, if_pos rfl, show i % 16 = i - 16 * b by omega]
  · rw [if_neg e]
    unfold sc_rows sc_un
    rw [if_neg (show ¬ i / 16 = b by omega)]
theorem sc_ptM (g : Nat → Int32) (t : Nat → Nat) (a b : Nat) : upd (sc_pt g t) b (sc_pt g t a) = sc_pt g (sc_un t b (t a)) := by
  funext i
  unfold upd sc_pt sc_un
  by_cases e : i = b
  · rw [if_pos e, if_pos e]
  · rw [if_neg e, if_neg e]
/-- rows p up to q - 1 taken from the next one -/
def sc_sh (t : Nat → Nat) (p q : Nat) : Nat → Nat := fun j => if p ≤ j ∧ j < q then t (j + 1) else t j
theorem sc_sh0 (t : Nat → Nat) (p : Nat) : sc_sh t p p = t := by
  funext j
  unfold sc_sh
  rw [if_neg (by omega)]
theorem sc_shS (t : Nat → Nat) {p q : Nat} (h : p ≤ q) : sc_un (sc_sh t p q) q (sc_sh t p q (q + 1)) = sc_sh t p (q + 1) := by
  funext j
  unfold sc_un sc_sh
  by_cases e : j = q
  · rw [if_pos e, if_neg (by omega), if_pos (by omega), e]
  · rw [if_neg e]
    by_cases e2 : p ≤ j ∧ j < q
    · rw [if_pos e2, if_pos (by omega)]
    · rw [if_neg e2, if_neg (by omega)]
end
section
/-! the component's own methods, each with a general post -/
section
variable {pc td : Int32} {ct cc pd pp pk : Nat → Int32}
theorem sc_isFile {post : Int32 → Prop} {f : Nat} (hf : f < 16) (h : post 1) : wpX_isFile post (pc, td, ct, cc, pd, pp, pk) (nI f) :=
  br_f (nI_pos (by omega)) (br_f (nI_ge (b := 16) hf (by decide)) h)
theorem sc_isFileN {post : Int32 → Prop} {x : Int32} (hx : x < 0 ∨ 16 ≤ x) (h : post 0) : wpX_isFile post (pc, td, ct, cc, pd, pp, pk) x := by
  by_cases h0 : x < 0
  · exact br_t h0 h
  · exact br_f h0 (br_t (hx.resolve_left h0) h)
theorem sc_isPoint {post : Int32 → Prop} {n p : Nat} (hn : n ≤ 14) (hp : p < n) (h : post 1) : wpX_isPoint post (nI n, td, ct, cc, pd, pp, pk) (nI p) :=
  br_f (nI_pos (by omega)) (br_f (nI_ge hp (by omega)) h)
theorem sc_isPointN {post : Int32 → Prop} {n : Nat} {x : Int32} (hx : x < 0 ∨ nI n ≤ x) (h : post 0) : wpX_isPoint post (nI n, td, ct, cc, pd, pp, pk) x := by
  by_cases h0 : x < 0
  · exact br_t h0 h
  · exact br_f h0 (br_t (hx.resolve_left h0) h)
theorem sc_thereAsInt {post : Int32 → Prop} (a f : Nat) (ha : a < 15) (hf : f < 16) (hB : sc_B ct) (h : post (ct (16 * a + f))) :
    wpX_thereAsInt post (pc, td, ct, cc, pd, pp, pk) (nI a) (nI f) := by
  unfold wpX_thereAsInt wpX_cell
  dsimp only
  rw [sc_xc, nI_clamp (by omega)]
  refine ⟨vp_in_nI (by omega) (by decide), br_c (fun e => ?_) (fun e => ?_)⟩
  · rw [e] at h; exact h
  · rw [(hB _).resolve_left e] at h; exact h
theorem sc_setLive {post : SX → Prop} {f : Nat} {b c : Int32} (hf : f < 16) (hb : b = 0 ∨ b = 1)
    (h : post (pc, td, upd ct (224 + f) b, upd cc (224 + f) c, pd, pp, pk)) : wpX_setLive post (pc, td, ct, cc, pd, pp, pk) (nI f) b c := by
  unfold wpX_setLive wpX_cell
  dsimp only
  rw [sc_x14, nI_clamp (by omega), sc_nB hb]
  have hi : vp_in (nI (224 + f)) 240 := vp_in_nI (by omega) (by decide)
  exact ⟨hi, nm_e ⟨hi, nm_e h⟩⟩
theorem sc_differs {post : Int32 → Prop} (a b f : Nat) (ha : a < 15) (hb : b < 15) (hf : f < 16)
    (h : post (sc_ne (ct (16 * a + f)) (ct (16 * b + f)) (cc (16 * a + f)) (cc (16 * b + f)))) :
    wpX_differs post (pc, td, ct, cc, pd, pp, pk) (nI a) (nI b) (nI f) := by
  unfold wpX_differs wpX_cell
  dsimp only
  rw [sc_xc, sc_xc, nI_clamp (show 16 * a + f < 2 ^ 31 by omega), nI_clamp (show 16 * b + f < 2 ^ 31 by omega)]
  have h1 : vp_in (nI (16 * a + f)) 240 := vp_in_nI (by omega) (by decide)
  have h2 : vp_in (nI (16 * b + f)) 240 := vp_in_nI (by omega) (by decide)
  exact ⟨h1, h2, sc_neI h1 h2 h⟩
theorem sc_countL {post : Int32 → Prop} (a b : Nat) (ha : a < 15) (hb : b < 15) : ∀ (d i : Nat) (x : Int32), i + d = 16 →
    post (sc_sm (fun f => sc_ne (ct (16 * a + f)) (ct (16 * b + f)) (cc (16 * a + f)) (cc (16 * b + f))) d i x) →
    wX_countDiffering_5 post (nI a) (nI b) pc td ct cc pd pp pk (d + 1) x (nI i) := by
  intro d
  induction d with
  | zero => intro i x hi h; exact br_t (nI_le (a := 16) (by omega) (by omega)) h
  | succ d ih =>
    intro i x hi h
    have ih' := ih (i + 1) _ (by omega) h
    refine br_f (nI_ge (b := 16) (by omega) (by decide)) (sc_differs a b i ha hb (by omega) (br_c (fun e => ?_) (fun e => ?_)))
    · dsimp only at ih'
      rw [e, Int32.add_zero] at ih'
      exact nm_r (nI_1 i) ih'
    · dsimp only at ih'
      rw [(sc_ne01 _ _ _ _).resolve_left e] at ih'
      exact nm_e (nm_r (nI_1 i) ih')
theorem sc_countDiffering {post : Int32 → Prop} (a b : Nat) (ha : a < 15) (hb : b < 15)
    (h : post (sc_sm (fun f => sc_ne (ct (16 * a + f)) (ct (16 * b + f)) (cc (16 * a + f)) (cc (16 * b + f))) 16 0 0)) :
    wpX_countDiffering post (pc, td, ct, cc, pd, pp, pk) (nI a) (nI b) := ⟨17, sc_countL a b ha hb 16 0 0 rfl h⟩
theorem sc_copyCell {post : SX → Prop} (a b f : Nat) (ha : a < 15) (hb : b < 15) (hf : f < 16) (hB : sc_B ct)
    (h : post (pc, td, upd ct (16 * b + f) (ct (16 * a + f)), upd cc (16 * b + f) (cc (16 * a + f)), pd, pp, pk)) :
    wpX_copyCell post (pc, td, ct, cc, pd, pp, pk) (nI a) (nI b) (nI f) := by
  unfold wpX_copyCell wpX_cell
  dsimp only
  rw [sc_xc, sc_xc, nI_clamp (show 16 * a + f < 2 ^ 31 by omega), nI_clamp (show 16 * b + f < 2 ^ 31 by omega), sc_nB (hB _)]
  have h1 : vp_in (nI (16 * a + f)) 240 := vp_in_nI (by omega) (by decide)
  have h2 : vp_in (nI (16 * b + f)) 240 := vp_in_nI (by omega) (by decide)
  exact ⟨h1, h2, nm_e ⟨h1, h2, nm_e h⟩⟩
theorem sc_copyRowL {post : SX → Prop} (a b : Nat) (ha : a < 15) (hb : b < 15) (hB : sc_B ct)
    (h : post (pc, td, sc_cp ct a b 16, sc_cp cc a b 16, pd, pp, pk)) : ∀ (d k : Nat), k + d = 16 →
    wX_copyRow_2 post (nI a) (nI b) (d + 1) (nI k) pc td (sc_cp ct a b k) (sc_cp cc a b k) pd pp pk := by
  intro d
  induction d with
  | zero =>
    intro k hk
    obtain rfl : k = 16 := by omega
    exact br_t (nI_le (a := 16) (by omega) (by decide)) h
  | succ d ih =>
    intro k hk
    have ih' := ih (k + 1) (by omega)
    rw [← sc_cpS ct a b k (by omega), ← sc_cpS cc a b k (by omega)] at ih'
    refine br_f (nI_ge (b := 16) (by omega) (by decide)) (sc_copyCell a b k ha hb (by omega) (sc_cpB hB a b k) ?_)
    exact nm_r (nI_1 k) ih'
theorem sc_copyRow {post : SX → Prop} (a b : Nat) (ha : a < 15) (hb : b < 15) (hB : sc_B ct)
    (h : post (pc, td, sc_cp ct a b 16, sc_cp cc a b 16, pd, pp, pk)) :
    wpX_copyRow post (pc, td, ct, cc, pd, pp, pk) (nI a) (nI b) := by
  have k := sc_copyRowL a b ha hb hB h 16 0 rfl
  rw [sc_cp0, sc_cp0] at k
  exact ⟨17, k⟩
theorem sc_movePoint {post : SX → Prop} (s : Nat → Nat) (a b : Nat) (ha : a < 14) (hb : b < 14) (hB : sc_B ct) (hP : sc_B pp)
    (h : post (pc, td, sc_rows ct (sc_un s b (s a)), sc_rows cc (sc_un s b (s a)), sc_pt pd (sc_un s b (s a)), sc_pt pp (sc_un s b (s a)), pk)) :
    wpX_movePoint post (pc, td, sc_rows ct s, sc_rows cc s, sc_pt pd s, sc_pt pp s, pk) (nI a) (nI b) := by
  refine sc_copyRow (post := _) a b (by omega) (by omega) (sc_rowsB hB s) ?_
  dsimp only
  rw [nI_clamp (show a < 2 ^ 31 by omega), nI_clamp (show b < 2 ^ 31 by omega), sc_nB (sc_ptB hP s a), sc_rowsM, sc_rowsM, sc_ptM, sc_ptM]
  have h1 : vp_in (nI a) 14 := vp_in_nI ha (by decide)
  have h2 : vp_in (nI b) 14 := vp_in_nI hb (by decide)
  exact ⟨h1, h2, nm_e ⟨h1, h2, nm_e h⟩⟩
/-! loops of the public methods -/
/-- the contents after rewrite has gone from cell a up to cell b, the first of them being file f0's -/
def sc_rw (t g : Nat → Int32) (v w : Int32) (o a b : Nat) : Nat → Int32 := fun i => if a ≤ i ∧ i < b ∧ ¬ t i = 0 then v + nI (i - o) * w else g i
theorem sc_rw0 (t g : Nat → Int32) (v w : Int32) (o a : Nat) : sc_rw t g v w o a a = g := by
  funext i
  unfold sc_rw
  rw [if_neg (by omega)]
theorem sc_rwT {t g : Nat → Int32} {v w : Int32} {o a b : Nat} (e : t b = 0) : sc_rw t g v w o a b = sc_rw t g v w o a (b + 1) := by
  funext i
  unfold sc_rw
  by_cases h : i = b
  · subst h
    rw [if_neg (by omega), if_neg (fun k => k.2.2 e)]
  · by_cases k : a ≤ i ∧ i < b ∧ ¬ t i = 0
    · rw [if_pos k, if_pos ⟨k.1, by omega, k.2.2⟩]
    · rw [if_neg k, if_neg (fun z => k ⟨z.1, by omega, z.2.2⟩)]
theorem sc_rwF {t g : Nat → Int32} {v w : Int32} {o a b : Nat} (hab : a ≤ b) (e : ¬ t b = 0) : upd (sc_rw t g v w o a b) b (v + nI (b - o) * w) = sc_rw t g v w o a (b + 1) := by
  funext i
  unfold upd sc_rw
  by_cases h : i = b
  · subst h
    rw [if_pos rfl, if_pos ⟨hab, by omega, e⟩]
  · rw [if_neg h]
    by_cases k : a ≤ i ∧ i < b ∧ ¬ t i = 0
    · rw [if_pos k, if_pos ⟨k.1, by omega, k.2.2⟩]
    · rw [if_neg k, if_neg (fun z => k ⟨z.1, by omega, z.2.2⟩)]
def sc_nz (x : Int32) : Int32 := if x = 0 then 0 else 1
theorem sc_rewriteL {post : Int32 → SX → Prop} (v w : Int32) (f0 : Nat) : ∀ (d i : Nat) (x : Int32), i + d = 16 → f0 ≤ i →
    post (sc_sm (fun f => sc_nz (ct (224 + f))) d i x) (pc, td, ct, sc_rw ct cc v w 224 (224 + f0) 240, pd, pp, pk) →
    wX_rewrite_16 post v w pc td (d + 1) x (nI i) ct (sc_rw ct cc v w 224 (224 + f0) (224 + i)) pd pp pk := by
  intro d
  induction d with
  | zero =>
    intro i x hi h0 h
    obtain rfl : i = 16 := by omega
    exact br_t (nI_le (a := 16) (by omega) (by decide)) h
  | succ d ih =>
    intro i x hi h0 h
    have ih' := ih (i + 1) _ (by omega) (by omega) h
    refine br_f (nI_ge (b := 16) (by omega) (by decide)) ?_
    unfold wpX_cell
    dsimp only
    rw [sc_x14, nI_clamp (by omega)]
    have h1 : vp_in (nI (224 + i)) 240 := vp_in_nI (by omega) (by decide)
    dsimp only at ih'
    refine ⟨h1, br_c (fun e => ?_) (fun e => ⟨h1, ?_⟩)⟩
    · rw [show sc_nz (ct (224 + i)) = 0 from if_pos e, Int32.add_zero, show 224 + (i + 1) = (224 + i) + 1 from rfl, ← sc_rwT e] at ih'
      exact nm_r (nI_1 i) ih'
    · rw [show sc_nz (ct (224 + i)) = 1 from if_neg e, show 224 + (i + 1) = (224 + i) + 1 from rfl, ← sc_rwF (by omega) e, show 224 + i - 224 = i by omega] at ih'
      exact nm_e (nm_e (nm_r (nI_1 i) ih'))
theorem sc_versionsL {post : Int32 → Prop} {n : Nat} (f : Nat) (hf : f < 16) (hn : n ≤ 14) : ∀ (d i : Nat) (x : Int32), 1 ≤ i → n ≤ i + d → (i ≤ n ∨ d = 0) →
    post (sc_sm (fun p => sc_ne (ct (16 * (p - 1) + f)) (ct (16 * p + f)) (cc (16 * (p - 1) + f)) (cc (16 * p + f))) d i x) → i + d ≤ 15 → i + d = n ∨ d = 0 →
    wX_versions_14 post (nI f) (nI n) td ct cc pd pp pk (d + 1) x (nI i) := by
  intro d
  induction d with
  | zero => intro i x hi h1 h2 h h3 h4; exact br_t (nI_le (by omega) (by omega)) h
  | succ d ih =>
    intro i x hi h1 h2 h h3 h4
    have ih' := ih (i + 1) _ (by omega) (by omega) (by omega) h (by omega) (by omega)
    refine br_f (nI_ge (by omega) (by omega)) ?_
    obtain ⟨j, rfl⟩ : ∃ j, i = j + 1 := ⟨i - 1, by omega⟩
    rw [nI_pred]
    refine sc_differs j (j + 1) f (by omega) (by omega) hf (br_c (fun e => ?_) (fun e => ?_))
    · dsimp only at ih'
      rw [Nat.add_sub_cancel, e, Int32.add_zero] at ih'
      exact nm_r (nI_1 (j + 1)) ih'
    · dsimp only at ih'
      rw [Nat.add_sub_cancel, (sc_ne01 _ _ _ _).resolve_left e] at ih'
      exact nm_e (nm_r (nI_1 (j + 1)) ih')
theorem sc_sumL {post : Int32 → Prop} (p : Nat) (hp : p < 15) : ∀ (d i : Nat) (x : Int32), i + d = 16 →
    post (sc_sm (fun f => cc (16 * p + f)) d i x) → wX_sum_14 post (nI p) pc td ct cc pd pp pk (d + 1) x (nI i) := by
  intro d
  induction d with
  | zero => intro i x hi h; exact br_t (nI_le (a := 16) (by omega) (by omega)) h
  | succ d ih =>
    intro i x hi h
    have ih' := ih (i + 1) _ (by omega) h
    refine br_f (nI_ge (b := 16) (by omega) (by decide)) ?_
    unfold wpX_cell
    dsimp only
    rw [sc_xc, nI_clamp (by omega)]
    exact ⟨vp_in_nI (by omega) (by decide), nm_e (nm_r (nI_1 i) ih')⟩
theorem sc_forgetL {post : Int32 → SX → Prop} {n p : Nat} (hn : n ≤ 14) (hB : sc_B ct) (hP : sc_B pp)
    (h : post (nI (n - 1)) (nI (n - 1), td, sc_rows ct (sc_sh id p (n - 1)), sc_rows cc (sc_sh id p (n - 1)), sc_pt pd (sc_sh id p (n - 1)), sc_pt pp (sc_sh id p (n - 1)), pk)) :
    ∀ (d q : Nat), p ≤ q → q + 1 + d = n →
    wX_forget_26 post (d + 1) (nI (q + 1)) (nI n) td (sc_rows ct (sc_sh id p q)) (sc_rows cc (sc_sh id p q)) (sc_pt pd (sc_sh id p q)) (sc_pt pp (sc_sh id p q)) pk := by
  intro d
  induction d with
  | zero =>
    intro q hq e
    obtain rfl : n = q + 1 := by omega
    exact br_t (nI_le (by omega) (by omega)) (nm_r (nI_pred q) h)
  | succ d ih =>
    intro q hq e
    have ih' := ih (q + 1) (by omega) (by omega)
    refine br_f (nI_ge (by omega) (by omega)) ?_
    rw [nI_pred]
    refine sc_movePoint (sc_sh id p q) (q + 1) q (by omega) (by omega) hB hP ?_
    rw [← sc_shS id hq] at ih'
    exact nm_r (nI_1 (q + 1)) ih'
end
end
section
/-! the reference's own methods, each with a general post -/
section
variable {td ps : Int32} {lt lv hd cn dy pn kp : Nat → Int32}
theorem sc_badFile {post : Int32 → Prop} {f : Nat} (hf : f < 16) (h : post 0) : wpY_badFile post (td, ps, lt, lv, hd, cn, dy, pn, kp) (nI f) :=
  br_f (nI_pos (by omega)) (br_t (nI_le (b := 15) (by omega) (by decide)) h)
theorem sc_badFileN {post : Int32 → Prop} {x : Int32} (hx : x < 0 ∨ 16 ≤ x) (h : post 1) : wpY_badFile post (td, ps, lt, lv, hd, cn, dy, pn, kp) x := by
  by_cases h0 : x < 0
  · exact br_t h0 h
  · exact br_f h0 (br_f (fun h15 => absurd (Int32.le_trans (hx.resolve_left h0) h15) (by decide)) h)
theorem sc_badPoint {post : Int32 → Prop} {n p : Nat} (hn : n ≤ 14) (hp : p < n) (h : post 0) : wpY_badPoint post (td, nI n, lt, lv, hd, cn, dy, pn, kp) (nI p) :=
  br_f (nI_pos (by omega)) (br_f (nI_ge hp (by omega)) (br_t (nI_lt (b := 14) (by omega) (by decide)) h))
theorem sc_badPointN {post : Int32 → Prop} {n : Nat} {x : Int32} (hx : x < 0 ∨ nI n ≤ x) (h : post 1) : wpY_badPoint post (td, nI n, lt, lv, hd, cn, dy, pn, kp) x := by
  by_cases h0 : x < 0
  · exact br_t h0 h
  · exact br_f h0 (br_t (hx.resolve_left h0) h)
theorem sc_changed {post : Int32 → Prop} (p f : Nat) (hp : p < 14) (hf : f < 16) (h : post (sc_ne (lt f) (hd (16 * p + f)) (lv f) (cn (16 * p + f)))) :
    wpY_changed post (td, ps, lt, lv, hd, cn, dy, pn, kp) (nI p) (nI f) := by
  unfold wpY_changed
  dsimp only
  rw [sc_yc, nI_clamp (show 16 * p + f < 2 ^ 31 by omega), nI_clamp (show f < 2 ^ 31 by omega)]
  have h1 : vp_in (nI f) 16 := vp_in_nI (by omega) (by decide)
  have h2 : vp_in (nI (16 * p + f)) 224 := vp_in_nI (by omega) (by decide)
  exact ⟨h1, h2, sc_neI h1 h2 h⟩
theorem sc_back {post : SY → Prop} (p f : Nat) (hp : p < 14) (hf : f < 16) (hB : sc_B hd)
    (h : post (td, ps, upd lt f (hd (16 * p + f)), upd lv f (cn (16 * p + f)), hd, cn, dy, pn, kp)) :
    wpY_back post (td, ps, lt, lv, hd, cn, dy, pn, kp) (nI p) (nI f) := by
  unfold wpY_back
  dsimp only
  rw [sc_yc, nI_clamp (show 16 * p + f < 2 ^ 31 by omega), nI_clamp (show f < 2 ^ 31 by omega), sc_nB (hB _)]
  have h1 : vp_in (nI f) 16 := vp_in_nI (by omega) (by decide)
  have h2 : vp_in (nI (16 * p + f)) 224 := vp_in_nI (by omega) (by decide)
  exact ⟨h2, h1, nm_e ⟨h2, h1, nm_e h⟩⟩
theorem sc_differ {post : Int32 → Prop} (a b f : Nat) (ha : a < 14) (hb : b < 14) (hf : f < 16)
    (h : post (sc_ne (hd (16 * a + f)) (hd (16 * b + f)) (cn (16 * a + f)) (cn (16 * b + f)))) :
    wpY_differ post (td, ps, lt, lv, hd, cn, dy, pn, kp) (nI a) (nI b) (nI f) := by
  unfold wpY_differ
  dsimp only
  rw [sc_yc, sc_yc, nI_clamp (show 16 * a + f < 2 ^ 31 by omega), nI_clamp (show 16 * b + f < 2 ^ 31 by omega)]
  have h1 : vp_in (nI (16 * a + f)) 224 := vp_in_nI (by omega) (by decide)
  have h2 : vp_in (nI (16 * b + f)) 224 := vp_in_nI (by omega) (by decide)
  exact ⟨h1, h2, sc_neI h1 h2 h⟩
theorem sc_differingL {post : Int32 → Prop} (a b : Nat) (ha : a < 14) (hb : b < 14) : ∀ (d i : Nat) (x : Int32), i + d = 16 →
    post (sc_sm (fun f => sc_ne (hd (16 * a + f)) (hd (16 * b + f)) (cn (16 * a + f)) (cn (16 * b + f))) d i x) →
    wY_differing_23 post (nI a) (nI b) td ps lt lv hd cn dy pn kp (d + 1) x (nI i) := by
  intro d
  induction d with
  | zero => intro i x hi h; exact br_t (nI_le (a := 16) (by omega) (by omega)) h
  | succ d ih =>
    intro i x hi h
    have ih' := ih (i + 1) _ (by omega) h
    refine br_f (nI_ge (b := 16) (by omega) (by decide)) (sc_differ a b i ha hb (by omega) (br_c (fun e => ?_) (fun e => ?_)))
    · dsimp only at ih'
      rw [e, Int32.add_zero] at ih'
      exact nm_r (nI_1 i) ih'
    · dsimp only at ih'
      rw [(sc_ne01 _ _ _ _).resolve_left e] at ih'
      exact nm_e (nm_r (nI_1 i) ih')
theorem sc_changedSinceL {post : Int32 → Prop} (p : Nat) (hp : p < 14) : ∀ (d i : Nat) (x : Int32), i + d = 16 →
    post (sc_sm (fun f => sc_ne (lt f) (hd (16 * p + f)) (lv f) (cn (16 * p + f))) d i x) →
    wY_changedSince_14 post (nI p) td ps lt lv hd cn dy pn kp (d + 1) x (nI i) := by
  intro d
  induction d with
  | zero => intro i x hi h; exact br_t (nI_le (a := 16) (by omega) (by omega)) h
  | succ d ih =>
    intro i x hi h
    have ih' := ih (i + 1) _ (by omega) h
    refine br_f (nI_ge (b := 16) (by omega) (by decide)) (sc_changed p i hp (by omega) (br_c (fun e => ?_) (fun e => ?_)))
    · dsimp only at ih'
      rw [e, Int32.add_zero] at ih'
      exact nm_r (nI_1 i) ih'
    · dsimp only at ih'
      rw [(sc_ne01 _ _ _ _).resolve_left e] at ih'
      exact nm_e (nm_r (nI_1 i) ih')
/-- the first k live cells taken from row p of g -/
def sc_bk (l g : Nat → Int32) (p k : Nat) : Nat → Int32 := fun i => if i < k then g (16 * p + i) else l i
theorem sc_bk0 (l g : Nat → Int32) (p : Nat) : sc_bk l g p 0 = l := by
  funext i
  unfold sc_bk
  rw [if_neg (by omega)]
theorem sc_bkA (l g : Nat → Int32) (p k : Nat) : sc_bk l g p k k = l k := by
  unfold sc_bk
  rw [if_neg (by omega)]
theorem sc_bkS (l g : Nat → Int32) (p k : Nat) : upd (sc_bk l g p k) k (g (16 * p + k)) = sc_bk l g p (k + 1) := by
  funext i
  unfold upd sc_bk
  by_cases h : i = k
  · subst h
    rw [if_pos rfl, if_pos (by omega)]
  · rw [if_neg h]
    by_cases h2 : i < k
    · rw [if_pos h2, if_pos (by omega)]
    · rw [if_neg h2, if_neg (by omega)]
theorem sc_restoreL {post : Int32 → SY → Prop} (p : Nat) (hp : p < 14) (hB : sc_B hd) : ∀ (d i : Nat) (x : Int32), i + d = 16 →
    post (sc_sm (fun f => sc_ne (lt f) (hd (16 * p + f)) (lv f) (cn (16 * p + f))) d i x) (td, ps, sc_bk lt hd p 16, sc_bk lv cn p 16, hd, cn, dy, pn, kp) →
    wY_restore_14 post (nI p) (d + 1) x (nI i) td ps (sc_bk lt hd p i) (sc_bk lv cn p i) hd cn dy pn kp := by
  intro d
  induction d with
  | zero =>
    intro i x hi h
    obtain rfl : i = 16 := by omega
    exact br_t (nI_le (a := 16) (by omega) (by decide)) h
  | succ d ih =>
    intro i x hi h
    have ih' := ih (i + 1) _ (by omega) h
    refine br_f (nI_ge (b := 16) (by omega) (by decide)) (sc_changed p i hp (by omega) ?_)
    rw [sc_bkA, sc_bkA]
    dsimp only at ih'
    rw [← sc_bkS, ← sc_bkS] at ih'
    refine br_c (fun e => ?_) (fun e => ?_)
    · rw [e, Int32.add_zero] at ih'
      exact sc_back p i hp (by omega) hB (nm_r (nI_1 i) ih')
    · rw [(sc_ne01 _ _ _ _).resolve_left e] at ih'
      exact nm_e (sc_back p i hp (by omega) hB (nm_r (nI_1 i) ih'))
theorem sc_rewriteYL {post : Int32 → SY → Prop} (v w : Int32) (f0 : Nat) : ∀ (d i : Nat) (x : Int32), i + d = 16 → f0 ≤ i →
    post (sc_sm (fun f => sc_nz (lt f)) d i x) (td, ps, lt, sc_rw lt lv v w 0 f0 16, hd, cn, dy, pn, kp) →
    wY_rewrite_16 post v w td ps (d + 1) x (nI i) lt (sc_rw lt lv v w 0 f0 i) hd cn dy pn kp := by
  intro d
  induction d with
  | zero =>
    intro i x hi h0 h
    obtain rfl : i = 16 := by omega
    exact br_t (nI_le (a := 16) (by omega) (by decide)) h
  | succ d ih =>
    intro i x hi h0 h
    have ih' := ih (i + 1) _ (by omega) (by omega) h
    refine br_f (nI_ge (b := 16) (by omega) (by decide)) ?_
    rw [nI_clamp (by omega)]
    have h1 : vp_in (nI i) 16 := vp_in_nI (by omega) (by decide)
    dsimp only at ih'
    refine ⟨h1, br_c (fun e => ?_) (fun e => ⟨h1, ?_⟩)⟩
    · rw [show sc_nz (lt i) = 0 from if_pos e, Int32.add_zero, ← sc_rwT e] at ih'
      exact nm_r (nI_1 i) ih'
    · rw [show sc_nz (lt i) = 1 from if_neg e, ← sc_rwF (by omega) e, Nat.sub_zero] at ih'
      exact nm_e (nm_e (nm_r (nI_1 i) ih'))
theorem sc_versionsYL {post : Int32 → Prop} {n : Nat} (f : Nat) (hf : f < 16) (hn : n ≤ 14) : ∀ (d i : Nat) (x : Int32), 1 ≤ i → n ≤ i + d → (i ≤ n ∨ d = 0) →
    post (sc_sm (fun p => sc_ne (hd (16 * p + f)) (hd (16 * (p - 1) + f)) (cn (16 * p + f)) (cn (16 * (p - 1) + f))) d i x) → i + d ≤ 15 → i + d = n ∨ d = 0 →
    wY_versions_14 post (nI f) td (nI n) lt lv hd cn dy pn kp (d + 1) x (nI i) := by
  intro d
  induction d with
  | zero => intro i x hi h1 h2 h h3 h4; exact br_t (nI_le (by omega) (by omega)) h
  | succ d ih =>
    intro i x hi h1 h2 h h3 h4
    have ih' := ih (i + 1) _ (by omega) (by omega) (by omega) h (by omega) (by omega)
    refine br_f (nI_ge (by omega) (by omega)) (br_f (nI_ge (b := 14) (by omega) (by decide)) ?_)
    obtain ⟨j, rfl⟩ : ∃ j, i = j + 1 := ⟨i - 1, by omega⟩
    rw [nI_pred]
    refine sc_differ (j + 1) j f (by omega) (by omega) hf (br_c (fun e => ?_) (fun e => ?_))
    · dsimp only at ih'
      rw [Nat.add_sub_cancel, e, Int32.add_zero] at ih'
      exact nm_r (nI_1 (j + 1)) ih'
    · dsimp only at ih'
      rw [Nat.add_sub_cancel, (sc_ne01 _ _ _ _).resolve_left e] at ih'
      exact nm_e (nm_r (nI_1 (j + 1)) ih')
theorem sc_sumYL {post : Int32 → Prop} (p : Nat) (hp : p < 14) : ∀ (d i : Nat) (x : Int32), i + d = 16 →
    post (sc_sm (fun f => if hd (16 * p + f) = 0 then 0 else cn (16 * p + f)) d i x) → wY_sum_14 post (nI p) td ps lt lv hd cn dy pn kp (d + 1) x (nI i) := by
  intro d
  induction d with
  | zero => intro i x hi h; exact br_t (nI_le (a := 16) (by omega) (by omega)) h
  | succ d ih =>
    intro i x hi h
    have ih' := ih (i + 1) _ (by omega) h
    refine br_f (nI_ge (b := 16) (by omega) (by decide)) ?_
    rw [sc_yc, nI_clamp (by omega)]
    have h1 : vp_in (nI (16 * p + i)) 224 := vp_in_nI (by omega) (by decide)
    dsimp only at ih'
    refine ⟨h1, br_c (fun e => ?_) (fun e => ⟨h1, ?_⟩)⟩
    · rw [if_pos e, Int32.add_zero] at ih'
      exact nm_r (nI_1 i) ih'
    · rw [if_neg e] at ih'
      exact nm_e (nm_r (nI_1 i) ih')
/-- the first k cells of row p taken from the live cells -/
def sc_tk (g l : Nat → Int32) (p k : Nat) : Nat → Int32 := fun i => if 16 * p ≤ i ∧ i < 16 * p + k then l (i - 16 * p) else g i
theorem sc_tk0 (g l : Nat → Int32) (p : Nat) : sc_tk g l p 0 = g := by
  funext i
  unfold sc_tk
  rw [if_neg (by omega)]
theorem sc_tkS (g l : Nat → Int32) (p k : Nat) : upd (sc_tk g l p k) (16 * p + k) (l k) = sc_tk g l p (k + 1) := by
  funext i
  unfold upd sc_tk
  by_cases h : i = 16 * p + k
  · subst h
    rw [if_pos rfl, if_pos (by omega), Nat.add_sub_cancel_left]
  · rw [if_neg h]
    by_cases h2 : 16 * p ≤ i ∧ i < 16 * p + k
    · rw [if_pos h2, if_pos (by omega)]
    · rw [if_neg h2, if_neg (by omega)]
theorem sc_tkB {g l : Nat → Int32} (h : sc_B g) (hl : sc_B l) (p k : Nat) : sc_B (sc_tk g l p k) := fun i => by
  unfold sc_tk
  by_cases e : 16 * p ≤ i ∧ i < 16 * p + k
  · rw [if_pos e]; exact hl _
  · rw [if_neg e]; exact h i
theorem sc_takeL {post : Int32 → SY → Prop} (p : Nat) (hp : p < 14) (hB : sc_B lt)
    (h : post (nI p) (td, nI (p + 1), lt, lv, sc_tk hd lt p 16, sc_tk cn lv p 16, upd dy p td, upd pn p 0, kp)) : ∀ (d i : Nat), i + d = 16 →
    wY_take_27 post (nI p) td ps (d + 1) (nI i) lt lv (sc_tk hd lt p i) (sc_tk cn lv p i) dy pn kp := by
  intro d
  induction d with
  | zero =>
    intro i hi
    obtain rfl : i = 16 := by omega
    refine br_t (nI_le (a := 16) (by omega) (by decide)) ?_
    rw [nI_clamp (show p < 2 ^ 31 by omega), sc_n0]
    have h1 : vp_in (nI p) 14 := vp_in_nI (by omega) (by decide)
    exact ⟨h1, nm_e ⟨h1, nm_e (nm_r (nI_1 p) h)⟩⟩
  | succ d ih =>
    intro i hi
    have ih' := ih (i + 1) (by omega)
    refine br_f (nI_ge (b := 16) (by omega) (by decide)) ?_
    rw [sc_yc, nI_clamp (show 16 * p + i < 2 ^ 31 by omega), nI_clamp (show i < 2 ^ 31 by omega), sc_nB (hB _)]
    have h1 : vp_in (nI i) 16 := vp_in_nI (by omega) (by decide)
    have h2 : vp_in (nI (16 * p + i)) 224 := vp_in_nI (by omega) (by decide)
    rw [← sc_tkS, ← sc_tkS] at ih'
    exact ⟨h1, h2, nm_e ⟨h1, h2, nm_e (nm_r (nI_1 i) ih')⟩⟩
/-! takeOut -/
theorem sc_takeOutI {post : SY → Prop} {J : Int32 → (Nat → Int32) → (Nat → Int32) → (Nat → Int32) → (Nat → Int32) → (Nat → Int32) → (Nat → Int32) → (Nat → Int32) → Prop}
    (t : Nat → Nat) (q : Nat) (hq : q < 13) (hB : sc_B hd) (hP : sc_B pn) (hK : sc_B kp)
    (h : J (nI (q + 1)) lt lv (sc_rows hd (sc_un t q (t (q + 1)))) (sc_rows cn (sc_un t q (t (q + 1)))) (sc_pt dy (sc_un t q (t (q + 1)))) (sc_pt pn (sc_un t q (t (q + 1)))) (sc_pt kp (sc_un t q (t (q + 1))))) :
    ∀ (d i : Nat), i + d = 16 →
    wY_takeOut_20 post J (nI q) td ps (d + 1) (nI i) lt lv (sc_cp (sc_rows hd t) (q + 1) q i) (sc_cp (sc_rows cn t) (q + 1) q i) (sc_pt dy t) (sc_pt pn t) (sc_pt kp t) := by
  intro d
  induction d with
  | zero =>
    intro i hi
    obtain rfl : i = 16 := by omega
    refine br_t (nI_le (a := 16) (by omega) (by decide)) ?_
    rw [nI_1, nI_clamp (show q < 2 ^ 31 by omega), nI_clamp (show q + 1 < 2 ^ 31 by omega), sc_nB (sc_ptB hP t _), sc_nB (sc_ptB hK t _), sc_rowsM, sc_rowsM, sc_ptM, sc_ptM, sc_ptM]
    have h1 : vp_in (nI (q + 1)) 14 := vp_in_nI (by omega) (by decide)
    have h2 : vp_in (nI q) 14 := vp_in_nI (by omega) (by decide)
    exact ⟨h1, h2, nm_e ⟨h1, h2, nm_e ⟨h1, h2, nm_e (nm_e h)⟩⟩⟩
  | succ d ih =>
    intro i hi
    have ih' := ih (i + 1) (by omega)
    refine br_f (nI_ge (b := 16) (by omega) (by decide)) ?_
    rw [nI_1 q, sc_yc, sc_yc, nI_clamp (show 16 * (q + 1) + i < 2 ^ 31 by omega), nI_clamp (show 16 * q + i < 2 ^ 31 by omega), sc_nB (sc_cpB (sc_rowsB hB t) _ _ _ _)]
    have h1 : vp_in (nI (16 * (q + 1) + i)) 224 := vp_in_nI (by omega) (by decide)
    have h2 : vp_in (nI (16 * q + i)) 224 := vp_in_nI (by omega) (by decide)
    rw [← sc_cpS _ _ _ i (by omega), ← sc_cpS _ _ _ i (by omega)] at ih'
    exact ⟨h1, h2, nm_e ⟨h1, h2, nm_e (nm_r (nI_1 i) ih')⟩⟩
theorem sc_takeOutL {post : SY → Prop} {n p : Nat} (t : Nat → Nat) (hn : n ≤ 14) (hB : sc_B hd) (hP : sc_B pn) (hK : sc_B kp)
    (h : post (td, nI (n - 1), lt, lv, sc_rows hd (sc_sh t p (n - 1)), sc_rows cn (sc_sh t p (n - 1)), sc_pt dy (sc_sh t p (n - 1)), sc_pt pn (sc_sh t p (n - 1)), sc_pt kp (sc_sh t p (n - 1)))) :
    ∀ (d q : Nat), p ≤ q → q + 1 + d = n →
    wY_takeOut_2 post td (nI n) (d + 1) (nI q) lt lv (sc_rows hd (sc_sh t p q)) (sc_rows cn (sc_sh t p q)) (sc_pt dy (sc_sh t p q)) (sc_pt pn (sc_sh t p q)) (sc_pt kp (sc_sh t p q)) := by
  intro d
  induction d with
  | zero =>
    intro q hq e
    obtain rfl : n = q + 1 := by omega
    rw [Nat.add_sub_cancel] at h
    have hpr := nI_pred q
    refine br_t (by rw [hpr]; exact nI_le (by omega) (by omega)) (nm_r hpr h)
  | succ d ih =>
    intro q hq e
    have ih' := ih (q + 1) (by omega) (by omega)
    obtain ⟨m, rfl⟩ : ∃ m, n = m + 1 := ⟨n - 1, by omega⟩
    have hpr := nI_pred m
    refine br_f (by rw [hpr]; exact nI_ge (by omega) (by omega)) (br_f (nI_ge (b := 13) (by omega) (by decide)) ⟨17, ?_⟩)
    rw [← sc_shS t hq] at ih'
    have k := sc_takeOutI (post := post) (td := td) (ps := nI (m + 1)) (lt := lt) (lv := lv) (sc_sh t p q) q (by omega) hB hP hK ih' 16 0 rfl
    rw [sc_cp0, sc_cp0] at k
    exact k
theorem sc_takeOut {post : SY → Prop} {n p : Nat} (t : Nat → Nat) (hn : n ≤ 14) (hp : p < n) (hB : sc_B hd) (hP : sc_B pn) (hK : sc_B kp)
    (h : post (td, nI (n - 1), lt, lv, sc_rows hd (sc_sh t p (n - 1)), sc_rows cn (sc_sh t p (n - 1)), sc_pt dy (sc_sh t p (n - 1)), sc_pt pn (sc_sh t p (n - 1)), sc_pt kp (sc_sh t p (n - 1)))) :
    wpY_takeOut post (td, nI n, lt, lv, sc_rows hd t, sc_rows cn t, sc_pt dy t, sc_pt pn t, sc_pt kp t) (nI p) := by
  have k := sc_takeOutL t hn hB hP hK h (n - p - 1) p (by omega) (by omega)
  rw [sc_sh0] at k
  exact ⟨_, k⟩
end
end
section
/-! the relation: n points, day d, the points' days D -/
def sc_R (n d : Nat) (D : Nat → Nat) (ct cc pd pp lt lv hd cn dy pn kp : Nat → Int32) : Prop :=
  (n ≤ 14 ∧ d ≤ 5000) ∧ (sc_B ct ∧ sc_B pp ∧ sc_B lt ∧ sc_B hd ∧ sc_B pn ∧ sc_B kp) ∧
  (∀ f, f < 16 → ct (224 + f) = lt f ∧ cc (224 + f) = lv f ∧ (lt f = 0 → lv f = 0)) ∧
  (∀ i, i < 16 * n → ct i = hd i ∧ cc i = cn i ∧ (hd i = 0 → cn i = 0)) ∧
  (∀ p, p < n → pd p = nI (D p) ∧ dy p = nI (D p) ∧ pp p = pn p ∧ D p ≤ d) ∧
  (∀ i j, i ≤ j → j < n → D i ≤ D j)
def i_Rel (_ : Nat) (u : SX) (v : SY) : Prop := ∃ (n d : Nat) (D : Nat → Nat) (ct cc pd pp pk lt lv hd cn dy pn kp : Nat → Int32),
  u = (nI n, nI d, ct, cc, pd, pp, pk) ∧ v = (nI d, nI n, lt, lv, hd, cn, dy, pn, kp) ∧ sc_R n d D ct cc pd pp lt lv hd cn dy pn kp
theorem i_up {k : Nat} {u : SX} {v : SY} (h : i_Rel k u v) : i_Rel (k + 4) u v := h
section
variable {n d : Nat} {D : Nat → Nat} {ct cc pd pp pk lt lv hd cn dy pn kp : Nat → Int32}
theorem sc_mk {k : Nat} (h : sc_R n d D ct cc pd pp lt lv hd cn dy pn kp) : i_Rel k (nI n, nI d, ct, cc, pd, pp, pk) (nI d, nI n, lt, lv, hd, cn, dy, pn, kp) :=
  ⟨n, d, D, ct, cc, pd, pp, pk, lt, lv, hd, cn, dy, pn, kp, rfl, rfl, h⟩
theorem sc_R0 : sc_R 0 0 (fun _ => 0) (fun _ => 0) (fun _ => 0) (fun _ => 0) (fun _ => 0) (fun _ => 0) (fun _ => 0) (fun _ => 0) (fun _ => 0) (fun _ => 0) (fun _ => 0) (fun _ => 0) :=
  ⟨⟨by decide, by decide⟩, ⟨fun _ => Or.inl rfl, fun _ => Or.inl rfl, fun _ => Or.inl rfl, fun _ => Or.inl rfl, fun _ => Or.inl rfl, fun _ => Or.inl rfl⟩,
    fun _ _ => ⟨rfl, rfl, fun _ => rfl⟩, fun _ _ => ⟨rfl, rfl, fun _ => rfl⟩, fun _ h => absurd h (by omega), fun _ _ _ _ => Nat.le_refl 0⟩
theorem sc_Rset {f : Nat} {b c : Int32} (R : sc_R n d D ct cc pd pp lt lv hd cn dy pn kp) (hf : f < 16) (hb : b = 0 ∨ b = 1) (hc : b = 0 → c = 0) :
    sc_R n d D (upd ct (224 + f) b) (upd cc (224 + f) c) pd pp (upd lt f b) (upd lv f c) hd cn dy pn kp := by
  obtain ⟨h1, ⟨hB1, hB2, hB3, hB4, hB5, hB6⟩, hL, hC, hP, hD⟩ := R
  refine ⟨h1, ⟨sc_Bu hB1 _ hb, hB2, sc_Bu hB3 _ hb, hB4, hB5, hB6⟩, fun g hg => ?_, fun i hi => ?_, hP, hD⟩
  · by_cases e : g = f
    · subst e
      rw [pk_us, pk_us, pk_us, pk_us]
      exact ⟨rfl, rfl, hc⟩
    · have e2 : 224 + g ≠ 224 + f := by omega
      rw [pk_un e2, pk_un e2, pk_un e, pk_un e]
      exact hL g hg
  · rw [pk_un (by omega), pk_un (by omega)]
    exact hC i hi
theorem sc_Rrw {f0 : Nat} {v w : Int32} (R : sc_R n d D ct cc pd pp lt lv hd cn dy pn kp) :
    sc_R n d D ct (sc_rw ct cc v w 224 (224 + f0) 240) pd pp lt (sc_rw lt lv v w 0 f0 16) hd cn dy pn kp := by
  obtain ⟨h1, hB, hL, hC, hP, hD⟩ := R
  refine ⟨h1, hB, fun g hg => ?_, fun i hi => ?_, hP, hD⟩
  · obtain ⟨e1, e2, e3⟩ := hL g hg
    refine ⟨e1, ?_, fun e => ?_⟩
    · unfold sc_rw
      by_cases c : f0 ≤ g ∧ g < 16 ∧ ¬ lt g = 0
      · rw [if_pos c, if_pos ⟨by omega, by omega, by rw [e1]; exact c.2.2⟩, Nat.add_sub_cancel_left, Nat.sub_zero]
      · rw [if_neg c, if_neg (fun z => c ⟨by omega, hg, by rw [← e1]; exact z.2.2⟩), e2]
    · unfold sc_rw
      rw [if_neg (fun z => z.2.2 e)]
      exact e3 e
  · obtain ⟨e1, e2, e3⟩ := hC i hi
    refine ⟨e1, ?_, e3⟩
    unfold sc_rw
    rw [if_neg (by omega)]
    exact e2
theorem sc_Rday {x : Nat} (R : sc_R n d D ct cc pd pp lt lv hd cn dy pn kp) (h : d + x ≤ 5000) : sc_R n (d + x) D ct cc pd pp lt lv hd cn dy pn kp := by
  obtain ⟨h1, hB, hL, hC, hP, hD⟩ := R
  exact ⟨⟨h1.1, h⟩, hB, hL, hC, fun p hp => ⟨(hP p hp).1, (hP p hp).2.1, (hP p hp).2.2.1, by have := (hP p hp).2.2.2; omega⟩, hD⟩
theorem sc_Rtake (R : sc_R n d D ct cc pd pp lt lv hd cn dy pn kp) (h : n < 14) :
    sc_R (n + 1) d (fun i => if i = n then d else D i) (sc_cp ct 14 n 16) (sc_cp cc 14 n 16) (upd pd n (nI d)) (upd pp n 0) lt lv (sc_tk hd lt n 16) (sc_tk cn lv n 16) (upd dy n (nI d)) (upd pn n 0) kp := by
  obtain ⟨h1, ⟨hB1, hB2, hB3, hB4, hB5, hB6⟩, hL, hC, hP, hD⟩ := R
  refine ⟨⟨by omega, h1.2⟩, ⟨sc_cpB hB1 _ _ _, sc_Bu hB2 _ (Or.inl rfl), hB3, sc_tkB hB4 hB3 _ _, sc_Bu hB5 _ (Or.inl rfl), hB6⟩, fun g hg => ?_, fun i hi => ?_, fun p hp => ?_, fun i j hij hj => ?_⟩
  · unfold sc_cp
    rw [if_neg (by omega), if_neg (by omega)]
    exact hL g hg
  · unfold sc_cp sc_tk
    by_cases e : 16 * n ≤ i ∧ i < 16 * n + 16
    · rw [if_pos e, if_pos e, if_pos e, if_pos e]
      exact hL (i - 16 * n) (by omega)
    · rw [if_neg e, if_neg e, if_neg e, if_neg e]
      exact hC i (by omega)
  · dsimp only
    by_cases e : p = n
    · subst e
      rw [pk_us, pk_us, pk_us, pk_us, if_pos rfl]
      exact ⟨rfl, rfl, rfl, Nat.le_refl d⟩
    · rw [pk_un e, pk_un e, pk_un e, pk_un e, if_neg e]
      exact hP p (by omega)
  · dsimp only
    by_cases e : j = n
    · rw [if_pos e]
      by_cases e2 : i = n
      · rw [if_pos e2]; exact Nat.le_refl d
      · rw [if_neg e2]; exact (hP i (by omega)).2.2.2
    · rw [if_neg e, if_neg (show ¬ i = n by omega)]
      exact hD i j hij (by omega)
theorem sc_Rback {p : Nat} (R : sc_R n d D ct cc pd pp lt lv hd cn dy pn kp) (hp : p < n) :
    sc_R n d D (sc_cp ct p 14 16) (sc_cp cc p 14 16) pd pp (sc_bk lt hd p 16) (sc_bk lv cn p 16) hd cn dy pn kp := by
  obtain ⟨h1, ⟨hB1, hB2, hB3, hB4, hB5, hB6⟩, hL, hC, hP, hD⟩ := R
  refine ⟨h1, ⟨sc_cpB hB1 _ _ _, hB2, fun i => ?_, hB4, hB5, hB6⟩, fun g hg => ?_, fun i hi => ?_, hP, hD⟩
  · unfold sc_bk
    by_cases e : i < 16
    · rw [if_pos e]; exact hB4 _
    · rw [if_neg e]; exact hB3 _
  · unfold sc_cp sc_bk
    have e : 16 * 14 ≤ 224 + g ∧ 224 + g < 16 * 14 + 16 := by omega
    rw [if_pos e, if_pos e, if_pos hg, if_pos hg, show 16 * p + (224 + g - 16 * 14) = 16 * p + g by omega]
    exact hC (16 * p + g) (by omega)
  · unfold sc_cp
    rw [if_neg (by omega), if_neg (by omega)]
    exact hC i hi
/-- the points taken along a row map -/
theorem sc_Rix {c : Nat} {s t : Nat → Nat} (R : sc_R n d D ct cc pd pp lt lv hd cn dy pn kp) (hc : c ≤ 14) (h14 : s 14 = 14)
    (hst : ∀ j, j < c → s j = t j ∧ s j < n) (hm : ∀ i j, i ≤ j → j < c → s i ≤ s j) :
    sc_R c d (fun j => D (s j)) (sc_rows ct s) (sc_rows cc s) (sc_pt pd s) (sc_pt pp s) lt lv (sc_rows hd t) (sc_rows cn t) (sc_pt dy t) (sc_pt pn t) (sc_pt kp t) := by
  obtain ⟨h1, ⟨hB1, hB2, hB3, hB4, hB5, hB6⟩, hL, hC, hP, hD⟩ := R
  refine ⟨⟨hc, h1.2⟩, ⟨sc_rowsB hB1 _, sc_ptB hB2 _, hB3, sc_rowsB hB4 _, sc_ptB hB5 _, sc_ptB hB6 _⟩, fun g hg => ?_, fun i hi => ?_, fun p hp => ?_, fun i j hij hj => ?_⟩
  · rw [show 224 + g = 16 * 14 + g from rfl, sc_rowsA ct s hg, sc_rowsA cc s hg, h14]
    exact hL g hg
  · obtain ⟨e1, e2⟩ := hst (i / 16) (by omega)
    unfold sc_rows
    rw [← e1]
    exact hC _ (by omega)
  · obtain ⟨e1, e2⟩ := hst p hp
    unfold sc_pt
    rw [← e1]
    exact hP _ e2
  · exact hD _ _ (hm i j hij hj) (hst j hj).2
theorem sc_Rkp {kq : Nat → Int32} (R : sc_R n d D ct cc pd pp lt lv hd cn dy pn kp) (h : sc_B kq) : sc_R n d D ct cc pd pp lt lv hd cn dy pn kq := by
  obtain ⟨h1, ⟨hB1, hB2, hB3, hB4, hB5, hB6⟩, hr⟩ := R
  exact ⟨h1, ⟨hB1, hB2, hB3, hB4, hB5, h⟩, hr⟩
end
theorem i_vc0 : wpX_init (fun u => wpY_init (fun v => i_Rel 0 u v)) := sc_mk (k := 0) sc_R0
end
section
/-! the public methods but prune -/
section
variable {td ps : Int32} {lt lv hd cn dy pn kp : Nat → Int32}
theorem sc_putY {post : Int32 → SY → Prop} {f : Nat} {v z : Int32} (hf : f < 16) (h : post z (td, ps, upd lt f 1, upd lv f v, hd, cn, dy, pn, kp)) :
    wY_put_24 post (nI f) v z td ps lt lv hd cn dy pn kp := by
  unfold wY_put_24
  rw [nI_clamp (by omega), sc_n1]
  have h1 : vp_in (nI f) 16 := vp_in_nI hf (by decide)
  exact ⟨h1, nm_e ⟨h1, nm_e h⟩⟩
theorem sc_deleteY {post : Int32 → SY → Prop} {f : Nat} {z : Int32} (hf : f < 16) (h : post z (td, ps, upd lt f 0, upd lv f 0, hd, cn, dy, pn, kp)) :
    wY_delete_24 post (nI f) z td ps lt lv hd cn dy pn kp := by
  unfold wY_delete_24
  rw [nI_clamp (by omega), sc_n0]
  have h1 : vp_in (nI f) 16 := vp_in_nI hf (by decide)
  exact ⟨h1, nm_e ⟨h1, nm_e h⟩⟩
theorem sc_rewriteY {post : Int32 → SY → Prop} {v w : Int32} (f : Nat) (hf : f < 16)
    (h : post (sc_sm (fun f => sc_nz (lt f)) (16 - f) f 0) (td, ps, lt, sc_rw lt lv v w 0 f 16, hd, cn, dy, pn, kp)) :
    ∃ n16 : Nat, wY_rewrite_16 post v w td ps n16 0 (nI f) lt lv hd cn dy pn kp := by
  have k := sc_rewriteYL v w f (16 - f) f 0 (by omega) (Nat.le_refl f) h
  rw [sc_rw0] at k
  exact ⟨_, k⟩
theorem sc_takeY {post : Int32 → SY → Prop} (p : Nat) (hp : p < 14) (hB : sc_B lt)
    (h : post (nI p) (td, nI (p + 1), lt, lv, sc_tk hd lt p 16, sc_tk cn lv p 16, upd dy p td, upd pn p 0, kp)) :
    ∃ n27 : Nat, wY_take_27 post (nI p) td ps n27 0 lt lv hd cn dy pn kp := by
  have k := sc_takeL (ps := ps) p hp hB h 16 0 rfl
  rw [sc_tk0, sc_tk0] at k
  exact ⟨17, k⟩
theorem sc_restoreY {post : Int32 → SY → Prop} (p : Nat) (hp : p < 14) (hB : sc_B hd)
    (h : post (sc_sm (fun f => sc_ne (lt f) (hd (16 * p + f)) (lv f) (cn (16 * p + f))) 16 0 0) (td, ps, sc_bk lt hd p 16, sc_bk lv cn p 16, hd, cn, dy, pn, kp)) :
    ∃ n14 : Nat, wY_restore_14 post (nI p) n14 0 0 td ps lt lv hd cn dy pn kp := by
  have k := sc_restoreL p hp hB 16 0 0 rfl h
  rw [sc_bk0, sc_bk0] at k
  exact ⟨17, k⟩
theorem sc_pinY0 {post : Int32 → SY → Prop} {p : Nat} {v z : Int32} (hp : p < 14) (e : v = 0) (h : post z (td, ps, lt, lv, hd, cn, dy, upd pn p 0, kp)) :
    wY_pin_24 post (nI p) v z td ps lt lv hd cn dy pn kp := by
  unfold wY_pin_24
  rw [nI_clamp (by omega), sc_n0]
  exact br_t e ⟨vp_in_nI hp (by decide), nm_e h⟩
theorem sc_pinY1 {post : Int32 → SY → Prop} {p : Nat} {v z : Int32} (hp : p < 14) (e : ¬ v = 0) (h : post z (td, ps, lt, lv, hd, cn, dy, upd pn p 1, kp)) :
    wY_pin_24 post (nI p) v z td ps lt lv hd cn dy pn kp := by
  unfold wY_pin_24
  rw [nI_clamp (by omega), sc_n1]
  exact br_f e ⟨vp_in_nI hp (by decide), nm_e h⟩
end
section
variable {pc td : Int32} {ct cc pd pp pk : Nat → Int32}
theorem sc_rewriteX {post : Int32 → SX → Prop} {v w : Int32} (f : Nat) (hf : f < 16)
    (h : post (sc_sm (fun f => sc_nz (ct (224 + f))) (16 - f) f 0) (pc, td, ct, sc_rw ct cc v w 224 (224 + f) 240, pd, pp, pk)) :
    ∃ n16 : Nat, wX_rewrite_16 post v w pc td n16 0 (nI f) ct cc pd pp pk := by
  have k := sc_rewriteL v w f (16 - f) f 0 (by omega) (Nat.le_refl f) h
  rw [sc_rw0] at k
  exact ⟨_, k⟩
theorem sc_pinX {post : Int32 → SX → Prop} {p : Nat} {x b : Int32} (hp : p < 14) (hb : b = 0 ∨ b = 1)
    (h : (x = 0 → post 0 (pc, td, ct, cc, pd, upd pp p b, pk)) ∧ (¬ x = 0 → post 1 (pc, td, ct, cc, pd, upd pp p b, pk))) :
    wX_pin_31 post x b (nI p) pc td ct cc pd pp pk := by
  unfold wX_pin_31
  rw [nI_clamp (by omega), sc_nB hb]
  exact ⟨vp_in_nI hp (by decide), nm_e h⟩
theorem sc_forgetX {post : Int32 → SX → Prop} {n p : Nat} (hn : n ≤ 14) (hp : p < n) (hB : sc_B ct) (hP : sc_B pp)
    (h : post (nI (n - 1)) (nI (n - 1), td, sc_rows ct (sc_sh id p (n - 1)), sc_rows cc (sc_sh id p (n - 1)), sc_pt pd (sc_sh id p (n - 1)), sc_pt pp (sc_sh id p (n - 1)), pk)) :
    ∃ n26 : Nat, wX_forget_26 post n26 (nI (p + 1)) (nI n) td ct cc pd pp pk := by
  have k := sc_forgetL hn hB hP h (n - p - 1) p (by omega) (by omega)
  rw [sc_sh0, sc_rowsI, sc_rowsI, sc_ptI, sc_ptI] at k
  exact ⟨_, k⟩
end
theorem sc_Rpin {n d : Nat} {D : Nat → Nat} {ct cc pd pp lt lv hd cn dy pn kp : Nat → Int32} {p : Nat} {b : Int32} (R : sc_R n d D ct cc pd pp lt lv hd cn dy pn kp) (hb : b = 0 ∨ b = 1) :
    sc_R n d D ct cc pd (upd pp p b) lt lv hd cn dy (upd pn p b) kp := by
  obtain ⟨h1, ⟨hB1, hB2, hB3, hB4, hB5, hB6⟩, hL, hC, hP, hD⟩ := R
  refine ⟨h1, ⟨hB1, sc_Bu hB2 _ hb, hB3, hB4, sc_Bu hB5 _ hb, hB6⟩, hL, hC, fun q hq => ?_, hD⟩
  obtain ⟨p1, p2, p3, p4⟩ := hP q hq
  refine ⟨p1, p2, ?_, p4⟩
  by_cases e : q = p
  · subst e
    rw [pk_us, pk_us]
  · rw [pk_un e, pk_un e]
    exact p3
theorem i_vc_put {k : Nat} {u : SX} {v : SY} (I : i_Rel k u v) (hk : k + 4 ≤ 2048) (v1 : Int32) (v2 : Int32) : wpX_put (fun r u' => wpY_put (fun r' v' => r' = r ∧ i_Rel (k + 4) u' v') v v1 v2) u v1 v2 := by
  obtain ⟨n, d, D, ct, cc, pd, pp, pk, lt, lv, hd, cn, dy, pn, kp, rfl, rfl, R⟩ := I
  have R' := R
  obtain ⟨⟨hn, hd5⟩, ⟨hB1, hB2, hB3, hB4, hB5, hB6⟩, hL, hC, hP, hD⟩ := R'
  rcases sc_file v1 with hx | ⟨f, hf, rfl⟩
  · unfold wpX_put
    dsimp only
    refine sc_isFileN hx (br_t rfl ?_)
    unfold wpY_put
    exact sc_badFileN hx (br_f (by decide) ⟨rfl, sc_mk R⟩)
  · obtain ⟨e1, e2, e3⟩ := hL f hf
    unfold wpX_put
    dsimp only
    refine sc_isFile hf (br_f (by decide) (sc_thereAsInt 14 f (by decide) hf hB1 (sc_setLive hf (Or.inr rfl) ?_)))
    unfold wpY_put
    dsimp only
    rw [nI_clamp (show f < 2 ^ 31 by omega)]
    have h1 : vp_in (nI f) 16 := vp_in_nI hf (by decide)
    refine sc_badFile hf (br_t rfl ⟨h1, br_c (fun e => sc_putY hf ?_) (fun e => sc_putY hf ?_)⟩)
    · exact ⟨(e1.trans e).symm, sc_mk (sc_Rset R hf (Or.inr rfl) (fun z => absurd z (by decide)))⟩
    · exact ⟨(e1.trans ((hB3 f).resolve_left e)).symm, sc_mk (sc_Rset R hf (Or.inr rfl) (fun z => absurd z (by decide)))⟩
theorem i_vc_delete {k : Nat} {u : SX} {v : SY} (I : i_Rel k u v) (hk : k + 4 ≤ 2048) (v1 : Int32) : wpX_delete (fun r u' => wpY_delete (fun r' v' => r' = r ∧ i_Rel (k + 4) u' v') v v1) u v1 := by
  obtain ⟨n, d, D, ct, cc, pd, pp, pk, lt, lv, hd, cn, dy, pn, kp, rfl, rfl, R⟩ := I
  have R' := R
  obtain ⟨⟨hn, hd5⟩, ⟨hB1, hB2, hB3, hB4, hB5, hB6⟩, hL, hC, hP, hD⟩ := R'
  rcases sc_file v1 with hx | ⟨f, hf, rfl⟩
  · unfold wpX_delete
    dsimp only
    refine sc_isFileN hx (br_t rfl ?_)
    unfold wpY_delete
    exact sc_badFileN hx (br_f (by decide) ⟨rfl, sc_mk R⟩)
  · obtain ⟨e1, e2, e3⟩ := hL f hf
    unfold wpX_delete
    dsimp only
    refine sc_isFile hf (br_f (by decide) (sc_thereAsInt 14 f (by decide) hf hB1 (sc_setLive hf (Or.inl rfl) ?_)))
    unfold wpY_delete
    dsimp only
    rw [nI_clamp (show f < 2 ^ 31 by omega)]
    have h1 : vp_in (nI f) 16 := vp_in_nI hf (by decide)
    refine sc_badFile hf (br_t rfl ⟨h1, br_c (fun e => sc_deleteY hf ?_) (fun e => sc_deleteY hf ?_)⟩)
    · exact ⟨(e1.trans e).symm, sc_mk (sc_Rset R hf (Or.inl rfl) (fun _ => rfl))⟩
    · exact ⟨(e1.trans ((hB3 f).resolve_left e)).symm, sc_mk (sc_Rset R hf (Or.inl rfl) (fun _ => rfl))⟩
theorem i_vc_rename {k : Nat} {u : SX} {v : SY} (I : i_Rel k u v) (hk : k + 4 ≤ 2048) (v1 : Int32) (v2 : Int32) : wpX_rename (fun r u' => wpY_rename (fun r' v' => r' = r ∧ i_Rel (k + 4) u' v') v v1 v2) u v1 v2 := by
  obtain ⟨n, d, D, ct, cc, pd, pp, pk, lt, lv, hd, cn, dy, pn, kp, rfl, rfl, R⟩ := I
  have R' := R
  obtain ⟨⟨hn, hd5⟩, ⟨hB1, hB2, hB3, hB4, hB5, hB6⟩, hL, hC, hP, hD⟩ := R'
  rcases sc_file v1 with hx | ⟨f, hf, rfl⟩
  · unfold wpX_rename
    dsimp only
    refine sc_isFileN hx (br_t rfl ?_)
    unfold wpY_rename
    exact sc_badFileN hx (br_f (by decide) ⟨rfl, sc_mk R⟩)
  · rcases sc_file v2 with hx | ⟨g, hg, rfl⟩
    · unfold wpX_rename
      dsimp only
      refine sc_isFile hf (br_f (by decide) (sc_isFileN hx (br_t rfl ?_)))
      unfold wpY_rename
      exact sc_badFile hf (br_t rfl (sc_badFileN hx (br_f (by decide) ⟨rfl, sc_mk R⟩)))
    · obtain ⟨e1, e2, e3⟩ := hL f hf
      unfold wpX_rename wpX_cell
      dsimp only
      rw [sc_x14, nI_clamp (show 224 + f < 2 ^ 31 by omega)]
      have h0 : vp_in (nI (224 + f)) 240 := vp_in_nI (by omega) (by decide)
      have h1 : vp_in (nI f) 16 := vp_in_nI hf (by decide)
      have h2 : vp_in (nI g) 16 := vp_in_nI hg (by decide)
      refine sc_isFile hf (br_f (by decide) (sc_isFile hg (br_f (by decide) (br_c (fun e => ?_) (fun e => ⟨h0, br_c (fun e4 => ?_) (fun e4 => ⟨h0, sc_setLive hg (Or.inr rfl) (sc_setLive hf (Or.inl rfl) ?_)⟩)⟩)))))
      · unfold wpY_rename
        exact sc_badFile hf (br_t rfl (sc_badFile hg (br_t rfl (br_t e ⟨rfl, sc_mk R⟩))))
      · unfold wpY_rename
        dsimp only
        rw [nI_clamp (show f < 2 ^ 31 by omega)]
        exact sc_badFile hf (br_t rfl (sc_badFile hg (br_t rfl (br_f e ⟨h1, br_t (e1.symm.trans e4) ⟨rfl, sc_mk R⟩⟩))))
      · unfold wpY_rename
        dsimp only
        rw [nI_clamp (show f < 2 ^ 31 by omega), nI_clamp (show g < 2 ^ 31 by omega), sc_n0, sc_n1, ← e2]
        refine sc_badFile hf (br_t rfl (sc_badFile hg (br_t rfl (br_f e ⟨h1, br_f (fun z => e4 (e1.trans z)) ⟨h2, nm_e ⟨h1, h2, nm_e ⟨h1, nm_e ⟨h1, nm_e ?_⟩⟩⟩⟩⟩))))
        exact ⟨rfl, sc_mk (sc_Rset (sc_Rset R hg (Or.inr rfl) (fun z => absurd z (by decide))) hf (Or.inl rfl) (fun _ => rfl))⟩
theorem i_vc_rewrite {k : Nat} {u : SX} {v : SY} (I : i_Rel k u v) (hk : k + 4 ≤ 2048) (v1 : Int32) (v2 : Int32) (v3 : Int32) : wpX_rewrite (fun r u' => wpY_rewrite (fun r' v' => r' = r ∧ i_Rel (k + 4) u' v') v v1 v2 v3) u v1 v2 v3 := by
  obtain ⟨n, d, D, ct, cc, pd, pp, pk, lt, lv, hd, cn, dy, pn, kp, rfl, rfl, R⟩ := I
  have R' := R
  obtain ⟨⟨hn, hd5⟩, ⟨hB1, hB2, hB3, hB4, hB5, hB6⟩, hL, hC, hP, hD⟩ := R'
  rcases sc_file v1 with hx | ⟨f, hf, rfl⟩
  · unfold wpX_rewrite
    dsimp only
    refine sc_isFileN hx (br_t rfl ?_)
    unfold wpY_rewrite
    exact sc_badFileN hx (br_f (by decide) ⟨rfl, sc_mk R⟩)
  · unfold wpX_rewrite
    dsimp only
    refine sc_isFile hf (br_f (by decide) (sc_rewriteX f hf ?_))
    unfold wpY_rewrite
    dsimp only
    refine sc_badFile hf (br_t rfl (sc_rewriteY f hf ⟨sc_smC _ _ _ (fun j h1 h2 => ?_), sc_mk (sc_Rrw R)⟩))
    rw [(hL j (by omega)).1]
theorem i_vc_advance {k : Nat} {u : SX} {v : SY} (I : i_Rel k u v) (hk : k + 4 ≤ 2048) (v1 : Int32) : wpX_advance (fun r u' => wpY_advance (fun r' v' => r' = r ∧ i_Rel (k + 4) u' v') v v1) u v1 := by
  obtain ⟨n, d, D, ct, cc, pd, pp, pk, lt, lv, hd, cn, dy, pn, kp, rfl, rfl, R⟩ := I
  have R' := R
  obtain ⟨⟨hn, hd5⟩, ⟨hB1, hB2, hB3, hB4, hB5, hB6⟩, hL, hC, hP, hD⟩ := R'
  unfold wpX_advance wpY_advance
  dsimp only
  refine br_c (fun e => br_t e ⟨rfl, sc_mk R⟩) (fun e => br_c (fun e2 => br_c (fun e3 => ?_) (fun e3 => br_f e (br_t e2 (br_f e3 ⟨rfl, sc_mk R⟩)))) (fun e2 => br_f e (br_f e2 ⟨rfl, sc_mk R⟩)))
  have h0 : ¬ v1 < 0 := Int32.not_lt.mpr (Int32.le_trans (by decide) (Int32.not_lt.mp e))
  obtain ⟨x, hx, rfl⟩ := nI_of2 (M := 60) (n := 60) (by decide) h0 e2
  rw [nI_add] at e3 ⊢
  have h3 : d + x ≤ 5000 := (nI_leI (b := 5000) (by omega) (by decide)).mp e3
  exact nm_e (br_f e (br_t e2 (br_t e3 (nm_e ⟨rfl, sc_mk (sc_Rday R h3)⟩))))
theorem i_vc_take {k : Nat} {u : SX} {v : SY} (I : i_Rel k u v) (hk : k + 4 ≤ 2048) (v1 : Int32) : wpX_take (fun r u' => wpY_take (fun r' v' => r' = r ∧ i_Rel (k + 4) u' v') v v1) u v1 := by
  obtain ⟨n, d, D, ct, cc, pd, pp, pk, lt, lv, hd, cn, dy, pn, kp, rfl, rfl, R⟩ := I
  have R' := R
  obtain ⟨⟨hn, hd5⟩, ⟨hB1, hB2, hB3, hB4, hB5, hB6⟩, hL, hC, hP, hD⟩ := R'
  unfold wpX_take
  dsimp only
  refine br_c (fun e => ?_) (fun e => br_c (fun e2 => br_c (fun e3 => ?_) (fun e3 => ?_)) (fun e2 => ?_))
  · unfold wpY_take
    exact br_t e ⟨rfl, sc_mk R⟩
  · have h14 : n < 14 := (nI_ltI (b := 14) (by omega) (by decide)).mp e3
    refine sc_copyRow 14 n (by decide) (by omega) hB1 ?_
    dsimp only
    rw [nI_clamp (show n < 2 ^ 31 by omega), sc_n0]
    have h1 : vp_in (nI n) 14 := vp_in_nI h14 (by decide)
    refine ⟨h1, nm_e ⟨h1, nm_e (nm_r (nI_1 n) ?_)⟩⟩
    unfold wpY_take
    dsimp only
    refine br_f e (br_t e2 (br_t e3 (sc_takeY n h14 hB3 ?_)))
    exact ⟨rfl, sc_mk (sc_Rtake R h14)⟩
  · unfold wpY_take
    exact br_f e (br_t e2 (br_f e3 ⟨rfl, sc_mk R⟩))
  · unfold wpY_take
    exact br_f e (br_f e2 ⟨rfl, sc_mk R⟩)
theorem i_vc_restore {k : Nat} {u : SX} {v : SY} (I : i_Rel k u v) (hk : k + 4 ≤ 2048) (v1 : Int32) : wpX_restore (fun r u' => wpY_restore (fun r' v' => r' = r ∧ i_Rel (k + 4) u' v') v v1) u v1 := by
  obtain ⟨n, d, D, ct, cc, pd, pp, pk, lt, lv, hd, cn, dy, pn, kp, rfl, rfl, R⟩ := I
  have R' := R
  obtain ⟨⟨hn, hd5⟩, ⟨hB1, hB2, hB3, hB4, hB5, hB6⟩, hL, hC, hP, hD⟩ := R'
  rcases sc_point v1 hn with hx | ⟨p, hp, rfl⟩
  · unfold wpX_restore
    dsimp only
    refine sc_isPointN hx (br_t rfl ?_)
    unfold wpY_restore
    exact sc_badPointN hx (br_f (by decide) ⟨rfl, sc_mk R⟩)
  · unfold wpX_restore
    dsimp only
    refine sc_isPoint hn hp (br_f (by decide) (sc_countDiffering p 14 (by omega) (by decide) (sc_copyRow p 14 (by omega) (by decide) hB1 ?_)))
    unfold wpY_restore
    dsimp only
    refine sc_badPoint hn hp (br_t rfl (sc_restoreY p (by omega) hB4 ⟨sc_smC _ _ _ ?_, sc_mk (sc_Rback R hp)⟩))
    intro j h1 h2
    rw [(hC (16 * p + j) (by omega)).1, (hC (16 * p + j) (by omega)).2.1, show 16 * 14 + j = 224 + j from rfl, (hL j (by omega)).1, (hL j (by omega)).2.1]
    exact sc_neC _ _ _ _
theorem i_vc_restoreFile {k : Nat} {u : SX} {v : SY} (I : i_Rel k u v) (hk : k + 4 ≤ 2048) (v1 : Int32) (v2 : Int32) : wpX_restoreFile (fun r u' => wpY_restoreFile (fun r' v' => r' = r ∧ i_Rel (k + 4) u' v') v v1 v2) u v1 v2 := by
  obtain ⟨n, d, D, ct, cc, pd, pp, pk, lt, lv, hd, cn, dy, pn, kp, rfl, rfl, R⟩ := I
  have R' := R
  obtain ⟨⟨hn, hd5⟩, ⟨hB1, hB2, hB3, hB4, hB5, hB6⟩, hL, hC, hP, hD⟩ := R'
  rcases sc_point v1 hn with hx | ⟨p, hp, rfl⟩
  · unfold wpX_restoreFile
    dsimp only
    refine sc_isPointN hx (br_t rfl ?_)
    unfold wpY_restoreFile
    exact sc_badPointN hx (br_f (by decide) ⟨rfl, sc_mk R⟩)
  · rcases sc_file v2 with hx | ⟨f, hf, rfl⟩
    · unfold wpX_restoreFile
      dsimp only
      refine sc_isPoint hn hp (br_f (by decide) (sc_isFileN hx (br_t rfl ?_)))
      unfold wpY_restoreFile
      exact sc_badPoint hn hp (br_t rfl (sc_badFileN hx (br_f (by decide) ⟨rfl, sc_mk R⟩)))
    · obtain ⟨e1, e2, e3⟩ := hL f hf
      obtain ⟨g1, g2, g3⟩ := hC (16 * p + f) (by omega)
      have RR := sc_Rset R hf (hB4 (16 * p + f)) g3
      have ee : sc_ne (ct (16 * p + f)) (ct (16 * 14 + f)) (cc (16 * p + f)) (cc (16 * 14 + f)) = sc_ne (lt f) (hd (16 * p + f)) (lv f) (cn (16 * p + f)) := by
        rw [g1, g2, show 16 * 14 + f = 224 + f from rfl, e1, e2]
        exact sc_neC _ _ _ _
      unfold wpX_restoreFile
      dsimp only
      refine sc_isPoint hn hp (br_f (by decide) (sc_isFile hf (br_f (by decide) (sc_differs p 14 f (by omega) (by decide) hf (sc_copyCell p 14 f (by omega) (by decide) hf hB1 ?_)))))
      rw [ee, g1, g2]
      refine br_c (fun e => ?_) (fun e => ?_)
      · unfold wpY_restoreFile
        dsimp only
        refine sc_badPoint hn hp (br_t rfl (sc_badFile hf (br_t rfl (sc_changed p f (by omega) hf (br_t e ?_)))))
        unfold wY_restoreFile_35
        exact sc_back p f (by omega) hf hB4 ⟨rfl, sc_mk RR⟩
      · unfold wpY_restoreFile
        dsimp only
        refine sc_badPoint hn hp (br_t rfl (sc_badFile hf (br_t rfl (sc_changed p f (by omega) hf (br_f e ?_)))))
        unfold wY_restoreFile_35
        exact sc_back p f (by omega) hf hB4 ⟨rfl, sc_mk RR⟩
theorem i_vc_pin {k : Nat} {u : SX} {v : SY} (I : i_Rel k u v) (hk : k + 4 ≤ 2048) (v1 : Int32) (v2 : Int32) : wpX_pin (fun r u' => wpY_pin (fun r' v' => r' = r ∧ i_Rel (k + 4) u' v') v v1 v2) u v1 v2 := by
  obtain ⟨n, d, D, ct, cc, pd, pp, pk, lt, lv, hd, cn, dy, pn, kp, rfl, rfl, R⟩ := I
  have R' := R
  obtain ⟨⟨hn, hd5⟩, ⟨hB1, hB2, hB3, hB4, hB5, hB6⟩, hL, hC, hP, hD⟩ := R'
  rcases sc_point v1 hn with hx | ⟨p, hp, rfl⟩
  · unfold wpX_pin
    dsimp only
    refine sc_isPointN hx (br_t rfl ?_)
    unfold wpY_pin
    exact sc_badPointN hx (br_f (by decide) ⟨rfl, sc_mk R⟩)
  · obtain ⟨p1, p2, p3, p4⟩ := hP p hp
    have h1 : vp_in (nI p) 14 := vp_in_nI (by omega) (by decide)
    unfold wpX_pin
    dsimp only
    rw [nI_clamp (show p < 2 ^ 31 by omega), p3]
    refine sc_isPoint hn hp (br_f (by decide) ⟨h1, nm_e (br_c (fun e => sc_pinX (by omega) (Or.inl rfl) (br_c (fun e2 => ?_) (fun e2 => ?_))) (fun e => sc_pinX (by omega) (Or.inr rfl) (br_c (fun e2 => ?_) (fun e2 => ?_))))⟩)
    · unfold wpY_pin
      dsimp only
      rw [nI_clamp (show p < 2 ^ 31 by omega)]
      exact sc_badPoint hn hp (br_t rfl ⟨h1, br_t e2 (sc_pinY0 (by omega) e ⟨rfl, sc_mk (sc_Rpin R (Or.inl rfl))⟩)⟩)
    · unfold wpY_pin
      dsimp only
      rw [nI_clamp (show p < 2 ^ 31 by omega)]
      exact sc_badPoint hn hp (br_t rfl ⟨h1, br_f e2 (sc_pinY0 (by omega) e ⟨rfl, sc_mk (sc_Rpin R (Or.inl rfl))⟩)⟩)
    · unfold wpY_pin
      dsimp only
      rw [nI_clamp (show p < 2 ^ 31 by omega)]
      exact sc_badPoint hn hp (br_t rfl ⟨h1, br_t e2 (sc_pinY1 (by omega) e ⟨rfl, sc_mk (sc_Rpin R (Or.inr rfl))⟩)⟩)
    · unfold wpY_pin
      dsimp only
      rw [nI_clamp (show p < 2 ^ 31 by omega)]
      exact sc_badPoint hn hp (br_t rfl ⟨h1, br_f e2 (sc_pinY1 (by omega) e ⟨rfl, sc_mk (sc_Rpin R (Or.inr rfl))⟩)⟩)
theorem i_vc_forget {k : Nat} {u : SX} {v : SY} (I : i_Rel k u v) (hk : k + 4 ≤ 2048) (v1 : Int32) : wpX_forget (fun r u' => wpY_forget (fun r' v' => r' = r ∧ i_Rel (k + 4) u' v') v v1) u v1 := by
  obtain ⟨n, d, D, ct, cc, pd, pp, pk, lt, lv, hd, cn, dy, pn, kp, rfl, rfl, R⟩ := I
  have R' := R
  obtain ⟨⟨hn, hd5⟩, ⟨hB1, hB2, hB3, hB4, hB5, hB6⟩, hL, hC, hP, hD⟩ := R'
  rcases sc_point v1 hn with hx | ⟨p, hp, rfl⟩
  · unfold wpX_forget
    dsimp only
    refine sc_isPointN hx (br_t rfl ?_)
    unfold wpY_forget
    exact sc_badPointN hx (br_f (by decide) ⟨rfl, sc_mk R⟩)
  · obtain ⟨p1, p2, p3, p4⟩ := hP p hp
    have h1 : vp_in (nI p) 14 := vp_in_nI (by omega) (by decide)
    unfold wpX_forget
    dsimp only
    rw [nI_clamp (show p < 2 ^ 31 by omega), p3]
    refine sc_isPoint hn hp (br_f (by decide) ⟨h1, br_c (fun e => nm_r (nI_1 p) (sc_forgetX hn hp hB1 hB2 ?_)) (fun e => ?_)⟩)
    · unfold wpY_forget
      dsimp only
      rw [nI_clamp (show p < 2 ^ 31 by omega)]
      refine sc_badPoint hn hp (br_t rfl ⟨h1, br_t e ?_⟩)
      have k := sc_takeOut (post := fun u => match u with | (a, b, c, e, f, g, h, i, j) => b = nI (n - 1) ∧ i_Rel (k + 4) (nI (n - 1), nI d, sc_rows ct (sc_sh id p (n - 1)), sc_rows cc (sc_sh id p (n - 1)), sc_pt pd (sc_sh id p (n - 1)), sc_pt pp (sc_sh id p (n - 1)), pk) (a, b, c, e, f, g, h, i, j)) (td := nI d) (lt := lt) (lv := lv) (hd := hd) (cn := cn) (dy := dy) (pn := pn) (kp := kp) id hn hp hB4 hB5 hB6 ⟨rfl, sc_mk (sc_Rix R (by omega) ?_ ?_ ?_)⟩
      · rw [sc_rowsI, sc_rowsI, sc_ptI, sc_ptI, sc_ptI] at k
        exact k
      · unfold sc_sh
        rw [if_neg (by omega)]
        rfl
      · intro j hj
        refine ⟨rfl, ?_⟩
        unfold sc_sh
        by_cases c : p ≤ j ∧ j < n - 1
        · rw [if_pos c]
          show j + 1 < n
          omega
        · rw [if_neg c]
          show j < n
          omega
      · intro i j hij hj
        unfold sc_sh
        by_cases c : p ≤ i ∧ i < n - 1
        · rw [if_pos c, if_pos (by omega)]
          show i + 1 ≤ j + 1
          omega
        · rw [if_neg c]
          by_cases c2 : p ≤ j ∧ j < n - 1
          · rw [if_pos c2]
            show i ≤ j + 1
            omega
          · rw [if_neg c2]
            exact hij
    · unfold wpY_forget
      dsimp only
      rw [nI_clamp (show p < 2 ^ 31 by omega)]
      exact sc_badPoint hn hp (br_t rfl ⟨h1, br_f e ⟨rfl, sc_mk R⟩⟩)
theorem i_vc_points {k : Nat} {u : SX} {v : SY} (I : i_Rel k u v) (hk : k + 4 ≤ 2048) : wpX_points (fun r => wpY_points (fun r' => r' = r ∧ i_Rel (k + 4) u v) v) u := by
  obtain ⟨n, d, D, ct, cc, pd, pp, pk, lt, lv, hd, cn, dy, pn, kp, rfl, rfl, R⟩ := I
  have R' := R
  obtain ⟨⟨hn, hd5⟩, ⟨hB1, hB2, hB3, hB4, hB5, hB6⟩, hL, hC, hP, hD⟩ := R'
  unfold wpX_points wpY_points
  exact ⟨rfl, sc_mk R⟩
theorem i_vc_dayOf {k : Nat} {u : SX} {v : SY} (I : i_Rel k u v) (hk : k + 4 ≤ 2048) (v1 : Int32) : wpX_dayOf (fun r => wpY_dayOf (fun r' => r' = r ∧ i_Rel (k + 4) u v) v v1) u v1 := by
  obtain ⟨n, d, D, ct, cc, pd, pp, pk, lt, lv, hd, cn, dy, pn, kp, rfl, rfl, R⟩ := I
  have R' := R
  obtain ⟨⟨hn, hd5⟩, ⟨hB1, hB2, hB3, hB4, hB5, hB6⟩, hL, hC, hP, hD⟩ := R'
  rcases sc_point v1 hn with hx | ⟨p, hp, rfl⟩
  · unfold wpX_dayOf
    dsimp only
    refine sc_isPointN hx (br_t rfl ?_)
    unfold wpY_dayOf
    exact sc_badPointN hx (br_f (by decide) ⟨rfl, sc_mk R⟩)
  · obtain ⟨p1, p2, p3, p4⟩ := hP p hp
    have h1 : vp_in (nI p) 14 := vp_in_nI (by omega) (by decide)
    unfold wpX_dayOf
    dsimp only
    rw [nI_clamp (show p < 2 ^ 31 by omega)]
    refine sc_isPoint hn hp (br_f (by decide) ⟨h1, ?_⟩)
    unfold wpY_dayOf
    dsimp only
    rw [nI_clamp (show p < 2 ^ 31 by omega)]
    exact sc_badPoint hn hp (br_t rfl ⟨h1, p2.trans p1.symm, sc_mk R⟩)
theorem i_vc_pinned {k : Nat} {u : SX} {v : SY} (I : i_Rel k u v) (hk : k + 4 ≤ 2048) (v1 : Int32) : wpX_pinned (fun r => wpY_pinned (fun r' => r' = r ∧ i_Rel (k + 4) u v) v v1) u v1 := by
  obtain ⟨n, d, D, ct, cc, pd, pp, pk, lt, lv, hd, cn, dy, pn, kp, rfl, rfl, R⟩ := I
  have R' := R
  obtain ⟨⟨hn, hd5⟩, ⟨hB1, hB2, hB3, hB4, hB5, hB6⟩, hL, hC, hP, hD⟩ := R'
  rcases sc_point v1 hn with hx | ⟨p, hp, rfl⟩
  · unfold wpX_pinned
    dsimp only
    refine sc_isPointN hx (br_t rfl ?_)
    unfold wpY_pinned
    exact sc_badPointN hx (br_f (by decide) ⟨rfl, sc_mk R⟩)
  · obtain ⟨p1, p2, p3, p4⟩ := hP p hp
    have h1 : vp_in (nI p) 14 := vp_in_nI (by omega) (by decide)
    unfold wpX_pinned
    dsimp only
    rw [nI_clamp (show p < 2 ^ 31 by omega), p3]
    refine sc_isPoint hn hp (br_f (by decide) ⟨h1, br_c (fun e => ?_) (fun e => ?_)⟩)
    · unfold wpY_pinned
      dsimp only
      rw [nI_clamp (show p < 2 ^ 31 by omega)]
      exact sc_badPoint hn hp (br_t rfl ⟨h1, br_t e ⟨rfl, sc_mk R⟩⟩)
    · unfold wpY_pinned
      dsimp only
      rw [nI_clamp (show p < 2 ^ 31 by omega)]
      exact sc_badPoint hn hp (br_t rfl ⟨h1, br_f e ⟨rfl, sc_mk R⟩⟩)
theorem i_vc_there {k : Nat} {u : SX} {v : SY} (I : i_Rel k u v) (hk : k + 4 ≤ 2048) (v1 : Int32) (v2 : Int32) : wpX_there (fun r => wpY_there (fun r' => r' = r ∧ i_Rel (k + 4) u v) v v1 v2) u v1 v2 := by
  obtain ⟨n, d, D, ct, cc, pd, pp, pk, lt, lv, hd, cn, dy, pn, kp, rfl, rfl, R⟩ := I
  have R' := R
  obtain ⟨⟨hn, hd5⟩, ⟨hB1, hB2, hB3, hB4, hB5, hB6⟩, hL, hC, hP, hD⟩ := R'
  rcases sc_point v1 hn with hx | ⟨p, hp, rfl⟩
  · unfold wpX_there
    dsimp only
    refine sc_isPointN hx (br_t rfl ?_)
    unfold wpY_there
    exact sc_badPointN hx (br_f (by decide) ⟨rfl, sc_mk R⟩)
  · rcases sc_file v2 with hx | ⟨f, hf, rfl⟩
    · unfold wpX_there
      dsimp only
      refine sc_isPoint hn hp (br_f (by decide) (sc_isFileN hx (br_t rfl ?_)))
      unfold wpY_there
      exact sc_badPoint hn hp (br_t rfl (sc_badFileN hx (br_f (by decide) ⟨rfl, sc_mk R⟩)))
    · obtain ⟨g1, g2, g3⟩ := hC (16 * p + f) (by omega)
      have h1 : vp_in (nI (16 * p + f)) 224 := vp_in_nI (by omega) (by decide)
      unfold wpX_there
      dsimp only
      refine sc_isPoint hn hp (br_f (by decide) (sc_isFile hf (br_f (by decide) (sc_thereAsInt p f (by omega) hf hB1 ?_))))
      unfold wpY_there
      dsimp only
      rw [sc_yc, nI_clamp (show 16 * p + f < 2 ^ 31 by omega), g1]
      refine sc_badPoint hn hp (br_t rfl (sc_badFile hf (br_t rfl ⟨h1, br_c (fun e => ?_) (fun e => ?_)⟩)))
      · exact ⟨e.symm, sc_mk R⟩
      · exact ⟨((hB4 _).resolve_left e).symm, sc_mk R⟩
theorem i_vc_content {k : Nat} {u : SX} {v : SY} (I : i_Rel k u v) (hk : k + 4 ≤ 2048) (v1 : Int32) (v2 : Int32) : wpX_content (fun r => wpY_content (fun r' => r' = r ∧ i_Rel (k + 4) u v) v v1 v2) u v1 v2 := by
  obtain ⟨n, d, D, ct, cc, pd, pp, pk, lt, lv, hd, cn, dy, pn, kp, rfl, rfl, R⟩ := I
  have R' := R
  obtain ⟨⟨hn, hd5⟩, ⟨hB1, hB2, hB3, hB4, hB5, hB6⟩, hL, hC, hP, hD⟩ := R'
  rcases sc_point v1 hn with hx | ⟨p, hp, rfl⟩
  · unfold wpX_content
    dsimp only
    refine sc_isPointN hx (br_t rfl ?_)
    unfold wpY_content
    exact sc_badPointN hx (br_f (by decide) ⟨rfl, sc_mk R⟩)
  · rcases sc_file v2 with hx | ⟨f, hf, rfl⟩
    · unfold wpX_content
      dsimp only
      refine sc_isPoint hn hp (br_f (by decide) (sc_isFileN hx (br_t rfl ?_)))
      unfold wpY_content
      exact sc_badPoint hn hp (br_t rfl (sc_badFileN hx (br_f (by decide) ⟨rfl, sc_mk R⟩)))
    · obtain ⟨g1, g2, g3⟩ := hC (16 * p + f) (by omega)
      have h1 : vp_in (nI (16 * p + f)) 224 := vp_in_nI (by omega) (by decide)
      have h2 : vp_in (nI (16 * p + f)) 240 := vp_in_nI (by omega) (by decide)
      unfold wpX_content wpX_cell
      dsimp only
      rw [sc_xc, nI_clamp (show 16 * p + f < 2 ^ 31 by omega), g2]
      refine sc_isPoint hn hp (br_f (by decide) (sc_isFile hf (br_f (by decide) ⟨h2, ?_⟩)))
      unfold wpY_content
      dsimp only
      rw [sc_yc, nI_clamp (show 16 * p + f < 2 ^ 31 by omega)]
      refine sc_badPoint hn hp (br_t rfl (sc_badFile hf (br_t rfl ⟨h1, br_c (fun e => ?_) (fun e => ⟨h1, ?_⟩)⟩)))
      · exact ⟨(g3 e).symm, sc_mk R⟩
      · exact ⟨rfl, sc_mk R⟩
theorem i_vc_liveThere {k : Nat} {u : SX} {v : SY} (I : i_Rel k u v) (hk : k + 4 ≤ 2048) (v1 : Int32) : wpX_liveThere (fun r => wpY_liveThere (fun r' => r' = r ∧ i_Rel (k + 4) u v) v v1) u v1 := by
  obtain ⟨n, d, D, ct, cc, pd, pp, pk, lt, lv, hd, cn, dy, pn, kp, rfl, rfl, R⟩ := I
  have R' := R
  obtain ⟨⟨hn, hd5⟩, ⟨hB1, hB2, hB3, hB4, hB5, hB6⟩, hL, hC, hP, hD⟩ := R'
  rcases sc_file v1 with hx | ⟨f, hf, rfl⟩
  · unfold wpX_liveThere
    dsimp only
    refine sc_isFileN hx (br_t rfl ?_)
    unfold wpY_liveThere
    exact sc_badFileN hx (br_f (by decide) ⟨rfl, sc_mk R⟩)
  · obtain ⟨e1, e2, e3⟩ := hL f hf
    have h1 : vp_in (nI f) 16 := vp_in_nI hf (by decide)
    unfold wpX_liveThere
    dsimp only
    refine sc_isFile hf (br_f (by decide) (sc_thereAsInt 14 f (by decide) hf hB1 ?_))
    unfold wpY_liveThere
    dsimp only
    rw [nI_clamp (show f < 2 ^ 31 by omega), show 16 * 14 + f = 224 + f from rfl, e1]
    refine sc_badFile hf (br_t rfl ⟨h1, br_c (fun e => ?_) (fun e => ?_)⟩)
    · exact ⟨e.symm, sc_mk R⟩
    · exact ⟨((hB3 _).resolve_left e).symm, sc_mk R⟩
theorem i_vc_live {k : Nat} {u : SX} {v : SY} (I : i_Rel k u v) (hk : k + 4 ≤ 2048) (v1 : Int32) : wpX_live (fun r => wpY_live (fun r' => r' = r ∧ i_Rel (k + 4) u v) v v1) u v1 := by
  obtain ⟨n, d, D, ct, cc, pd, pp, pk, lt, lv, hd, cn, dy, pn, kp, rfl, rfl, R⟩ := I
  have R' := R
  obtain ⟨⟨hn, hd5⟩, ⟨hB1, hB2, hB3, hB4, hB5, hB6⟩, hL, hC, hP, hD⟩ := R'
  rcases sc_file v1 with hx | ⟨f, hf, rfl⟩
  · unfold wpX_live
    dsimp only
    refine sc_isFileN hx (br_t rfl ?_)
    unfold wpY_live
    exact sc_badFileN hx (br_f (by decide) ⟨rfl, sc_mk R⟩)
  · obtain ⟨e1, e2, e3⟩ := hL f hf
    have h1 : vp_in (nI f) 16 := vp_in_nI hf (by decide)
    have h2 : vp_in (nI (224 + f)) 240 := vp_in_nI (by omega) (by decide)
    unfold wpX_live wpX_cell
    dsimp only
    rw [sc_x14, nI_clamp (show 224 + f < 2 ^ 31 by omega), e2]
    refine sc_isFile hf (br_f (by decide) ⟨h2, ?_⟩)
    unfold wpY_live
    dsimp only
    rw [nI_clamp (show f < 2 ^ 31 by omega)]
    refine sc_badFile hf (br_t rfl ⟨h1, br_c (fun e => ?_) (fun e => ⟨h1, ?_⟩)⟩)
    · exact ⟨(e3 e).symm, sc_mk R⟩
    · exact ⟨rfl, sc_mk R⟩
theorem i_vc_differing {k : Nat} {u : SX} {v : SY} (I : i_Rel k u v) (hk : k + 4 ≤ 2048) (v1 : Int32) (v2 : Int32) : wpX_differing (fun r => wpY_differing (fun r' => r' = r ∧ i_Rel (k + 4) u v) v v1 v2) u v1 v2 := by
  obtain ⟨n, d, D, ct, cc, pd, pp, pk, lt, lv, hd, cn, dy, pn, kp, rfl, rfl, R⟩ := I
  have R' := R
  obtain ⟨⟨hn, hd5⟩, ⟨hB1, hB2, hB3, hB4, hB5, hB6⟩, hL, hC, hP, hD⟩ := R'
  rcases sc_point v1 hn with hx | ⟨p, hp, rfl⟩
  · unfold wpX_differing
    dsimp only
    refine sc_isPointN hx (br_t rfl ?_)
    unfold wpY_differing
    exact sc_badPointN hx (br_f (by decide) ⟨rfl, sc_mk R⟩)
  · rcases sc_point v2 hn with hx | ⟨q, hq, rfl⟩
    · unfold wpX_differing
      dsimp only
      refine sc_isPoint hn hp (br_f (by decide) (sc_isPointN hx (br_t rfl ?_)))
      unfold wpY_differing
      exact sc_badPoint hn hp (br_t rfl (sc_badPointN hx (br_f (by decide) ⟨rfl, sc_mk R⟩)))
    · unfold wpX_differing
      dsimp only
      refine sc_isPoint hn hp (br_f (by decide) (sc_isPoint hn hq (br_f (by decide) (sc_countDiffering p q (by omega) (by omega) ?_))))
      unfold wpY_differing
      dsimp only
      refine sc_badPoint hn hp (br_t rfl (sc_badPoint hn hq (br_t rfl ⟨17, sc_differingL p q (by omega) (by omega) 16 0 0 rfl ⟨sc_smC _ _ _ ?_, sc_mk R⟩⟩)))
      intro j h1 h2
      rw [(hC (16 * p + j) (by omega)).1, (hC (16 * p + j) (by omega)).2.1, (hC (16 * q + j) (by omega)).1, (hC (16 * q + j) (by omega)).2.1]
theorem i_vc_changedSince {k : Nat} {u : SX} {v : SY} (I : i_Rel k u v) (hk : k + 4 ≤ 2048) (v1 : Int32) : wpX_changedSince (fun r => wpY_changedSince (fun r' => r' = r ∧ i_Rel (k + 4) u v) v v1) u v1 := by
  obtain ⟨n, d, D, ct, cc, pd, pp, pk, lt, lv, hd, cn, dy, pn, kp, rfl, rfl, R⟩ := I
  have R' := R
  obtain ⟨⟨hn, hd5⟩, ⟨hB1, hB2, hB3, hB4, hB5, hB6⟩, hL, hC, hP, hD⟩ := R'
  rcases sc_point v1 hn with hx | ⟨p, hp, rfl⟩
  · unfold wpX_changedSince
    dsimp only
    refine sc_isPointN hx (br_t rfl ?_)
    unfold wpY_changedSince
    exact sc_badPointN hx (br_f (by decide) ⟨rfl, sc_mk R⟩)
  · unfold wpX_changedSince
    dsimp only
    refine sc_isPoint hn hp (br_f (by decide) (sc_countDiffering p 14 (by omega) (by decide) ?_))
    unfold wpY_changedSince
    dsimp only
    refine sc_badPoint hn hp (br_t rfl ⟨17, sc_changedSinceL p (by omega) 16 0 0 rfl ⟨sc_smC _ _ _ ?_, sc_mk R⟩⟩)
    intro j h1 h2
    rw [(hC (16 * p + j) (by omega)).1, (hC (16 * p + j) (by omega)).2.1, show 16 * 14 + j = 224 + j from rfl, (hL j (by omega)).1, (hL j (by omega)).2.1]
    exact sc_neC _ _ _ _
theorem i_vc_versions {k : Nat} {u : SX} {v : SY} (I : i_Rel k u v) (hk : k + 4 ≤ 2048) (v1 : Int32) : wpX_versions (fun r => wpY_versions (fun r' => r' = r ∧ i_Rel (k + 4) u v) v v1) u v1 := by
  obtain ⟨n, d, D, ct, cc, pd, pp, pk, lt, lv, hd, cn, dy, pn, kp, rfl, rfl, R⟩ := I
  have R' := R
  obtain ⟨⟨hn, hd5⟩, ⟨hB1, hB2, hB3, hB4, hB5, hB6⟩, hL, hC, hP, hD⟩ := R'
  rcases sc_file v1 with hx | ⟨f, hf, rfl⟩
  · unfold wpX_versions
    dsimp only
    refine sc_isFileN hx (br_t rfl ?_)
    unfold wpY_versions
    exact sc_badFileN hx (br_f (by decide) ⟨rfl, sc_mk R⟩)
  · unfold wpX_versions
    dsimp only
    refine sc_isFile hf (br_f (by decide) ⟨_, sc_versionsL f hf hn (n - 1) 1 0 (by omega) (by omega) (by omega) ?_ (by omega) (by omega)⟩)
    unfold wpY_versions
    dsimp only
    refine sc_badFile hf (br_t rfl ⟨_, sc_versionsYL f hf hn (n - 1) 1 0 (by omega) (by omega) (by omega) ⟨sc_smC _ _ _ ?_, sc_mk R⟩ (by omega) (by omega)⟩)
    intro j h1 h2
    rw [(hC (16 * j + f) (by omega)).1, (hC (16 * j + f) (by omega)).2.1, (hC (16 * (j - 1) + f) (by omega)).1, (hC (16 * (j - 1) + f) (by omega)).2.1]
    exact sc_neC _ _ _ _
theorem i_vc_sum {k : Nat} {u : SX} {v : SY} (I : i_Rel k u v) (hk : k + 4 ≤ 2048) (v1 : Int32) : wpX_sum (fun r => wpY_sum (fun r' => r' = r ∧ i_Rel (k + 4) u v) v v1) u v1 := by
  obtain ⟨n, d, D, ct, cc, pd, pp, pk, lt, lv, hd, cn, dy, pn, kp, rfl, rfl, R⟩ := I
  have R' := R
  obtain ⟨⟨hn, hd5⟩, ⟨hB1, hB2, hB3, hB4, hB5, hB6⟩, hL, hC, hP, hD⟩ := R'
  rcases sc_point v1 hn with hx | ⟨p, hp, rfl⟩
  · unfold wpX_sum
    dsimp only
    refine sc_isPointN hx (br_t rfl ?_)
    unfold wpY_sum
    exact sc_badPointN hx (br_f (by decide) ⟨rfl, sc_mk R⟩)
  · unfold wpX_sum
    dsimp only
    refine sc_isPoint hn hp (br_f (by decide) ⟨17, sc_sumL p (by omega) 16 0 0 rfl ?_⟩)
    unfold wpY_sum
    dsimp only
    refine sc_badPoint hn hp (br_t rfl ⟨17, sc_sumYL p (by omega) 16 0 0 rfl ⟨sc_smC _ _ _ ?_, sc_mk R⟩⟩)
    intro j h1 h2
    obtain ⟨g1, g2, g3⟩ := hC (16 * p + j) (by omega)
    rw [g2]
    by_cases e : hd (16 * p + j) = 0
    · rw [if_pos e, g3 e]
    · rw [if_neg e]
end
section
/-! prune: which points are kept -/
/-- 1 if point p is the last of its period of length l -/
def sc_h (n : Nat) (D : Nat → Nat) (l p : Nat) : Int32 := if p + 1 = n ∨ ¬ D p / l = D (p + 1) / l then 1 else 0
theorem sc_h1 {n : Nat} {D : Nat → Nat} {l p q : Nat} (hD : ∀ i j, i ≤ j → j < n → D i ≤ D j) (h : ¬ sc_h n D l p = 0) (hq : p < q) (hqn : q < n) : ¬ D q / l = D p / l := by
  unfold sc_h at h
  by_cases c : p + 1 = n ∨ ¬ D p / l = D (p + 1) / l
  · have h1 : D p / l ≤ D (p + 1) / l := Nat.div_le_div_right (hD p (p + 1) (by omega) (by omega))
    have h2 : D (p + 1) / l ≤ D q / l := Nat.div_le_div_right (hD (p + 1) q (by omega) hqn)
    omega
  · rw [if_neg c] at h
    exact absurd rfl h
theorem sc_h0 {n : Nat} {D : Nat → Nat} {l p : Nat} (h : sc_h n D l p = 0) : ¬ p + 1 = n ∧ D (p + 1) / l = D p / l := by
  unfold sc_h at h
  by_cases c : p + 1 = n ∨ ¬ D p / l = D (p + 1) / l
  · rw [if_pos c] at h
    exact absurd h (by decide)
  · omega
theorem sc_h01 (n : Nat) (D : Nat → Nat) (l p : Nat) : sc_h n D l p = 0 ∨ sc_h n D l p = 1 := by
  unfold sc_h
  by_cases c : p + 1 = n ∨ ¬ D p / l = D (p + 1) / l
  · rw [if_pos c]; exact Or.inr rfl
  · rw [if_neg c]; exact Or.inl rfl
def sc_kh (H : Nat → Int32) (m : Nat) : Nat → Nat → (Nat → Int32) → (Nat → Int32)
  | 0, _, k => k
  | p + 1, f, k => if f < m ∧ ¬ H p = 0 then sc_kh H m p (f + 1) (upd k p 1) else sc_kh H m p f k
theorem sc_khT {H : Nat → Int32} {m p f : Nat} {k : Nat → Int32} (h : f < m) (h2 : ¬ H p = 0) : sc_kh H m (p + 1) f k = sc_kh H m p (f + 1) (upd k p 1) := if_pos ⟨h, h2⟩
theorem sc_khF {H : Nat → Int32} {m p f : Nat} {k : Nat → Int32} (h : ¬ (f < m ∧ ¬ H p = 0)) : sc_kh H m (p + 1) f k = sc_kh H m p f k := if_neg h
theorem sc_khM {H : Nat → Int32} {m f : Nat} (h : m ≤ f) : ∀ (p : Nat) (k : Nat → Int32), sc_kh H m p f k = k := by
  intro p
  induction p with
  | zero => intro k; rfl
  | succ p ih =>
    intro k
    rw [sc_khF (fun z => by omega)]
    exact ih k
theorem sc_khB {H : Nat → Int32} {m : Nat} : ∀ (p f : Nat) (k : Nat → Int32), sc_B k → sc_B (sc_kh H m p f k) := by
  intro p
  induction p with
  | zero => intro f k h; exact h
  | succ p ih =>
    intro f k h
    by_cases c : f < m ∧ ¬ H p = 0
    · rw [sc_khT c.1 c.2]
      exact ih _ _ (sc_Bu h _ (Or.inr rfl))
    · rw [sc_khF c]
      exact ih _ _ h
theorem sc_khC {H : Nat → Int32} {m n : Nat} : ∀ (p f : Nat) (k k' : Nat → Int32), (∀ i, i < n → k i = k' i) → ∀ i, i < n → sc_kh H m p f k i = sc_kh H m p f k' i := by
  intro p
  induction p with
  | zero => intro f k k' h; exact h
  | succ p ih =>
    intro f k k' h
    by_cases c : f < m ∧ ¬ H p = 0
    · rw [sc_khT c.1 c.2, sc_khT c.1 c.2]
      refine ih _ _ _ (fun i hi => ?_)
      by_cases e : i = p
      · subst e
        rw [pk_us, pk_us]
      · rw [pk_un e, pk_un e]
        exact h i hi
    · rw [sc_khF c, sc_khF c]
      exact ih _ _ _ h
/-- v below k, g from there on -/
def sc_fl (v g : Nat → Int32) (k : Nat) : Nat → Int32 := fun i => if i < k then v i else g i
theorem sc_fl0 (v g : Nat → Int32) : sc_fl v g 0 = g := by
  funext i
  unfold sc_fl
  rw [if_neg (by omega)]
theorem sc_flS {v g : Nat → Int32} {k : Nat} {x : Int32} (e : x = v k) : upd (sc_fl v g k) k x = sc_fl v g (k + 1) := by
  subst e
  funext i
  unfold upd sc_fl
  by_cases h : i = k
  · subst h
    rw [if_pos rfl, if_pos (by omega)]
  · rw [if_neg h]
    by_cases h2 : i < k
    · rw [if_pos h2, if_pos (by omega)]
    · rw [if_neg h2, if_neg (by omega)]
/-- pinned, or the last of n -/
def sc_v (n : Nat) (g : Nat → Int32) : Nat → Int32 := fun i => if g i = 0 ∧ ¬ i + 1 = n then 0 else 1
def sc_w (n : Nat) (g : Nat → Int32) : Nat → Int32 := fun i => if n ≤ i then 0 else sc_v n g i
theorem sc_v01 (n : Nat) (g : Nat → Int32) (i : Nat) : sc_v n g i = 0 ∨ sc_v n g i = 1 := by
  unfold sc_v
  by_cases c : g i = 0 ∧ ¬ i + 1 = n
  · rw [if_pos c]; exact Or.inl rfl
  · rw [if_neg c]; exact Or.inr rfl
theorem sc_wB (n : Nat) (g k : Nat → Int32) (hk : sc_B k) (m : Nat) : sc_B (sc_fl (sc_w n g) k m) := fun i => by
  unfold sc_fl
  by_cases c : i < m
  · rw [if_pos c]
    unfold sc_w
    by_cases c2 : n ≤ i
    · rw [if_pos c2]; exact Or.inl rfl
    · rw [if_neg c2]; exact sc_v01 n g i
  · rw [if_neg c]; exact hk i
section
variable {td : Int32} {ct cc pd pp pk : Nat → Int32} {n : Nat} {D : Nat → Nat}
theorem sc_periodOf {post : Int32 → Prop} (l p : Nat) {kd : Int32} (hk : (kd = 0 ∧ l = 1) ∨ (kd = 1 ∧ l = 7) ∨ (kd = 2 ∧ l = 28)) (hp : p < 14) (h1 : pd p = nI (D p)) (h2 : D p ≤ 5000)
    (h : post (nI (D p / l))) : wpX_periodOf post (nI n, td, ct, cc, pd, pp, pk) (nI p) kd := by
  unfold wpX_periodOf
  dsimp only
  rw [nI_clamp (show p < 2 ^ 31 by omega), h1]
  have hi : vp_in (nI p) 14 := vp_in_nI hp (by decide)
  have e7 : nI (D p) / 7 = nI (D p / 7) := pk_div (d := 7) (by omega) (by decide) (by decide)
  have e28 : nI (D p) / 28 = nI (D p / 28) := pk_div (d := 28) (by omega) (by decide) (by decide)
  rw [e7, e28]
  rcases hk with ⟨rfl, rfl⟩ | ⟨rfl, rfl⟩ | ⟨rfl, rfl⟩
  · rw [Nat.div_one] at h
    exact br_f (by decide) (br_f (by decide) ⟨hi, h⟩)
  · exact br_t rfl ⟨hi, by decide, h⟩
  · exact br_f (by decide) (br_t rfl ⟨hi, by decide, h⟩)
theorem sc_isHead {post : Int32 → Prop} (l p : Nat) {kd : Int32} (hk : (kd = 0 ∧ l = 1) ∨ (kd = 1 ∧ l = 7) ∨ (kd = 2 ∧ l = 28)) (hn : n ≤ 14) (hp : p < n) (hP : ∀ q, q < n → pd q = nI (D q) ∧ D q ≤ 5000)
    (h : post (sc_h n D l p)) : wpX_isHead post (nI n, td, ct, cc, pd, pp, pk) (nI p) kd := by
  obtain ⟨m, rfl⟩ : ∃ m, n = m + 1 := ⟨n - 1, by omega⟩
  unfold wpX_isHead
  dsimp only
  rw [nI_pred, nI_1 p]
  unfold sc_h at h
  refine pk_eq p m (fun e => ?_) (fun e => sc_periodOf (D := D) l p hk (by omega) (hP p hp).1 (hP p hp).2 (sc_periodOf (D := D) l (p + 1) hk (by omega) (hP (p + 1) (by omega)).1 (hP (p + 1) (by omega)).2 ?_))
  · rw [if_pos (by omega)] at h
    exact h
  · have b1 : D p / l ≤ D p := Nat.div_le_self _ _
    have b2 : D (p + 1) / l ≤ D (p + 1) := Nat.div_le_self _ _
    have b3 := (hP p hp).2
    have b4 := (hP (p + 1) (by omega)).2
    refine pk_eq (D p / l) (D (p + 1) / l) (fun e2 => ?_) (fun e2 => ?_)
    · rw [if_neg (by omega)] at h
      exact h
    · rw [if_pos (Or.inr e2)] at h
      exact h
theorem sc_keepHeadsL {post : SX → Prop} (l m : Nat) {kd : Int32} (hk : (kd = 0 ∧ l = 1) ∨ (kd = 1 ∧ l = 7) ∨ (kd = 2 ∧ l = 28)) (hn : n ≤ 14) (hm : m < 10) (hP : ∀ q, q < n → pd q = nI (D q) ∧ D q ≤ 5000) :
    ∀ (p f : Nat) (k : Nat → Int32), p ≤ n → f + p ≤ 14 → post (nI n, td, ct, cc, pd, pp, sc_kh (sc_h n D l) m p f k) →
    wX_keepHeads_10 post kd (nI m) (nI n) td (p + 1) (nI f) (nI p + (-1)) ct cc pd pp k := by
  intro p
  induction p with
  | zero => intro f k hp hf h; exact br_t (by decide) h
  | succ p ih =>
    intro f k hp hf h
    rw [pk_m1]
    refine br_f (nI_pos (by omega)) (pk_le m f (fun e => ?_) (fun e => sc_isHead (D := D) l p hk hn (by omega) hP (br_c (fun e2 => ?_) (fun e2 => ?_))))
    · rw [sc_khM e] at h
      exact h
    · rw [sc_khF (fun z => z.2 e2)] at h
      exact nm_e (ih f k (by omega) (by omega) h)
    · rw [sc_khT e e2] at h
      rw [nI_clamp (show p < 2 ^ 31 by omega), sc_n1]
      exact ⟨vp_in_nI (by omega) (by decide), nm_e (nm_r (nI_1 f) (nm_e (ih (f + 1) _ (by omega) (by omega) h)))⟩
theorem sc_keepHeads {post : SX → Prop} (l m : Nat) {kd : Int32} (hk : (kd = 0 ∧ l = 1) ∨ (kd = 1 ∧ l = 7) ∨ (kd = 2 ∧ l = 28)) (hn : n ≤ 14) (hm : m < 10) (hP : ∀ q, q < n → pd q = nI (D q) ∧ D q ≤ 5000)
    (h : post (nI n, td, ct, cc, pd, pp, sc_kh (sc_h n D l) m n 0 pk)) : wpX_keepHeads post (nI n, td, ct, cc, pd, pp, pk) kd (nI m) := by
  unfold wpX_keepHeads
  dsimp only
  exact nm_r (Int32.sub_eq_add_neg _ _) ⟨_, sc_keepHeadsL l m hk hn hm hP n 0 pk (Nat.le_refl n) (by omega) h⟩
theorem sc_keepOnlyL {post : SX → Prop} (hn : n ≤ 14) (h : post (nI n, td, ct, cc, pd, pp, sc_fl (sc_v n pp) pk n)) : ∀ (d i : Nat), i + d = n →
    wX_keepOnlyPinnedAndLast_2 post (nI n) td (d + 1) (nI i) ct cc pd pp (sc_fl (sc_v n pp) pk i) := by
  intro d
  induction d with
  | zero =>
    intro i hi
    obtain rfl : i = n := by omega
    exact br_t (nI_le (by omega) (by omega)) h
  | succ d ih =>
    intro i hi
    have ih' := ih (i + 1) (by omega)
    obtain ⟨m, rfl⟩ : ∃ m, n = m + 1 := ⟨n - 1, by omega⟩
    have h1 : vp_in (nI i) 14 := vp_in_nI (by omega) (by decide)
    refine br_f (nI_ge (by omega) (by omega)) ?_
    rw [nI_pred, nI_clamp (show i < 2 ^ 31 by omega), sc_n0, sc_n1]
    refine ⟨h1, br_c (fun e => pk_eq i m (fun e2 => ⟨h1, nm_e (nm_r (nI_1 i) ?_)⟩) (fun e2 => ⟨h1, nm_e (nm_r (nI_1 i) ?_)⟩)) (fun e => ⟨h1, nm_e (nm_r (nI_1 i) ?_)⟩)⟩
    · rw [sc_flS (show (1 : Int32) = sc_v (m + 1) pp i from (if_neg (by omega)).symm)]
      exact ih'
    · rw [sc_flS (show (0 : Int32) = sc_v (m + 1) pp i from (if_pos ⟨e, by omega⟩).symm)]
      exact ih'
    · rw [sc_flS (show (1 : Int32) = sc_v (m + 1) pp i from (if_neg (fun z => e z.1)).symm)]
      exact ih'
theorem sc_keepOnly {post : SX → Prop} (hn : n ≤ 14) (h : post (nI n, td, ct, cc, pd, pp, sc_fl (sc_v n pp) pk n)) :
    wpX_keepOnlyPinnedAndLast post (nI n, td, ct, cc, pd, pp, pk) := by
  have k := sc_keepOnlyL hn h n 0 (by omega)
  rw [sc_fl0] at k
  exact ⟨_, k⟩
end
section
variable {td : Int32} {lt lv hd cn dy pn kp : Nat → Int32} {n : Nat} {D : Nat → Nat}
theorem sc_headT {post : Int32 → Prop} (l p : Nat) (hl : 0 < l) (hl2 : l < 100) (hn : n ≤ 14) (hp : p < n) (hP : ∀ q, q < n → dy q = nI (D q) ∧ D q ≤ 5000)
    (hH : ∀ q, p < q → q < n → ¬ D q / l = D p / l) (h : post 1) : ∀ (d q : Nat), p < q → q + d = n →
    wY_head_16 post (nI p) (nI l) td (nI n) lt lv hd cn dy pn kp (d + 1) (nI q) := by
  intro d
  induction d with
  | zero => intro q hq e; exact br_t (nI_le (by omega) (by omega)) h
  | succ d ih =>
    intro q hq e
    have ih' := ih (q + 1) (by omega) (by omega)
    refine br_f (nI_ge (by omega) (by omega)) (br_f (nI_ge (b := 14) (by omega) (by decide)) ?_)
    rw [nI_clamp (show q < 2 ^ 31 by omega), nI_clamp (show p < 2 ^ 31 by omega), (hP q (by omega)).1, (hP p hp).1]
    have b1 := (hP q (by omega)).2
    have b2 := (hP p hp).2
    have c1 : D q / l ≤ D q := Nat.div_le_self _ _
    have c2 : D p / l ≤ D p := Nat.div_le_self _ _
    rw [pk_div (by omega) hl (by omega), pk_div (by omega) hl (by omega)]
    have h0 : ¬ nI l = 0 := nI_ne0 hl (by omega)
    exact ⟨vp_in_nI (by omega) (by decide), h0, vp_in_nI (by omega) (by decide), h0, pk_eq (D q / l) (D p / l) (fun z => absurd z (hH q hq (by omega))) (fun _ => nm_r (nI_1 q) ih')⟩
theorem sc_headF {post : Int32 → Prop} (l p : Nat) (hl : 0 < l) (hl2 : l < 100) (hn : n ≤ 14) (hp : p + 1 < n) (hP : ∀ q, q < n → dy q = nI (D q) ∧ D q ≤ 5000)
    (hH : D (p + 1) / l = D p / l) (h : post 0) : wY_head_16 post (nI p) (nI l) td (nI n) lt lv hd cn dy pn kp 1 (nI (p + 1)) := by
  refine br_f (nI_ge (by omega) (by omega)) (br_f (nI_ge (b := 14) (by omega) (by decide)) ?_)
  rw [nI_clamp (show p + 1 < 2 ^ 31 by omega), nI_clamp (show p < 2 ^ 31 by omega), (hP (p + 1) (by omega)).1, (hP p (by omega)).1]
  have b1 := (hP (p + 1) (by omega)).2
  have b2 := (hP p (by omega)).2
  have c1 : D (p + 1) / l ≤ D (p + 1) := Nat.div_le_self _ _
  have c2 : D p / l ≤ D p := Nat.div_le_self _ _
  rw [pk_div (by omega) hl (by omega), pk_div (by omega) hl (by omega)]
  have h0 : ¬ nI l = 0 := nI_ne0 hl (by omega)
  exact ⟨vp_in_nI (by omega) (by decide), h0, vp_in_nI (by omega) (by decide), h0, pk_eq (D (p + 1) / l) (D p / l) (fun _ => h) (fun z => absurd hH z)⟩
theorem sc_head {post : Int32 → Prop} (l p : Nat) (hl : 0 < l) (hl2 : l < 100) (hn : n ≤ 14) (hp : p < n) (hP : ∀ q, q < n → dy q = nI (D q) ∧ D q ≤ 5000) (hD : ∀ i j, i ≤ j → j < n → D i ≤ D j)
    (h : post (sc_h n D l p)) : wpY_head post (td, nI n, lt, lv, hd, cn, dy, pn, kp) (nI p) (nI l) := by
  unfold wpY_head
  dsimp only
  refine br_t (nI_le (a := 1) (by omega) (by omega)) (nm_r (nI_1 p) ?_)
  rcases sc_h01 n D l p with e | e
  · obtain ⟨e1, e2⟩ := sc_h0 e
    rw [e] at h
    exact ⟨1, sc_headF (D := D) l p hl hl2 hn (by omega) hP e2 h⟩
  · have ne : ¬ sc_h n D l p = 0 := by rw [e]; decide
    rw [e] at h
    exact ⟨_, sc_headT (D := D) l p hl hl2 hn hp hP (fun q h1 h2 => sc_h1 hD ne h1 h2) h (n - (p + 1)) (p + 1) (by omega) (by omega)⟩
theorem sc_keepL {post : SY → Prop} (l m : Nat) (hl : 0 < l) (hl2 : l < 100) (hn : n ≤ 14) (hm : m < 10) (hP : ∀ q, q < n → dy q = nI (D q) ∧ D q ≤ 5000) (hD : ∀ i j, i ≤ j → j < n → D i ≤ D j) :
    ∀ (p f : Nat) (k : Nat → Int32), p ≤ n → f + p ≤ 14 → post (td, nI n, lt, lv, hd, cn, dy, pn, sc_kh (sc_h n D l) m p f k) →
    wY_keep_6 post (nI l) (nI m) td (nI n) (p + 1) (nI f) (nI p + (-1)) lt lv hd cn dy pn k := by
  intro p
  induction p with
  | zero => intro f k hp hf h; exact br_t (by decide) h
  | succ p ih =>
    intro f k hp hf h
    rw [pk_m1]
    refine br_f (nI_pos (by omega)) (br_f (nI_ge (by omega) (by omega)) (pk_le m f (fun e => ?_) (fun e => sc_head (D := D) l p hl hl2 hn (by omega) hP hD (br_c (fun e2 => ?_) (fun e2 => ?_)))))
    · rw [sc_khF (fun z => by omega)] at h
      exact nm_e (ih f k (by omega) (by omega) h)
    · rw [sc_khF (fun z => z.2 e2)] at h
      exact nm_e (ih f k (by omega) (by omega) h)
    · rw [sc_khT e e2] at h
      rw [nI_clamp (show p < 2 ^ 31 by omega), sc_n1]
      exact ⟨vp_in_nI (by omega) (by decide), nm_e (nm_r (nI_1 f) (nm_e (ih (f + 1) _ (by omega) (by omega) h)))⟩
theorem sc_keepLL {post : SY → Prop} (l m : Nat) (hl : 0 < l) (hl2 : l < 100) (hn : n ≤ 14) (hm : m < 10) (hP : ∀ q, q < n → dy q = nI (D q) ∧ D q ≤ 5000) (hD : ∀ i j, i ≤ j → j < n → D i ≤ D j)
    (h : post (td, nI n, lt, lv, hd, cn, dy, pn, sc_kh (sc_h n D l) m n 0 kp)) : ∀ (e : Nat), n + e ≤ 14 →
    wY_keep_6 post (nI l) (nI m) td (nI n) (n + e + 1) 0 (nI (n + e) + (-1)) lt lv hd cn dy pn kp := by
  intro e
  induction e with
  | zero => intro _; exact sc_keepL l m hl hl2 hn hm hP hD n 0 kp (Nat.le_refl n) (by omega) h
  | succ e ih =>
    intro he
    rw [← Nat.add_assoc, pk_m1]
    exact br_f (nI_pos (by omega)) (br_t (nI_le (by omega) (by omega)) (nm_e (ih (by omega))))
theorem sc_keep {post : SY → Prop} (l m : Nat) (hl : 0 < l) (hl2 : l < 100) (hn : n ≤ 14) (hm : m < 10) (hP : ∀ q, q < n → dy q = nI (D q) ∧ D q ≤ 5000) (hD : ∀ i j, i ≤ j → j < n → D i ≤ D j)
    (h : post (td, nI n, lt, lv, hd, cn, dy, pn, sc_kh (sc_h n D l) m n 0 kp)) : wpY_keep post (td, nI n, lt, lv, hd, cn, dy, pn, kp) (nI l) (nI m) := by
  have k := sc_keepLL l m hl hl2 hn hm hP hD h (14 - n) (by omega)
  rw [show n + (14 - n) = 14 by omega] at k
  exact ⟨_, k⟩
end
end
section
/-! prune: taking out what isn't kept -/
/-- how many of the first p are kept -/
def sc_cnt (k : Nat → Int32) : Nat → Nat
  | 0 => 0
  | p + 1 => sc_cnt k p + (if k p = 0 then 0 else 1)
theorem sc_cntZ {k : Nat → Int32} {p : Nat} (h : k p = 0) : sc_cnt k (p + 1) = sc_cnt k p := by
  show sc_cnt k p + (if k p = 0 then 0 else 1) = sc_cnt k p
  rw [if_pos h]
  rfl
theorem sc_cntS {k : Nat → Int32} {p : Nat} (h : ¬ k p = 0) : sc_cnt k (p + 1) = sc_cnt k p + 1 := by
  show sc_cnt k p + (if k p = 0 then 0 else 1) = sc_cnt k p + 1
  rw [if_neg h]
theorem sc_cntM (k : Nat → Int32) : ∀ (d p : Nat), sc_cnt k p ≤ sc_cnt k (p + d) := by
  intro d
  induction d with
  | zero => intro p; exact Nat.le_refl _
  | succ d ih =>
    intro p
    have h := ih p
    rw [← Nat.add_assoc]
    by_cases e : k (p + d) = 0
    · rw [sc_cntZ e]; exact h
    · rw [sc_cntS e]; omega
theorem sc_cntLe (k : Nat → Int32) {p q : Nat} (h : p ≤ q) : sc_cnt k p ≤ sc_cnt k q := by
  have := sc_cntM k (q - p) p
  rw [show p + (q - p) = q by omega] at this
  exact this
theorem sc_cntLt (k : Nat → Int32) {p q : Nat} (h : p < q) (hk : ¬ k p = 0) : sc_cnt k p < sc_cnt k q := by
  have h1 := sc_cntLe k (show p + 1 ≤ q by omega)
  rw [sc_cntS hk] at h1
  omega
theorem sc_cntB (k : Nat → Int32) : ∀ p, sc_cnt k p ≤ p := by
  intro p
  induction p with
  | zero => exact Nat.le_refl _
  | succ p ih =>
    by_cases e : k p = 0
    · rw [sc_cntZ e]; omega
    · rw [sc_cntS e]; omega
theorem sc_cntE (k : Nat → Int32) : ∀ (n j : Nat), j < sc_cnt k n → ∃ q, q < n ∧ ¬ k q = 0 ∧ sc_cnt k q = j := by
  intro n
  induction n with
  | zero => intro j h; exact absurd h (Nat.not_lt_zero j)
  | succ n ih =>
    intro j h
    by_cases e : k n = 0
    · rw [sc_cntZ e] at h
      obtain ⟨q, h1, h2, h3⟩ := ih j h
      exact ⟨q, by omega, h2, h3⟩
    · rw [sc_cntS e] at h
      by_cases c : j = sc_cnt k n
      · exact ⟨n, by omega, e, c.symm⟩
      · obtain ⟨q, h1, h2, h3⟩ := ih j (by omega)
        exact ⟨q, by omega, h2, h3⟩
theorem sc_cntC {k k' : Nat → Int32} : ∀ (n : Nat), (∀ i, i < n → k i = k' i) → sc_cnt k n = sc_cnt k' n := by
  intro n
  induction n with
  | zero => intro _; rfl
  | succ n ih =>
    intro h
    have h1 := ih (fun i hi => h i (by omega))
    have h2 := h n (by omega)
    by_cases e : k n = 0
    · rw [sc_cntZ e, sc_cntZ (h2.symm.trans e), h1]
    · rw [sc_cntS e, sc_cntS (fun z => e (h2.trans z)), h1]
/-- the component has gone through the first p -/
def sc_IX (k : Nat → Int32) (p : Nat) (s : Nat → Nat) : Prop := (∀ j, p ≤ j → s j = j) ∧ (∀ q, q < p → ¬ k q = 0 → s (sc_cnt k q) = q)
theorem sc_IX0 (k : Nat → Int32) : sc_IX k 0 id := ⟨fun _ _ => rfl, fun q h => absurd h (Nat.not_lt_zero q)⟩
theorem sc_IXz {k : Nat → Int32} {p : Nat} {s : Nat → Nat} (h : sc_IX k p s) (e : k p = 0) : sc_IX k (p + 1) s := by
  refine ⟨fun j hj => h.1 j (by omega), fun q hq hk => ?_⟩
  by_cases c : q = p
  · subst c
    exact absurd e hk
  · exact h.2 q (by omega) hk
theorem sc_IXs {k : Nat → Int32} {p : Nat} {s : Nat → Nat} (h : sc_IX k p s) (e : ¬ k p = 0) : sc_IX k (p + 1) (sc_un s (sc_cnt k p) (s p)) := by
  have hb := sc_cntB k p
  refine ⟨fun j hj => ?_, fun q hq hk => ?_⟩
  · unfold sc_un
    rw [if_neg (by omega)]
    exact h.1 j (by omega)
  · unfold sc_un
    by_cases c : q = p
    · subst c
      rw [if_pos rfl]
      exact h.1 q (Nat.le_refl q)
    · have hl := sc_cntLt k (show q < p by omega) hk
      rw [if_neg (by omega)]
      exact h.2 q (by omega) hk
/-- the reference has gone through those from p on -/
def sc_IY (k : Nat → Int32) (n p : Nat) (t : Nat → Nat) : Prop := (∀ j, j < p → t j = j) ∧ (∀ q, p ≤ q → q < n → ¬ k q = 0 → t (p + (sc_cnt k q - sc_cnt k p)) = q)
theorem sc_IY0 (k : Nat → Int32) (n : Nat) : sc_IY k n n id := ⟨fun _ _ => rfl, fun q h1 h2 => absurd h2 (by omega)⟩
theorem sc_IYs {k : Nat → Int32} {n p : Nat} {t : Nat → Nat} (h : sc_IY k n (p + 1) t) (e : ¬ k p = 0) : sc_IY k n p t := by
  refine ⟨fun j hj => h.1 j (by omega), fun q h1 h2 hk => ?_⟩
  by_cases c : q = p
  · subst c
    rw [Nat.sub_self]
    exact h.1 q (by omega)
  · have h3 := h.2 q (by omega) h2 hk
    have h4 := sc_cntLe k (show p + 1 ≤ q by omega)
    rw [sc_cntS e] at h3 h4
    rw [show p + (sc_cnt k q - sc_cnt k p) = p + 1 + (sc_cnt k q - (sc_cnt k p + 1)) by omega]
    exact h3
theorem sc_IYz {k : Nat → Int32} {n p : Nat} {t : Nat → Nat} (h : sc_IY k n (p + 1) t) (e : k p = 0) : sc_IY k n p (sc_sh t p (p + (sc_cnt k n - sc_cnt k p))) := by
  refine ⟨fun j hj => ?_, fun q h1 h2 hk => ?_⟩
  · unfold sc_sh
    rw [if_neg (by omega)]
    exact h.1 j (by omega)
  · have c : ¬ q = p := fun z => hk (by rw [z]; exact e)
    have h3 := h.2 q (by omega) h2 hk
    have h4 := sc_cntLt k h2 hk
    have h5 := sc_cntLe k h1
    rw [sc_cntZ e] at h3
    unfold sc_sh
    rw [if_pos (by omega), show p + (sc_cnt k q - sc_cnt k p) + 1 = p + 1 + (sc_cnt k q - sc_cnt k p) by omega]
    exact h3
theorem sc_takeOutX {post : Int32 → SX → Prop} {td : Int32} {ct cc pd pp k : Nat → Int32} {n : Nat} (hn : n ≤ 14) (hB : sc_B ct) (hP : sc_B pp)
    (h : ∀ s, sc_IX k n s → post (nI (n - sc_cnt k n)) (nI (sc_cnt k n), td, sc_rows ct s, sc_rows cc s, sc_pt pd s, sc_pt pp s, k)) : ∀ (d p : Nat) (s : Nat → Nat), p + d = n → sc_IX k p s →
    wX_takeOutUnkept_4 post (d + 1) (nI (sc_cnt k p)) (nI p) (nI n) td (sc_rows ct s) (sc_rows cc s) (sc_pt pd s) (sc_pt pp s) k := by
  intro d
  induction d with
  | zero =>
    intro p s hp hI
    obtain rfl : p = n := by omega
    exact br_t (nI_le (by omega) (by omega)) (nm_r (pk_sub (sc_cntB k p)) (h s hI))
  | succ d ih =>
    intro p s hp hI
    have hb := sc_cntB k p
    refine br_f (nI_ge (by omega) (by omega)) ?_
    rw [nI_clamp (show p < 2 ^ 31 by omega)]
    refine ⟨vp_in_nI (by omega) (by decide), br_c (fun e => ?_) (fun e => ?_)⟩
    · have ih' := ih (p + 1) s (by omega) (sc_IXz hI e)
      rw [sc_cntZ e] at ih'
      exact nm_r (nI_1 p) ih'
    · have ih' := ih (p + 1) _ (by omega) (sc_IXs hI e)
      rw [sc_cntS e] at ih'
      exact sc_movePoint s p (sc_cnt k p) (by omega) (by omega) hB hP (nm_r (nI_1 _) (nm_r (nI_1 p) ih'))
theorem sc_takeOutY {post : Int32 → SY → Prop} {td : Int32} {lt lv hd cn dy pn k : Nat → Int32} {n : Nat} (hn : n ≤ 14) (hB : sc_B hd) (hP : sc_B pn) (hK : sc_B k)
    (h : ∀ t, sc_IY k n 0 t → post (nI (n - sc_cnt k n)) (td, nI (sc_cnt k n), lt, lv, sc_rows hd t, sc_rows cn t, sc_pt dy t, sc_pt pn t, sc_pt k t)) : ∀ (p : Nat) (t : Nat → Nat), p ≤ n → sc_IY k n p t →
    wY_prune_102 post (p + 1) (nI (n - (p + (sc_cnt k n - sc_cnt k p)))) (nI p + (-1)) td (nI (p + (sc_cnt k n - sc_cnt k p))) lt lv (sc_rows hd t) (sc_rows cn t) (sc_pt dy t) (sc_pt pn t) (sc_pt k t) := by
  intro p
  induction p with
  | zero =>
    intro t hp hI
    rw [show sc_cnt k 0 = 0 from rfl, Nat.sub_zero, Nat.zero_add (sc_cnt k n)]
    exact br_t (by decide) (h t hI)
  | succ p ih =>
    intro t hp hI
    have hb := sc_cntB k p
    have hl := sc_cntLe k hp
    have hl2 := sc_cntM k (n - (p + 1)) (p + 1)
    have hbn := sc_cntB k n
    have tp : sc_pt k t p = k p := by
      show k (t p) = k p
      rw [hI.1 p (by omega)]
    have hd2 : sc_cnt k n - sc_cnt k (p + 1) ≤ n - (p + 1) := by
      have q : ∀ e, sc_cnt k (p + 1 + e) ≤ sc_cnt k (p + 1) + e := by
        intro e
        induction e with
        | zero => exact Nat.le_refl _
        | succ e ihe =>
          rw [← Nat.add_assoc]
          by_cases z : k (p + 1 + e) = 0
          · rw [sc_cntZ z]; omega
          · rw [sc_cntS z]; omega
      have q2 := q (n - (p + 1))
      rw [show p + 1 + (n - (p + 1)) = n by omega] at q2
      omega
    rw [pk_m1]
    refine br_f (nI_pos (by omega)) (br_f (nI_ge (by omega) (by omega)) ?_)
    rw [nI_clamp (show p < 2 ^ 31 by omega), tp]
    refine ⟨vp_in_nI (by omega) (by decide), br_c (fun e => ?_) (fun e => ?_)⟩
    · have hz := sc_cntZ e
      have hI2 := sc_IYz hI e
      have ih' := ih _ (by omega) hI2
      rw [hz] at hd2 hl ⊢
      have m1 : p + 1 + (sc_cnt k n - sc_cnt k p) - 1 = p + (sc_cnt k n - sc_cnt k p) := by omega
      refine sc_takeOut t (by omega) (by omega) hB hP hK ?_
      rw [m1]
      refine nm_r (nI_1 _) (nm_e ?_)
      rw [show n - (p + 1 + (sc_cnt k n - sc_cnt k p)) + 1 = n - (p + (sc_cnt k n - sc_cnt k p)) by omega]
      exact ih'
    · have hs := sc_cntS e
      have ih' := ih t (by omega) (sc_IYs hI e)
      rw [hs] at hd2 hl ⊢
      rw [show p + 1 + (sc_cnt k n - (sc_cnt k p + 1)) = p + (sc_cnt k n - sc_cnt k p) by omega]
      exact nm_e ih'
theorem sc_takeOutYY {post : Int32 → SY → Prop} {td : Int32} {lt lv hd cn dy pn k : Nat → Int32} {n : Nat} (hn : n ≤ 14) (hB : sc_B hd) (hP : sc_B pn) (hK : sc_B k)
    (h : ∀ t, sc_IY k n 0 t → post (nI (n - sc_cnt k n)) (td, nI (sc_cnt k n), lt, lv, sc_rows hd t, sc_rows cn t, sc_pt dy t, sc_pt pn t, sc_pt k t)) : ∀ (e : Nat), n + e ≤ 14 →
    wY_prune_102 post (n + e + 1) 0 (nI (n + e) + (-1)) td (nI n) lt lv hd cn dy pn k := by
  intro e
  induction e with
  | zero =>
    intro _
    have z := sc_takeOutY hn hB hP hK h n id (Nat.le_refl n) (sc_IY0 k n)
    rw [Nat.sub_self (sc_cnt k n), Nat.add_zero n, Nat.sub_self n, sc_rowsI, sc_rowsI, sc_ptI, sc_ptI, sc_ptI] at z
    exact z
  | succ e ih =>
    intro he
    rw [← Nat.add_assoc, pk_m1]
    exact br_f (nI_pos (by omega)) (br_t (nI_le (by omega) (by omega)) (nm_e (ih (by omega))))
theorem sc_takeOutYZ {post : Int32 → SY → Prop} {td : Int32} {lt lv hd cn dy pn k : Nat → Int32} {n : Nat} (hn : n ≤ 14) (hB : sc_B hd) (hP : sc_B pn) (hK : sc_B k)
    (h : ∀ t, sc_IY k n 0 t → post (nI (n - sc_cnt k n)) (td, nI (sc_cnt k n), lt, lv, sc_rows hd t, sc_rows cn t, sc_pt dy t, sc_pt pn t, sc_pt k t)) :
    ∃ n102 : Nat, wY_prune_102 post n102 0 13 td (nI n) lt lv hd cn dy pn k := by
  have z := sc_takeOutYY hn hB hP hK h (14 - n) (by omega)
  rw [show n + (14 - n) = 14 by omega] at z
  exact ⟨_, z⟩
/-- the kept points, of both sides' arrays -/
def sc_K (n : Nat) (D : Nat → Nat) (a : Nat) (k : Nat → Int32) : Nat → Int32 :=
  sc_kh (sc_h n D 28) (a % 10) n 0 (sc_kh (sc_h n D 7) (a / 10 % 10) n 0 (sc_kh (sc_h n D 1) (a / 100) n 0 k))
theorem sc_pruneYL {post : Int32 → SY → Prop} {td : Int32} {lt lv hd cn dy pn kp : Nat → Int32} {n a : Nat} {D : Nat → Nat} (ha : a < 1000) (hn : n ≤ 14)
    (hP : ∀ q, q < n → dy q = nI (D q) ∧ D q ≤ 5000) (hD : ∀ i j, i ≤ j → j < n → D i ≤ D j)
    (h : ∃ n102 : Nat, wY_prune_102 post n102 0 13 td (nI n) lt lv hd cn dy pn (sc_K n D a (sc_fl (sc_w n pn) kp 14))) : ∀ (d i : Nat), i + d = 14 →
    wY_prune_15 post (nI a) td (nI n) (d + 1) (nI i) lt lv hd cn dy pn (sc_fl (sc_w n pn) kp i) := by
  intro d
  induction d with
  | zero =>
    intro i hi
    obtain rfl : i = 14 := by omega
    have e4 : nI a - nI a / 10 * 10 = nI (a % 10) := pk_rem (d := 10) (by omega) (by decide) (by decide)
    have e1 : nI a / 100 = nI (a / 100) := pk_div (d := 100) (by omega) (by decide) (by decide)
    have e2 : nI a / 10 = nI (a / 10) := pk_div (d := 10) (by omega) (by decide) (by decide)
    have e3 : nI (a / 10) - nI (a / 10) / 10 * 10 = nI (a / 10 % 10) := pk_rem (d := 10) (by omega) (by decide) (by decide)
    refine br_t (nI_le (a := 14) (by omega) (by decide)) ?_
    rw [e4, e1, e2, e3]
    refine ⟨by decide, sc_keep (D := D) 1 (a / 100) (by decide) (by decide) hn (by omega) hP hD ⟨by decide, by decide, sc_keep (D := D) 7 (a / 10 % 10) (by decide) (by decide) hn (by omega) hP hD ⟨by decide, sc_keep (D := D) 28 (a % 10) (by decide) (by decide) hn (by omega) hP hD ?_⟩⟩⟩
    exact h
  | succ d ih =>
    intro i hi
    have ih' := ih (i + 1) (by omega)
    have h1 : vp_in (nI i) 14 := vp_in_nI (by omega) (by decide)
    refine br_f (nI_ge (b := 14) (by omega) (by decide)) ?_
    rw [nI_clamp (show i < 2 ^ 31 by omega), sc_n0, sc_n1]
    refine pk_le n i (fun e0 => ⟨h1, nm_e (nm_r (nI_1 i) ?_)⟩) (fun e0 => ?_)
    · rw [sc_flS (show (0 : Int32) = sc_w n pn i from (if_pos e0).symm)]
      exact ih'
    · obtain ⟨m, rfl⟩ : ∃ m, n = m + 1 := ⟨n - 1, by omega⟩
      rw [nI_pred]
      have ew : sc_w (m + 1) pn i = sc_v (m + 1) pn i := if_neg (by omega)
      refine ⟨h1, br_c (fun e => pk_eq i m (fun e2 => ⟨h1, nm_e (nm_r (nI_1 i) ?_)⟩) (fun e2 => ⟨h1, nm_e (nm_r (nI_1 i) ?_)⟩)) (fun e => ⟨h1, nm_e (nm_r (nI_1 i) ?_)⟩)⟩
      · rw [sc_flS (show (1 : Int32) = sc_w (m + 1) pn i from ew ▸ (if_neg (by omega)).symm)]
        exact ih'
      · rw [sc_flS (show (0 : Int32) = sc_w (m + 1) pn i from ew ▸ (if_pos ⟨e, by omega⟩).symm)]
        exact ih'
      · rw [sc_flS (show (1 : Int32) = sc_w (m + 1) pn i from ew ▸ (if_neg (fun z => e z.1)).symm)]
        exact ih'
theorem sc_pruneY {post : Int32 → SY → Prop} {td : Int32} {lt lv hd cn dy pn kp : Nat → Int32} {n a : Nat} {D : Nat → Nat} (ha : a < 1000) (hn : n ≤ 14)
    (hP : ∀ q, q < n → dy q = nI (D q) ∧ D q ≤ 5000) (hD : ∀ i j, i ≤ j → j < n → D i ≤ D j)
    (h : ∃ n102 : Nat, wY_prune_102 post n102 0 13 td (nI n) lt lv hd cn dy pn (sc_K n D a (sc_fl (sc_w n pn) kp 14))) :
    ∃ n15 : Nat, wY_prune_15 post (nI a) td (nI n) n15 0 lt lv hd cn dy pn kp := by
  have k := sc_pruneYL ha hn hP hD h 14 0 rfl
  rw [sc_fl0] at k
  exact ⟨_, k⟩
end
section
/-! the last step, over the kept points of both sides -/
theorem sc_pruneXY {k n d a : Nat} {D : Nat → Nat} {ct cc pd pp pk lt lv hd cn dy pn kp : Nat → Int32} (h0 : ¬ nI a < 0) (h9 : nI a ≤ 999) (ha : a ≤ 999) (R : sc_R n d D ct cc pd pp lt lv hd cn dy pn kp) :
    wpX_takeOutUnkept (fun r u' => wpY_prune (fun r' v' => r' = r ∧ i_Rel (k + 4) u' v') (nI d, nI n, lt, lv, hd, cn, dy, pn, kp) (nI a))
      (nI n, nI d, ct, cc, pd, pp, sc_K n D a (sc_fl (sc_v n pp) pk n)) := by
  have R' := R
  obtain ⟨⟨hn, hd5⟩, ⟨hB1, hB2, hB3, hB4, hB5, hB6⟩, hL, hC, hP, hD⟩ := R'
  have PY : ∀ q, q < n → dy q = nI (D q) ∧ D q ≤ 5000 := fun q hq => ⟨(hP q hq).2.1, by have := (hP q hq).2.2.2; omega⟩
  have KK : ∀ i, i < n → sc_K n D a (sc_fl (sc_v n pp) pk n) i = sc_K n D a (sc_fl (sc_w n pn) kp 14) i := by
    refine sc_khC _ _ _ _ (sc_khC _ _ _ _ (sc_khC _ _ _ _ (fun i hi => ?_)))
    unfold sc_fl sc_w sc_v
    rw [if_pos hi, if_pos (show i < 14 by omega), if_neg (show ¬ n ≤ i by omega), (hP i hi).2.2.1]
  have KB : sc_B (sc_K n D a (sc_fl (sc_w n pn) kp 14)) := sc_khB _ _ _ (sc_khB _ _ _ (sc_khB _ _ _ (sc_wB n pn kp hB6 14)))
  generalize sc_K n D a (sc_fl (sc_v n pp) pk n) = kx at KK ⊢
  have CC : ∀ q, q ≤ n → sc_cnt kx q = sc_cnt (sc_K n D a (sc_fl (sc_w n pn) kp 14)) q := fun q hq => sc_cntC q (fun i hi => KK i (by omega))
  have z := sc_takeOutX (post := fun r u' => wpY_prune (fun r' v' => r' = r ∧ i_Rel (k + 4) u' v') (nI d, nI n, lt, lv, hd, cn, dy, pn, kp) (nI a)) (td := nI d) (ct := ct) (cc := cc) (pd := pd) (pp := pp) (k := kx) hn hB1 hB2 (fun s hs => ?_) n 0 id (by omega) (sc_IX0 kx)
  · rw [sc_rowsI, sc_rowsI, sc_ptI, sc_ptI] at z
    exact ⟨_, z⟩
  · unfold wpY_prune
    dsimp only
    refine br_f h0 (br_t h9 (sc_pruneY (D := D) (by omega) hn PY hD (sc_takeOutYZ hn hB4 hB5 KB (fun t ht => ?_))))
    rw [← CC n (Nat.le_refl n)]
    have hcn := sc_cntB kx n
    have look : ∀ j, j < sc_cnt kx n → ∃ q, q < n ∧ ¬ kx q = 0 ∧ sc_cnt kx q = j ∧ s j = q ∧ t j = q := by
      intro j hj
      obtain ⟨q, h1, h2, h3⟩ := sc_cntE kx n j hj
      refine ⟨q, h1, h2, h3, ?_, ?_⟩
      · rw [← h3]; exact hs.2 q h1 h2
      · have h4 := ht.2 q (Nat.zero_le q) h1 (fun y => h2 ((KK q h1).trans y))
        rw [← CC q (by omega), h3, show sc_cnt (sc_K n D a (sc_fl (sc_w n pn) kp 14)) 0 = 0 from rfl, Nat.sub_zero, Nat.zero_add] at h4
        exact h4
    refine ⟨rfl, sc_mk (sc_Rix (sc_Rkp R KB) (by omega) (hs.1 14 hn) (fun j hj => ?_) (fun i j hij hj => ?_))⟩
    · obtain ⟨q, h1, h2, h3, h4, h5⟩ := look j hj
      exact ⟨h4.trans h5.symm, by omega⟩
    · obtain ⟨q, h1, h2, h3, h4, h5⟩ := look i (by omega)
      obtain ⟨q', h1', h2', h3', h4', h5'⟩ := look j hj
      rw [h4, h4']
      by_cases c : q ≤ q'
      · exact c
      · have := sc_cntLt kx (show q' < q by omega) h2'
        omega
theorem i_vc_prune {k : Nat} {u : SX} {v : SY} (I : i_Rel k u v) (hk : k + 4 ≤ 2048) (v1 : Int32) : wpX_prune (fun r u' => wpY_prune (fun r' v' => r' = r ∧ i_Rel (k + 4) u' v') v v1) u v1 := by
  obtain ⟨n, d, D, ct, cc, pd, pp, pk, lt, lv, hd, cn, dy, pn, kp, rfl, rfl, R⟩ := I
  have R' := R
  obtain ⟨⟨hn, hd5⟩, ⟨hB1, hB2, hB3, hB4, hB5, hB6⟩, hL, hC, hP, hD⟩ := R'
  by_cases h0 : v1 < 0
  · unfold wpX_prune
    dsimp only
    refine br_t h0 ?_
    unfold wpY_prune
    exact br_t h0 ⟨rfl, sc_mk R⟩
  · by_cases h9 : v1 ≤ 999
    · obtain ⟨a, ha, rfl⟩ := nI_of2 (M := 999) (n := 999) (by decide) h0 h9
      have PX : ∀ q, q < n → pd q = nI (D q) ∧ D q ≤ 5000 := fun q hq => ⟨(hP q hq).1, by have := (hP q hq).2.2.2; omega⟩
      have PY : ∀ q, q < n → dy q = nI (D q) ∧ D q ≤ 5000 := fun q hq => ⟨(hP q hq).2.1, by have := (hP q hq).2.2.2; omega⟩
      have e4 : nI a - nI a / 10 * 10 = nI (a % 10) := pk_rem (d := 10) (by omega) (by decide) (by decide)
      have e1 : nI a / 100 = nI (a / 100) := pk_div (d := 100) (by omega) (by decide) (by decide)
      have e2 : nI a / 10 = nI (a / 10) := pk_div (d := 10) (by omega) (by decide) (by decide)
      have e3 : nI (a / 10) - nI (a / 10) / 10 * 10 = nI (a / 10 % 10) := pk_rem (d := 10) (by omega) (by decide) (by decide)
      unfold wpX_prune
      dsimp only
      rw [e4, e1, e2, e3]
      refine br_f h0 (br_t h9 (sc_keepOnly hn ⟨by decide, sc_keepHeads (D := D) 1 (a / 100) (Or.inl ⟨rfl, rfl⟩) hn (by omega) PX ⟨by decide, by decide, sc_keepHeads (D := D) 7 (a / 10 % 10) (Or.inr (Or.inl ⟨rfl, rfl⟩)) hn (by omega) PX ⟨by decide, sc_keepHeads (D := D) 28 (a % 10) (Or.inr (Or.inr ⟨rfl, rfl⟩)) hn (by omega) PX ?_⟩⟩⟩))
      dsimp only
      exact sc_pruneXY h0 h9 ha R
    · unfold wpX_prune
      dsimp only
      refine br_f h0 (br_f h9 ?_)
      unfold wpY_prune
      exact br_f h0 (br_f h9 ⟨rfl, sc_mk R⟩)
end
