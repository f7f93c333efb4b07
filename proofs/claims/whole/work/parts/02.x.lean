/-! the component's own methods, each with a general post -/
section
variable {pc td : Int32} {ct cc pd pp pk : Nat → Int32}
theorem sc_isFile {post : Int32 → Prop} {f : Nat} (hf : f < 16) (h : post 1) : wpX_isFile post (pc, td, ct, cc, pd, pp, pk) (nI f) :=
  br_f (nI_pos (by omega)) (br_f (nI_ge (b := 16) hf (by decide)) h)
theorem sc_isFileN {post : Int32 → Prop} {x : Int32} (hx : x < 0 ∨ 16 ≤ x) (h : post 0) : wpX_isFile post (pc, td, ct, cc, pd, pp, pk) x := by
  by_cases h0 : x < 0
  · exact br_t h0 h
  · exact br_f h0 (br_t (hx.resolve_left h0) h)
theorem sc_isPoint {post : Int32 → Prop} {n p : Nat} (hn : n ≤ 14) (hp : p < n) (h : post 1) : wpX_isPoint post (nI n, td, ct, cc, pd, pp, pk) (nI p) :=
  br_f (nI_pos (by omega)) (br_f (nI_ge hp (by omega)) h)
theorem sc_isPointN {post : Int32 → Prop} {n : Nat} {x : Int32} (hx : x < 0 ∨ nI n ≤ x) (h : post 0) : wpX_isPoint post (nI n, td, ct, cc, pd, pp, pk) x := by
  by_cases h0 : x < 0
  · exact br_t h0 h
  · exact br_f h0 (br_t (hx.resolve_left h0) h)
theorem sc_thereAsInt {post : Int32 → Prop} (a f : Nat) (ha : a < 15) (hf : f < 16) (hB : sc_B ct) (h : post (ct (16 * a + f))) :
    wpX_thereAsInt post (pc, td, ct, cc, pd, pp, pk) (nI a) (nI f) := by
  unfold wpX_thereAsInt wpX_cell
  dsimp only
  rw [sc_xc, nI_clamp (by omega)]
  refine ⟨vp_in_nI (by omega) (by decide), br_c (fun e => ?_) (fun e => ?_)⟩
  · rw [e] at h; exact h
  · rw [(hB _).resolve_left e] at h; exact h
theorem sc_setLive {post : SX → Prop} {f : Nat} {b c : Int32} (hf : f < 16) (hb : b = 0 ∨ b = 1)
    (h : post (pc, td, upd ct (224 + f) b, upd cc (224 + f) c, pd, pp, pk)) : wpX_setLive post (pc, td, ct, cc, pd, pp, pk) (nI f) b c := by
  unfold wpX_setLive wpX_cell
  dsimp only
  rw [sc_x14, nI_clamp (by omega), sc_nB hb]
  have hi : vp_in (nI (224 + f)) 240 := vp_in_nI (by omega) (by decide)
  exact ⟨hi, nm_e ⟨hi, nm_e h⟩⟩
theorem sc_differs {post : Int32 → Prop} (a b f : Nat) (ha : a < 15) (hb : b < 15) (hf : f < 16)
    (h : post (sc_ne (ct (16 * a + f)) (ct (16 * b + f)) (cc (16 * a + f)) (cc (16 * b + f)))) :
    wpX_differs post (pc, td, ct, cc, pd, pp, pk) (nI a) (nI b) (nI f) := by
  unfold wpX_differs wpX_cell
  dsimp only
  rw [sc_xc, sc_xc, nI_clamp (show 16 * a + f < 2 ^ 31 by omega), nI_clamp (show 16 * b + f < 2 ^ 31 by omega)]
  have h1 : vp_in (nI (16 * a + f)) 240 := vp_in_nI (by omega) (by decide)
  have h2 : vp_in (nI (16 * b + f)) 240 := vp_in_nI (by omega) (by decide)
  exact ⟨h1, h2, sc_neI h1 h2 h⟩
theorem sc_countL {post : Int32 → Prop} (a b : Nat) (ha : a < 15) (hb : b < 15) : ∀ (d i : Nat) (x : Int32), i + d = 16 →
    post (sc_sm (fun f => sc_ne (ct (16 * a + f)) (ct (16 * b + f)) (cc (16 * a + f)) (cc (16 * b + f))) d i x) →
    wX_countDiffering_5 post (nI a) (nI b) pc td ct cc pd pp pk (d + 1) x (nI i) := by
  intro d
  induction d with
  | zero => intro i x hi h; exact br_t (nI_le (a := 16) (by omega) (by omega)) h
  | succ d ih =>
    intro i x hi h
    have ih' := ih (i + 1) _ (by omega) h
    refine br_f (nI_ge (b := 16) (by omega) (by decide)) (sc_differs a b i ha hb (by omega) (br_c (fun e => ?_) (fun e => ?_)))
    · dsimp only at ih'
      rw [e, Int32.add_zero] at ih'
      exact nm_r (nI_1 i) ih'
    · dsimp only at ih'
      rw [(sc_ne01 _ _ _ _).resolve_left e] at ih'
      exact nm_e (nm_r (nI_1 i) ih')
theorem sc_countDiffering {post : Int32 → Prop} (a b : Nat) (ha : a < 15) (hb : b < 15)
    (h : post (sc_sm (fun f => sc_ne (ct (16 * a + f)) (ct (16 * b + f)) (cc (16 * a + f)) (cc (16 * b + f))) 16 0 0)) :
    wpX_countDiffering post (pc, td, ct, cc, pd, pp, pk) (nI a) (nI b) := ⟨17, sc_countL a b ha hb 16 0 0 rfl h⟩
theorem sc_copyCell {post : SX → Prop} (a b f : Nat) (ha : a < 15) (hb : b < 15) (hf : f < 16) (hB : sc_B ct)
    (h : post (pc, td, upd ct (16 * b + f) (ct (16 * a + f)), upd cc (16 * b + f) (cc (16 * a + f)), pd, pp, pk)) :
    wpX_copyCell post (pc, td, ct, cc, pd, pp, pk) (nI a) (nI b) (nI f) := by
  unfold wpX_copyCell wpX_cell
  dsimp only
  rw [sc_xc, sc_xc, nI_clamp (show 16 * a + f < 2 ^ 31 by omega), nI_clamp (show 16 * b + f < 2 ^ 31 by omega), sc_nB (hB _)]
  have h1 : vp_in (nI (16 * a + f)) 240 := vp_in_nI (by omega) (by decide)
  have h2 : vp_in (nI (16 * b + f)) 240 := vp_in_nI (by omega) (by decide)
  exact ⟨h1, h2, nm_e ⟨h1, h2, nm_e h⟩⟩
theorem sc_copyRowL {post : SX → Prop} (a b : Nat) (ha : a < 15) (hb : b < 15) (hB : sc_B ct)
    (h : post (pc, td, sc_cp ct a b 16, sc_cp cc a b 16, pd, pp, pk)) : ∀ (d k : Nat), k + d = 16 →
    wX_copyRow_2 post (nI a) (nI b) (d + 1) (nI k) pc td (sc_cp ct a b k) (sc_cp cc a b k) pd pp pk := by
  intro d
  induction d with
  | zero =>
    intro k hk
    obtain rfl : k = 16 := by omega
    exact br_t (nI_le (a := 16) (by omega) (by decide)) h
  | succ d ih =>
    intro k hk
    have ih' := ih (k + 1) (by omega)
    rw [← sc_cpS ct a b k (by omega), ← sc_cpS cc a b k (by omega)] at ih'
    refine br_f (nI_ge (b := 16) (by omega) (by decide)) (sc_copyCell a b k ha hb (by omega) (sc_cpB hB a b k) ?_)
    exact nm_r (nI_1 k) ih'
theorem sc_copyRow {post : SX → Prop} (a b : Nat) (ha : a < 15) (hb : b < 15) (hB : sc_B ct)
    (h : post (pc, td, sc_cp ct a b 16, sc_cp cc a b 16, pd, pp, pk)) :
    wpX_copyRow post (pc, td, ct, cc, pd, pp, pk) (nI a) (nI b) := by
  have k := sc_copyRowL a b ha hb hB h 16 0 rfl
  rw [sc_cp0, sc_cp0] at k
  exact ⟨17, k⟩
theorem sc_movePoint {post : SX → Prop} (s : Nat → Nat) (a b : Nat) (ha : a < 14) (hb : b < 14) (hB : sc_B ct) (hP : sc_B pp)
    (h : post (pc, td, sc_rows ct (sc_un s b (s a)), sc_rows cc (sc_un s b (s a)), sc_pt pd (sc_un s b (s a)), sc_pt pp (sc_un s b (s a)), pk)) :
    wpX_movePoint post (pc, td, sc_rows ct s, sc_rows cc s, sc_pt pd s, sc_pt pp s, pk) (nI a) (nI b) := by
  refine sc_copyRow (post := _) a b (by omega) (by omega) (sc_rowsB hB s) ?_
  dsimp only
  rw [nI_clamp (show a < 2 ^ 31 by omega), nI_clamp (show b < 2 ^ 31 by omega), sc_nB (sc_ptB hP s a), sc_rowsM, sc_rowsM, sc_ptM, sc_ptM]
  have h1 : vp_in (nI a) 14 := vp_in_nI ha (by decide)
  have h2 : vp_in (nI b) 14 := vp_in_nI hb (by decide)
  exact ⟨h1, h2, nm_e ⟨h1, h2, nm_e h⟩⟩
/-! loops of the public methods -/
/-- the contents after rewrite has gone from cell a up to cell b, the first of them being file f0's -/
def sc_rw (t g : Nat → Int32) (v w : Int32) (o a b : Nat) : Nat → Int32 := fun i => if a ≤ i ∧ i < b ∧ ¬ t i = 0 then v + nI (i - o) * w else g i
theorem sc_rw0 (t g : Nat → Int32) (v w : Int32) (o a : Nat) : sc_rw t g v w o a a = g := by
  funext i
  unfold sc_rw
  rw [if_neg (by omega)]
theorem sc_rwT {t g : Nat → Int32} {v w : Int32} {o a b : Nat} (e : t b = 0) : sc_rw t g v w o a b = sc_rw t g v w o a (b + 1) := by
  funext i
  unfold sc_rw
  by_cases h : i = b
  · subst h
    rw [if_neg (by omega), if_neg (fun k => k.2.2 e)]
  · by_cases k : a ≤ i ∧ i < b ∧ ¬ t i = 0
    · rw [if_pos k, if_pos ⟨k.1, by omega, k.2.2⟩]
    · rw [if_neg k, if_neg (fun z => k ⟨z.1, by omega, z.2.2⟩)]
theorem sc_rwF {t g : Nat → Int32} {v w : Int32} {o a b : Nat} (hab : a ≤ b) (e : ¬ t b = 0) : upd (sc_rw t g v w o a b) b (v + nI (b - o) * w) = sc_rw t g v w o a (b + 1) := by
  funext i
  unfold upd sc_rw
  by_cases h : i = b
  · subst h
    rw [if_pos rfl, if_pos ⟨hab, by omega, e⟩]
  · rw [if_neg h]
    by_cases k : a ≤ i ∧ i < b ∧ ¬ t i = 0
    · rw [if_pos k, if_pos ⟨k.1, by omega, k.2.2⟩]
    · rw [if_neg k, if_neg (fun z => k ⟨z.1, by omega, z.2.2⟩)]
def sc_nz (x : Int32) : Int32 := if x = 0 then 0 else 1
theorem sc_rewriteL {post : Int32 → SX → Prop} (v w : Int32) (f0 : Nat) : ∀ (d i : Nat) (x : Int32), i + d = 16 → f0 ≤ i →
    post (sc_sm (fun f => sc_nz (ct (224 + f))) d i x) (pc, td, ct, sc_rw ct cc v w 224 (224 + f0) 240, pd, pp, pk) →
    wX_rewrite_16 post v w pc td (d + 1) x (nI i) ct (sc_rw ct cc v w 224 (224 + f0) (224 + i)) pd pp pk := by
  intro d
  induction d with
  | zero =>
    intro i x hi h0 h
    obtain rfl : i = 16 := by omega
    exact br_t (nI_le (a := 16) (by omega) (by decide)) h
  | succ d ih =>
    intro i x hi h0 h
    have ih' := ih (i + 1) _ (by omega) (by omega) h
    refine br_f (nI_ge (b := 16) (by omega) (by decide)) ?_
    unfold wpX_cell
    dsimp only
    rw [sc_x14, nI_clamp (by omega)]
    have h1 : vp_in (nI (224 + i)) 240 := vp_in_nI (by omega) (by decide)
    dsimp only at ih'
    refine ⟨h1, br_c (fun e => ?_) (fun e => ⟨h1, ?_⟩)⟩
    · rw [show sc_nz (ct (224 + i)) = 0 from if_pos e, Int32.add_zero, show 224 + (i + 1) = (224 + i) + 1 from rfl, ← sc_rwT e] at ih'
      exact nm_r (nI_1 i) ih'
    · rw [show sc_nz (ct (224 + i)) = 1 from if_neg e, show 224 + (i + 1) = (224 + i) + 1 from rfl, ← sc_rwF (by omega) e, show 224 + i - 224 = i by omega] at ih'
      exact nm_e (nm_e (nm_r (nI_1 i) ih'))
theorem sc_versionsL {post : Int32 → Prop} {n : Nat} (f : Nat) (hf : f < 16) (hn : n ≤ 14) : ∀ (d i : Nat) (x : Int32), 1 ≤ i → n ≤ i + d → (i ≤ n ∨ d = 0) →
    post (sc_sm (fun p => sc_ne (ct (16 * (p - 1) + f)) (ct (16 * p + f)) (cc (16 * (p - 1) + f)) (cc (16 * p + f))) d i x) → i + d ≤ 15 → i + d = n ∨ d = 0 →
    wX_versions_14 post (nI f) (nI n) td ct cc pd pp pk (d + 1) x (nI i) := by
  intro d
  induction d with
  | zero => intro i x hi h1 h2 h h3 h4; exact br_t (nI_le (by omega) (by omega)) h
  | succ d ih =>
    intro i x hi h1 h2 h h3 h4
    have ih' := ih (i + 1) _ (by omega) (by omega) (by omega) h (by omega) (by omega)
    refine br_f (nI_ge (by omega) (by omega)) ?_
    obtain ⟨j, rfl⟩ : ∃ j, i = j + 1 := ⟨i - 1, by omega⟩
    rw [nI_pred]
    refine sc_differs j (j + 1) f (by omega) (by omega) hf (br_c (fun e => ?_) (fun e => ?_))
    · dsimp only at ih'
      rw [Nat.add_sub_cancel, e, Int32.add_zero] at ih'
      exact nm_r (nI_1 (j + 1)) ih'
    · dsimp only at ih'
      rw [Nat.add_sub_cancel, (sc_ne01 _ _ _ _).resolve_left e] at ih'
      exact nm_e (nm_r (nI_1 (j + 1)) ih')
theorem sc_sumL {post : Int32 → Prop} (p : Nat) (hp : p < 15) : ∀ (d i : Nat) (x : Int32), i + d = 16 →
    post (sc_sm (fun f => cc (16 * p + f)) d i x) → wX_sum_14 post (nI p) pc td ct cc pd pp pk (d + 1) x (nI i) := by
  intro d
  induction d with
  | zero => intro i x hi h; exact br_t (nI_le (a := 16) (by omega) (by omega)) h
  | succ d ih =>
    intro i x hi h
    have ih' := ih (i + 1) _ (by omega) h
    refine br_f (nI_ge (b := 16) (by omega) (by decide)) ?_
    unfold wpX_cell
    dsimp only
    rw [sc_xc, nI_clamp (by omega)]
    exact ⟨vp_in_nI (by omega) (by decide), nm_e (nm_r (nI_1 i) ih')⟩
theorem sc_forgetL {post : Int32 → SX → Prop} {n p : Nat} (hn : n ≤ 14) (hB : sc_B ct) (hP : sc_B pp)
    (h : post (nI (n - 1)) (nI (n - 1), td, sc_rows ct (sc_sh id p (n - 1)), sc_rows cc (sc_sh id p (n - 1)), sc_pt pd (sc_sh id p (n - 1)), sc_pt pp (sc_sh id p (n - 1)), pk)) :
    ∀ (d q : Nat), p ≤ q → q + 1 + d = n →
    wX_forget_26 post (d + 1) (nI (q + 1)) (nI n) td (sc_rows ct (sc_sh id p q)) (sc_rows cc (sc_sh id p q)) (sc_pt pd (sc_sh id p q)) (sc_pt pp (sc_sh id p q)) pk := by
  intro d
  induction d with
  | zero =>
    intro q hq e
    obtain rfl : n = q + 1 := by omega
    exact br_t (nI_le (by omega) (by omega)) (nm_r (nI_pred q) h)
  | succ d ih =>
    intro q hq e
    have ih' := ih (q + 1) (by omega) (by omega)
    refine br_f (nI_ge (by omega) (by omega)) ?_
    rw [nI_pred]
    refine sc_movePoint (sc_sh id p q) (q + 1) q (by omega) (by omega) hB hP ?_
    rw [← sc_shS id hq] at ih'
    exact nm_r (nI_1 (q + 1)) ih'
end
