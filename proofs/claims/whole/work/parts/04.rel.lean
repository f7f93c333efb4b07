/-! the relation: n points, day d, the points' days D -/
def sc_R (n d : Nat) (D : Nat → Nat) (ct cc pd pp lt lv hd cn dy pn kp : Nat → Int32) : Prop :=
  (n ≤ 14 ∧ d ≤ 5000) ∧ (sc_B ct ∧ sc_B pp ∧ sc_B lt ∧ sc_B hd ∧ sc_B pn ∧ sc_B kp) ∧
  (∀ f, f < 16 → ct (224 + f) = lt f ∧ cc (224 + f) = lv f ∧ (lt f = 0 → lv f = 0)) ∧
  (∀ i, i < 16 * n → ct i = hd i ∧ cc i = cn i ∧ (hd i = 0 → cn i = 0)) ∧
  (∀ p, p < n → pd p = nI (D p) ∧ dy p = nI (D p) ∧ pp p = pn p ∧ D p ≤ d) ∧
  (∀ i j, i ≤ j → j < n → D i ≤ D j)
def i_Rel (_ : Nat) (u : SX) (v : SY) : Prop := ∃ (n d : Nat) (D : Nat → Nat) (ct cc pd pp pk lt lv hd cn dy pn kp : Nat → Int32),
  u = (nI n, nI d, ct, cc, pd, pp, pk) ∧ v = (nI d, nI n, lt, lv, hd, cn, dy, pn, kp) ∧ sc_R n d D ct cc pd pp lt lv hd cn dy pn kp
theorem i_up {k : Nat} {u : SX} {v : SY} (h : i_Rel k u v) : i_Rel (k + 4) u v := h
section
variable {n d : Nat} {D : Nat → Nat} {ct cc pd pp pk lt lv hd cn dy pn kp : Nat → Int32}
theorem sc_mk {k : Nat} (h : sc_R n d D ct cc pd pp lt lv hd cn dy pn kp) : i_Rel k (nI n, nI d, ct, cc, pd, pp, pk) (nI d, nI n, lt, lv, hd, cn, dy, pn, kp) :=
  ⟨n, d, D, ct, cc, pd, pp, pk, lt, lv, hd, cn, dy, pn, kp, rfl, rfl, h⟩
theorem sc_R0 : sc_R 0 0 (fun _ => 0) (fun _ => 0) (fun _ => 0) (fun _ => 0) (fun _ => 0) (fun _ => 0) (fun _ => 0) (fun _ => 0) (fun _ => 0) (fun _ => 0) (fun _ => 0) (fun _ => 0) :=
  ⟨⟨by decide, by decide⟩, ⟨fun _ => Or.inl rfl, fun _ => Or.inl rfl, fun _ => Or.inl rfl, fun _ => Or.inl rfl, fun _ => Or.inl rfl, fun _ => Or.inl rfl⟩,
    fun _ _ => ⟨rfl, rfl, fun _ => rfl⟩, fun _ _ => ⟨rfl, rfl, fun _ => rfl⟩, fun _ h => absurd h (by omega), fun _ _ _ _ => Nat.le_refl 0⟩
theorem sc_Rset {f : Nat} {b c : Int32} (R : sc_R n d D ct cc pd pp lt lv hd cn dy pn kp) (hf : f < 16) (hb : b = 0 ∨ b = 1) (hc : b = 0 → c = 0) :
    sc_R n d D (upd ct (224 + f) b) (upd cc (224 + f) c) pd pp (upd lt f b) (upd lv f c) hd cn dy pn kp := by
  obtain ⟨h1, ⟨hB1, hB2, hB3, hB4, hB5, hB6⟩, hL, hC, hP, hD⟩ := R
  refine ⟨h1, ⟨sc_Bu hB1 _ hb, hB2, sc_Bu hB3 _ hb, hB4, hB5, hB6⟩, fun g hg => ?_, fun i hi => ?_, hP, hD⟩
  · by_cases e : g = f
    · subst e
      rw [pk_us, pk_us, pk_us, pk_us]
      exact ⟨rfl, rfl, hc⟩
    · have e2 : 224 + g ≠ 224 + f := by omega
      rw [pk_un e2, pk_un e2, pk_un e, pk_un e]
      exact hL g hg
  · rw [pk_un (by omega), pk_un (by omega)]
    exact hC i hi
theorem sc_Rrw {f0 : Nat} {v w : Int32} (R : sc_R n d D ct cc pd pp lt lv hd cn dy pn kp) :
    sc_R n d D ct (sc_rw ct cc v w 224 (224 + f0) 240) pd pp lt (sc_rw lt lv v w 0 f0 16) hd cn dy pn kp := by
  obtain ⟨h1, hB, hL, hC, hP, hD⟩ := R
  refine ⟨h1, hB, fun g hg => ?_, fun i hi => ?_, hP, hD⟩
  · obtain ⟨e1, e2, e3⟩ := hL g hg
    refine ⟨e1, ?_, fun e => ?_⟩
    · unfold sc_rw
      by_cases c : f0 ≤ g ∧ g < 16 ∧ ¬ lt g = 0
      · rw [if_pos c, if_pos ⟨by omega, by omega, by rw [e1]; exact c.2.2⟩, Nat.add_sub_cancel_left, Nat.sub_zero]
      · rw [if_neg c, if_neg (fun z => c ⟨by omega, hg, by rw [← e1]; exact z.2.2⟩), e2]
    · unfold sc_rw
      rw [if_neg (fun z => z.2.2 e)]
      exact e3 e
  · obtain ⟨e1, e2, e3⟩ := hC i hi
    refine ⟨e1, ?_, e3⟩
    unfold sc_rw
    rw [if_neg (by omega)]
    exact e2
theorem sc_Rday {x : Nat} (R : sc_R n d D ct cc pd pp lt lv hd cn dy pn kp) (h : d + x ≤ 5000) : sc_R n (d + x) D ct cc pd pp lt lv hd cn dy pn kp := by
  obtain ⟨h1, hB, hL, hC, hP, hD⟩ := R
  exact ⟨⟨h1.1, h⟩, hB, hL, hC, fun p hp => ⟨(hP p hp).1, (hP p hp).2.1, (hP p hp).2.2.1, by have := (hP p hp).2.2.2; omega⟩, hD⟩
theorem sc_Rtake (R : sc_R n d D ct cc pd pp lt lv hd cn dy pn kp) (h : n < 14) :
    sc_R (n + 1) d (fun i => if i = n then d else D i) (sc_cp ct 14 n 16) (sc_cp cc 14 n 16) (upd pd n (nI d)) (upd pp n 0) lt lv (sc_tk hd lt n 16) (sc_tk cn lv n 16) (upd dy n (nI d)) (upd pn n 0) kp := by
  obtain ⟨h1, ⟨hB1, hB2, hB3, hB4, hB5, hB6⟩, hL, hC, hP, hD⟩ := R
  refine ⟨⟨by omega, h1.2⟩, ⟨sc_cpB hB1 _ _ _, sc_Bu hB2 _ (Or.inl rfl), hB3, sc_tkB hB4 hB3 _ _, sc_Bu hB5 _ (Or.inl rfl), hB6⟩, fun g hg => ?_, fun i hi => ?_, fun p hp => ?_, fun i j hij hj => ?_⟩
  · unfold sc_cp
    rw [if_neg (by omega), if_neg (by omega)]
    exact hL g hg
  · unfold sc_cp sc_tk
    by_cases e : 16 * n ≤ i ∧ i < 16 * n + 16
    · rw [if_pos e, if_pos e, if_pos e, if_pos e]
      exact hL (i - 16 * n) (by omega)
    · rw [if_neg e, if_neg e, if_neg e, if_neg e]
      exact hC i (by omega)
  · dsimp only
    by_cases e : p = n
    · subst e
      rw [pk_us, pk_us, pk_us, pk_us, if_pos rfl]
      exact ⟨rfl, rfl, rfl, Nat.le_refl d⟩
    · rw [pk_un e, pk_un e, pk_un e, pk_un e, if_neg e]
      exact hP p (by omega)
  · dsimp only
    by_cases e : j = n
    · rw [if_pos e]
      by_cases e2 : i = n
      · rw [if_pos e2]; exact Nat.le_refl d
      · rw [if_neg e2]; exact (hP i (by omega)).2.2.2
    · rw [if_neg e, if_neg (show ¬ i = n by omega)]
      exact hD i j hij (by omega)
theorem sc_Rback {p : Nat} (R : sc_R n d D ct cc pd pp lt lv hd cn dy pn kp) (hp : p < n) :
    sc_R n d D (sc_cp ct p 14 16) (sc_cp cc p 14 16) pd pp (sc_bk lt hd p 16) (sc_bk lv cn p 16) hd cn dy pn kp := by
  obtain ⟨h1, ⟨hB1, hB2, hB3, hB4, hB5, hB6⟩, hL, hC, hP, hD⟩ := R
  refine ⟨h1, ⟨sc_cpB hB1 _ _ _, hB2, fun i => ?_, hB4, hB5, hB6⟩, fun g hg => ?_, fun i hi => ?_, hP, hD⟩
  · unfold sc_bk
    by_cases e : i < 16
    · rw [if_pos e]; exact hB4 _
    · rw [if_neg e]; exact hB3 _
  · unfold sc_cp sc_bk
    have e : 16 * 14 ≤ 224 + g ∧ 224 + g < 16 * 14 + 16 := by omega
    rw [if_pos e, if_pos e, if_pos hg, if_pos hg, show 16 * p + (224 + g - 16 * 14) = 16 * p + g by omega]
    exact hC (16 * p + g) (by omega)
  · unfold sc_cp
    rw [if_neg (by omega), if_neg (by omega)]
    exact hC i hi
/-- the points taken along a row map -/
theorem sc_Rix {c : Nat} {s t : Nat → Nat} (R : sc_R n d D ct cc pd pp lt lv hd cn dy pn kp) (hc : c ≤ 14) (h14 : s 14 = 14)
    (hst : ∀ j, j < c → s j = t j ∧ s j < n) (hm : ∀ i j, i ≤ j → j < c → s i ≤ s j) :
    sc_R c d (fun j => D (s j)) (sc_rows ct s) (sc_rows cc s) (sc_pt pd s) (sc_pt pp s) lt lv (sc_rows hd t) (sc_rows cn t) (sc_pt dy t) (sc_pt pn t) (sc_pt kp t) := by
  obtain ⟨h1, ⟨hB1, hB2, hB3, hB4, hB5, hB6⟩, hL, hC, hP, hD⟩ := R
  refine ⟨⟨hc, h1.2⟩, ⟨sc_rowsB hB1 _, sc_ptB hB2 _, hB3, sc_rowsB hB4 _, sc_ptB hB5 _, sc_ptB hB6 _⟩, fun g hg => ?_, fun i hi => ?_, fun p hp => ?_, fun i j hij hj => ?_⟩
  · rw [show 224 + g = 16 * 14 + g from rfl, sc_rowsA ct s hg, sc_rowsA cc s hg, h14]
    exact hL g hg
  · obtain ⟨e1, e2⟩ := hst (i / 16) (by omega)
    unfold sc_rows
    rw [← e1]
    exact hC _ (by omega)
  · obtain ⟨e1, e2⟩ := hst p hp
    unfold sc_pt
    rw [← e1]
    exact hP _ e2
  · exact hD _ _ (hm i j hij hj) (hst j hj).2
theorem sc_Rkp {kq : Nat → Int32} (R : sc_R n d D ct cc pd pp lt lv hd cn dy pn kp) (h : sc_B kq) : sc_R n d D ct cc pd pp lt lv hd cn dy pn kq := by
  obtain ⟨h1, ⟨hB1, hB2, hB3, hB4, hB5, hB6⟩, hr⟩ := R
  exact ⟨h1, ⟨hB1, hB2, hB3, hB4, hB5, h⟩, hr⟩
end
theorem i_vc0 : wpX_init (fun u => wpY_init (fun v => i_Rel 0 u v)) := sc_mk (k := 0) sc_R0
