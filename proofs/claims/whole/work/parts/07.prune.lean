/-! prune: taking out what isn't kept -/
/-- how many of the first p are kept -/
def sc_cnt (k : Nat → Int32) : Nat → Nat
  | 0 => 0
  | p + 1 => sc_cnt k p + (if k p = 0 then 0 else 1)
theorem sc_cntZ {k : Nat → Int32} {p : Nat} (h : k p = 0) : sc_cnt k (p + 1) = sc_cnt k p := by
  show sc_cnt k p + (if k p = 0 then 0 else 1) = sc_cnt k p
  rw [if_pos h]
  rfl
theorem sc_cntS {k : Nat → Int32} {p : Nat} (h : ¬ k p = 0) : sc_cnt k (p + 1) = sc_cnt k p + 1 := by
  show sc_cnt k p + (if k p = 0 then 0 else 1) = sc_cnt k p + 1
  rw [if_neg h]
theorem sc_cntM (k : Nat → Int32) : ∀ (d p : Nat), sc_cnt k p ≤ sc_cnt k (p + d) := by
  intro d
  induction d with
  | zero => intro p; exact Nat.le_refl _
  | succ d ih =>
    intro p
    have h := ih p
    rw [← Nat.add_assoc]
    by_cases e : k (p + d) = 0
    · rw [sc_cntZ e]; exact h
    · rw [sc_cntS e]; omega
theorem sc_cntLe (k : Nat → Int32) {p q : Nat} (h : p ≤ q) : sc_cnt k p ≤ sc_cnt k q := by
  have := sc_cntM k (q - p) p
  rw [show p + (q - p) = q by omega] at this
  exact this
theorem sc_cntLt (k : Nat → Int32) {p q : Nat} (h : p < q) (hk : ¬ k p = 0) : sc_cnt k p < sc_cnt k q := by
  have h1 := sc_cntLe k (show p + 1 ≤ q by omega)
  rw [sc_cntS hk] at h1
  omega
theorem sc_cntB (k : Nat → Int32) : ∀ p, sc_cnt k p ≤ p := by
  intro p
  induction p with
  | zero => exact Nat.le_refl _
  | succ p ih =>
    by_cases e : k p = 0
    · rw [sc_cntZ e]; omega
    · rw [sc_cntS e]; omega
theorem sc_cntE (k : Nat → Int32) : ∀ (n j : Nat), j < sc_cnt k n → ∃ q, q < n ∧ ¬ k q = 0 ∧ sc_cnt k q = j := by
  intro n
  induction n with
  | zero => intro j h; exact absurd h (Nat.not_lt_zero j)
  | succ n ih =>
    intro j h
    by_cases e : k n = 0
    · rw [sc_cntZ e] at h
      obtain ⟨q, h1, h2, h3⟩ := ih j h
      exact ⟨q, by omega, h2, h3⟩
    · rw [sc_cntS e] at h
      by_cases c : j = sc_cnt k n
      · exact ⟨n, by omega, e, c.symm⟩
      · obtain ⟨q, h1, h2, h3⟩ := ih j (by omega)
        exact ⟨q, by omega, h2, h3⟩
theorem sc_cntC {k k' : Nat → Int32} : ∀ (n : Nat), (∀ i, i < n → k i = k' i) → sc_cnt k n = sc_cnt k' n := by
  intro n
  induction n with
  | zero => intro _; rfl
  | succ n ih =>
    intro h
    have h1 := ih (fun i hi => h i (by omega))
    have h2 := h n (by omega)
    by_cases e : k n = 0
    · rw [sc_cntZ e, sc_cntZ (h2.symm.trans e), h1]
    · rw [sc_cntS e, sc_cntS (fun z => e (h2.trans z)), h1]
/-- the component has gone through the first p -/
def sc_IX (k : Nat → Int32) (p : Nat) (s : Nat → Nat) : Prop := (∀ j, p ≤ j → s j = j) ∧ (∀ q, q < p → ¬ k q = 0 → s (sc_cnt k q) = q)
theorem sc_IX0 (k : Nat → Int32) : sc_IX k 0 id := ⟨fun _ _ => rfl, fun q h => absurd h (Nat.not_lt_zero q)⟩
theorem sc_IXz {k : Nat → Int32} {p : Nat} {s : Nat → Nat} (h : sc_IX k p s) (e : k p = 0) : sc_IX k (p + 1) s := by
  refine ⟨fun j hj => h.1 j (by omega), fun q hq hk => ?_⟩
  by_cases c : q = p
  · subst c
    exact absurd e hk
  · exact h.2 q (by omega) hk
theorem sc_IXs {k : Nat → Int32} {p : Nat} {s : Nat → Nat} (h : sc_IX k p s) (e : ¬ k p = 0) : sc_IX k (p + 1) (sc_un s (sc_cnt k p) (s p)) := by
  have hb := sc_cntB k p
  refine ⟨fun j hj => ?_, fun q hq hk => ?_⟩
  · unfold sc_un
    rw [if_neg (by omega)]
    exact h.1 j (by omega)
  · unfold sc_un
    by_cases c : q = p
    · subst c
      rw [if_pos rfl]
      exact h.1 q (Nat.le_refl q)
    · have hl := sc_cntLt k (show q < p by omega) hk
      rw [if_neg (by omega)]
      exact h.2 q (by omega) hk
/-- the reference has gone through those from p on -/
def sc_IY (k : Nat → Int32) (n p : Nat) (t : Nat → Nat) : Prop := (∀ j, j < p → t j = j) ∧ (∀ q, p ≤ q → q < n → ¬ k q = 0 → t (p + (sc_cnt k q - sc_cnt k p)) = q)
theorem sc_IY0 (k : Nat → Int32) (n : Nat) : sc_IY k n n id := ⟨fun _ _ => rfl, fun q h1 h2 => absurd h2 (by omega)⟩
theorem sc_IYs {k : Nat → Int32} {n p : Nat} {t : Nat → Nat} (h : sc_IY k n (p + 1) t) (e : ¬ k p = 0) : sc_IY k n p t := by
  refine ⟨fun j hj => h.1 j (by omega), fun q h1 h2 hk => ?_⟩
  by_cases c : q = p
  · subst c
    rw [Nat.sub_self]
    exact h.1 q (by omega)
  · have h3 := h.2 q (by omega) h2 hk
    have h4 := sc_cntLe k (show p + 1 ≤ q by omega)
    rw [sc_cntS e] at h3 h4
    rw [show p + (sc_cnt k q - sc_cnt k p) = p + 1 + (sc_cnt k q - (sc_cnt k p + 1)) by omega]
    exact h3
theorem sc_IYz {k : Nat → Int32} {n p : Nat} {t : Nat → Nat} (h : sc_IY k n (p + 1) t) (e : k p = 0) : sc_IY k n p (sc_sh t p (p + (sc_cnt k n - sc_cnt k p))) := by
  refine ⟨fun j hj => ?_, fun q h1 h2 hk => ?_⟩
  · unfold sc_sh
    rw [if_neg (by omega)]
    exact h.1 j (by omega)
  · have c : ¬ q = p := fun z => hk (by rw [z]; exact e)
    have h3 := h.2 q (by omega) h2 hk
    have h4 := sc_cntLt k h2 hk
    have h5 := sc_cntLe k h1
    rw [sc_cntZ e] at h3
    unfold sc_sh
    rw [if_pos (by omega), show p + (sc_cnt k q - sc_cnt k p) + 1 = p + 1 + (sc_cnt k q - sc_cnt k p) by omega]
    exact h3
theorem sc_takeOutX {post : Int32 → SX → Prop} {td : Int32} {ct cc pd pp k : Nat → Int32} {n : Nat} (hn : n ≤ 14) (hB : sc_B ct) (hP : sc_B pp)
    (h : ∀ s, sc_IX k n s → post (nI (n - sc_cnt k n)) (nI (sc_cnt k n), td, sc_rows ct s, sc_rows cc s, sc_pt pd s, sc_pt pp s, k)) : ∀ (d p : Nat) (s : Nat → Nat), p + d = n → sc_IX k p s →
    wX_takeOutUnkept_4 post (d + 1) (nI (sc_cnt k p)) (nI p) (nI n) td (sc_rows ct s) (sc_rows cc s) (sc_pt pd s) (sc_pt pp s) k := by
  intro d
  induction d with
  | zero =>
    intro p s hp hI
    obtain rfl : p = n := by omega
    exact br_t (nI_le (by omega) (by omega)) (nm_r (pk_sub (sc_cntB k p)) (h s hI))
  | succ d ih =>
    intro p s hp hI
    have hb := sc_cntB k p
    refine br_f (nI_ge (by omega) (by omega)) ?_
    rw [nI_clamp (show p < 2 ^ 31 by omega)]
    refine ⟨vp_in_nI (by omega) (by decide), br_c (fun e => ?_) (fun e => ?_)⟩
    · have ih' := ih (p + 1) s (by omega) (sc_IXz hI e)
      rw [sc_cntZ e] at ih'
      exact nm_r (nI_1 p) ih'
    · have ih' := ih (p + 1) _ (by omega) (sc_IXs hI e)
      rw [sc_cntS e] at ih'
      exact sc_movePoint s p (sc_cnt k p) (by omega) (by omega) hB hP (nm_r (nI_1 _) (nm_r (nI_1 p) ih'))
theorem sc_takeOutY {post : Int32 → SY → Prop} {td : Int32} {lt lv hd cn dy pn k : Nat → Int32} {n : Nat} (hn : n ≤ 14) (hB : sc_B hd) (hP : sc_B pn) (hK : sc_B k)
    (h : ∀ t, sc_IY k n 0 t → post (nI (n - sc_cnt k n)) (td, nI (sc_cnt k n), lt, lv, sc_rows hd t, sc_rows cn t, sc_pt dy t, sc_pt pn t, sc_pt k t)) : ∀ (p : Nat) (t : Nat → Nat), p ≤ n → sc_IY k n p t →
    wY_prune_102 post (p + 1) (nI (n - (p + (sc_cnt k n - sc_cnt k p)))) (nI p + (-1)) td (nI (p + (sc_cnt k n - sc_cnt k p))) lt lv (sc_rows hd t) (sc_rows cn t) (sc_pt dy t) (sc_pt pn t) (sc_pt k t) := by
  intro p
  induction p with
  | zero =>
    intro t hp hI
    rw [show sc_cnt k 0 = 0 from rfl, Nat.sub_zero, Nat.zero_add (sc_cnt k n)]
    exact br_t (by decide) (h t hI)
  | succ p ih =>
    intro t hp hI
    have hb := sc_cntB k p
    have hl := sc_cntLe k hp
    have hl2 := sc_cntM k (n - (p + 1)) (p + 1)
    have hbn := sc_cntB k n
    have tp : sc_pt k t p = k p := by
      show k (t p) = k p
      rw [hI.1 p (by omega)]
    have hd2 : sc_cnt k n - sc_cnt k (p + 1) ≤ n - (p + 1) := by
      have q : ∀ e, sc_cnt k (p + 1 + e) ≤ sc_cnt k (p + 1) + e := by
        intro e
        induction e with
        | zero => exact Nat.le_refl _
        | succ e ihe =>
          rw [← Nat.add_assoc]
          by_cases z : k (p + 1 + e) = 0
          · rw [sc_cntZ z]; omega
          · rw [sc_cntS z]; omega
      have q2 := q (n - (p + 1))
      rw [show p + 1 + (n - (p + 1)) = n by omega] at q2
      omega
    rw [pk_m1]
    refine br_f (nI_pos (by omega)) (br_f (nI_ge (by omega) (by omega)) ?_)
    rw [nI_clamp (show p < 2 ^ 31 by omega), tp]
    refine ⟨vp_in_nI (by omega) (by decide), br_c (fun e => ?_) (fun e => ?_)⟩
    · have hz := sc_cntZ e
      have hI2 := sc_IYz hI e
      have ih' := ih _ (by omega) hI2
      rw [hz] at hd2 hl ⊢
      have m1 : p + 1 + (sc_cnt k n - sc_cnt k p) - 1 = p + (sc_cnt k n - sc_cnt k p) := by omega
      refine sc_takeOut t (by omega) (by omega) hB hP hK ?_
      rw [m1]
      refine nm_r (nI_1 _) (nm_e ?_)
      rw [show n - (p + 1 + (sc_cnt k n - sc_cnt k p)) + 1 = n - (p + (sc_cnt k n - sc_cnt k p)) by omega]
      exact ih'
    · have hs := sc_cntS e
      have ih' := ih t (by omega) (sc_IYs hI e)
      rw [hs] at hd2 hl ⊢
      rw [show p + 1 + (sc_cnt k n - (sc_cnt k p + 1)) = p + (sc_cnt k n - sc_cnt k p) by omega]
      exact nm_e ih'
theorem sc_takeOutYY {post : Int32 → SY → Prop} {td : Int32} {lt lv hd cn dy pn k : Nat → Int32} {n : Nat} (hn : n ≤ 14) (hB : sc_B hd) (hP : sc_B pn) (hK : sc_B k)
    (h : ∀ t, sc_IY k n 0 t → post (nI (n - sc_cnt k n)) (td, nI (sc_cnt k n), lt, lv, sc_rows hd t, sc_rows cn t, sc_pt dy t, sc_pt pn t, sc_pt k t)) : ∀ (e : Nat), n + e ≤ 14 →
    wY_prune_102 post (n + e + 1) 0 (nI (n + e) + (-1)) td (nI n) lt lv hd cn dy pn k := by
  intro e
  induction e with
  | zero =>
    intro _
    have z := sc_takeOutY hn hB hP hK h n id (Nat.le_refl n) (sc_IY0 k n)
    rw [Nat.sub_self (sc_cnt k n), Nat.add_zero n, Nat.sub_self n, sc_rowsI, sc_rowsI, sc_ptI, sc_ptI, sc_ptI] at z
    exact z
  | succ e ih =>
    intro he
    rw [← Nat.add_assoc, pk_m1]
    exact br_f (nI_pos (by omega)) (br_t (nI_le (by omega) (by omega)) (nm_e (ih (by omega))))
theorem sc_takeOutYZ {post : Int32 → SY → Prop} {td : Int32} {lt lv hd cn dy pn k : Nat → Int32} {n : Nat} (hn : n ≤ 14) (hB : sc_B hd) (hP : sc_B pn) (hK : sc_B k)
    (h : ∀ t, sc_IY k n 0 t → post (nI (n - sc_cnt k n)) (td, nI (sc_cnt k n), lt, lv, sc_rows hd t, sc_rows cn t, sc_pt dy t, sc_pt pn t, sc_pt k t)) :
    ∃ n102 : Nat, wY_prune_102 post n102 0 13 td (nI n) lt lv hd cn dy pn k := by
  have z := sc_takeOutYY hn hB hP hK h (14 - n) (by omega)
  rw [show n + (14 - n) = 14 by omega] at z
  exact ⟨_, z⟩
/-- the kept points, of both sides' arrays -/
def sc_K (n : Nat) (D : Nat → Nat) (a : Nat) (k : Nat → Int32) : Nat → Int32 :=
  sc_kh (sc_h n D 28) (a % 10) n 0 (sc_kh (sc_h n D 7) (a / 10 % 10) n 0 (sc_kh (sc_h n D 1) (a / 100) n 0 k))
theorem sc_pruneYL {post : Int32 → SY → Prop} {td : Int32} {lt lv hd cn dy pn kp : Nat → Int32} {n a : Nat} {D : Nat → Nat} (ha : a < 1000) (hn : n ≤ 14)
    (hP : ∀ q, q < n → dy q = nI (D q) ∧ D q ≤ 5000) (hD : ∀ i j, i ≤ j → j < n → D i ≤ D j)
    (h : ∃ n102 : Nat, wY_prune_102 post n102 0 13 td (nI n) lt lv hd cn dy pn (sc_K n D a (sc_fl (sc_w n pn) kp 14))) : ∀ (d i : Nat), i + d = 14 →
    wY_prune_15 post (nI a) td (nI n) (d + 1) (nI i) lt lv hd cn dy pn (sc_fl (sc_w n pn) kp i) := by
  intro d
  induction d with
  | zero =>
    intro i hi
    obtain rfl : i = 14 := by omega
    have e4 : nI a - nI a / 10 * 10 = nI (a % 10) := pk_rem (d := 10) (by omega) (by decide) (by decide)
    have e1 : nI a / 100 = nI (a / 100) := pk_div (d := 100) (by omega) (by decide) (by decide)
    have e2 : nI a / 10 = nI (a / 10) := pk_div (d := 10) (by omega) (by decide) (by decide)
    have e3 : nI (a / 10) - nI (a / 10) / 10 * 10 = nI (a / 10 % 10) := pk_rem (d := 10) (by omega) (by decide) (by decide)
    refine br_t (nI_le (a := 14) (by omega) (by decide)) ?_
    rw [e4, e1, e2, e3]
    refine ⟨by decide, sc_keep (D := D) 1 (a / 100) (by decide) (by decide) hn (by omega) hP hD ⟨by decide, by decide, sc_keep (D := D) 7 (a / 10 % 10) (by decide) (by decide) hn (by omega) hP hD ⟨by decide, sc_keep (D := D) 28 (a % 10) (by decide) (by decide) hn (by omega) hP hD ?_⟩⟩⟩
    exact h
  | succ d ih =>
    intro i hi
    have ih' := ih (i + 1) (by omega)
    have h1 : vp_in (nI i) 14 := vp_in_nI (by omega) (by decide)
    refine br_f (nI_ge (b := 14) (by omega) (by decide)) ?_
    rw [nI_clamp (show i < 2 ^ 31 by omega), sc_n0, sc_n1]
    refine pk_le n i (fun e0 => ⟨h1, nm_e (nm_r (nI_1 i) ?_)⟩) (fun e0 => ?_)
    · rw [sc_flS (show (0 : Int32) = sc_w n pn i from (if_pos e0).symm)]
      exact ih'
    · obtain ⟨m, rfl⟩ : ∃ m, n = m + 1 := ⟨n - 1, by omega⟩
      rw [nI_pred]
      have ew : sc_w (m + 1) pn i = sc_v (m + 1) pn i := if_neg (by omega)
      refine ⟨h1, br_c (fun e => pk_eq i m (fun e2 => ⟨h1, nm_e (nm_r (nI_1 i) ?_)⟩) (fun e2 => ⟨h1, nm_e (nm_r (nI_1 i) ?_)⟩)) (fun e => ⟨h1, nm_e (nm_r (nI_1 i) ?_)⟩)⟩
      · rw [sc_flS (show (1 : Int32) = sc_w (m + 1) pn i from ew ▸ (if_neg (by omega)).symm)]
        exact ih'
      · rw [sc_flS (show (0 : Int32) = sc_w (m + 1) pn i from ew ▸ (if_pos ⟨e, by omega⟩).symm)]
        exact ih'
      · rw [sc_flS (show (1 : Int32) = sc_w (m + 1) pn i from ew ▸ (if_neg (fun z => e z.1)).symm)]
        exact ih'
theorem sc_pruneY {post : Int32 → SY → Prop} {td : Int32} {lt lv hd cn dy pn kp : Nat → Int32} {n a : Nat} {D : Nat → Nat} (ha : a < 1000) (hn : n ≤ 14)
    (hP : ∀ q, q < n → dy q = nI (D q) ∧ D q ≤ 5000) (hD : ∀ i j, i ≤ j → j < n → D i ≤ D j)
    (h : ∃ n102 : Nat, wY_prune_102 post n102 0 13 td (nI n) lt lv hd cn dy pn (sc_K n D a (sc_fl (sc_w n pn) kp 14))) :
    ∃ n15 : Nat, wY_prune_15 post (nI a) td (nI n) n15 0 lt lv hd cn dy pn kp := by
  have k := sc_pruneYL ha hn hP hD h 14 0 rfl
  rw [sc_fl0] at k
  exact ⟨_, k⟩
