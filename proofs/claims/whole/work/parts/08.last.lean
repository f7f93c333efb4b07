/-! the last step, over the kept points of both sides -/
theorem sc_pruneXY {k n d a : Nat} {D : Nat → Nat} {ct cc pd pp pk lt lv hd cn dy pn kp : Nat → Int32} (h0 : ¬ nI a < 0) (h9 : nI a ≤ 999) (ha : a ≤ 999) (R : sc_R n d D ct cc pd pp lt lv hd cn dy pn kp) :
    wpX_takeOutUnkept (fun r u' => wpY_prune (fun r' v' => r' = r ∧ i_Rel (k + 4) u' v') (nI d, nI n, lt, lv, hd, cn, dy, pn, kp) (nI a))
      (nI n, nI d, ct, cc, pd, pp, sc_K n D a (sc_fl (sc_v n pp) pk n)) := by
  have R' := R
  obtain ⟨⟨hn, hd5⟩, ⟨hB1, hB2, hB3, hB4, hB5, hB6⟩, hL, hC, hP, hD⟩ := R'
  have PY : ∀ q, q < n → dy q = nI (D q) ∧ D q ≤ 5000 := fun q hq => ⟨(hP q hq).2.1, by have := (hP q hq).2.2.2; omega⟩
  have KK : ∀ i, i < n → sc_K n D a (sc_fl (sc_v n pp) pk n) i = sc_K n D a (sc_fl (sc_w n pn) kp 14) i := by
    refine sc_khC _ _ _ _ (sc_khC _ _ _ _ (sc_khC _ _ _ _ (fun i hi => ?_)))
    unfold sc_fl sc_w sc_v
    rw [if_pos hi, if_pos (show i < 14 by omega), if_neg (show ¬ n ≤ i by omega), (hP i hi).2.2.1]
  have KB : sc_B (sc_K n D a (sc_fl (sc_w n pn) kp 14)) := sc_khB _ _ _ (sc_khB _ _ _ (sc_khB _ _ _ (sc_wB n pn kp hB6 14)))
  generalize sc_K n D a (sc_fl (sc_v n pp) pk n) = kx at KK ⊢
  have CC : ∀ q, q ≤ n → sc_cnt kx q = sc_cnt (sc_K n D a (sc_fl (sc_w n pn) kp 14)) q := fun q hq => sc_cntC q (fun i hi => KK i (by omega))
  have z := sc_takeOutX (post := fun r u' => wpY_prune (fun r' v' => r' = r ∧ i_Rel (k + 4) u' v') (nI d, nI n, lt, lv, hd, cn, dy, pn, kp) (nI a)) (td := nI d) (ct := ct) (cc := cc) (pd := pd) (pp := pp) (k := kx) hn hB1 hB2 (fun s hs => ?_) n 0 id (by omega) (sc_IX0 kx)
  · rw [sc_rowsI, sc_rowsI, sc_ptI, sc_ptI] at z
    exact ⟨_, z⟩
  · unfold wpY_prune
    dsimp only
    refine br_f h0 (br_t h9 (sc_pruneY (D := D) (by omega) hn PY hD (sc_takeOutYZ hn hB4 hB5 KB (fun t ht => ?_))))
    rw [← CC n (Nat.le_refl n)]
    have hcn := sc_cntB kx n
    have look : ∀ j, j < sc_cnt kx n → ∃ q, q < n ∧ ¬ kx q = 0 ∧ sc_cnt kx q = j ∧ s j = q ∧ t j = q := by
      intro j hj
      obtain ⟨q, h1, h2, h3⟩ := sc_cntE kx n j hj
      refine ⟨q, h1, h2, h3, ?_, ?_⟩
      · rw [← h3]; exact hs.2 q h1 h2
      · have h4 := ht.2 q (Nat.zero_le q) h1 (fun y => h2 ((KK q h1).trans y))
        rw [← CC q (by omega), h3, show sc_cnt (sc_K n D a (sc_fl (sc_w n pn) kp 14)) 0 = 0 from rfl, Nat.sub_zero, Nat.zero_add] at h4
        exact h4
    refine ⟨rfl, sc_mk (sc_Rix (sc_Rkp R KB) (by omega) (hs.1 14 hn) (fun j hj => ?_) (fun i j hij hj => ?_))⟩
    · obtain ⟨q, h1, h2, h3, h4, h5⟩ := look j hj
      exact ⟨h4.trans h5.symm, by omega⟩
    · obtain ⟨q, h1, h2, h3, h4, h5⟩ := look i (by omega)
      obtain ⟨q', h1', h2', h3', h4', h5'⟩ := look j hj
      rw [h4, h4']
      by_cases c : q ≤ q'
      · exact c
      · have := sc_cntLt kx (show q' < q by omega) h2'
        omega
theorem i_vc_prune {k : Nat} {u : SX} {v : SY} (I : i_Rel k u v) (hk : k + 4 ≤ 2048) (v1 : Int32) : wpX_prune (fun r u' => wpY_prune (fun r' v' => r' = r ∧ i_Rel (k + 4) u' v') v v1) u v1 := by
  obtain ⟨n, d, D, ct, cc, pd, pp, pk, lt, lv, hd, cn, dy, pn, kp, rfl, rfl, R⟩ := I
  have R' := R
  obtain ⟨⟨hn, hd5⟩, ⟨hB1, hB2, hB3, hB4, hB5, hB6⟩, hL, hC, hP, hD⟩ := R'
  by_cases h0 : v1 < 0
  · unfold wpX_prune
    dsimp only
    refine br_t h0 ?_
    unfold wpY_prune
    exact br_t h0 ⟨rfl, sc_mk R⟩
  · by_cases h9 : v1 ≤ 999
    · obtain ⟨a, ha, rfl⟩ := nI_of2 (M := 999) (n := 999) (by decide) h0 h9
      have PX : ∀ q, q < n → pd q = nI (D q) ∧ D q ≤ 5000 := fun q hq => ⟨(hP q hq).1, by have := (hP q hq).2.2.2; omega⟩
      have PY : ∀ q, q < n → dy q = nI (D q) ∧ D q ≤ 5000 := fun q hq => ⟨(hP q hq).2.1, by have := (hP q hq).2.2.2; omega⟩
      have e4 : nI a - nI a / 10 * 10 = nI (a % 10) := pk_rem (d := 10) (by omega) (by decide) (by decide)
      have e1 : nI a / 100 = nI (a / 100) := pk_div (d := 100) (by omega) (by decide) (by decide)
      have e2 : nI a / 10 = nI (a / 10) := pk_div (d := 10) (by omega) (by decide) (by decide)
      have e3 : nI (a / 10) - nI (a / 10) / 10 * 10 = nI (a / 10 % 10) := pk_rem (d := 10) (by omega) (by decide) (by decide)
      unfold wpX_prune
      dsimp only
      rw [e4, e1, e2, e3]
      refine br_f h0 (br_t h9 (sc_keepOnly hn ⟨by decide, sc_keepHeads (D := D) 1 (a / 100) (Or.inl ⟨rfl, rfl⟩) hn (by omega) PX ⟨by decide, by decide, sc_keepHeads (D := D) 7 (a / 10 % 10) (Or.inr (Or.inl ⟨rfl, rfl⟩)) hn (by omega) PX ⟨by decide, sc_keepHeads (D := D) 28 (a % 10) (Or.inr (Or.inr ⟨rfl, rfl⟩)) hn (by omega) PX ?_⟩⟩⟩))
      dsimp only
      exact sc_pruneXY h0 h9 ha R
    · unfold wpX_prune
      dsimp only
      refine br_f h0 (br_f h9 ?_)
      unfold wpY_prune
      exact br_f h0 (br_f h9 ⟨rfl, sc_mk R⟩)
