/-! the public methods but prune -/
section
variable {td ps : Int32} {lt lv hd cn dy pn kp : Nat → Int32}
theorem sc_putY {post : Int32 → SY → Prop} {f : Nat} {v z : Int32} (hf : f < 16) (h : post z (td, ps, upd lt f 1, upd lv f v, hd, cn, dy, pn, kp)) :
    wY_put_24 post (nI f) v z td ps lt lv hd cn dy pn kp := by
  unfold wY_put_24
  rw [nI_clamp (by omega), sc_n1]
  have h1 : vp_in (nI f) 16 := vp_in_nI hf (by decide)
  exact ⟨h1, nm_e ⟨h1, nm_e h⟩⟩
theorem sc_deleteY {post : Int32 → SY → Prop} {f : Nat} {z : Int32} (hf : f < 16) (h : post z (td, ps, upd lt f 0, upd lv f 0, hd, cn, dy, pn, kp)) :
    wY_delete_24 post (nI f) z td ps lt lv hd cn dy pn kp := by
  unfold wY_delete_24
  rw [nI_clamp (by omega), sc_n0]
  have h1 : vp_in (nI f) 16 := vp_in_nI hf (by decide)
  exact ⟨h1, nm_e ⟨h1, nm_e h⟩⟩
theorem sc_rewriteY {post : Int32 → SY → Prop} {v w : Int32} (f : Nat) (hf : f < 16)
    (h : post (sc_sm (fun f => sc_nz (lt f)) (16 - f) f 0) (td, ps, lt, sc_rw lt lv v w 0 f 16, hd, cn, dy, pn, kp)) :
    ∃ n16 : Nat, wY_rewrite_16 post v w td ps n16 0 (nI f) lt lv hd cn dy pn kp := by
  have k := sc_rewriteYL v w f (16 - f) f 0 (by omega) (Nat.le_refl f) h
  rw [sc_rw0] at k
  exact ⟨_, k⟩
theorem sc_takeY {post : Int32 → SY → Prop} (p : Nat) (hp : p < 14) (hB : sc_B lt)
    (h : post (nI p) (td, nI (p + 1), lt, lv, sc_tk hd lt p 16, sc_tk cn lv p 16, upd dy p td, upd pn p 0, kp)) :
    ∃ n27 : Nat, wY_take_27 post (nI p) td ps n27 0 lt lv hd cn dy pn kp := by
  have k := sc_takeL (ps := ps) p hp hB h 16 0 rfl
  rw [sc_tk0, sc_tk0] at k
  exact ⟨17, k⟩
theorem sc_restoreY {post : Int32 → SY → Prop} (p : Nat) (hp : p < 14) (hB : sc_B hd)
    (h : post (sc_sm (fun f => sc_ne (lt f) (hd (16 * p + f)) (lv f) (cn (16 * p + f))) 16 0 0) (td, ps, sc_bk lt hd p 16, sc_bk lv cn p 16, hd, cn, dy, pn, kp)) :
    ∃ n14 : Nat, wY_restore_14 post (nI p) n14 0 0 td ps lt lv hd cn dy pn kp := by
  have k := sc_restoreL p hp hB 16 0 0 rfl h
  rw [sc_bk0, sc_bk0] at k
  exact ⟨17, k⟩
theorem sc_pinY0 {post : Int32 → SY → Prop} {p : Nat} {v z : Int32} (hp : p < 14) (e : v = 0) (h : post z (td, ps, lt, lv, hd, cn, dy, upd pn p 0, kp)) :
    wY_pin_24 post (nI p) v z td ps lt lv hd cn dy pn kp := by
  unfold wY_pin_24
  rw [nI_clamp (by omega), sc_n0]
  exact br_t e ⟨vp_in_nI hp (by decide), nm_e h⟩
theorem sc_pinY1 {post : Int32 → SY → Prop} {p : Nat} {v z : Int32} (hp : p < 14) (e : ¬ v = 0) (h : post z (td, ps, lt, lv, hd, cn, dy, upd pn p 1, kp)) :
    wY_pin_24 post (nI p) v z td ps lt lv hd cn dy pn kp := by
  unfold wY_pin_24
  rw [nI_clamp (by omega), sc_n1]
  exact br_f e ⟨vp_in_nI hp (by decide), nm_e h⟩
end
section
variable {pc td : Int32} {ct cc pd pp pk : Nat → Int32}
theorem sc_rewriteX {post : Int32 → SX → Prop} {v w : Int32} (f : Nat) (hf : f < 16)
    (h : post (sc_sm (fun f => sc_nz (ct (224 + f))) (16 - f) f 0) (pc, td, ct, sc_rw ct cc v w 224 (224 + f) 240, pd, pp, pk)) :
    ∃ n16 : Nat, wX_rewrite_16 post v w pc td n16 0 (nI f) ct cc pd pp pk := by
  have k := sc_rewriteL v w f (16 - f) f 0 (by omega) (Nat.le_refl f) h
  rw [sc_rw0] at k
  exact ⟨_, k⟩
theorem sc_pinX {post : Int32 → SX → Prop} {p : Nat} {x b : Int32} (hp : p < 14) (hb : b = 0 ∨ b = 1)
    (h : (x = 0 → post 0 (pc, td, ct, cc, pd, upd pp p b, pk)) ∧ (¬ x = 0 → post 1 (pc, td, ct, cc, pd, upd pp p b, pk))) :
    wX_pin_31 post x b (nI p) pc td ct cc pd pp pk := by
  unfold wX_pin_31
  rw [nI_clamp (by omega), sc_nB hb]
  exact ⟨vp_in_nI hp (by decide), nm_e h⟩
theorem sc_forgetX {post : Int32 → SX → Prop} {n p : Nat} (hn : n ≤ 14) (hp : p < n) (hB : sc_B ct) (hP : sc_B pp)
    (h : post (nI (n - 1)) (nI (n - 1), td, sc_rows ct (sc_sh id p (n - 1)), sc_rows cc (sc_sh id p (n - 1)), sc_pt pd (sc_sh id p (n - 1)), sc_pt pp (sc_sh id p (n - 1)), pk)) :
    ∃ n26 : Nat, wX_forget_26 post n26 (nI (p + 1)) (nI n) td ct cc pd pp pk := by
  have k := sc_forgetL hn hB hP h (n - p - 1) p (by omega) (by omega)
  rw [sc_sh0, sc_rowsI, sc_rowsI, sc_ptI, sc_ptI] at k
  exact ⟨_, k⟩
end
theorem sc_Rpin {n d : Nat} {D : Nat → Nat} {ct cc pd pp lt lv hd cn dy pn kp : Nat → Int32} {p : Nat} {b : Int32} (R : sc_R n d D ct cc pd pp lt lv hd cn dy pn kp) (hb : b = 0 ∨ b = 1) :
    sc_R n d D ct cc pd (upd pp p b) lt lv hd cn dy (upd pn p b) kp := by
  obtain ⟨h1, ⟨hB1, hB2, hB3, hB4, hB5, hB6⟩, hL, hC, hP, hD⟩ := R
  refine ⟨h1, ⟨hB1, sc_Bu hB2 _ hb, hB3, hB4, sc_Bu hB5 _ hb, hB6⟩, hL, hC, fun q hq => ?_, hD⟩
  obtain ⟨p1, p2, p3, p4⟩ := hP q hq
  refine ⟨p1, p2, ?_, p4⟩
  by_cases e : q = p
  · subst e
    rw [pk_us, pk_us]
  · rw [pk_un e, pk_un e]
    exact p3
theorem i_vc_put {k : Nat} {u : SX} {v : SY} (I : i_Rel k u v) (hk : k + 4 ≤ 2048) (v1 : Int32) (v2 : Int32) : wpX_put (fun r u' => wpY_put (fun r' v' => r' = r ∧ i_Rel (k + 4) u' v') v v1 v2) u v1 v2 := by
  obtain ⟨n, d, D, ct, cc, pd, pp, pk, lt, lv, hd, cn, dy, pn, kp, rfl, rfl, R⟩ := I
  have R' := R
  obtain ⟨⟨hn, hd5⟩, ⟨hB1, hB2, hB3, hB4, hB5, hB6⟩, hL, hC, hP, hD⟩ := R'
  rcases sc_file v1 with hx | ⟨f, hf, rfl⟩
  · unfold wpX_put
    dsimp only
    refine sc_isFileN hx (br_t rfl ?_)
    unfold wpY_put
    exact sc_badFileN hx (br_f (by decide) ⟨rfl, sc_mk R⟩)
  · obtain ⟨e1, e2, e3⟩ := hL f hf
    unfold wpX_put
    dsimp only
    refine sc_isFile hf (br_f (by decide) (sc_thereAsInt 14 f (by decide) hf hB1 (sc_setLive hf (Or.inr rfl) ?_)))
    unfold wpY_put
    dsimp only
    rw [nI_clamp (show f < 2 ^ 31 by omega)]
    have h1 : vp_in (nI f) 16 := vp_in_nI hf (by decide)
    refine sc_badFile hf (br_t rfl ⟨h1, br_c (fun e => sc_putY hf ?_) (fun e => sc_putY hf ?_)⟩)
    · exact ⟨(e1.trans e).symm, sc_mk (sc_Rset R hf (Or.inr rfl) (fun z => absurd z (by decide)))⟩
    · exact ⟨(e1.trans ((hB3 f).resolve_left e)).symm, sc_mk (sc_Rset R hf (Or.inr rfl) (fun z => absurd z (by decide)))⟩
theorem i_vc_delete {k : Nat} {u : SX} {v : SY} (I : i_Rel k u v) (hk : k + 4 ≤ 2048) (v1 : Int32) : wpX_delete (fun r u' => wpY_delete (fun r' v' => r' = r ∧ i_Rel (k + 4) u' v') v v1) u v1 := by
  obtain ⟨n, d, D, ct, cc, pd, pp, pk, lt, lv, hd, cn, dy, pn, kp, rfl, rfl, R⟩ := I
  have R' := R
  obtain ⟨⟨hn, hd5⟩, ⟨hB1, hB2, hB3, hB4, hB5, hB6⟩, hL, hC, hP, hD⟩ := R'
  rcases sc_file v1 with hx | ⟨f, hf, rfl⟩
  · unfold wpX_delete
    dsimp only
    refine sc_isFileN hx (br_t rfl ?_)
    unfold wpY_delete
    exact sc_badFileN hx (br_f (by decide) ⟨rfl, sc_mk R⟩)
  · obtain ⟨e1, e2, e3⟩ := hL f hf
    unfold wpX_delete
    dsimp only
    refine sc_isFile hf (br_f (by decide) (sc_thereAsInt 14 f (by decide) hf hB1 (sc_setLive hf (Or.inl rfl) ?_)))
    unfold wpY_delete
    dsimp only
    rw [nI_clamp (show f < 2 ^ 31 by omega)]
    have h1 : vp_in (nI f) 16 := vp_in_nI hf (by decide)
    refine sc_badFile hf (br_t rfl ⟨h1, br_c (fun e => sc_deleteY hf ?_) (fun e => sc_deleteY hf ?_)⟩)
    · exact ⟨(e1.trans e).symm, sc_mk (sc_Rset R hf (Or.inl rfl) (fun _ => rfl))⟩
    · exact ⟨(e1.trans ((hB3 f).resolve_left e)).symm, sc_mk (sc_Rset R hf (Or.inl rfl) (fun _ => rfl))⟩
theorem i_vc_rename {k : Nat} {u : SX} {v : SY} (I : i_Rel k u v) (hk : k + 4 ≤ 2048) (v1 : Int32) (v2 : Int32) : wpX_rename (fun r u' => wpY_rename (fun r' v' => r' = r ∧ i_Rel (k + 4) u' v') v v1 v2) u v1 v2 := by
  obtain ⟨n, d, D, ct, cc, pd, pp, pk, lt, lv, hd, cn, dy, pn, kp, rfl, rfl, R⟩ := I
  have R' := R
  obtain ⟨⟨hn, hd5⟩, ⟨hB1, hB2, hB3, hB4, hB5, hB6⟩, hL, hC, hP, hD⟩ := R'
  rcases sc_file v1 with hx | ⟨f, hf, rfl⟩
  · unfold wpX_rename
    dsimp only
    refine sc_isFileN hx (br_t rfl ?_)
    unfold wpY_rename
    exact sc_badFileN hx (br_f (by decide) ⟨rfl, sc_mk R⟩)
  · rcases sc_file v2 with hx | ⟨g, hg, rfl⟩
    · unfold wpX_rename
      dsimp only
      refine sc_isFile hf (br_f (by decide) (sc_isFileN hx (br_t rfl ?_)))
      unfold wpY_rename
      exact sc_badFile hf (br_t rfl (sc_badFileN hx (br_f (by decide) ⟨rfl, sc_mk R⟩)))
    · obtain ⟨e1, e2, e3⟩ := hL f hf
      unfold wpX_rename wpX_cell
      dsimp only
      rw [sc_x14, nI_clamp (show 224 + f < 2 ^ 31 by omega)]
      have h0 : vp_in (nI (224 + f)) 240 := vp_in_nI (by omega) (by decide)
      have h1 : vp_in (nI f) 16 := vp_in_nI hf (by decide)
      have h2 : vp_in (nI g) 16 := vp_in_nI hg (by decide)
      refine sc_isFile hf (br_f (by decide) (sc_isFile hg (br_f (by decide) (br_c (fun e => ?_) (fun e => ⟨h0, br_c (fun e4 => ?_) (fun e4 => ⟨h0, sc_setLive hg (Or.inr rfl) (sc_setLive hf (Or.inl rfl) ?_)⟩)⟩)))))
      · unfold wpY_rename
        exact sc_badFile hf (br_t rfl (sc_badFile hg (br_t rfl (br_t e ⟨rfl, sc_mk R⟩))))
      · unfold wpY_rename
        dsimp only
        rw [nI_clamp (show f < 2 ^ 31 by omega)]
        exact sc_badFile hf (br_t rfl (sc_badFile hg (br_t rfl (br_f e ⟨h1, br_t (e1.symm.trans e4) ⟨rfl, sc_mk R⟩⟩))))
      · unfold wpY_rename
        dsimp only
        rw [nI_clamp (show f < 2 ^ 31 by omega), nI_clamp (show g < 2 ^ 31 by omega), sc_n0, sc_n1, ← e2]
        refine sc_badFile hf (br_t rfl (sc_badFile hg (br_t rfl (br_f e ⟨h1, br_f (fun z => e4 (e1.trans z)) ⟨h2, nm_e ⟨h1, h2, nm_e ⟨h1, nm_e ⟨h1, nm_e ?_⟩⟩⟩⟩⟩))))
        exact ⟨rfl, sc_mk (sc_Rset (sc_Rset R hg (Or.inr rfl) (fun z => absurd z (by decide))) hf (Or.inl rfl) (fun _ => rfl))⟩
theorem i_vc_rewrite {k : Nat} {u : SX} {v : SY} (I : i_Rel k u v) (hk : k + 4 ≤ 2048) (v1 : Int32) (v2 : Int32) (v3 : Int32) : wpX_rewrite (fun r u' => wpY_rewrite (fun r' v' => r' = r ∧ i_Rel (k + 4) u' v') v v1 v2 v3) u v1 v2 v3 := by
  obtain ⟨n, d, D, ct, cc, pd, pp, pk, lt, lv, hd, cn, dy, pn, kp, rfl, rfl, R⟩ := I
  have R' := R
  obtain ⟨⟨hn, hd5⟩, ⟨hB1, hB2, hB3, hB4, hB5, hB6⟩, hL, hC, hP, hD⟩ := R'
  rcases sc_file v1 with hx | ⟨f, hf, rfl⟩
  · unfold wpX_rewrite
    dsimp only
    refine sc_isFileN hx (br_t rfl ?_)
    unfold wpY_rewrite
    exact sc_badFileN hx (br_f (by decide) ⟨rfl, sc_mk R⟩)
  · unfold wpX_rewrite
    dsimp only
    refine sc_isFile hf (br_f (by decide) (sc_rewriteX f hf ?_))
    unfold wpY_rewrite
    dsimp only
    refine sc_badFile hf (br_t rfl (sc_rewriteY f hf ⟨sc_smC _ _ _ (fun j h1 h2 => ?_), sc_mk (sc_Rrw R)⟩))
    rw [(hL j (by omega)).1]
theorem i_vc_advance {k : Nat} {u : SX} {v : SY} (I : i_Rel k u v) (hk : k + 4 ≤ 2048) (v1 : Int32) : wpX_advance (fun r u' => wpY_advance (fun r' v' => r' = r ∧ i_Rel (k + 4) u' v') v v1) u v1 := by
  obtain ⟨n, d, D, ct, cc, pd, pp, pk, lt, lv, hd, cn, dy, pn, kp, rfl, rfl, R⟩ := I
  have R' := R
  obtain ⟨⟨hn, hd5⟩, ⟨hB1, hB2, hB3, hB4, hB5, hB6⟩, hL, hC, hP, hD⟩ := R'
  unfold wpX_advance wpY_advance
  dsimp only
  refine br_c (fun e => br_t e ⟨rfl, sc_mk R⟩) (fun e => br_c (fun e2 => br_c (fun e3 => ?_) (fun e3 => br_f e (br_t e2 (br_f e3 ⟨rfl, sc_mk R⟩)))) (fun e2 => br_f e (br_f e2 ⟨rfl, sc_mk R⟩)))
  have h0 : ¬ v1 < 0 := Int32.not_lt.mpr (Int32.le_trans (by decide) (Int32.not_lt.mp e))
  obtain ⟨x, hx, rfl⟩ := nI_of2 (M := 60) (n := 60) (by decide) h0 e2
  rw [nI_add] at e3 ⊢
  have h3 : d + x ≤ 5000 := (nI_leI (b := 5000) (by omega) (by decide)).mp e3
  exact nm_e (br_f e (br_t e2 (br_t e3 (nm_e ⟨rfl, sc_mk (sc_Rday R h3)⟩))))
theorem i_vc_take {k : Nat} {u : SX} {v : SY} (I : i_Rel k u v) (hk : k + 4 ≤ 2048) (v1 : Int32) : wpX_take (fun r u' => wpY_take (fun r' v' => r' = r ∧ i_Rel (k + 4) u' v') v v1) u v1 := by
  obtain ⟨n, d, D, ct, cc, pd, pp, pk, lt, lv, hd, cn, dy, pn, kp, rfl, rfl, R⟩ := I
  have R' := R
  obtain ⟨⟨hn, hd5⟩, ⟨hB1, hB2, hB3, hB4, hB5, hB6⟩, hL, hC, hP, hD⟩ := R'
  unfold wpX_take
  dsimp only
  refine br_c (fun e => ?_) (fun e => br_c (fun e2 => br_c (fun e3 => ?_) (fun e3 => ?_)) (fun e2 => ?_))
  · unfold wpY_take
    exact br_t e ⟨rfl, sc_mk R⟩
  · have h14 : n < 14 := (nI_ltI (b := 14) (by omega) (by decide)).mp e3
    refine sc_copyRow 14 n (by decide) (by omega) hB1 ?_
    dsimp only
    rw [nI_clamp (show n < 2 ^ 31 by omega), sc_n0]
    have h1 : vp_in (nI n) 14 := vp_in_nI h14 (by decide)
    refine ⟨h1, nm_e ⟨h1, nm_e (nm_r (nI_1 n) ?_)⟩⟩
    unfold wpY_take
    dsimp only
    refine br_f e (br_t e2 (br_t e3 (sc_takeY n h14 hB3 ?_)))
    exact ⟨rfl, sc_mk (sc_Rtake R h14)⟩
  · unfold wpY_take
    exact br_f e (br_t e2 (br_f e3 ⟨rfl, sc_mk R⟩))
  · unfold wpY_take
    exact br_f e (br_f e2 ⟨rfl, sc_mk R⟩)
theorem i_vc_restore {k : Nat} {u : SX} {v : SY} (I : i_Rel k u v) (hk : k + 4 ≤ 2048) (v1 : Int32) : wpX_restore (fun r u' => wpY_restore (fun r' v' => r' = r ∧ i_Rel (k + 4) u' v') v v1) u v1 := by
  obtain ⟨n, d, D, ct, cc, pd, pp, pk, lt, lv, hd, cn, dy, pn, kp, rfl, rfl, R⟩ := I
  have R' := R
  obtain ⟨⟨hn, hd5⟩, ⟨hB1, hB2, hB3, hB4, hB5, hB6⟩, hL, hC, hP, hD⟩ := R'
  rcases sc_point v1 hn with hx | ⟨p, hp, rfl⟩
  · unfold wpX_restore
    dsimp only
    refine sc_isPointN hx (br_t rfl ?_)
    unfold wpY_restore
    exact sc_badPointN hx (br_f (by decide) ⟨rfl, sc_mk R⟩)
  · unfold wpX_restore
    dsimp only
    refine sc_isPoint hn hp (br_f (by decide) (sc_countDiffering p 14 (by omega) (by decide) (sc_copyRow p 14 (by omega) (by decide) hB1 ?_)))
    unfold wpY_restore
    dsimp only
    refine sc_badPoint hn hp (br_t rfl (sc_restoreY p (by omega) hB4 ⟨sc_smC _ _ _ ?_, sc_mk (sc_Rback R hp)⟩))
    intro j h1 h2
    rw [(hC (16 * p + j) (by omega)).1, (hC (16 * p + j) (by omega)).2.1, show 16 * 14 + j = 224 + j from rfl, (hL j (by omega)).1, (hL j (by omega)).2.1]
    exact sc_neC _ _ _ _
theorem i_vc_restoreFile {k : Nat} {u : SX} {v : SY} (I : i_Rel k u v) (hk : k + 4 ≤ 2048) (v1 : Int32) (v2 : Int32) : wpX_restoreFile (fun r u' => wpY_restoreFile (fun r' v' => r' = r ∧ i_Rel (k + 4) u' v') v v1 v2) u v1 v2 := by
  obtain ⟨n, d, D, ct, cc, pd, pp, pk, lt, lv, hd, cn, dy, pn, kp, rfl, rfl, R⟩ := I
  have R' := R
  obtain ⟨⟨hn, hd5⟩, ⟨hB1, hB2, hB3, hB4, hB5, hB6⟩, hL, hC, hP, hD⟩ := R'
  rcases sc_point v1 hn with hx | ⟨p, hp, rfl⟩
  · unfold wpX_restoreFile
    dsimp only
    refine sc_isPointN hx (br_t rfl ?_)
    unfold wpY_restoreFile
    exact sc_badPointN hx (br_f (by decide) ⟨rfl, sc_mk R⟩)
  · rcases sc_file v2 with hx | ⟨f, hf, rfl⟩
    · unfold wpX_restoreFile
      dsimp only
      refine sc_isPoint hn hp (br_f (by decide) (sc_isFileN hx (br_t rfl ?_)))
      unfold wpY_restoreFile
      exact sc_badPoint hn hp (br_t rfl (sc_badFileN hx (br_f (by decide) ⟨rfl, sc_mk R⟩)))
    · obtain ⟨e1, e2, e3⟩ := hL f hf
      obtain ⟨g1, g2, g3⟩ := hC (16 * p + f) (by omega)
      have RR := sc_Rset R hf (hB4 (16 * p + f)) g3
      have ee : sc_ne (ct (16 * p + f)) (ct (16 * 14 + f)) (cc (16 * p + f)) (cc (16 * 14 + f)) = sc_ne (lt f) (hd (16 * p + f)) (lv f) (cn (16 * p + f)) := by
        rw [g1, g2, show 16 * 14 + f = 224 + f from rfl, e1, e2]
        exact sc_neC _ _ _ _
      unfold wpX_restoreFile
      dsimp only
      refine sc_isPoint hn hp (br_f (by decide) (sc_isFile hf (br_f (by decide) (sc_differs p 14 f (by omega) (by decide) hf (sc_copyCell p 14 f (by omega) (by decide) hf hB1 ?_)))))
      rw [ee, g1, g2]
      refine br_c (fun e => ?_) (fun e => ?_)
      · unfold wpY_restoreFile
        dsimp only
        refine sc_badPoint hn hp (br_t rfl (sc_badFile hf (br_t rfl (sc_changed p f (by omega) hf (br_t e ?_)))))
        unfold wY_restoreFile_35
        exact sc_back p f (by omega) hf hB4 ⟨rfl, sc_mk RR⟩
      · unfold wpY_restoreFile
        dsimp only
        refine sc_badPoint hn hp (br_t rfl (sc_badFile hf (br_t rfl (sc_changed p f (by omega) hf (br_f e ?_)))))
        unfold wY_restoreFile_35
        exact sc_back p f (by omega) hf hB4 ⟨rfl, sc_mk RR⟩
theorem i_vc_pin {k : Nat} {u : SX} {v : SY} (I : i_Rel k u v) (hk : k + 4 ≤ 2048) (v1 : Int32) (v2 : Int32) : wpX_pin (fun r u' => wpY_pin (fun r' v' => r' = r ∧ i_Rel (k + 4) u' v') v v1 v2) u v1 v2 := by
  obtain ⟨n, d, D, ct, cc, pd, pp, pk, lt, lv, hd, cn, dy, pn, kp, rfl, rfl, R⟩ := I
  have R' := R
  obtain ⟨⟨hn, hd5⟩, ⟨hB1, hB2, hB3, hB4, hB5, hB6⟩, hL, hC, hP, hD⟩ := R'
  rcases sc_point v1 hn with hx | ⟨p, hp, rfl⟩
  · unfold wpX_pin
    dsimp only
    refine sc_isPointN hx (br_t rfl ?_)
    unfold wpY_pin
    exact sc_badPointN hx (br_f (by decide) ⟨rfl, sc_mk R⟩)
  · obtain ⟨p1, p2, p3, p4⟩ := hP p hp
    have h1 : vp_in (nI p) 14 := vp_in_nI (by omega) (by decide)
    unfold wpX_pin
    dsimp only
    rw [nI_clamp (show p < 2 ^ 31 by omega), p3]
    refine sc_isPoint hn hp (br_f (by decide) ⟨h1, nm_e (br_c (fun e => sc_pinX (by omega) (Or.inl rfl) (br_c (fun e2 => ?_) (fun e2 => ?_))) (fun e => sc_pinX (by omega) (Or.inr rfl) (br_c (fun e2 => ?_) (fun e2 => ?_))))⟩)
    · unfold wpY_pin
      dsimp only
      rw [nI_clamp (show p < 2 ^ 31 by omega)]
      exact sc_badPoint hn hp (br_t rfl ⟨h1, br_t e2 (sc_pinY0 (by omega) e ⟨rfl, sc_mk (sc_Rpin R (Or.inl rfl))⟩)⟩)
    · unfold wpY_pin
      dsimp only
      rw [nI_clamp (show p < 2 ^ 31 by omega)]
      exact sc_badPoint hn hp (br_t rfl ⟨h1, br_f e2 (sc_pinY0 (by omega) e ⟨rfl, sc_mk (sc_Rpin R (Or.inl rfl))⟩)⟩)
    · unfold wpY_pin
      dsimp only
      rw [nI_clamp (show p < 2 ^ 31 by omega)]
      exact sc_badPoint hn hp (br_t rfl ⟨h1, br_t e2 (sc_pinY1 (by omega) e ⟨rfl, sc_mk (sc_Rpin R (Or.inr rfl))⟩)⟩)
    · unfold wpY_pin
      dsimp only
      rw [nI_clamp (show p < 2 ^ 31 by omega)]
      exact sc_badPoint hn hp (br_t rfl ⟨h1, br_f e2 (sc_pinY1 (by omega) e ⟨rfl, sc_mk (sc_Rpin R (Or.inr rfl))⟩)⟩)
theorem i_vc_forget {k : Nat} {u : SX} {v : SY} (I : i_Rel k u v) (hk : k + 4 ≤ 2048) (v1 : Int32) : wpX_forget (fun r u' => wpY_forget (fun r' v' => r' = r ∧ i_Rel (k + 4) u' v') v v1) u v1 := by
  obtain ⟨n, d, D, ct, cc, pd, pp, pk, lt, lv, hd, cn, dy, pn, kp, rfl, rfl, R⟩ := I
  have R' := R
  obtain ⟨⟨hn, hd5⟩, ⟨hB1, hB2, hB3, hB4, hB5, hB6⟩, hL, hC, hP, hD⟩ := R'
  rcases sc_point v1 hn with hx | ⟨p, hp, rfl⟩
  · unfold wpX_forget
    dsimp only
    refine sc_isPointN hx (br_t rfl ?_)
    unfold wpY_forget
    exact sc_badPointN hx (br_f (by decide) ⟨rfl, sc_mk R⟩)
  · obtain ⟨p1, p2, p3, p4⟩ := hP p hp
    have h1 : vp_in (nI p) 14 := vp_in_nI (by omega) (by decide)
    unfold wpX_forget
    dsimp only
    rw [nI_clamp (show p < 2 ^ 31 by omega), p3]
    refine sc_isPoint hn hp (br_f (by decide) ⟨h1, br_c (fun e => nm_r (nI_1 p) (sc_forgetX hn hp hB1 hB2 ?_)) (fun e => ?_)⟩)
    · unfold wpY_forget
      dsimp only
      rw [nI_clamp (show p < 2 ^ 31 by omega)]
      refine sc_badPoint hn hp (br_t rfl ⟨h1, br_t e ?_⟩)
      have k := sc_takeOut (post := fun u => match u with | (a, b, c, e, f, g, h, i, j) => b = nI (n - 1) ∧ i_Rel (k + 4) (nI (n - 1), nI d, sc_rows ct (sc_sh id p (n - 1)), sc_rows cc (sc_sh id p (n - 1)), sc_pt pd (sc_sh id p (n - 1)), sc_pt pp (sc_sh id p (n - 1)), pk) (a, b, c, e, f, g, h, i, j)) (td := nI d) (lt := lt) (lv := lv) (hd := hd) (cn := cn) (dy := dy) (pn := pn) (kp := kp) id hn hp hB4 hB5 hB6 ⟨rfl, sc_mk (sc_Rix R (by omega) ?_ ?_ ?_)⟩
      · rw [sc_rowsI, sc_rowsI, sc_ptI, sc_ptI, sc_ptI] at k
        exact k
      · unfold sc_sh
        rw [if_neg (by omega)]
        rfl
      · intro j hj
        refine ⟨rfl, ?_⟩
        unfold sc_sh
        by_cases c : p ≤ j ∧ j < n - 1
        · rw [if_pos c]
          show j + 1 < n
          omega
        · rw [if_neg c]
          show j < n
          omega
      · intro i j hij hj
        unfold sc_sh
        by_cases c : p ≤ i ∧ i < n - 1
        · rw [if_pos c, if_pos (by omega)]
          show i + 1 ≤ j + 1
          omega
        · rw [if_neg c]
          by_cases c2 : p ≤ j ∧ j < n - 1
          · rw [if_pos c2]
            show i ≤ j + 1
            omega
          · rw [if_neg c2]
            exact hij
    · unfold wpY_forget
      dsimp only
      rw [nI_clamp (show p < 2 ^ 31 by omega)]
      exact sc_badPoint hn hp (br_t rfl ⟨h1, br_f e ⟨rfl, sc_mk R⟩⟩)
theorem i_vc_points {k : Nat} {u : SX} {v : SY} (I : i_Rel k u v) (hk : k + 4 ≤ 2048) : wpX_points (fun r => wpY_points (fun r' => r' = r ∧ i_Rel (k + 4) u v) v) u := by
  obtain ⟨n, d, D, ct, cc, pd, pp, pk, lt, lv, hd, cn, dy, pn, kp, rfl, rfl, R⟩ := I
  have R' := R
  obtain ⟨⟨hn, hd5⟩, ⟨hB1, hB2, hB3, hB4, hB5, hB6⟩, hL, hC, hP, hD⟩ := R'
  unfold wpX_points wpY_points
  exact ⟨rfl, sc_mk R⟩
theorem i_vc_dayOf {k : Nat} {u : SX} {v : SY} (I : i_Rel k u v) (hk : k + 4 ≤ 2048) (v1 : Int32) : wpX_dayOf (fun r => wpY_dayOf (fun r' => r' = r ∧ i_Rel (k + 4) u v) v v1) u v1 := by
  obtain ⟨n, d, D, ct, cc, pd, pp, pk, lt, lv, hd, cn, dy, pn, kp, rfl, rfl, R⟩ := I
  have R' := R
  obtain ⟨⟨hn, hd5⟩, ⟨hB1, hB2, hB3, hB4, hB5, hB6⟩, hL, hC, hP, hD⟩ := R'
  rcases sc_point v1 hn with hx | ⟨p, hp, rfl⟩
  · unfold wpX_dayOf
    dsimp only
    refine sc_isPointN hx (br_t rfl ?_)
    unfold wpY_dayOf
    exact sc_badPointN hx (br_f (by decide) ⟨rfl, sc_mk R⟩)
  · obtain ⟨p1, p2, p3, p4⟩ := hP p hp
    have h1 : vp_in (nI p) 14 := vp_in_nI (by omega) (by decide)
    unfold wpX_dayOf
    dsimp only
    rw [nI_clamp (show p < 2 ^ 31 by omega)]
    refine sc_isPoint hn hp (br_f (by decide) ⟨h1, ?_⟩)
    unfold wpY_dayOf
    dsimp only
    rw [nI_clamp (show p < 2 ^ 31 by omega)]
    exact sc_badPoint hn hp (br_t rfl ⟨h1, p2.trans p1.symm, sc_mk R⟩)
theorem i_vc_pinned {k : Nat} {u : SX} {v : SY} (I : i_Rel k u v) (hk : k + 4 ≤ 2048) (v1 : Int32) : wpX_pinned (fun r => wpY_pinned (fun r' => r' = r ∧ i_Rel (k + 4) u v) v v1) u v1 := by
  obtain ⟨n, d, D, ct, cc, pd, pp, pk, lt, lv, hd, cn, dy, pn, kp, rfl, rfl, R⟩ := I
  have R' := R
  obtain ⟨⟨hn, hd5⟩, ⟨hB1, hB2, hB3, hB4, hB5, hB6⟩, hL, hC, hP, hD⟩ := R'
  rcases sc_point v1 hn with hx | ⟨p, hp, rfl⟩
  · unfold wpX_pinned
    dsimp only
    refine sc_isPointN hx (br_t rfl ?_)
    unfold wpY_pinned
    exact sc_badPointN hx (br_f (by decide) ⟨rfl, sc_mk R⟩)
  · obtain ⟨p1, p2, p3, p4⟩ := hP p hp
    have h1 : vp_in (nI p) 14 := vp_in_nI (by omega) (by decide)
    unfold wpX_pinned
    dsimp only
    rw [nI_clamp (show p < 2 ^ 31 by omega), p3]
    refine sc_isPoint hn hp (br_f (by decide) ⟨h1, br_c (fun e => ?_) (fun e => ?_)⟩)
    · unfold wpY_pinned
      dsimp only
      rw [nI_clamp (show p < 2 ^ 31 by omega)]
      exact sc_badPoint hn hp (br_t rfl ⟨h1, br_t e ⟨rfl, sc_mk R⟩⟩)
    · unfold wpY_pinned
      dsimp only
      rw [nI_clamp (show p < 2 ^ 31 by omega)]
      exact sc_badPoint hn hp (br_t rfl ⟨h1, br_f e ⟨rfl, sc_mk R⟩⟩)
theorem i_vc_there {k : Nat} {u : SX} {v : SY} (I : i_Rel k u v) (hk : k + 4 ≤ 2048) (v1 : Int32) (v2 : Int32) : wpX_there (fun r => wpY_there (fun r' => r' = r ∧ i_Rel (k + 4) u v) v v1 v2) u v1 v2 := by
  obtain ⟨n, d, D, ct, cc, pd, pp, pk, lt, lv, hd, cn, dy, pn, kp, rfl, rfl, R⟩ := I
  have R' := R
  obtain ⟨⟨hn, hd5⟩, ⟨hB1, hB2, hB3, hB4, hB5, hB6⟩, hL, hC, hP, hD⟩ := R'
  rcases sc_point v1 hn with hx | ⟨p, hp, rfl⟩
  · unfold wpX_there
    dsimp only
    refine sc_isPointN hx (br_t rfl ?_)
    unfold wpY_there
    exact sc_badPointN hx (br_f (by decide) ⟨rfl, sc_mk R⟩)
  · rcases sc_file v2 with hx | ⟨f, hf, rfl⟩
    · unfold wpX_there
      dsimp only
      refine sc_isPoint hn hp (br_f (by decide) (sc_isFileN hx (br_t rfl ?_)))
      unfold wpY_there
      exact sc_badPoint hn hp (br_t rfl (sc_badFileN hx (br_f (by decide) ⟨rfl, sc_mk R⟩)))
    · obtain ⟨g1, g2, g3⟩ := hC (16 * p + f) (by omega)
      have h1 : vp_in (nI (16 * p + f)) 224 := vp_in_nI (by omega) (by decide)
      unfold wpX_there
      dsimp only
      refine sc_isPoint hn hp (br_f (by decide) (sc_isFile hf (br_f (by decide) (sc_thereAsInt p f (by omega) hf hB1 ?_))))
      unfold wpY_there
      dsimp only
      rw [sc_yc, nI_clamp (show 16 * p + f < 2 ^ 31 by omega), g1]
      refine sc_badPoint hn hp (br_t rfl (sc_badFile hf (br_t rfl ⟨h1, br_c (fun e => ?_) (fun e => ?_)⟩)))
      · exact ⟨e.symm, sc_mk R⟩
      · exact ⟨((hB4 _).resolve_left e).symm, sc_mk R⟩
theorem i_vc_content {k : Nat} {u : SX} {v : SY} (I : i_Rel k u v) (hk : k + 4 ≤ 2048) (v1 : Int32) (v2 : Int32) : wpX_content (fun r => wpY_content (fun r' => r' = r ∧ i_Rel (k + 4) u v) v v1 v2) u v1 v2 := by
  obtain ⟨n, d, D, ct, cc, pd, pp, pk, lt, lv, hd, cn, dy, pn, kp, rfl, rfl, R⟩ := I
  have R' := R
  obtain ⟨⟨hn, hd5⟩, ⟨hB1, hB2, hB3, hB4, hB5, hB6⟩, hL, hC, hP, hD⟩ := R'
  rcases sc_point v1 hn with hx | ⟨p, hp, rfl⟩
  · unfold wpX_content
    dsimp only
    refine sc_isPointN hx (br_t rfl ?_)
    unfold wpY_content
    exact sc_badPointN hx (br_f (by decide) ⟨rfl, sc_mk R⟩)
  · rcases sc_file v2 with hx | ⟨f, hf, rfl⟩
    · unfold wpX_content
      dsimp only
      refine sc_isPoint hn hp (br_f (by decide) (sc_isFileN hx (br_t rfl ?_)))
      unfold wpY_content
      exact sc_badPoint hn hp (br_t rfl (sc_badFileN hx (br_f (by decide) ⟨rfl, sc_mk R⟩)))
    · obtain ⟨g1, g2, g3⟩ := hC (16 * p + f) (by omega)
      have h1 : vp_in (nI (16 * p + f)) 224 := vp_in_nI (by omega) (by decide)
      have h2 : vp_in (nI (16 * p + f)) 240 := vp_in_nI (by omega) (by decide)
      unfold wpX_content wpX_cell
      dsimp only
      rw [sc_xc, nI_clamp (show 16 * p + f < 2 ^ 31 by omega), g2]
      refine sc_isPoint hn hp (br_f (by decide) (sc_isFile hf (br_f (by decide) ⟨h2, ?_⟩)))
      unfold wpY_content
      dsimp only
      rw [sc_yc, nI_clamp (show 16 * p + f < 2 ^ 31 by omega)]
      refine sc_badPoint hn hp (br_t rfl (sc_badFile hf (br_t rfl ⟨h1, br_c (fun e => ?_) (fun e => ⟨h1, ?_⟩)⟩)))
      · exact ⟨(g3 e).symm, sc_mk R⟩
      · exact ⟨rfl, sc_mk R⟩
theorem i_vc_liveThere {k : Nat} {u : SX} {v : SY} (I : i_Rel k u v) (hk : k + 4 ≤ 2048) (v1 : Int32) : wpX_liveThere (fun r => wpY_liveThere (fun r' => r' = r ∧ i_Rel (k + 4) u v) v v1) u v1 := by
  obtain ⟨n, d, D, ct, cc, pd, pp, pk, lt, lv, hd, cn, dy, pn, kp, rfl, rfl, R⟩ := I
  have R' := R
  obtain ⟨⟨hn, hd5⟩, ⟨hB1, hB2, hB3, hB4, hB5, hB6⟩, hL, hC, hP, hD⟩ := R'
  rcases sc_file v1 with hx | ⟨f, hf, rfl⟩
  · unfold wpX_liveThere
    dsimp only
    refine sc_isFileN hx (br_t rfl ?_)
    unfold wpY_liveThere
    exact sc_badFileN hx (br_f (by decide) ⟨rfl, sc_mk R⟩)
  · obtain ⟨e1, e2, e3⟩ := hL f hf
    have h1 : vp_in (nI f) 16 := vp_in_nI hf (by decide)
    unfold wpX_liveThere
    dsimp only
    refine sc_isFile hf (br_f (by decide) (sc_thereAsInt 14 f (by decide) hf hB1 ?_))
    unfold wpY_liveThere
    dsimp only
    rw [nI_clamp (show f < 2 ^ 31 by omega), show 16 * 14 + f = 224 + f from rfl, e1]
    refine sc_badFile hf (br_t rfl ⟨h1, br_c (fun e => ?_) (fun e => ?_)⟩)
    · exact ⟨e.symm, sc_mk R⟩
    · exact ⟨((hB3 _).resolve_left e).symm, sc_mk R⟩
theorem i_vc_live {k : Nat} {u : SX} {v : SY} (I : i_Rel k u v) (hk : k + 4 ≤ 2048) (v1 : Int32) : wpX_live (fun r => wpY_live (fun r' => r' = r ∧ i_Rel (k + 4) u v) v v1) u v1 := by
  obtain ⟨n, d, D, ct, cc, pd, pp, pk, lt, lv, hd, cn, dy, pn, kp, rfl, rfl, R⟩ := I
  have R' := R
  obtain ⟨⟨hn, hd5⟩, ⟨hB1, hB2, hB3, hB4, hB5, hB6⟩, hL, hC, hP, hD⟩ := R'
  rcases sc_file v1 with hx | ⟨f, hf, rfl⟩
  · unfold wpX_live
    dsimp only
    refine sc_isFileN hx (br_t rfl ?_)
    unfold wpY_live
    exact sc_badFileN hx (br_f (by decide) ⟨rfl, sc_mk R⟩)
  · obtain ⟨e1, e2, e3⟩ := hL f hf
    have h1 : vp_in (nI f) 16 := vp_in_nI hf (by decide)
    have h2 : vp_in (nI (224 + f)) 240 := vp_in_nI (by omega) (by decide)
    unfold wpX_live wpX_cell
    dsimp only
    rw [sc_x14, nI_clamp (show 224 + f < 2 ^ 31 by omega), e2]
    refine sc_isFile hf (br_f (by decide) ⟨h2, ?_⟩)
    unfold wpY_live
    dsimp only
    rw [nI_clamp (show f < 2 ^ 31 by omega)]
    refine sc_badFile hf (br_t rfl ⟨h1, br_c (fun e => ?_) (fun e => ⟨h1, ?_⟩)⟩)
    · exact ⟨(e3 e).symm, sc_mk R⟩
    · exact ⟨rfl, sc_mk R⟩
theorem i_vc_differing {k : Nat} {u : SX} {v : SY} (I : i_Rel k u v) (hk : k + 4 ≤ 2048) (v1 : Int32) (v2 : Int32) : wpX_differing (fun r => wpY_differing (fun r' => r' = r ∧ i_Rel (k + 4) u v) v v1 v2) u v1 v2 := by
  obtain ⟨n, d, D, ct, cc, pd, pp, pk, lt, lv, hd, cn, dy, pn, kp, rfl, rfl, R⟩ := I
  have R' := R
  obtain ⟨⟨hn, hd5⟩, ⟨hB1, hB2, hB3, hB4, hB5, hB6⟩, hL, hC, hP, hD⟩ := R'
  rcases sc_point v1 hn with hx | ⟨p, hp, rfl⟩
  · unfold wpX_differing
    dsimp only
    refine sc_isPointN hx (br_t rfl ?_)
    unfold wpY_differing
    exact sc_badPointN hx (br_f (by decide) ⟨rfl, sc_mk R⟩)
  · rcases sc_point v2 hn with hx | ⟨q, hq, rfl⟩
    · unfold wpX_differing
      dsimp only
      refine sc_isPoint hn hp (br_f (by decide) (sc_isPointN hx (br_t rfl ?_)))
      unfold wpY_differing
      exact sc_badPoint hn hp (br_t rfl (sc_badPointN hx (br_f (by decide) ⟨rfl, sc_mk R⟩)))
    · unfold wpX_differing
      dsimp only
      refine sc_isPoint hn hp (br_f (by decide) (sc_isPoint hn hq (br_f (by decide) (sc_countDiffering p q (by omega) (by omega) ?_))))
      unfold wpY_differing
      dsimp only
      refine sc_badPoint hn hp (br_t rfl (sc_badPoint hn hq (br_t rfl ⟨17, sc_differingL p q (by omega) (by omega) 16 0 0 rfl ⟨sc_smC _ _ _ ?_, sc_mk R⟩⟩)))
      intro j h1 h2
      rw [(hC (16 * p + j) (by omega)).1, (hC (16 * p + j) (by omega)).2.1, (hC (16 * q + j) (by omega)).1, (hC (16 * q + j) (by omega)).2.1]
theorem i_vc_changedSince {k : Nat} {u : SX} {v : SY} (I : i_Rel k u v) (hk : k + 4 ≤ 2048) (v1 : Int32) : wpX_changedSince (fun r => wpY_changedSince (fun r' => r' = r ∧ i_Rel (k + 4) u v) v v1) u v1 := by
  obtain ⟨n, d, D, ct, cc, pd, pp, pk, lt, lv, hd, cn, dy, pn, kp, rfl, rfl, R⟩ := I
  have R' := R
  obtain ⟨⟨hn, hd5⟩, ⟨hB1, hB2, hB3, hB4, hB5, hB6⟩, hL, hC, hP, hD⟩ := R'
  rcases sc_point v1 hn with hx | ⟨p, hp, rfl⟩
  · unfold wpX_changedSince
    dsimp only
    refine sc_isPointN hx (br_t rfl ?_)
    unfold wpY_changedSince
    exact sc_badPointN hx (br_f (by decide) ⟨rfl, sc_mk R⟩)
  · unfold wpX_changedSince
    dsimp only
    refine sc_isPoint hn hp (br_f (by decide) (sc_countDiffering p 14 (by omega) (by decide) ?_))
    unfold wpY_changedSince
    dsimp only
    refine sc_badPoint hn hp (br_t rfl ⟨17, sc_changedSinceL p (by omega) 16 0 0 rfl ⟨sc_smC _ _ _ ?_, sc_mk R⟩⟩)
    intro j h1 h2
    rw [(hC (16 * p + j) (by omega)).1, (hC (16 * p + j) (by omega)).2.1, show 16 * 14 + j = 224 + j from rfl, (hL j (by omega)).1, (hL j (by omega)).2.1]
    exact sc_neC _ _ _ _
theorem i_vc_versions {k : Nat} {u : SX} {v : SY} (I : i_Rel k u v) (hk : k + 4 ≤ 2048) (v1 : Int32) : wpX_versions (fun r => wpY_versions (fun r' => r' = r ∧ i_Rel (k + 4) u v) v v1) u v1 := by
  obtain ⟨n, d, D, ct, cc, pd, pp, pk, lt, lv, hd, cn, dy, pn, kp, rfl, rfl, R⟩ := I
  have R' := R
  obtain ⟨⟨hn, hd5⟩, ⟨hB1, hB2, hB3, hB4, hB5, hB6⟩, hL, hC, hP, hD⟩ := R'
  rcases sc_file v1 with hx | ⟨f, hf, rfl⟩
  · unfold wpX_versions
    dsimp only
    refine sc_isFileN hx (br_t rfl ?_)
    unfold wpY_versions
    exact sc_badFileN hx (br_f (by decide) ⟨rfl, sc_mk R⟩)
  · unfold wpX_versions
    dsimp only
    refine sc_isFile hf (br_f (by decide) ⟨_, sc_versionsL f hf hn (n - 1) 1 0 (by omega) (by omega) (by omega) ?_ (by omega) (by omega)⟩)
    unfold wpY_versions
    dsimp only
    refine sc_badFile hf (br_t rfl ⟨_, sc_versionsYL f hf hn (n - 1) 1 0 (by omega) (by omega) (by omega) ⟨sc_smC _ _ _ ?_, sc_mk R⟩ (by omega) (by omega)⟩)
    intro j h1 h2
    rw [(hC (16 * j + f) (by omega)).1, (hC (16 * j + f) (by omega)).2.1, (hC (16 * (j - 1) + f) (by omega)).1, (hC (16 * (j - 1) + f) (by omega)).2.1]
    exact sc_neC _ _ _ _
theorem i_vc_sum {k : Nat} {u : SX} {v : SY} (I : i_Rel k u v) (hk : k + 4 ≤ 2048) (v1 : Int32) : wpX_sum (fun r => wpY_sum (fun r' => r' = r ∧ i_Rel (k + 4) u v) v v1) u v1 := by
  obtain ⟨n, d, D, ct, cc, pd, pp, pk, lt, lv, hd, cn, dy, pn, kp, rfl, rfl, R⟩ := I
  have R' := R
  obtain ⟨⟨hn, hd5⟩, ⟨hB1, hB2, hB3, hB4, hB5, hB6⟩, hL, hC, hP, hD⟩ := R'
  rcases sc_point v1 hn with hx | ⟨p, hp, rfl⟩
  · unfold wpX_sum
    dsimp only
    refine sc_isPointN hx (br_t rfl ?_)
    unfold wpY_sum
    exact sc_badPointN hx (br_f (by decide) ⟨rfl, sc_mk R⟩)
  · unfold wpX_sum
    dsimp only
    refine sc_isPoint hn hp (br_f (by decide) ⟨17, sc_sumL p (by omega) 16 0 0 rfl ?_⟩)
    unfold wpY_sum
    dsimp only
    refine sc_badPoint hn hp (br_t rfl ⟨17, sc_sumYL p (by omega) 16 0 0 rfl ⟨sc_smC _ _ _ ?_, sc_mk R⟩⟩)
    intro j h1 h2
    obtain ⟨g1, g2, g3⟩ := hC (16 * p + j) (by omega)
    rw [g2]
    by_cases e : hd (16 * p + j) = 0
    · rw [if_pos e, g3 e]
    · rw [if_neg e]
