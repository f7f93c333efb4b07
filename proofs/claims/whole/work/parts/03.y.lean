/-! the reference's own methods, each with a general post -/
section
variable {td ps : Int32} {lt lv hd cn dy pn kp : Nat → Int32}
theorem sc_badFile {post : Int32 → Prop} {f : Nat} (hf : f < 16) (h : post 0) : wpY_badFile post (td, ps, lt, lv, hd, cn, dy, pn, kp) (nI f) :=
  br_f (nI_pos (by omega)) (br_t (nI_le (b := 15) (by omega) (by decide)) h)
theorem sc_badFileN {post : Int32 → Prop} {x : Int32} (hx : x < 0 ∨ 16 ≤ x) (h : post 1) : wpY_badFile post (td, ps, lt, lv, hd, cn, dy, pn, kp) x := by
  by_cases h0 : x < 0
  · exact br_t h0 h
  · exact br_f h0 (br_f (fun h15 => absurd (Int32.le_trans (hx.resolve_left h0) h15) (by decide)) h)
theorem sc_badPoint {post : Int32 → Prop} {n p : Nat} (hn : n ≤ 14) (hp : p < n) (h : post 0) : wpY_badPoint post (td, nI n, lt, lv, hd, cn, dy, pn, kp) (nI p) :=
  br_f (nI_pos (by omega)) (br_f (nI_ge hp (by omega)) (br_t (nI_lt (b := 14) (by omega) (by decide)) h))
theorem sc_badPointN {post : Int32 → Prop} {n : Nat} {x : Int32} (hx : x < 0 ∨ nI n ≤ x) (h : post 1) : wpY_badPoint post (td, nI n, lt, lv, hd, cn, dy, pn, kp) x := by
  by_cases h0 : x < 0
  · exact br_t h0 h
  · exact br_f h0 (br_t (hx.resolve_left h0) h)
theorem sc_changed {post : Int32 → Prop} (p f : Nat) (hp : p < 14) (hf : f < 16) (h : post (sc_ne (lt f) (hd (16 * p + f)) (lv f) (cn (16 * p + f)))) :
    wpY_changed post (td, ps, lt, lv, hd, cn, dy, pn, kp) (nI p) (nI f) := by
  unfold wpY_changed
  dsimp only
  rw [sc_yc, nI_clamp (show 16 * p + f < 2 ^ 31 by omega), nI_clamp (show f < 2 ^ 31 by omega)]
  have h1 : vp_in (nI f) 16 := vp_in_nI (by omega) (by decide)
  have h2 : vp_in (nI (16 * p + f)) 224 := vp_in_nI (by omega) (by decide)
  exact ⟨h1, h2, sc_neI h1 h2 h⟩
theorem sc_back {post : SY → Prop} (p f : Nat) (hp : p < 14) (hf : f < 16) (hB : sc_B hd)
    (h : post (td, ps, upd lt f (hd (16 * p + f)), upd lv f (cn (16 * p + f)), hd, cn, dy, pn, kp)) :
    wpY_back post (td, ps, lt, lv, hd, cn, dy, pn, kp) (nI p) (nI f) := by
  unfold wpY_back
  dsimp only
  rw [sc_yc, nI_clamp (show 16 * p + f < 2 ^ 31 by omega), nI_clamp (show f < 2 ^ 31 by omega), sc_nB (hB _)]
  have h1 : vp_in (nI f) 16 := vp_in_nI (by omega) (by decide)
  have h2 : vp_in (nI (16 * p + f)) 224 := vp_in_nI (by omega) (by decide)
  exact ⟨h2, h1, nm_e ⟨h2, h1, nm_e h⟩⟩
theorem sc_differ {post : Int32 → Prop} (a b f : Nat) (ha : a < 14) (hb : b < 14) (hf : f < 16)
    (h : post (sc_ne (hd (16 * a + f)) (hd (16 * b + f)) (cn (16 * a + f)) (cn (16 * b + f)))) :
    wpY_differ post (td, ps, lt, lv, hd, cn, dy, pn, kp) (nI a) (nI b) (nI f) := by
  unfold wpY_differ
  dsimp only
  rw [sc_yc, sc_yc, nI_clamp (show 16 * a + f < 2 ^ 31 by omega), nI_clamp (show 16 * b + f < 2 ^ 31 by omega)]
  have h1 : vp_in (nI (16 * a + f)) 224 := vp_in_nI (by omega) (by decide)
  have h2 : vp_in (nI (16 * b + f)) 224 := vp_in_nI (by omega) (by decide)
  exact ⟨h1, h2, sc_neI h1 h2 h⟩
theorem sc_differingL {post : Int32 → Prop} (a b : Nat) (ha : a < 14) (hb : b < 14) : ∀ (d i : Nat) (x : Int32), i + d = 16 →
    post (sc_sm (fun f => sc_ne (hd (16 * a + f)) (hd (16 * b + f)) (cn (16 * a + f)) (cn (16 * b + f))) d i x) →
    wY_differing_23 post (nI a) (nI b) td ps lt lv hd cn dy pn kp (d + 1) x (nI i) := by
  intro d
  induction d with
  | zero => intro i x hi h; exact br_t (nI_le (a := 16) (by omega) (by omega)) h
  | succ d ih =>
    intro i x hi h
    have ih' := ih (i + 1) _ (by omega) h
    refine br_f (nI_ge (b := 16) (by omega) (by decide)) (sc_differ a b i ha hb (by omega) (br_c (fun e => ?_) (fun e => ?_)))
    · dsimp only at ih'
      rw [e, Int32.add_zero] at ih'
      exact nm_r (nI_1 i) ih'
    · dsimp only at ih'
      rw [(sc_ne01 _ _ _ _).resolve_left e] at ih'
      exact nm_e (nm_r (nI_1 i) ih')
theorem sc_changedSinceL {post : Int32 → Prop} (p : Nat) (hp : p < 14) : ∀ (d i : Nat) (x : Int32), i + d = 16 →
    post (sc_sm (fun f => sc_ne (lt f) (hd (16 * p + f)) (lv f) (cn (16 * p + f))) d i x) →
    wY_changedSince_14 post (nI p) td ps lt lv hd cn dy pn kp (d + 1) x (nI i) := by
  intro d
  induction d with
  | zero => intro i x hi h; exact br_t (nI_le (a := 16) (by omega) (by omega)) h
  | succ d ih =>
    intro i x hi h
    have ih' := ih (i + 1) _ (by omega) h
    refine br_f (nI_ge (b := 16) (by omega) (by decide)) (sc_changed p i hp (by omega) (br_c (fun e => ?_) (fun e => ?_)))
    · dsimp only at ih'
      rw [e, Int32.add_zero] at ih'
      exact nm_r (nI_1 i) ih'
    · dsimp only at ih'
      rw [(sc_ne01 _ _ _ _).resolve_left e] at ih'
      exact nm_e (nm_r (nI_1 i) ih')
/-- the first k live cells taken from row p of g -/
def sc_bk (l g : Nat → Int32) (p k : Nat) : Nat → Int32 := fun i => if i < k then g (16 * p + i) else l i
theorem sc_bk0 (l g : Nat → Int32) (p : Nat) : sc_bk l g p 0 = l := by
  funext i
  unfold sc_bk
  rw [if_neg (by omega)]
theorem sc_bkA (l g : Nat → Int32) (p k : Nat) : sc_bk l g p k k = l k := by
  unfold sc_bk
  rw [if_neg (by omega)]
theorem sc_bkS (l g : Nat → Int32) (p k : Nat) : upd (sc_bk l g p k) k (g (16 * p + k)) = sc_bk l g p (k + 1) := by
  funext i
  unfold upd sc_bk
  by_cases h : i = k
  · subst h
    rw [if_pos rfl, if_pos (by omega)]
  · rw [if_neg h]
    by_cases h2 : i < k
    · rw [if_pos h2, if_pos (by omega)]
    · rw [if_neg h2, if_neg (by omega)]
theorem sc_restoreL {post : Int32 → SY → Prop} (p : Nat) (hp : p < 14) (hB : sc_B hd) : ∀ (d i : Nat) (x : Int32), i + d = 16 →
    post (sc_sm (fun f => sc_ne (lt f) (hd (16 * p + f)) (lv f) (cn (16 * p + f))) d i x) (td, ps, sc_bk lt hd p 16, sc_bk lv cn p 16, hd, cn, dy, pn, kp) →
    wY_restore_14 post (nI p) (d + 1) x (nI i) td ps (sc_bk lt hd p i) (sc_bk lv cn p i) hd cn dy pn kp := by
  intro d
  induction d with
  | zero =>
    intro i x hi h
    obtain rfl : i = 16 := by omega
    exact br_t (nI_le (a := 16) (by omega) (by decide)) h
  | succ d ih =>
    intro i x hi h
    have ih' := ih (i + 1) _ (by omega) h
    refine br_f (nI_ge (b := 16) (by omega) (by decide)) (sc_changed p i hp (by omega) ?_)
    rw [sc_bkA, sc_bkA]
    dsimp only at ih'
    rw [← sc_bkS, ← sc_bkS] at ih'
    refine br_c (fun e => ?_) (fun e => ?_)
    · rw [e, Int32.add_zero] at ih'
      exact sc_back p i hp (by omega) hB (nm_r (nI_1 i) ih')
    · rw [(sc_ne01 _ _ _ _).resolve_left e] at ih'
      exact nm_e (sc_back p i hp (by omega) hB (nm_r (nI_1 i) ih'))
theorem sc_rewriteYL {post : Int32 → SY → Prop} (v w : Int32) (f0 : Nat) : ∀ (d i : Nat) (x : Int32), i + d = 16 → f0 ≤ i →
    post (sc_sm (fun f => sc_nz (lt f)) d i x) (td, ps, lt, sc_rw lt lv v w 0 f0 16, hd, cn, dy, pn, kp) →
    wY_rewrite_16 post v w td ps (d + 1) x (nI i) lt (sc_rw lt lv v w 0 f0 i) hd cn dy pn kp := by
  intro d
  induction d with
  | zero =>
    intro i x hi h0 h
    obtain rfl : i = 16 := by omega
    exact br_t (nI_le (a := 16) (by omega) (by decide)) h
  | succ d ih =>
    intro i x hi h0 h
    have ih' := ih (i + 1) _ (by omega) (by omega) h
    refine br_f (nI_ge (b := 16) (by omega) (by decide)) ?_
    rw [nI_clamp (by omega)]
    have h1 : vp_in (nI i) 16 := vp_in_nI (by omega) (by decide)
    dsimp only at ih'
    refine ⟨h1, br_c (fun e => ?_) (fun e => ⟨h1, ?_⟩)⟩
    · rw [show sc_nz (lt i) = 0 from if_pos e, Int32.add_zero, ← sc_rwT e] at ih'
      exact nm_r (nI_1 i) ih'
    · rw [show sc_nz (lt i) = 1 from if_neg e, ← sc_rwF (by omega) e, Nat.sub_zero] at ih'
      exact nm_e (nm_e (nm_r (nI_1 i) ih'))
theorem sc_versionsYL {post : Int32 → Prop} {n : Nat} (f : Nat) (hf : f < 16) (hn : n ≤ 14) : ∀ (d i : Nat) (x : Int32), 1 ≤ i → n ≤ i + d → (i ≤ n ∨ d = 0) →
    post (sc_sm (fun p => sc_ne (hd (16 * p + f)) (hd (16 * (p - 1) + f)) (cn (16 * p + f)) (cn (16 * (p - 1) + f))) d i x) → i + d ≤ 15 → i + d = n ∨ d = 0 →
    wY_versions_14 post (nI f) td (nI n) lt lv hd cn dy pn kp (d + 1) x (nI i) := by
  intro d
  induction d with
  | zero => intro i x hi h1 h2 h h3 h4; exact br_t (nI_le (by omega) (by omega)) h
  | succ d ih =>
    intro i x hi h1 h2 h h3 h4
    have ih' := ih (i + 1) _ (by omega) (by omega) (by omega) h (by omega) (by omega)
    refine br_f (nI_ge (by omega) (by omega)) (br_f (nI_ge (b := 14) (by omega) (by decide)) ?_)
    obtain ⟨j, rfl⟩ : ∃ j, i = j + 1 := ⟨i - 1, by omega⟩
    rw [nI_pred]
    refine sc_differ (j + 1) j f (by omega) (by omega) hf (br_c (fun e => ?_) (fun e => ?_))
    · dsimp only at ih'
      rw [Nat.add_sub_cancel, e, Int32.add_zero] at ih'
      exact nm_r (nI_1 (j + 1)) ih'
    · dsimp only at ih'
      rw [Nat.add_sub_cancel, (sc_ne01 _ _ _ _).resolve_left e] at ih'
      exact nm_e (nm_r (nI_1 (j + 1)) ih')
theorem sc_sumYL {post : Int32 → Prop} (p : Nat) (hp : p < 14) : ∀ (d i : Nat) (x : Int32), i + d = 16 →
    post (sc_sm (fun f => if hd (16 * p + f) = 0 then 0 else cn (16 * p + f)) d i x) → wY_sum_14 post (nI p) td ps lt lv hd cn dy pn kp (d + 1) x (nI i) := by
  intro d
  induction d with
  | zero => intro i x hi h; exact br_t (nI_le (a := 16) (by omega) (by omega)) h
  | succ d ih =>
    intro i x hi h
    have ih' := ih (i + 1) _ (by omega) h
    refine br_f (nI_ge (b := 16) (by omega) (by decide)) ?_
    rw [sc_yc, nI_clamp (by omega)]
    have h1 : vp_in (nI (16 * p + i)) 224 := vp_in_nI (by omega) (by decide)
    dsimp only at ih'
    refine ⟨h1, br_c (fun e => ?_) (fun e => ⟨h1, ?_⟩)⟩
    · rw [if_pos e, Int32.add_zero] at ih'
      exact nm_r (nI_1 i) ih'
    · rw [if_neg e] at ih'
      exact nm_e (nm_r (nI_1 i) ih')
/-- the first k cells of row p taken from the live cells -/
def sc_tk (g l : Nat → Int32) (p k : Nat) : Nat → Int32 := fun i => if 16 * p ≤ i ∧ i < 16 * p + k then l (i - 16 * p) else g i
theorem sc_tk0 (g l : Nat → Int32) (p : Nat) : sc_tk g l p 0 = g := by
  funext i
  unfold sc_tk
  rw [if_neg (by omega)]
theorem sc_tkS (g l : Nat → Int32) (p k : Nat) : upd (sc_tk g l p k) (16 * p + k) (l k) = sc_tk g l p (k + 1) := by
  funext i
  unfold upd sc_tk
  by_cases h : i = 16 * p + k
  · subst h
    rw [if_pos rfl, if_pos (by omega), Nat.add_sub_cancel_left]
  · rw [if_neg h]
    by_cases h2 : 16 * p ≤ i ∧ i < 16 * p + k
    · rw [if_pos h2, if_pos (by omega)]
    · rw [if_neg h2, if_neg (by omega)]
theorem sc_tkB {g l : Nat → Int32} (h : sc_B g) (hl : sc_B l) (p k : Nat) : sc_B (sc_tk g l p k) := fun i => by
  unfold sc_tk
  by_cases e : 16 * p ≤ i ∧ i < 16 * p + k
  · rw [if_pos e]; exact hl _
  · rw [if_neg e]; exact h i
theorem sc_takeL {post : Int32 → SY → Prop} (p : Nat) (hp : p < 14) (hB : sc_B lt)
    (h : post (nI p) (td, nI (p + 1), lt, lv, sc_tk hd lt p 16, sc_tk cn lv p 16, upd dy p td, upd pn p 0, kp)) : ∀ (d i : Nat), i + d = 16 →
    wY_take_27 post (nI p) td ps (d + 1) (nI i) lt lv (sc_tk hd lt p i) (sc_tk cn lv p i) dy pn kp := by
  intro d
  induction d with
  | zero =>
    intro i hi
    obtain rfl : i = 16 := by omega
    refine br_t (nI_le (a := 16) (by omega) (by decide)) ?_
    rw [nI_clamp (show p < 2 ^ 31 by omega), sc_n0]
    have h1 : vp_in (nI p) 14 := vp_in_nI (by omega) (by decide)
    exact ⟨h1, nm_e ⟨h1, nm_e (nm_r (nI_1 p) h)⟩⟩
  | succ d ih =>
    intro i hi
    have ih' := ih (i + 1) (by omega)
    refine br_f (nI_ge (b := 16) (by omega) (by decide)) ?_
    rw [sc_yc, nI_clamp (show 16 * p + i < 2 ^ 31 by omega), nI_clamp (show i < 2 ^ 31 by omega), sc_nB (hB _)]
    have h1 : vp_in (nI i) 16 := vp_in_nI (by omega) (by decide)
    have h2 : vp_in (nI (16 * p + i)) 224 := vp_in_nI (by omega) (by decide)
    rw [← sc_tkS, ← sc_tkS] at ih'
    exact ⟨h1, h2, nm_e ⟨h1, h2, nm_e (nm_r (nI_1 i) ih')⟩⟩
/-! takeOut -/
theorem sc_takeOutI {post : SY → Prop} {J : Int32 → (Nat → Int32) → (Nat → Int32) → (Nat → Int32) → (Nat → Int32) → (Nat → Int32) → (Nat → Int32) → (Nat → Int32) → Prop}
    (t : Nat → Nat) (q : Nat) (hq : q < 13) (hB : sc_B hd) (hP : sc_B pn) (hK : sc_B kp)
    (h : J (nI (q + 1)) lt lv (sc_rows hd (sc_un t q (t (q + 1)))) (sc_rows cn (sc_un t q (t (q + 1)))) (sc_pt dy (sc_un t q (t (q + 1)))) (sc_pt pn (sc_un t q (t (q + 1)))) (sc_pt kp (sc_un t q (t (q + 1))))) :
    ∀ (d i : Nat), i + d = 16 →
    wY_takeOut_20 post J (nI q) td ps (d + 1) (nI i) lt lv (sc_cp (sc_rows hd t) (q + 1) q i) (sc_cp (sc_rows cn t) (q + 1) q i) (sc_pt dy t) (sc_pt pn t) (sc_pt kp t) := by
  intro d
  induction d with
  | zero =>
    intro i hi
    obtain rfl : i = 16 := by omega
    refine br_t (nI_le (a := 16) (by omega) (by decide)) ?_
    rw [nI_1, nI_clamp (show q < 2 ^ 31 by omega), nI_clamp (show q + 1 < 2 ^ 31 by omega), sc_nB (sc_ptB hP t _), sc_nB (sc_ptB hK t _), sc_rowsM, sc_rowsM, sc_ptM, sc_ptM, sc_ptM]
    have h1 : vp_in (nI (q + 1)) 14 := vp_in_nI (by omega) (by decide)
    have h2 : vp_in (nI q) 14 := vp_in_nI (by omega) (by decide)
    exact ⟨h1, h2, nm_e ⟨h1, h2, nm_e ⟨h1, h2, nm_e (nm_e h)⟩⟩⟩
  | succ d ih =>
    intro i hi
    have ih' := ih (i + 1) (by omega)
    refine br_f (nI_ge (b := 16) (by omega) (by decide)) ?_
    rw [nI_1 q, sc_yc, sc_yc, nI_clamp (show 16 * (q + 1) + i < 2 ^ 31 by omega), nI_clamp (show 16 * q + i < 2 ^ 31 by omega), sc_nB (sc_cpB (sc_rowsB hB t) _ _ _ _)]
    have h1 : vp_in (nI (16 * (q + 1) + i)) 224 := vp_in_nI (by omega) (by decide)
    have h2 : vp_in (nI (16 * q + i)) 224 := vp_in_nI (by omega) (by decide)
    rw [← sc_cpS _ _ _ i (by omega), ← sc_cpS _ _ _ i (by omega)] at ih'
    exact ⟨h1, h2, nm_e ⟨h1, h2, nm_e (nm_r (nI_1 i) ih')⟩⟩
theorem sc_takeOutL {post : SY → Prop} {n p : Nat} (t : Nat → Nat) (hn : n ≤ 14) (hB : sc_B hd) (hP : sc_B pn) (hK : sc_B kp)
    (h : post (td, nI (n - 1), lt, lv, sc_rows hd (sc_sh t p (n - 1)), sc_rows cn (sc_sh t p (n - 1)), sc_pt dy (sc_sh t p (n - 1)), sc_pt pn (sc_sh t p (n - 1)), sc_pt kp (sc_sh t p (n - 1)))) :
    ∀ (d q : Nat), p ≤ q → q + 1 + d = n →
    wY_takeOut_2 post td (nI n) (d + 1) (nI q) lt lv (sc_rows hd (sc_sh t p q)) (sc_rows cn (sc_sh t p q)) (sc_pt dy (sc_sh t p q)) (sc_pt pn (sc_sh t p q)) (sc_pt kp (sc_sh t p q)) := by
  intro d
  induction d with
  | zero =>
    intro q hq e
    obtain rfl : n = q + 1 := by omega
    rw [Nat.add_sub_cancel] at h
    have hpr := nI_pred q
    refine br_t (by rw [hpr]; exact nI_le (by omega) (by omega)) (nm_r hpr h)
  | succ d ih =>
    intro q hq e
    have ih' := ih (q + 1) (by omega) (by omega)
    obtain ⟨m, rfl⟩ : ∃ m, n = m + 1 := ⟨n - 1, by omega⟩
    have hpr := nI_pred m
    refine br_f (by rw [hpr]; exact nI_ge (by omega) (by omega)) (br_f (nI_ge (b := 13) (by omega) (by decide)) ⟨17, ?_⟩)
    rw [← sc_shS t hq] at ih'
    have k := sc_takeOutI (post := post) (td := td) (ps := nI (m + 1)) (lt := lt) (lv := lv) (sc_sh t p q) q (by omega) hB hP hK ih' 16 0 rfl
    rw [sc_cp0, sc_cp0] at k
    exact k
theorem sc_takeOut {post : SY → Prop} {n p : Nat} (t : Nat → Nat) (hn : n ≤ 14) (hp : p < n) (hB : sc_B hd) (hP : sc_B pn) (hK : sc_B kp)
    (h : post (td, nI (n - 1), lt, lv, sc_rows hd (sc_sh t p (n - 1)), sc_rows cn (sc_sh t p (n - 1)), sc_pt dy (sc_sh t p (n - 1)), sc_pt pn (sc_sh t p (n - 1)), sc_pt kp (sc_sh t p (n - 1)))) :
    wpY_takeOut post (td, nI n, lt, lv, sc_rows hd t, sc_rows cn t, sc_pt dy t, sc_pt pn t, sc_pt kp t) (nI p) := by
  have k := sc_takeOutL t hn hB hP hK h (n - p - 1) p (by omega) (by omega)
  rw [sc_sh0] at k
  exact ⟨_, k⟩
end
