/-! prune: which points are kept -/
/-- 1 if point p is the last of its period of length l -/
def sc_h (n : Nat) (D : Nat → Nat) (l p : Nat) : Int32 := if p + 1 = n ∨ ¬ D p / l = D (p + 1) / l then 1 else 0
theorem sc_h1 {n : Nat} {D : Nat → Nat} {l p q : Nat} (hD : ∀ i j, i ≤ j → j < n → D i ≤ D j) (h : ¬ sc_h n D l p = 0) (hq : p < q) (hqn : q < n) : ¬ D q / l = D p / l := by
  unfold sc_h at h
  by_cases c : p + 1 = n ∨ ¬ D p / l = D (p + 1) / l
  · have h1 : D p / l ≤ D (p + 1) / l := Nat.div_le_div_right (hD p (p + 1) (by omega) (by omega))
    have h2 : D (p + 1) / l ≤ D q / l := Nat.div_le_div_right (hD (p + 1) q (by omega) hqn)
    omega
  · rw [if_neg c] at h
    exact absurd rfl h
theorem sc_h0 {n : Nat} {D : Nat → Nat} {l p : Nat} (h : sc_h n D l p = 0) : ¬ p + 1 = n ∧ D (p + 1) / l = D p / l := by
  unfold sc_h at h
  by_cases c : p + 1 = n ∨ ¬ D p / l = D (p + 1) / l
  · rw [if_pos c] at h
    exact absurd h (by decide)
  · omega
theorem sc_h01 (n : Nat) (D : Nat → Nat) (l p : Nat) : sc_h n D l p = 0 ∨ sc_h n D l p = 1 := by
  unfold sc_h
  by_cases c : p + 1 = n ∨ ¬ D p / l = D (p + 1) / l
  · rw [if_pos c]; exact Or.inr rfl
  · rw [if_neg c]; exact Or.inl rfl
def sc_kh (H : Nat → Int32) (m : Nat) : Nat → Nat → (Nat → Int32) → (Nat → Int32)
  | 0, _, k => k
  | p + 1, f, k => if f < m ∧ ¬ H p = 0 then sc_kh H m p (f + 1) (upd k p 1) else sc_kh H m p f k
theorem sc_khT {H : Nat → Int32} {m p f : Nat} {k : Nat → Int32} (h : f < m) (h2 : ¬ H p = 0) : sc_kh H m (p + 1) f k = sc_kh H m p (f + 1) (upd k p 1) := if_pos ⟨h, h2⟩
theorem sc_khF {H : Nat → Int32} {m p f : Nat} {k : Nat → Int32} (h : ¬ (f < m ∧ ¬ H p = 0)) : sc_kh H m (p + 1) f k = sc_kh H m p f k := if_neg h
theorem sc_khM {H : Nat → Int32} {m f : Nat} (h : m ≤ f) : ∀ (p : Nat) (k : Nat → Int32), sc_kh H m p f k = k := by
  intro p
  induction p with
  | zero => intro k; rfl
  | succ p ih =>
    intro k
    rw [sc_khF (fun z => by omega)]
    exact ih k
theorem sc_khB {H : Nat → Int32} {m : Nat} : ∀ (p f : Nat) (k : Nat → Int32), sc_B k → sc_B (sc_kh H m p f k) := by
  intro p
  induction p with
  | zero => intro f k h; exact h
  | succ p ih =>
    intro f k h
    by_cases c : f < m ∧ ¬ H p = 0
    · rw [sc_khT c.1 c.2]
      exact ih _ _ (sc_Bu h _ (Or.inr rfl))
    · rw [sc_khF c]
      exact ih _ _ h
theorem sc_khC {H : Nat → Int32} {m n : Nat} : ∀ (p f : Nat) (k k' : Nat → Int32), (∀ i, i < n → k i = k' i) → ∀ i, i < n → sc_kh H m p f k i = sc_kh H m p f k' i := by
  intro p
  induction p with
  | zero => intro f k k' h; exact h
  | succ p ih =>
    intro f k k' h
    by_cases c : f < m ∧ ¬ H p = 0
    · rw [sc_khT c.1 c.2, sc_khT c.1 c.2]
      refine ih _ _ _ (fun i hi => ?_)
      by_cases e : i = p
      · subst e
        rw [pk_us, pk_us]
      · rw [pk_un e, pk_un e]
        exact h i hi
    · rw [sc_khF c, sc_khF c]
      exact ih _ _ _ h
/-- v below k, g from there on -/
def sc_fl (v g : Nat → Int32) (k : Nat) : Nat → Int32 := fun i => if i < k then v i else g i
theorem sc_fl0 (v g : Nat → Int32) : sc_fl v g 0 = g := by
  funext i
  unfold sc_fl
  rw [if_neg (by omega)]
theorem sc_flS {v g : Nat → Int32} {k : Nat} {x : Int32} (e : x = v k) : upd (sc_fl v g k) k x = sc_fl v g (k + 1) := by
  subst e
  funext i
  unfold upd sc_fl
  by_cases h : i = k
  · subst h
    rw [if_pos rfl, if_pos (by omega)]
  · rw [if_neg h]
    by_cases h2 : i < k
    · rw [if_pos h2, if_pos (by omega)]
    · rw [if_neg h2, if_neg (by omega)]
/-- pinned, or the last of n -/
def sc_v (n : Nat) (g : Nat → Int32) : Nat → Int32 := fun i => if g i = 0 ∧ ¬ i + 1 = n then 0 else 1
def sc_w (n : Nat) (g : Nat → Int32) : Nat → Int32 := fun i => if n ≤ i then 0 else sc_v n g i
theorem sc_v01 (n : Nat) (g : Nat → Int32) (i : Nat) : sc_v n g i = 0 ∨ sc_v n g i = 1 := by
  unfold sc_v
  by_cases c : g i = 0 ∧ ¬ i + 1 = n
  · rw [if_pos c]; exact Or.inl rfl
  · rw [if_neg c]; exact Or.inr rfl
theorem sc_wB (n : Nat) (g k : Nat → Int32) (hk : sc_B k) (m : Nat) : sc_B (sc_fl (sc_w n g) k m) := fun i => by
  unfold sc_fl
  by_cases c : i < m
  · rw [if_pos c]
    unfold sc_w
    by_cases c2 : n ≤ i
    · rw [if_pos c2]; exact Or.inl rfl
    · rw [if_neg c2]; exact sc_v01 n g i
  · rw [if_neg c]; exact hk i
section
variable {td : Int32} {ct cc pd pp pk : Nat → Int32} {n : Nat} {D : Nat → Nat}
theorem sc_periodOf {post : Int32 → Prop} (l p : Nat) {kd : Int32} (hk : (kd = 0 ∧ l = 1) ∨ (kd = 1 ∧ l = 7) ∨ (kd = 2 ∧ l = 28)) (hp : p < 14) (h1 : pd p = nI (D p)) (h2 : D p ≤ 5000)
    (h : post (nI (D p / l))) : wpX_periodOf post (nI n, td, ct, cc, pd, pp, pk) (nI p) kd := by
  unfold wpX_periodOf
  dsimp only
  rw [nI_clamp (show p < 2 ^ 31 by omega), h1]
  have hi : vp_in (nI p) 14 := vp_in_nI hp (by decide)
  have e7 : nI (D p) / 7 = nI (D p / 7) := pk_div (d := 7) (by omega) (by decide) (by decide)
  have e28 : nI (D p) / 28 = nI (D p / 28) := pk_div (d := 28) (by omega) (by decide) (by decide)
  rw [e7, e28]
  rcases hk with ⟨rfl, rfl⟩ | ⟨rfl, rfl⟩ | ⟨rfl, rfl⟩
  · rw [Nat.div_one] at h
    exact br_f (by decide) (br_f (by decide) ⟨hi, h⟩)
  · exact br_t rfl ⟨hi, by decide, h⟩
  · exact br_f (by decide) (br_t rfl ⟨hi, by decide, h⟩)
theorem sc_isHead {post : Int32 → Prop} (l p : Nat) {kd : Int32} (hk : (kd = 0 ∧ l = 1) ∨ (kd = 1 ∧ l = 7) ∨ (kd = 2 ∧ l = 28)) (hn : n ≤ 14) (hp : p < n) (hP : ∀ q, q < n → pd q = nI (D q) ∧ D q ≤ 5000)
    (h : post (sc_h n D l p)) : wpX_isHead post (nI n, td, ct, cc, pd, pp, pk) (nI p) kd := by
  obtain ⟨m, rfl⟩ : ∃ m, n = m + 1 := ⟨n - 1, by omega⟩
  unfold wpX_isHead
  dsimp only
  rw [nI_pred, nI_1 p]
  unfold sc_h at h
  refine pk_eq p m (fun e => ?_) (fun e => sc_periodOf (D := D) l p hk (by omega) (hP p hp).1 (hP p hp).2 (sc_periodOf (D := D) l (p + 1) hk (by omega) (hP (p + 1) (by omega)).1 (hP (p + 1) (by omega)).2 ?_))
  · rw [if_pos (by omega)] at h
    exact h
  · have b1 : D p / l ≤ D p := Nat.div_le_self _ _
    have b2 : D (p + 1) / l ≤ D (p + 1) := Nat.div_le_self _ _
    have b3 := (hP p hp).2
    have b4 := (hP (p + 1) (by omega)).2
    refine pk_eq (D p / l) (D (p + 1) / l) (fun e2 => ?_) (fun e2 => ?_)
    · rw [if_neg (by omega)] at h
      exact h
    · rw [if_pos (Or.inr e2)] at h
      exact h
theorem sc_keepHeadsL {post : SX → Prop} (l m : Nat) {kd : Int32} (hk : (kd = 0 ∧ l = 1) ∨ (kd = 1 ∧ l = 7) ∨ (kd = 2 ∧ l = 28)) (hn : n ≤ 14) (hm : m < 10) (hP : ∀ q, q < n → pd q = nI (D q) ∧ D q ≤ 5000) :
    ∀ (p f : Nat) (k : Nat → Int32), p ≤ n → f + p ≤ 14 → post (nI n, td, ct, cc, pd, pp, sc_kh (sc_h n D l) m p f k) →
    wX_keepHeads_10 post kd (nI m) (nI n) td (p + 1) (nI f) (nI p + (-1)) ct cc pd pp k := by
  intro p
  induction p with
  | zero => intro f k hp hf h; exact br_t (by decide) h
  | succ p ih =>
    intro f k hp hf h
    rw [pk_m1]
    refine br_f (nI_pos (by omega)) (pk_le m f (fun e => ?_) (fun e => sc_isHead (D := D) l p hk hn (by omega) hP (br_c (fun e2 => ?_) (fun e2 => ?_))))
    · rw [sc_khM e] at h
      exact h
    · rw [sc_khF (fun z => z.2 e2)] at h
      exact nm_e (ih f k (by omega) (by omega) h)
    · rw [sc_khT e e2] at h
      rw [nI_clamp (show p < 2 ^ 31 by omega), sc_n1]
      exact ⟨vp_in_nI (by omega) (by decide), nm_e (nm_r (nI_1 f) (nm_e (ih (f + 1) _ (by omega) (by omega) h)))⟩
theorem sc_keepHeads {post : SX → Prop} (l m : Nat) {kd : Int32} (hk : (kd = 0 ∧ l = 1) ∨ (kd = 1 ∧ l = 7) ∨ (kd = 2 ∧ l = 28)) (hn : n ≤ 14) (hm : m < 10) (hP : ∀ q, q < n → pd q = nI (D q) ∧ D q ≤ 5000)
    (h : post (nI n, td, ct, cc, pd, pp, sc_kh (sc_h n D l) m n 0 pk)) : wpX_keepHeads post (nI n, td, ct, cc, pd, pp, pk) kd (nI m) := by
  unfold wpX_keepHeads
  dsimp only
  exact nm_r (Int32.sub_eq_add_neg _ _) ⟨_, sc_keepHeadsL l m hk hn hm hP n 0 pk (Nat.le_refl n) (by omega) h⟩
theorem sc_keepOnlyL {post : SX → Prop} (hn : n ≤ 14) (h : post (nI n, td, ct, cc, pd, pp, sc_fl (sc_v n pp) pk n)) : ∀ (d i : Nat), i + d = n →
    wX_keepOnlyPinnedAndLast_2 post (nI n) td (d + 1) (nI i) ct cc pd pp (sc_fl (sc_v n pp) pk i) := by
  intro d
  induction d with
  | zero =>
    intro i hi
    obtain rfl : i = n := by omega
    exact br_t (nI_le (by omega) (by omega)) h
  | succ d ih =>
    intro i hi
    have ih' := ih (i + 1) (by omega)
    obtain ⟨m, rfl⟩ : ∃ m, n = m + 1 := ⟨n - 1, by omega⟩
    have h1 : vp_in (nI i) 14 := vp_in_nI (by omega) (by decide)
    refine br_f (nI_ge (by omega) (by omega)) ?_
    rw [nI_pred, nI_clamp (show i < 2 ^ 31 by omega), sc_n0, sc_n1]
    refine ⟨h1, br_c (fun e => pk_eq i m (fun e2 => ⟨h1, nm_e (nm_r (nI_1 i) ?_)⟩) (fun e2 => ⟨h1, nm_e (nm_r (nI_1 i) ?_)⟩)) (fun e => ⟨h1, nm_e (nm_r (nI_1 i) ?_)⟩)⟩
    · rw [sc_flS (show (1 : Int32) = sc_v (m + 1) pp i from (if_neg (by omega)).symm)]
      exact ih'
    · rw [sc_flS (show (0 : Int32) = sc_v (m + 1) pp i from (if_pos ⟨e, by omega⟩).symm)]
      exact ih'
    · rw [sc_flS (show (1 : Int32) = sc_v (m + 1) pp i from (if_neg (fun z => e z.1)).symm)]
      exact ih'
theorem sc_keepOnly {post : SX → Prop} (hn : n ≤ 14) (h : post (nI n, td, ct, cc, pd, pp, sc_fl (sc_v n pp) pk n)) :
    wpX_keepOnlyPinnedAndLast post (nI n, td, ct, cc, pd, pp, pk) := by
  have k := sc_keepOnlyL hn h n 0 (by omega)
  rw [sc_fl0] at k
  exact ⟨_, k⟩
end
section
variable {td : Int32} {lt lv hd cn dy pn kp : Nat → Int32} {n : Nat} {D : Nat → Nat}
theorem sc_headT {post : Int32 → Prop} (l p : Nat) (hl : 0 < l) (hl2 : l < 100) (hn : n ≤ 14) (hp : p < n) (hP : ∀ q, q < n → dy q = nI (D q) ∧ D q ≤ 5000)
    (hH : ∀ q, p < q → q < n → ¬ D q / l = D p / l) (h : post 1) : ∀ (d q : Nat), p < q → q + d = n →
    wY_head_16 post (nI p) (nI l) td (nI n) lt lv hd cn dy pn kp (d + 1) (nI q) := by
  intro d
  induction d with
  | zero => intro q hq e; exact br_t (nI_le (by omega) (by omega)) h
  | succ d ih =>
    intro q hq e
    have ih' := ih (q + 1) (by omega) (by omega)
    refine br_f (nI_ge (by omega) (by omega)) (br_f (nI_ge (b := 14) (by omega) (by decide)) ?_)
    rw [nI_clamp (show q < 2 ^ 31 by omega), nI_clamp (show p < 2 ^ 31 by omega), (hP q (by omega)).1, (hP p hp).1]
    have b1 := (hP q (by omega)).2
    have b2 := (hP p hp).2
    have c1 : D q / l ≤ D q := Nat.div_le_self _ _
    have c2 : D p / l ≤ D p := Nat.div_le_self _ _
    rw [pk_div (by omega) hl (by omega), pk_div (by omega) hl (by omega)]
    have h0 : ¬ nI l = 0 := nI_ne0 hl (by omega)
    exact ⟨vp_in_nI (by omega) (by decide), h0, vp_in_nI (by omega) (by decide), h0, pk_eq (D q / l) (D p / l) (fun z => absurd z (hH q hq (by omega))) (fun _ => nm_r (nI_1 q) ih')⟩
theorem sc_headF {post : Int32 → Prop} (l p : Nat) (hl : 0 < l) (hl2 : l < 100) (hn : n ≤ 14) (hp : p + 1 < n) (hP : ∀ q, q < n → dy q = nI (D q) ∧ D q ≤ 5000)
    (hH : D (p + 1) / l = D p / l) (h : post 0) : wY_head_16 post (nI p) (nI l) td (nI n) lt lv hd cn dy pn kp 1 (nI (p + 1)) := by
  refine br_f (nI_ge (by omega) (by omega)) (br_f (nI_ge (b := 14) (by omega) (by decide)) ?_)
  rw [nI_clamp (show p + 1 < 2 ^ 31 by omega), nI_clamp (show p < 2 ^ 31 by omega), (hP (p + 1) (by omega)).1, (hP p (by omega)).1]
  have b1 := (hP (p + 1) (by omega)).2
  have b2 := (hP p (by omega)).2
  have c1 : D (p + 1) / l ≤ D (p + 1) := Nat.div_le_self _ _
  have c2 : D p / l ≤ D p := Nat.div_le_self _ _
  rw [pk_div (by omega) hl (by omega), pk_div (by omega) hl (by omega)]
  have h0 : ¬ nI l = 0 := nI_ne0 hl (by omega)
  exact ⟨vp_in_nI (by omega) (by decide), h0, vp_in_nI (by omega) (by decide), h0, pk_eq (D (p + 1) / l) (D p / l) (fun _ => h) (fun z => absurd hH z)⟩
theorem sc_head {post : Int32 → Prop} (l p : Nat) (hl : 0 < l) (hl2 : l < 100) (hn : n ≤ 14) (hp : p < n) (hP : ∀ q, q < n → dy q = nI (D q) ∧ D q ≤ 5000) (hD : ∀ i j, i ≤ j → j < n → D i ≤ D j)
    (h : post (sc_h n D l p)) : wpY_head post (td, nI n, lt, lv, hd, cn, dy, pn, kp) (nI p) (nI l) := by
  unfold wpY_head
  dsimp only
  refine br_t (nI_le (a := 1) (by omega) (by omega)) (nm_r (nI_1 p) ?_)
  rcases sc_h01 n D l p with e | e
  · obtain ⟨e1, e2⟩ := sc_h0 e
    rw [e] at h
    exact ⟨1, sc_headF (D := D) l p hl hl2 hn (by omega) hP e2 h⟩
  · have ne : ¬ sc_h n D l p = 0 := by rw [e]; decide
    rw [e] at h
    exact ⟨_, sc_headT (D := D) l p hl hl2 hn hp hP (fun q h1 h2 => sc_h1 hD ne h1 h2) h (n - (p + 1)) (p + 1) (by omega) (by omega)⟩
theorem sc_keepL {post : SY → Prop} (l m : Nat) (hl : 0 < l) (hl2 : l < 100) (hn : n ≤ 14) (hm : m < 10) (hP : ∀ q, q < n → dy q = nI (D q) ∧ D q ≤ 5000) (hD : ∀ i j, i ≤ j → j < n → D i ≤ D j) :
    ∀ (p f : Nat) (k : Nat → Int32), p ≤ n → f + p ≤ 14 → post (td, nI n, lt, lv, hd, cn, dy, pn, sc_kh (sc_h n D l) m p f k) →
    wY_keep_6 post (nI l) (nI m) td (nI n) (p + 1) (nI f) (nI p + (-1)) lt lv hd cn dy pn k := by
  intro p
  induction p with
  | zero => intro f k hp hf h; exact br_t (by decide) h
  | succ p ih =>
    intro f k hp hf h
    rw [pk_m1]
    refine br_f (nI_pos (by omega)) (br_f (nI_ge (by omega) (by omega)) (pk_le m f (fun e => ?_) (fun e => sc_head (D := D) l p hl hl2 hn (by omega) hP hD (br_c (fun e2 => ?_) (fun e2 => ?_)))))
    · rw [sc_khF (fun z => by omega)] at h
      exact nm_e (ih f k (by omega) (by omega) h)
    · rw [sc_khF (fun z => z.2 e2)] at h
      exact nm_e (ih f k (by omega) (by omega) h)
    · rw [sc_khT e e2] at h
      rw [nI_clamp (show p < 2 ^ 31 by omega), sc_n1]
      exact ⟨vp_in_nI (by omega) (by decide), nm_e (nm_r (nI_1 f) (nm_e (ih (f + 1) _ (by omega) (by omega) h)))⟩
theorem sc_keepLL {post : SY → Prop} (l m : Nat) (hl : 0 < l) (hl2 : l < 100) (hn : n ≤ 14) (hm : m < 10) (hP : ∀ q, q < n → dy q = nI (D q) ∧ D q ≤ 5000) (hD : ∀ i j, i ≤ j → j < n → D i ≤ D j)
    (h : post (td, nI n, lt, lv, hd, cn, dy, pn, sc_kh (sc_h n D l) m n 0 kp)) : ∀ (e : Nat), n + e ≤ 14 →
    wY_keep_6 post (nI l) (nI m) td (nI n) (n + e + 1) 0 (nI (n + e) + (-1)) lt lv hd cn dy pn kp := by
  intro e
  induction e with
  | zero => intro _; exact sc_keepL l m hl hl2 hn hm hP hD n 0 kp (Nat.le_refl n) (by omega) h
  | succ e ih =>
    intro he
    rw [← Nat.add_assoc, pk_m1]
    exact br_f (nI_pos (by omega)) (br_t (nI_le (by omega) (by omega)) (nm_e (ih (by omega))))
theorem sc_keep {post : SY → Prop} (l m : Nat) (hl : 0 < l) (hl2 : l < 100) (hn : n ≤ 14) (hm : m < 10) (hP : ∀ q, q < n → dy q = nI (D q) ∧ D q ≤ 5000) (hD : ∀ i j, i ≤ j → j < n → D i ≤ D j)
    (h : post (td, nI n, lt, lv, hd, cn, dy, pn, sc_kh (sc_h n D l) m n 0 kp)) : wpY_keep post (td, nI n, lt, lv, hd, cn, dy, pn, kp) (nI l) (nI m) := by
  have k := sc_keepLL l m hl hl2 hn hm hP hD h (14 - n) (by omega)
  rw [show n + (14 - n) = 14 by omega] at k
  exact ⟨_, k⟩
end
