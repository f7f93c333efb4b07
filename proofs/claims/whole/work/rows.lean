section
theorem pk_us {f : Nat → Int32} {k : Nat} {x : Int32} : upd f k x k = x := if_pos rfl
theorem pk_un {f : Nat → Int32} {k j : Nat} {x : Int32} (h : j ≠ k) : upd f k x j = f j := if_neg h
theorem pk_sub {a b : Nat} (h : b ≤ a) : nI a - nI b = nI (a - b) := by
  obtain ⟨c, rfl⟩ : ∃ c, a = c + b := ⟨a - b, by omega⟩
  rw [← nI_add, Int32.add_sub_cancel, Nat.add_sub_cancel]
theorem pk_m1 (n : Nat) : nI (n + 1) + (-1) = nI n := by
  rw [← nI_1, Int32.add_assoc, show (1 : Int32) + (-1) = 0 from rfl, Int32.add_zero]
theorem pk_mul (a b : Nat) : nI a * nI b = nI (a * b) := (Int32.ofNat_mul a b).symm
theorem pk_div {a d : Nat} (ha : a < 2 ^ 31) (h0 : 0 < d) (hd : d < 2 ^ 31) : nI a / nI d = nI (a / d) := by
  apply Int32.toInt_inj.mp
  rw [lg_idiv_nonneg (by rw [nI_toInt ha]; omega) (by rw [nI_toInt hd]; omega), nI_toInt ha, nI_toInt hd, nI_toInt (Nat.lt_of_le_of_lt (Nat.div_le_self a d) ha)]
  first | rfl | exact (Int.natCast_ediv _ _).symm
theorem pk_rem {a d : Nat} (ha : a < 2 ^ 31) (h0 : 0 < d) (hd : d < 2 ^ 31) : nI a - nI a / nI d * nI d = nI (a % d) := by
  rw [pk_div ha h0 hd, pk_mul, pk_sub (Nat.div_mul_le_self a d)]
  exact congrArg nI (by have := Nat.div_add_mod' a d; omega)
theorem pk_ix (x : Int32) {n : Nat} (hn : n < 2 ^ 31) : x < 0 ∨ nI n ≤ x ∨ ∃ j : Nat, j < n ∧ x = nI j := by
  by_cases h : x < 0
  · exact Or.inl h
  · obtain ⟨j, hj, rfl⟩ := nI_of h
    by_cases h2 : j < n
    · exact Or.inr (Or.inr ⟨j, h2, rfl⟩)
    · exact Or.inr (Or.inl (nI_le (by omega) hj))
theorem pk_le {x y : Int32} {A B : Prop} (a b : Nat) (f : a ≤ b → A) (g : b < a → B) (hx : x = nI a := by rfl) (hy : y = nI b := by rfl) (ha : a < 2 ^ 31 := by omega) (hb : b < 2 ^ 31 := by omega) : (x ≤ y → A) ∧ (¬ x ≤ y → B) := by
  subst hx hy
  rw [nI_leI ha hb]
  exact ⟨f, fun z => g (by omega)⟩
theorem pk_lt {x y : Int32} {A B : Prop} (a b : Nat) (f : a < b → A) (g : b ≤ a → B) (hx : x = nI a := by rfl) (hy : y = nI b := by rfl) (ha : a < 2 ^ 31 := by omega) (hb : b < 2 ^ 31 := by omega) : (x < y → A) ∧ (¬ x < y → B) := by
  subst hx hy
  rw [nI_ltI ha hb]
  exact ⟨f, fun z => g (by omega)⟩
theorem pk_eq {x y : Int32} {A B : Prop} (a b : Nat) (f : a = b → A) (g : a ≠ b → B) (hx : x = nI a := by rfl) (hy : y = nI b := by rfl) (ha : a < 2 ^ 31 := by omega) (hb : b < 2 ^ 31 := by omega) : (x = y → A) ∧ (¬ x = y → B) := by
  subst hx hy
  rw [nI_eq ha hb]
  exact ⟨f, g⟩
theorem pk_in {x : Int32} (n N : Nat) (h : n < N) (hx : x = nI n := by rfl) (hN : N < 2 ^ 31 := by omega) : vp_in x N := by
  subst hx
  exact vp_in_nI h hN
theorem pk_cl {x : Int32} (n : Nat) (hx : x = nI n := by rfl) (h : n < 2 ^ 31 := by omega) : x.toNatClampNeg = n := by
  subst hx
  exact nI_clamp h
/-! own rows: stores of truth values, cells -/
def sc_B (a : Nat → Int32) : Prop := ∀ i, a i = 0 ∨ a i = 1
theorem sc_n0 : vp_nar .boolean 0 = 0 := by decide
theorem sc_n1 : vp_nar .boolean 1 = 1 := by decide
theorem sc_nB {x : Int32} (h : x = 0 ∨ x = 1) : vp_nar .boolean x = x := by
  cases h with
  | inl h => rw [h]; exact sc_n0
  | inr h => rw [h]; exact sc_n1
theorem sc_Bu {a : Nat → Int32} (h : sc_B a) (k : Nat) {x : Int32} (hx : x = 0 ∨ x = 1) : sc_B (upd a k x) := fun i => by
  unfold upd
  by_cases e : i = k
  · rw [if_pos e]; exact hx
  · rw [if_neg e]; exact h i
theorem sc_xc (a f : Nat) : nI a * 16 + nI f = nI (16 * a + f) := by
  rw [show (16 : Int32) = nI 16 from rfl, pk_mul, nI_add, Nat.mul_comm]
theorem sc_x14 (f : Nat) : 14 * 16 + nI f = nI (224 + f) := sc_xc 14 f
theorem sc_yc (a f : Nat) : 16 * nI a + nI f = nI (16 * a + f) := by
  rw [show (16 : Int32) = nI 16 from rfl, pk_mul, nI_add]
theorem sc_file (x : Int32) : (x < 0 ∨ 16 ≤ x) ∨ ∃ f : Nat, f < 16 ∧ x = nI f := by
  rcases pk_ix x (n := 16) (by decide) with h | h | h
  · exact Or.inl (Or.inl h)
  · exact Or.inl (Or.inr h)
  · exact Or.inr h
theorem sc_point (x : Int32) {n : Nat} (hn : n ≤ 14) : (x < 0 ∨ nI n ≤ x) ∨ ∃ p : Nat, p < n ∧ x = nI p := by
  rcases pk_ix x (n := n) (by omega) with h | h | h
  · exact Or.inl (Or.inl h)
  · exact Or.inl (Or.inr h)
  · exact Or.inr h
/-- 0 if both pairs are equal, else 1 -/
def sc_ne (x y z w : Int32) : Int32 := if x = y ∧ z = w then 0 else 1
theorem sc_ne01 (x y z w : Int32) : sc_ne x y z w = 0 ∨ sc_ne x y z w = 1 := by
  unfold sc_ne
  by_cases h : x = y ∧ z = w
  · rw [if_pos h]; exact Or.inl rfl
  · rw [if_neg h]; exact Or.inr rfl
theorem sc_neC (x y z w : Int32) : sc_ne x y z w = sc_ne y x w z := by
  unfold sc_ne
  by_cases h : x = y ∧ z = w
  · rw [if_pos h, if_pos ⟨h.1.symm, h.2.symm⟩]
  · rw [if_neg h, if_neg (fun k => h ⟨k.1.symm, k.2.symm⟩)]
theorem sc_neI {post : Int32 → Prop} {x y z w : Int32} {P Q : Prop} (hP : P) (hQ : Q) (h : post (sc_ne x y z w)) :
    (x = y → (P ∧ (Q ∧ ((z = w → post 0) ∧ (¬ z = w → post 1))))) ∧ (¬ x = y → post 1) := by
  unfold sc_ne at h
  refine ⟨fun e => ⟨hP, hQ, fun g => ?_, fun g => ?_⟩, fun e => ?_⟩
  · rw [if_pos ⟨e, g⟩] at h; exact h
  · rw [if_neg (fun k => g k.2)] at h; exact h
  · rw [if_neg (fun k => e k.1)] at h; exact h
/-- x and then g i, g (i + 1) .., d of them -/
def sc_sm (g : Nat → Int32) : Nat → Nat → Int32 → Int32
  | 0, _, x => x
  | d + 1, i, x => sc_sm g d (i + 1) (x + g i)
theorem sc_smC {g h : Nat → Int32} : ∀ (d i : Nat) (x : Int32), (∀ j, i ≤ j → j < i + d → g j = h j) → sc_sm g d i x = sc_sm h d i x := by
  intro d
  induction d with
  | zero => intro i x _; rfl
  | succ d ih =>
    intro i x H
    show sc_sm g d (i + 1) (x + g i) = sc_sm h d (i + 1) (x + h i)
    rw [H i (by omega) (by omega)]
    exact ih (i + 1) _ (fun j h1 h2 => H j (by omega) (by omega))
/-! row maps -/
/-- the first k cells of row a over those of row b -/
def sc_cp (g : Nat → Int32) (a b k : Nat) : Nat → Int32 := fun i => if 16 * b ≤ i ∧ i < 16 * b + k then g (16 * a + (i - 16 * b)) else g i
theorem sc_cp0 (g : Nat → Int32) (a b : Nat) : sc_cp g a b 0 = g := by
  funext i
  unfold sc_cp
  rw [if_neg (by omega)]
theorem sc_cpA (g : Nat → Int32) (a b k : Nat) (hk : k < 16) : sc_cp g a b k (16 * a + k) = g (16 * a + k) := by
  unfold sc_cp
  rw [if_neg (by omega)]
theorem sc_cpS (g : Nat → Int32) (a b k : Nat) (hk : k < 16) : upd (sc_cp g a b k) (16 * b + k) (sc_cp g a b k (16 * a + k)) = sc_cp g a b (k + 1) := by
  rw [sc_cpA g a b k hk]
  funext i
  unfold upd sc_cp
  by_cases h : i = 16 * b + k
  · rw [if_pos h, if_pos (by omega), h]
    congr 1
    omega
  · rw [if_neg h]
    by_cases h2 : 16 * b ≤ i ∧ i < 16 * b + k
    · rw [if_pos h2, if_pos (by omega)]
    · rw [if_neg h2, if_neg (by omega)]
theorem sc_cpB {g : Nat → Int32} (h : sc_B g) (a b k : Nat) : sc_B (sc_cp g a b k) := fun i => by
  unfold sc_cp
  by_cases e : 16 * b ≤ i ∧ i < 16 * b + k
  · rw [if_pos e]; exact h _
  · rw [if_neg e]; exact h i
def sc_un (t : Nat → Nat) (b v : Nat) : Nat → Nat := fun j => if j = b then v else t j
def sc_rows (g : Nat → Int32) (t : Nat → Nat) : Nat → Int32 := fun i => g (16 * t (i / 16) + i % 16)
def sc_pt (g : Nat → Int32) (t : Nat → Nat) : Nat → Int32 := fun j => g (t j)
theorem sc_rowsI (g : Nat → Int32) : sc_rows g id = g := by
  funext i
  unfold sc_rows
  congr 1
  exact Nat.div_add_mod i 16
theorem sc_ptI (g : Nat → Int32) : sc_pt g id = g := rfl
theorem sc_rowsB {g : Nat → Int32} (h : sc_B g) (t : Nat → Nat) : sc_B (sc_rows g t) := fun _ => h _
theorem sc_ptB {g : Nat → Int32} (h : sc_B g) (t : Nat → Nat) : sc_B (sc_pt g t) := fun _ => h _
theorem sc_rowsA (g : Nat → Int32) (t : Nat → Nat) {p f : Nat} (hf : f < 16) : sc_rows g t (16 * p + f) = g (16 * t p + f) := by
  unfold sc_rows
  rw [show (16 * p + f) / 16 = p by omega, show (16 * p + f) % 16 = f by omega]
theorem sc_rowsM (g : Nat → Int32) (t : Nat → Nat) (a b : Nat) : sc_cp (sc_rows g t) a b 16 = sc_rows g (sc_un t b (t a)) := by
  funext i
  unfold sc_cp
  by_cases e : 16 * b ≤ i ∧ i < 16 * b + 16
  · rw [if_pos e, sc_rowsA g t (by omega)]
    unfold sc_rows sc_un
    rw [show i / 16 = b by omega, if_pos rfl, show i % 16 = i - 16 * b by omega]
  · rw [if_neg e]
    unfold sc_rows sc_un
    rw [if_neg (show ¬ i / 16 = b by omega)]
theorem sc_ptM (g : Nat → Int32) (t : Nat → Nat) (a b : Nat) : upd (sc_pt g t) b (sc_pt g t a) = sc_pt g (sc_un t b (t a)) := by
  funext i
  unfold upd sc_pt sc_un
  by_cases e : i = b
  · rw [if_pos e, if_pos e]
  · rw [if_neg e, if_neg e]
/-- rows p up to q - 1 taken from the next one -/
def sc_sh (t : Nat → Nat) (p q : Nat) : Nat → Nat := fun j => if p ≤ j ∧ j < q then t (j + 1) else t j
theorem sc_sh0 (t : Nat → Nat) (p : Nat) : sc_sh t p p = t := by
  funext j
  unfold sc_sh
  rw [if_neg (by omega)]
theorem sc_shS (t : Nat → Nat) {p q : Nat} (h : p ≤ q) : sc_un (sc_sh t p q) q (sc_sh t p q (q + 1)) = sc_sh t p (q + 1) := by
  funext j
  unfold sc_un sc_sh
  by_cases e : j = q
  · rw [if_pos e, if_neg (by omega), if_pos (by omega), e]
  · rw [if_neg e]
    by_cases e2 : p ≤ j ∧ j < q
    · rw [if_pos e2, if_pos (by omega)]
    · rw [if_neg e2, if_neg (by omega)]
end
