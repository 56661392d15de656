/-! numbers: Int32 as the image of an Int; branches and names by Int -/
def iv_z (z : Int) : Int32 := Int32.ofInt z
theorem iv_n (n : Nat) : nI n = iv_z n := Int32.ofInt_eq_ofNat.symm
theorem iv_add (a b : Int) : iv_z a + iv_z b = iv_z (a + b) := (Int32.ofInt_add a b).symm
theorem iv_sub (a b : Int) : iv_z a - iv_z b = iv_z (a - b) := (Int32.ofInt_sub a b).symm
theorem iv_mul (a b : Int) : iv_z a * iv_z b = iv_z (a * b) := (Int32.ofInt_mul a b).symm
theorem iv_t {z : Int} (h1 : -2147483648 ≤ z) (h2 : z < 2147483648) : (iv_z z).toInt = z := Int32.toInt_ofInt_of_le (by omega) (by omega)
theorem iv_back (x : Int32) : iv_z x.toInt = x := Int32.ofInt_toInt x
theorem iv_le {a b : Int} (a1 : -2147483648 ≤ a) (a2 : a < 2147483648) (b1 : -2147483648 ≤ b) (b2 : b < 2147483648) : iv_z a ≤ iv_z b ↔ a ≤ b := by
  rw [Int32.le_iff_toInt_le, iv_t a1 a2, iv_t b1 b2]
theorem iv_lt {a b : Int} (a1 : -2147483648 ≤ a) (a2 : a < 2147483648) (b1 : -2147483648 ≤ b) (b2 : b < 2147483648) : iv_z a < iv_z b ↔ a < b := by
  rw [Int32.lt_iff_toInt_lt, iv_t a1 a2, iv_t b1 b2]
theorem iv_eq {a b : Int} (a1 : -2147483648 ≤ a) (a2 : a < 2147483648) (b1 : -2147483648 ≤ b) (b2 : b < 2147483648) : iv_z a = iv_z b ↔ a = b := by
  rw [← Int32.toInt_inj, iv_t a1 a2, iv_t b1 b2]
theorem iv_div {a b : Int} (a1 : -2147483648 ≤ a) (a2 : a < 2147483648) (b1 : -2147483648 ≤ b) (b2 : b < 2147483648) : iv_z a / iv_z b = iv_z (a.tdiv b) := by
  have m1 : Int32.minValue.toInt = -2147483648 := by decide
  have m2 : Int32.maxValue.toInt = 2147483647 := by decide
  exact (Int32.ofInt_tdiv (by omega) (by omega) (by omega) (by omega)).symm
theorem iv_rem {a b : Int} (a1 : -2147483648 ≤ a) (a2 : a < 2147483648) (b1 : -2147483648 ≤ b) (b2 : b < 2147483648) : iv_z a - iv_z a / iv_z b * iv_z b = iv_z (a.tmod b) := by
  rw [iv_div a1 a2 b1 b2, iv_mul, iv_sub]
  refine congrArg iv_z ?_
  have h := Int.tmod_def a b
  rw [Int.mul_comm] at h
  exact h.symm
theorem iv_ble {x y : Int32} {A B : Prop} (a b : Int) (f : a ≤ b → A) (g : b < a → B) (hx : x = iv_z a := by rfl) (hy : y = iv_z b := by rfl) (a1 : -2147483648 ≤ a := by omega) (a2 : a < 2147483648 := by omega) (b1 : -2147483648 ≤ b := by omega) (b2 : b < 2147483648 := by omega) : (x ≤ y → A) ∧ (¬ x ≤ y → B) := by
  subst hx hy
  rw [iv_le a1 a2 b1 b2]
  exact ⟨f, fun z => g (by omega)⟩
theorem iv_blt {x y : Int32} {A B : Prop} (a b : Int) (f : a < b → A) (g : b ≤ a → B) (hx : x = iv_z a := by rfl) (hy : y = iv_z b := by rfl) (a1 : -2147483648 ≤ a := by omega) (a2 : a < 2147483648 := by omega) (b1 : -2147483648 ≤ b := by omega) (b2 : b < 2147483648 := by omega) : (x < y → A) ∧ (¬ x < y → B) := by
  subst hx hy
  rw [iv_lt a1 a2 b1 b2]
  exact ⟨f, fun z => g (by omega)⟩
theorem iv_beq {x y : Int32} {A B : Prop} (a b : Int) (f : a = b → A) (g : a ≠ b → B) (hx : x = iv_z a := by rfl) (hy : y = iv_z b := by rfl) (a1 : -2147483648 ≤ a := by omega) (a2 : a < 2147483648 := by omega) (b1 : -2147483648 ≤ b := by omega) (b2 : b < 2147483648 := by omega) : (x = y → A) ∧ (¬ x = y → B) := by
  subst hx hy
  rw [iv_eq a1 a2 b1 b2]
  exact ⟨f, g⟩
/-- an array of ints as the image of a function to Int -/
def iv_A (G : Nat → Int) : Nat → Int32 := fun j => iv_z (G j)
theorem iv_A_of (a : Nat → Int32) : a = iv_A (fun j => (a j).toInt) := funext fun j => (iv_back (a j)).symm
theorem iv_A_upd (G : Nat → Int) (k : Nat) (z : Int) : upd (iv_A G) k (iv_z z) = iv_A (fun j => if j = k then z else G j) := by
  funext j
  show (if j = k then iv_z z else iv_z (G j)) = iv_z (if j = k then z else G j)
  by_cases h : j = k
  · rw [if_pos h, if_pos h]
  · rw [if_neg h, if_neg h]
theorem iv_4 (i : Nat) : (4 : Int32) * nI i = nI (4 * i) := (Int32.ofNat_mul 4 i).symm
theorem iv_ix (i x : Nat) : (4 : Int32) * nI i + nI x = nI (4 * i + x) := by rw [iv_4, nI_add]
theorem iv_in {i x : Nat} (hi : i < 100) (hx : x < 4) : vp_in ((4 : Int32) * nI i + nI x) 400 := by
  rw [iv_ix]; exact vp_in_nI (by omega) (by omega)
theorem iv_in0 {x : Nat} (hx : x < 4) : vp_in (nI x) 400 := vp_in_nI (by omega) (by omega)
theorem iv_rd (G : Nat → Int) {i x : Nat} (hi : i < 100) (hx : x < 4) : iv_A G ((4 : Int32) * nI i + nI x).toNatClampNeg = iv_z (G (4 * i + x)) := by
  rw [iv_ix, nI_clamp (by omega)]; rfl
theorem iv_rd0 (G : Nat → Int) {x : Nat} (hx : x < 4) : iv_A G (nI x).toNatClampNeg = iv_z (G x) := by
  rw [nI_clamp (by omega)]; rfl
theorem iv_m1 (n : Nat) : nI (n + 1) + (-1) = nI n := by
  rw [← nI_1, Int32.add_assoc, show (1 : Int32) + (-1) = 0 from rfl, Int32.add_zero]
/-- an int is no variable's number -/
def iv_nv (p : Int32) : Prop := p < 0 ∨ (¬ p < 0 ∧ (4 : Int32) ≤ p ∧ (3 : Int32) < p)
theorem iv_var (p : Int32) : (∃ x : Nat, x < 4 ∧ p = nI x) ∨ iv_nv p := by
  by_cases h : p < 0
  · exact Or.inr (Or.inl h)
  · obtain ⟨j, hj, rfl⟩ := nI_of h
    by_cases h4 : j < 4
    · exact Or.inl ⟨j, h4, rfl⟩
    · exact Or.inr (Or.inr ⟨h, nI_le (a := 4) (by omega) hj, nI_lt (a := 3) (by omega) hj⟩)
/-- the values of variable x -/
def iv_v (G : Nat → Int) (x : Nat) : Nat → Int := fun i => G (4 * i + x)
def iv_ok (G : Nat → Int) : Prop := ∀ j, -100 ≤ G j ∧ G j ≤ 100
theorem iv_vb {G : Nat → Int} (h : iv_ok G) (x i : Nat) : -100 ≤ iv_v G x i ∧ iv_v G x i ≤ 100 := h (4 * i + x)
theorem iv_yR (G : Nat → Int) {i x : Nat} (hi : i < 100) (hx : x < 4) : iv_A G ((4 : Int32) * nI i + nI x).toNatClampNeg = iv_z (iv_v G x i) := iv_rd G hi hx
theorem iv_yR0 (G : Nat → Int) {x : Nat} (hx : x < 4) : iv_A G (nI x).toNatClampNeg = iv_z (iv_v G x 0) := by
  rw [iv_rd0 G hx]
  show iv_z (G x) = iv_z (G (4 * 0 + x))
  rw [Nat.mul_zero, Nat.zero_add]
theorem iv_k1000 : (-1000 : Int32) = iv_z (-1000) := by decide
theorem iv_k101 : (-101 : Int32) = iv_z (-101) := by decide
theorem iv_k100 : (-100 : Int32) = iv_z (-100) := by decide
theorem iv_kp100 : (100 : Int32) = iv_z 100 := by decide
theorem iv_k0 : (0 : Int32) = iv_z 0 := by decide
theorem iv_k1 : (1 : Int32) = iv_z 1 := by decide
theorem iv_k2 : (2 : Int32) = iv_z 2 := by decide
theorem iv_k200 : (200 : Int32) = iv_z 200 := by decide
theorem iv_km1 : (-1 : Int32) = iv_z (-1) := by decide
