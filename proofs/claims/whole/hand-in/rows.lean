section
/-! numbers: Int32 as the image of an Int; branches and names by Int -/
def iv_z (z : Int) : Int32 := Int32.ofInt z
theorem iv_n (n : Nat) : nI n = iv_z n := Int32.ofInt_eq_ofNat.symm
theorem iv_add (a b : Int) : iv_z a + iv_z b = iv_z (a + b) := (Int32.ofInt_add a b).symm
theorem iv_sub (a b : Int) : iv_z a - iv_z b = iv_z (a - b) := (Int32.ofInt_sub a b).symm
theorem iv_mul (a b : Int) : iv_z a * iv_z b = iv_z (a * b) := (Int32.ofInt_mul a b).symm
theorem iv_t {z : Int} (h1 : -2147483648 ≤ z) (h2 : z < 2147483648) : (iv_z z).toInt = z := Int32.toInt_ofInt_of_le (by omega) (by omega)
theorem iv_back (x : Int32) : iv_z x.toInt = x := Int32.ofInt_toInt x
theorem iv_le {a b : Int} (a1 : -2147483648 ≤ a) (a2 : a < 2147483648) (b1 : -2147483648 ≤ b) (b2 : b < 2147483648) : iv_z a ≤ iv_z b ↔ a ≤ b := by
  rw [Int32.le_iff_toInt_le, iv_t a1 a2, iv_t b1 b2]
theorem iv_lt {a b : Int} (a1 : -2147483648 ≤ a) (a2 : a < 2147483648) (b1 : -2147483648 ≤ b) (b2 : b < 2147483648) : iv_z a < iv_z b ↔ a < b := by
  rw [Int32.lt_iff_toInt_lt, iv_t a1 a2, iv_t b1 b2]
theorem iv_eq {a b : Int} (a1 : -2147483648 ≤ a) (a2 : a < 2147483648) (b1 : -2147483648 ≤ b) (b2 : b < 2147483648) : iv_z a = iv_z b ↔ a = b := by
  rw [← Int32.toInt_inj, iv_t a1 a2, iv_t b1 b2]
theorem iv_div {a b : Int} (a1 : -2147483648 ≤ a) (a2 : a < 2147483648) (b1 : -2147483648 ≤ b) (b2 : b < 2147483648) : iv_z a / iv_z b = iv_z (a.tdiv b) := by
  have m1 : Int32.minValue.toInt = -2147483648 := by decide
  have m2 : Int32.maxValue.toInt = 2147483647 := by decide
  exact (Int32.ofInt_tdiv (by omega) (by omega) (by omega) (by omega)).symm
theorem iv_rem {a b : Int} (a1 : -2147483648 ≤ a) (a2 : a < 2147483648) (b1 : -2147483648 ≤ b) (b2 : b < 2147483648) : iv_z a - iv_z a / iv_z b * iv_z b = iv_z (a.tmod b) := by
  rw [iv_div a1 a2 b1 b2, iv_mul, iv_sub]
  refine congrArg iv_z ?_
  have h := Int.tmod_def a b
  rw [Int.mul_comm] at h
  exact h.symm
theorem iv_ble {x y : Int32} {A B : Prop} (a b : Int) (f : a ≤ b → A) (g : b < a → B) (hx : x = iv_z a := by rfl) (hy : y = iv_z b := by rfl) (a1 : -2147483648 ≤ a := by omega) (a2 : a < 2147483648 := by omega) (b1 : -2147483648 ≤ b := by omega) (b2 : b < 2147483648 := by omega) : (x ≤ y → A) ∧ (¬ x ≤ y → B) := by
  subst hx hy
  rw [iv_le a1 a2 b1 b2]
  exact ⟨f, fun z => g (by omega)⟩
theorem iv_blt {x y : Int32} {A B : Prop} (a b : Int) (f : a < b → A) (g : b ≤ a → B) (hx : x = iv_z a := by rfl) (hy : y = iv_z b := by rfl) (a1 : -2147483648 ≤ a := by omega) (a2 : a < 2147483648 := by omega) (b1 : -2147483648 ≤ b := by omega) (b2 : b < 2147483648 := by omega) : (x < y → A) ∧ (¬ x < y → B) := by
  subst hx hy
  rw [iv_lt a1 a2 b1 b2]
  exact ⟨f, fun z => g (by omega)⟩
theorem iv_beq {x y : Int32} {A B : Prop} (a b : Int) (f : a = b → A) (g : a ≠ b → B) (hx : x = iv_z a := by rfl) (hy : y = iv_z b := by rfl) (a1 : -2147483648 ≤ a := by omega) (a2 : a < 2147483648 := by omega) (b1 : -2147483648 ≤ b := by omega) (b2 : b < 2147483648 := by omega) : (x = y → A) ∧ (¬ x = y → B) := by
  subst hx hy
  rw [iv_eq a1 a2 b1 b2]
  exact ⟨f, g⟩
/-- an array of ints as the image of a function to Int -/
def iv_A (G : Nat → Int) : Nat → Int32 := fun j => iv_z (G j)
theorem iv_A_of (a : Nat → Int32) : a = iv_A (fun j => (a j).toInt) := funext fun j => (iv_back (a j)).symm
theorem iv_A_upd (G : Nat → Int) (k : Nat) (z : Int) : upd (iv_A G) k (iv_z z) = iv_A (fun j => if j = k then z else G j) := by
  funext j
  show (if j = k then iv_z z else iv_z (G j)) = iv_z (if j = k then z else G j)
  by_cases h : j = k
  · rw [if_pos h, if_pos h]
  · rw [if_neg h, if_neg h]
theorem iv_4 (i : Nat) : (4 : Int32) * nI i = nI (4 * i) := (Int32.ofNat_mul 4 i).symm
theorem iv_ix (i x : Nat) : (4 : Int32) * nI i + nI x = nI (4 * i + x) := by rw [iv_4, nI_add]
theorem iv_in {i x : Nat} (hi : i < 100) (hx : x < 4) : vp_in ((4 : Int32) * nI i + nI x) 400 := by
  rw [iv_ix]; exact vp_in_nI (by omega) (by omega)
theorem iv_in0 {x : Nat} (hx : x < 4) : vp_in (nI x) 400 := vp_in_nI (by omega) (by omega)
theorem iv_rd (G : Nat → Int) {i x : Nat} (hi : i < 100) (hx : x < 4) : iv_A G ((4 : Int32) * nI i + nI x).toNatClampNeg = iv_z (G (4 * i + x)) := by
  rw [iv_ix, nI_clamp (by omega)]; rfl
theorem iv_rd0 (G : Nat → Int) {x : Nat} (hx : x < 4) : iv_A G (nI x).toNatClampNeg = iv_z (G x) := by
  rw [nI_clamp (by omega)]; rfl
theorem iv_m1 (n : Nat) : nI (n + 1) + (-1) = nI n := by
  rw [← nI_1, Int32.add_assoc, show (1 : Int32) + (-1) = 0 from rfl, Int32.add_zero]
/-- an int is no variable's number -/
def iv_nv (p : Int32) : Prop := p < 0 ∨ (¬ p < 0 ∧ (4 : Int32) ≤ p ∧ (3 : Int32) < p)
theorem iv_var (p : Int32) : (∃ x : Nat, x < 4 ∧ p = nI x) ∨ iv_nv p := by
  by_cases h : p < 0
  · exact Or.inr (Or.inl h)
  · obtain ⟨j, hj, rfl⟩ := nI_of h
    by_cases h4 : j < 4
    · exact Or.inl ⟨j, h4, rfl⟩
    · exact Or.inr (Or.inr ⟨h, nI_le (a := 4) (by omega) hj, nI_lt (a := 3) (by omega) hj⟩)
/-- the values of variable x -/
def iv_v (G : Nat → Int) (x : Nat) : Nat → Int := fun i => G (4 * i + x)
def iv_ok (G : Nat → Int) : Prop := ∀ j, -100 ≤ G j ∧ G j ≤ 100
theorem iv_vb {G : Nat → Int} (h : iv_ok G) (x i : Nat) : -100 ≤ iv_v G x i ∧ iv_v G x i ≤ 100 := h (4 * i + x)
theorem iv_yR (G : Nat → Int) {i x : Nat} (hi : i < 100) (hx : x < 4) : iv_A G ((4 : Int32) * nI i + nI x).toNatClampNeg = iv_z (iv_v G x i) := iv_rd G hi hx
theorem iv_yR0 (G : Nat → Int) {x : Nat} (hx : x < 4) : iv_A G (nI x).toNatClampNeg = iv_z (iv_v G x 0) := by
  rw [iv_rd0 G hx]
  show iv_z (G x) = iv_z (G (4 * 0 + x))
  rw [Nat.mul_zero, Nat.zero_add]
theorem iv_k1000 : (-1000 : Int32) = iv_z (-1000) := by decide
theorem iv_k101 : (-101 : Int32) = iv_z (-101) := by decide
theorem iv_k100 : (-100 : Int32) = iv_z (-100) := by decide
theorem iv_kp100 : (100 : Int32) = iv_z 100 := by decide
theorem iv_k0 : (0 : Int32) = iv_z 0 := by decide
theorem iv_k1 : (1 : Int32) = iv_z 1 := by decide
theorem iv_k2 : (2 : Int32) = iv_z 2 := by decide
theorem iv_k200 : (200 : Int32) = iv_z 200 := by decide
theorem iv_km1 : (-1 : Int32) = iv_z (-1) := by decide
end
section
/-! pure: distinct values, their order, moduli -/
theorem iv_pig : ∀ (n m : Nat) (f g : Nat → Int), (∀ i j, i < m → j < m → f i = f j → i = j) → (∀ i, i < m → ∃ j, j < n ∧ f i = g j) → m ≤ n := by
  intro n
  induction n with
  | zero =>
    intro m f g _ h
    rcases Nat.eq_zero_or_pos m with h0 | h0
    · omega
    · obtain ⟨j, hj, _⟩ := h 0 h0
      omega
  | succ n ih =>
    intro m f g inj h
    by_cases hz : ∃ i, i < m ∧ f i = g n
    · obtain ⟨i0, hi0, e0⟩ := hz
      have key : m - 1 ≤ n := by
        refine ih (m - 1) (fun i => if i = i0 then f (m - 1) else f i) g ?_ ?_
        · intro i j hi hj e
          have e' : (if i = i0 then f (m - 1) else f i) = (if j = i0 then f (m - 1) else f j) := e
          by_cases a : i = i0
          · by_cases b : j = i0
            · omega
            · rw [if_pos a, if_neg b] at e'
              have := inj (m - 1) j (by omega) (by omega) e'
              omega
          · by_cases b : j = i0
            · rw [if_neg a, if_pos b] at e'
              have := inj i (m - 1) (by omega) (by omega) e'
              omega
            · rw [if_neg a, if_neg b] at e'
              exact inj i j (by omega) (by omega) e'
        · intro i hi
          show ∃ j, j < n ∧ (if i = i0 then f (m - 1) else f i) = g j
          by_cases a : i = i0
          · rw [if_pos a]
            obtain ⟨j, hj, e⟩ := h (m - 1) (by omega)
            refine ⟨j, ?_, e⟩
            rcases Nat.lt_or_ge j n with hl | hl
            · exact hl
            · have hjn : j = n := by omega
              rw [hjn, ← e0] at e
              have := inj (m - 1) i0 (by omega) hi0 e
              omega
          · rw [if_neg a]
            obtain ⟨j, hj, e⟩ := h i (by omega)
            refine ⟨j, ?_, e⟩
            rcases Nat.lt_or_ge j n with hl | hl
            · exact hl
            · have hjn : j = n := by omega
              rw [hjn, ← e0] at e
              exact absurd (inj i i0 (by omega) hi0 e) a
      omega
    · have key : m ≤ n := by
        refine ih m f g inj ?_
        intro i hi
        obtain ⟨j, hj, e⟩ := h i hi
        refine ⟨j, ?_, e⟩
        rcases Nat.lt_or_ge j n with hl | hl
        · exact hl
        · have hjn : j = n := by omega
          rw [hjn] at e
          exact absurd ⟨i, hi, e⟩ hz
      omega
/-- m lists d different values of the first c of v: all of them, or four -/
def iv_E (v : Nat → Int) (c d : Nat) (m : Nat → Int) : Prop :=
  d ≤ 4 ∧ (∀ j, j < d → ∃ i, i < c ∧ v i = m j) ∧ (∀ i j, i < d → j < d → m i = m j → i = j) ∧ (d < 4 → ∀ i, i < c → ∃ j, j < d ∧ v i = m j)
theorem iv_E_le {v : Nat → Int} {c d d' : Nat} {m m' : Nat → Int} (h : iv_E v c d m) (h' : iv_E v c d' m') : d ≤ d' := by
  obtain ⟨h1, h2, h3, _⟩ := h
  obtain ⟨k1, _, _, k4⟩ := h'
  by_cases hd : d' < 4
  · refine iv_pig d' d m m' h3 ?_
    intro j hj
    obtain ⟨i, hi, e⟩ := h2 j hj
    obtain ⟨t, ht, e'⟩ := k4 hd i hi
    exact ⟨t, ht, by rw [← e, e']⟩
  · omega
theorem iv_E_u {v : Nat → Int} {c d d' : Nat} {m m' : Nat → Int} (h : iv_E v c d m) (h' : iv_E v c d' m') : d = d' :=
  Nat.le_antisymm (iv_E_le h h') (iv_E_le h' h)
/-- fewer than two different values: all are the first -/
theorem iv_E_const {v : Nat → Int} {c d : Nat} {m : Nat → Int} (h : iv_E v c d m) (hd : d < 2) : ∀ i, i < c → v i = v 0 := by
  obtain ⟨_, _, _, h4⟩ := h
  intro i hi
  obtain ⟨j, hj, e⟩ := h4 (by omega) i hi
  obtain ⟨k, hk, e'⟩ := h4 (by omega) 0 (by omega)
  have : j = k := by omega
  rw [e, e', this]
theorem iv_E_two {v : Nat → Int} {c d : Nat} {m : Nat → Int} (h : iv_E v c d m) (hd : 2 ≤ d) : 0 < c ∧ ∃ i, i < c ∧ v i ≠ v 0 := by
  obtain ⟨_, h2, h3, _⟩ := h
  obtain ⟨a, ha, ea⟩ := h2 0 (by omega)
  obtain ⟨b, hb, eb⟩ := h2 1 (by omega)
  refine ⟨by omega, ?_⟩
  by_cases z : v a = v 0
  · refine ⟨b, hb, fun z' => ?_⟩
    have := h3 0 1 (by omega) (by omega) (by rw [← ea, ← eb, z, z'])
    omega
  · exact ⟨a, ha, z⟩
/-- r is the least of the first c of v above fl, or -1000 -/
def iv_L (v : Nat → Int) (c : Nat) (fl r : Int) : Prop :=
  (r = -1000 ∧ ∀ i, i < c → v i ≤ fl) ∨ (fl < r ∧ (∃ i, i < c ∧ v i = r) ∧ ∀ i, i < c → fl < v i → r ≤ v i)
theorem iv_L_0 (v : Nat → Int) (fl : Int) : iv_L v 0 fl (-1000) := Or.inl ⟨rfl, fun i hi => absurd hi (by omega)⟩
theorem iv_L_y {v : Nat → Int} {i : Nat} {fl r : Int} (hfl : -1000 ≤ fl) (h : iv_L v i fl r) (hf : fl < v i) (hr : r = -1000 ∨ v i < r) : iv_L v (i + 1) fl (v i) := by
  refine Or.inr ⟨hf, ⟨i, by omega, rfl⟩, ?_⟩
  intro j hj hv
  by_cases e : j = i
  · subst e; omega
  · rcases h with ⟨_, h⟩ | ⟨h1, _, h⟩
    · have := h j (by omega)
      omega
    · have := h j (by omega) hv
      omega
theorem iv_L_n {v : Nat → Int} {i : Nat} {fl r : Int} (h : iv_L v i fl r) (hn : v i ≤ fl ∨ (r ≠ -1000 ∧ r ≤ v i)) : iv_L v (i + 1) fl r := by
  rcases h with ⟨h1, h⟩ | ⟨h1, ⟨k, hk, ek⟩, h⟩
  · refine Or.inl ⟨h1, ?_⟩
    intro j hj
    by_cases e : j = i
    · subst e; omega
    · exact h j (by omega)
  · refine Or.inr ⟨h1, ⟨k, by omega, ek⟩, ?_⟩
    intro j hj hv
    by_cases e : j = i
    · subst e; omega
    · exact h j (by omega) hv
/-- m 0 < .. < m (f - 1) are the values up to l -/
def iv_C (v : Nat → Int) (c f : Nat) (m : Nat → Int) (l : Int) : Prop :=
  (∀ j, j < f → ∃ i, i < c ∧ v i = m j) ∧ (∀ j k, j < k → k < f → m j < m k) ∧ (∀ j, j < f → m j ≤ l) ∧ (∀ i, i < c → v i ≤ l → ∃ j, j < f ∧ v i = m j)
theorem iv_C_0 {v : Nat → Int} {c : Nat} (hv : ∀ i, -100 ≤ v i) (m : Nat → Int) : iv_C v c 0 m (-101) :=
  ⟨fun j hj => absurd hj (by omega), fun j k _ hk => absurd hk (by omega), fun j hj => absurd hj (by omega), fun i _ h => absurd h (by have := hv i; omega)⟩
theorem iv_C_s {v : Nat → Int} {c f : Nat} {m : Nat → Int} {l r : Int} (h : iv_C v c f m l) (hL : iv_L v c l r) (hr : r ≠ -1000) : iv_C v c (f + 1) (fun j => if j = f then r else m j) r := by
  obtain ⟨h1, h2, h3, h4⟩ := h
  rcases hL with ⟨e, _⟩ | ⟨k1, ⟨i0, hi0, e0⟩, k3⟩
  · exact absurd e hr
  · refine ⟨?_, ?_, ?_, ?_⟩
    · intro j hj
      show ∃ i, i < c ∧ v i = (if j = f then r else m j)
      by_cases e : j = f
      · rw [if_pos e]; exact ⟨i0, hi0, e0⟩
      · rw [if_neg e]; exact h1 j (by omega)
    · intro j k hjk hk
      show (if j = f then r else m j) < (if k = f then r else m k)
      rw [if_neg (by omega : ¬ j = f)]
      by_cases e : k = f
      · rw [if_pos e]
        have := h3 j (by omega)
        omega
      · rw [if_neg e]; exact h2 j k hjk (by omega)
    · intro j hj
      show (if j = f then r else m j) ≤ r
      by_cases e : j = f
      · exact Int.le_of_eq (if_pos e)
      · rw [if_neg e]
        have := h3 j (by omega)
        omega
    · intro i hi hv
      show ∃ j, j < f + 1 ∧ v i = (if j = f then r else m j)
      by_cases e : v i ≤ l
      · obtain ⟨j, hj, ej⟩ := h4 i hi e
        exact ⟨j, by omega, by rw [if_neg (by omega : ¬ j = f)]; exact ej⟩
      · have := k3 i hi (by omega)
        exact ⟨f, by omega, by rw [if_pos rfl]; omega⟩
theorem iv_C_inj {v : Nat → Int} {c f : Nat} {m : Nat → Int} {l : Int} (h : iv_C v c f m l) : ∀ i j, i < f → j < f → m i = m j → i = j := by
  obtain ⟨_, h2, _, _⟩ := h
  intro i j hi hj e
  rcases Nat.lt_trichotomy i j with a | a | a
  · have := h2 i j a hj
    omega
  · exact a
  · have := h2 j i a hi
    omega
theorem iv_C_e {v : Nat → Int} {c f : Nat} {m : Nat → Int} {l : Int} (h : iv_C v c f m l) (hl : -1000 ≤ l) (hL : iv_L v c l (-1000)) (hf : f ≤ 4) : iv_E v c f m := by
  refine ⟨hf, h.1, iv_C_inj h, fun _ i hi => h.2.2.2 i hi ?_⟩
  rcases hL with ⟨_, k⟩ | ⟨k, _, _⟩
  · exact k i hi
  · omega
theorem iv_C_4 {v : Nat → Int} {c : Nat} {m : Nat → Int} {l : Int} (h : iv_C v c 4 m l) : iv_E v c 4 m :=
  ⟨by omega, h.1, iv_C_inj h, fun z => absurd z (by omega)⟩
/-- how many of the first n of f are below t -/
def iv_ls (f : Nat → Int) (t : Int) : Nat → Nat
  | 0 => 0
  | n + 1 => if f n < t then iv_ls f t n + 1 else iv_ls f t n
theorem iv_ls_le (f : Nat → Int) (t : Int) (n : Nat) : iv_ls f t n ≤ n := by
  induction n with
  | zero => exact Nat.le_refl 0
  | succ n ih =>
    show (if f n < t then iv_ls f t n + 1 else iv_ls f t n) ≤ n + 1
    split <;> omega
theorem iv_ls_none {f : Nat → Int} {a b : Int} (n : Nat) (h : ∀ j, j < n → (f j < b ↔ f j < a)) : iv_ls f b n = iv_ls f a n := by
  induction n with
  | zero => rfl
  | succ n ih =>
    show (if f n < b then iv_ls f b n + 1 else iv_ls f b n) = (if f n < a then iv_ls f a n + 1 else iv_ls f a n)
    have e := h n (by omega)
    have i := ih (fun j hj => h j (by omega))
    by_cases z : f n < a
    · rw [if_pos z, if_pos (e.mpr z), i]
    · rw [if_neg z, if_neg (fun y => z (e.mp y)), i]
theorem iv_ls_one {f : Nat → Int} {a b : Int} (hab : a < b) (n : Nat) (h : ∀ j, j < n → (f j < b ↔ f j < a ∨ f j = a)) (inj : ∀ i j, i < n → j < n → f i = f j → i = j) (hx : ∃ j, j < n ∧ f j = a) : iv_ls f b n = iv_ls f a n + 1 := by
  induction n with
  | zero => obtain ⟨j, hj, _⟩ := hx; omega
  | succ n ih =>
    show (if f n < b then iv_ls f b n + 1 else iv_ls f b n) = (if f n < a then iv_ls f a n + 1 else iv_ls f a n) + 1
    by_cases z : f n = a
    · rw [if_pos (by omega : f n < b), if_neg (by omega : ¬ f n < a)]
      refine congrArg (· + 1) (iv_ls_none n ?_)
      intro j hj
      rw [h j (by omega)]
      refine ⟨fun y => ?_, fun y => Or.inl y⟩
      rcases y with y | y
      · exact y
      · have := inj j n (by omega) (by omega) (by rw [y, z])
        omega
    · obtain ⟨j, hj, ej⟩ := hx
      have hjn : j ≠ n := fun y => z (by rw [← y]; exact ej)
      have i := ih (fun j hj => h j (by omega)) (fun i j hi hj => inj i j (by omega) (by omega)) ⟨j, by omega, ej⟩
      have e := h n (by omega)
      by_cases y : f n < a
      · rw [if_pos y, if_pos (e.mpr (Or.inl y)), i]
      · have hb : ¬ f n < b := fun w => by rcases e.mp w with w | w <;> omega
        rw [if_neg y, if_neg hb, i]
theorem iv_ls_mono {f : Nat → Int} {a b : Int} (hab : a ≤ b) (n : Nat) : iv_ls f a n ≤ iv_ls f b n := by
  induction n with
  | zero => exact Nat.le_refl 0
  | succ n ih =>
    show (if f n < a then iv_ls f a n + 1 else iv_ls f a n) ≤ (if f n < b then iv_ls f b n + 1 else iv_ls f b n)
    by_cases z : f n < a
    · rw [if_pos z, if_pos (by omega : f n < b)]; omega
    · rw [if_neg z]; split <;> omega
theorem iv_ls_lt {f : Nat → Int} {a b : Int} (hab : a < b) (n : Nat) (hx : ∃ j, j < n ∧ f j = a) : iv_ls f a n < iv_ls f b n := by
  induction n with
  | zero => obtain ⟨j, hj, _⟩ := hx; omega
  | succ n ih =>
    show (if f n < a then iv_ls f a n + 1 else iv_ls f a n) < (if f n < b then iv_ls f b n + 1 else iv_ls f b n)
    by_cases z : f n = a
    · rw [if_neg (by omega : ¬ f n < a), if_pos (by omega : f n < b)]
      have := iv_ls_mono (f := f) (a := a) (b := b) (by omega) n
      omega
    · obtain ⟨j, hj, ej⟩ := hx
      have hjn : j ≠ n := fun y => z (by rw [← y]; exact ej)
      have i := ih ⟨j, by omega, ej⟩
      by_cases y : f n < a
      · rw [if_pos y, if_pos (by omega : f n < b)]; omega
      · rw [if_neg y]; split <;> omega
theorem iv_rank0 {v : Nat → Int} {c d K : Nat} {f m : Nat → Int} {l : Int} (hE : iv_E v c d f) (hd : d < 4) (hC : iv_C v c K m l) : ∀ k, k < K → iv_ls f (m k) d = k := by
  obtain ⟨_, e2, e3, e4⟩ := hE
  obtain ⟨c1, c2, c3, c4⟩ := hC
  have hin : ∀ j k, j < d → k < K → f j < m k → ∃ t, t < k ∧ f j = m t := by
    intro j k hj hk hlt
    obtain ⟨i, hi, ei⟩ := e2 j hj
    have hl := c3 k hk
    obtain ⟨t, ht, et⟩ := c4 i hi (by omega)
    refine ⟨t, ?_, by rw [← ei, et]⟩
    rcases Nat.lt_trichotomy t k with a | a | a
    · exact a
    · rw [a] at et; omega
    · have := c2 k t a ht
      omega
  intro k
  induction k with
  | zero =>
    intro hk
    have hz : ∀ n, n ≤ d → iv_ls f (m 0) n = 0 := by
      intro n
      induction n with
      | zero => intro _; rfl
      | succ n ih =>
        intro hn
        show (if f n < m 0 then iv_ls f (m 0) n + 1 else iv_ls f (m 0) n) = 0
        have hnn : ¬ f n < m 0 := by
          intro z
          obtain ⟨t, ht, _⟩ := hin n 0 (by omega) hk z
          omega
        rw [if_neg hnn]
        exact ih (by omega)
    exact hz d (Nat.le_refl d)
  | succ k ih =>
    intro hk
    have h1 := ih (by omega)
    have hlt := c2 k (k + 1) (by omega) hk
    rw [iv_ls_one (a := m k) hlt d ?_ e3 ?_, h1]
    · intro j hj
      refine ⟨fun z => ?_, fun z => by omega⟩
      obtain ⟨t, ht, et⟩ := hin j (k + 1) hj hk z
      by_cases y : t = k
      · exact Or.inr (by rw [et, y])
      · have := c2 t k (by omega) (by omega)
        exact Or.inl (by omega)
    · obtain ⟨i, hi, ei⟩ := c1 k (by omega)
      obtain ⟨j, hj, ej⟩ := e4 hd i hi
      exact ⟨j, hj, by rw [← ej, ei]⟩
/-- the place of a value in the order is its number of lesser ones -/
theorem iv_rank {v : Nat → Int} {c d k : Nat} {f m : Nat → Int} {r : Int} (hE : iv_E v c d f) (hd : d < 4) (hC : iv_C v c (k + 1) m r) (hr : m k = r) {i : Nat} (hi : i < d) : iv_ls f (f i) d = k ↔ f i = r := by
  have h0 := iv_rank0 hE hd hC k (by omega)
  refine ⟨fun h => ?_, fun h => by rw [h, ← hr]; exact h0⟩
  obtain ⟨i1, hi1, e1⟩ := hC.1 k (by omega)
  obtain ⟨j, hj, ej⟩ := hE.2.2.2 hd i1 hi1
  rcases (by omega : f i < m k ∨ f i = m k ∨ m k < f i) with a | a | a
  · have := iv_ls_lt (f := f) a d ⟨i, hi, rfl⟩
    omega
  · rw [a, hr]
  · have := iv_ls_lt (f := f) a d ⟨j, hj, by rw [← ej, e1]⟩
    omega
theorem iv_rank_ex {v : Nat → Int} {c d k : Nat} {f m : Nat → Int} {r : Int} (hE : iv_E v c d f) (hd : d < 4) (hC : iv_C v c (k + 1) m r) (hr : m k = r) : ∃ i, i < d ∧ f i = r := by
  obtain ⟨i1, hi1, e1⟩ := hC.1 k (by omega)
  obtain ⟨j, hj, ej⟩ := hE.2.2.2 hd i1 hi1
  exact ⟨j, hj, by rw [← ej, e1, hr]⟩
/-- all leave one rest -/
def iv_Sm (v : Nat → Int) (c : Nat) (m : Int) : Prop := ∀ i, i < c → m ∣ v i - v 0
theorem iv_modu {v m : Int} (hm : 0 < m) : (v.tmod m + m).tmod m = v % m := by
  have h1 := Int.lt_tmod_of_pos v hm
  have h0 : 0 ≤ v.tmod m + m := by omega
  rw [Int.tmod_eq_emod_of_nonneg h0, Int.add_emod_right, Int.tmod_def, Int.sub_mul_emod_self_left]
theorem iv_modn {v m : Int} (hm : 0 < m) (h : v.tmod m < 0) : v.tmod m + m = v % m := by
  have h1 := Int.lt_tmod_of_pos v hm
  have h2 := iv_modu (v := v) hm
  have h0 : 0 ≤ v.tmod m + m := by omega
  rw [Int.tmod_eq_emod_of_nonneg h0, Int.emod_eq_of_lt h0 (by omega : v.tmod m + m < m)] at h2
  exact h2
theorem iv_modp {v m : Int} (hm : 0 < m) (h : 0 ≤ v.tmod m) : v.tmod m = v % m := by
  have h1 := Int.tmod_lt_of_pos v hm
  have h2 := iv_modu (v := v) hm
  have h0 : 0 ≤ v.tmod m + m := by omega
  rw [Int.tmod_eq_emod_of_nonneg h0, Int.add_emod_right, Int.emod_eq_of_lt h h1] at h2
  exact h2
theorem iv_dvd {a b m : Int} : a % m = b % m ↔ m ∣ a - b := by
  rw [Int.emod_eq_emod_iff_emod_sub_eq_zero, Int.dvd_iff_emod_eq_zero]
/-- the greatest modulus -/
def iv_Mo (v : Nat → Int) (c : Nat) (M : Int) : Prop :=
  (2 ≤ M ∧ M ≤ 200 ∧ iv_Sm v c M ∧ ∀ m, M < m → m ≤ 200 → ¬ iv_Sm v c m) ∨ (M = 1 ∧ ∀ m, 2 ≤ m → m ≤ 200 → ¬ iv_Sm v c m)
theorem iv_Mo_u {v : Nat → Int} {c : Nat} {M M' : Int} (h : iv_Mo v c M) (h' : iv_Mo v c M') : M = M' := by
  rcases h with ⟨h1, h2, h3, h4⟩ | ⟨h1, h2⟩
  · rcases h' with ⟨k1, k2, k3, k4⟩ | ⟨k1, k2⟩
    · rcases (by omega : M < M' ∨ M = M' ∨ M' < M) with a | a | a
      · exact absurd k3 (h4 M' a k2)
      · exact a
      · exact absurd h3 (k4 M a h2)
    · exact absurd h3 (k2 M h1 h2)
  · rcases h' with ⟨k1, k2, k3, k4⟩ | ⟨k1, k2⟩
    · exact absurd k3 (h2 M' k1 k2)
    · omega
theorem iv_E_0 (v : Nat → Int) (F : Nat → Int) : iv_E v 0 0 F :=
  ⟨by omega, fun j hj => absurd hj (by omega), fun i j hi => absurd hi (by omega), fun _ i hi => absurd hi (by omega)⟩
theorem iv_E_k {v : Nat → Int} {i n : Nat} {F : Nat → Int} (h : iv_E v i n F) (hk : (∃ k, k < n ∧ F k = v i) ∨ n = 4) : iv_E v (i + 1) n F := by
  obtain ⟨h1, h2, h3, h4⟩ := h
  refine ⟨h1, fun j hj => ?_, h3, fun hn j hj => ?_⟩
  · obtain ⟨t, ht, et⟩ := h2 j hj
    exact ⟨t, by omega, et⟩
  · by_cases e : j = i
    · rcases hk with ⟨k, hk, ek⟩ | hk
      · exact ⟨k, hk, by rw [e, ek]⟩
      · omega
    · exact h4 hn j (by omega)
theorem iv_E_a {v : Nat → Int} {i n : Nat} {F : Nat → Int} (h : iv_E v i n F) (hn : n < 4) (hk : ∀ k, k < n → F k ≠ v i) : iv_E v (i + 1) (n + 1) (fun j => if j = n then v i else F j) := by
  obtain ⟨h1, h2, h3, h4⟩ := h
  refine ⟨by omega, fun j hj => ?_, fun a b ha hb e => ?_, fun _ j hj => ?_⟩
  · show ∃ t, t < i + 1 ∧ v t = (if j = n then v i else F j)
    by_cases e : j = n
    · rw [if_pos e]; exact ⟨i, by omega, rfl⟩
    · rw [if_neg e]
      obtain ⟨t, ht, et⟩ := h2 j (by omega)
      exact ⟨t, by omega, et⟩
  · have e' : (if a = n then v i else F a) = (if b = n then v i else F b) := e
    by_cases x : a = n
    · by_cases y : b = n
      · omega
      · rw [if_pos x, if_neg y] at e'
        exact absurd e'.symm (hk b (by omega))
    · by_cases y : b = n
      · rw [if_neg x, if_pos y] at e'
        exact absurd e' (hk a (by omega))
      · rw [if_neg x, if_neg y] at e'
        exact h3 a b (by omega) (by omega) e'
  · show ∃ t, t < n + 1 ∧ v j = (if t = n then v i else F t)
    by_cases e : j = i
    · exact ⟨n, by omega, by rw [if_pos rfl, e]⟩
    · obtain ⟨t, ht, et⟩ := h4 hn j (by omega)
      exact ⟨t, by omega, by rw [if_neg (by omega : ¬ t = n)]; exact et⟩
theorem iv_E_r {v : Nat → Int} {c d : Nat} {F : Nat → Int} (hv : ∀ i, -100 ≤ v i ∧ v i ≤ 100) (h : iv_E v c d F) {j : Nat} (hj : j < d) : -100 ≤ F j ∧ F j ≤ 100 := by
  obtain ⟨i, _, e⟩ := h.2.1 j hj
  rw [← e]; exact hv i
theorem iv_mb {a b : Int} (M N : Nat) (ha : a.natAbs ≤ M) (hb : b.natAbs ≤ N) : (a * b).natAbs ≤ M * N := by
  rw [Int.natAbs_mul]; exact Nat.mul_le_mul ha hb
/-- b is a place of the least value -/
def iv_Lo (v : Nat → Int) (c b : Nat) : Prop := (b = 0 ∨ b < c) ∧ ∀ i, i < c → v b ≤ v i
def iv_Hi (v : Nat → Int) (c b : Nat) : Prop := (b = 0 ∨ b < c) ∧ ∀ i, i < c → v i ≤ v b
theorem iv_Lo_1 (v : Nat → Int) : iv_Lo v 1 0 := by
  refine ⟨Or.inl rfl, fun i hi => ?_⟩
  obtain rfl : i = 0 := by omega
  exact Int.le_refl _
theorem iv_Lo_0 (v : Nat → Int) : iv_Lo v 0 0 := ⟨Or.inl rfl, fun i hi => absurd hi (by omega)⟩
theorem iv_Hi_1 (v : Nat → Int) : iv_Hi v 1 0 := by
  refine ⟨Or.inl rfl, fun i hi => ?_⟩
  obtain rfl : i = 0 := by omega
  exact Int.le_refl _
theorem iv_Hi_0 (v : Nat → Int) : iv_Hi v 0 0 := ⟨Or.inl rfl, fun i hi => absurd hi (by omega)⟩
theorem iv_Lo_y {v : Nat → Int} {i b : Nat} (h : iv_Lo v i b) (hb : v i < v b) : iv_Lo v (i + 1) i :=
  ⟨Or.inr (by omega), fun j hj => by
    by_cases e : j = i
    · subst e; omega
    · have := h.2 j (by omega)
      omega⟩
theorem iv_Lo_n {v : Nat → Int} {i b : Nat} (h : iv_Lo v i b) (hb : v b ≤ v i) : iv_Lo v (i + 1) b :=
  ⟨by have := h.1; omega, fun j hj => by
    by_cases e : j = i
    · subst e; omega
    · exact h.2 j (by omega)⟩
theorem iv_Hi_y {v : Nat → Int} {i b : Nat} (h : iv_Hi v i b) (hb : v b < v i) : iv_Hi v (i + 1) i :=
  ⟨Or.inr (by omega), fun j hj => by
    by_cases e : j = i
    · subst e; omega
    · have := h.2 j (by omega)
      omega⟩
theorem iv_Hi_n {v : Nat → Int} {i b : Nat} (h : iv_Hi v i b) (hb : v i ≤ v b) : iv_Hi v (i + 1) b :=
  ⟨by have := h.1; omega, fun j hj => by
    by_cases e : j = i
    · subst e; omega
    · exact h.2 j (by omega)⟩
/-- a truth as an int -/
def iv_B (P : Prop) (z : Int32) : Prop := (z = 1 ∧ P) ∨ (z = 0 ∧ ¬ P)
theorem iv_B_u {P Q : Prop} {z y : Int32} (e : P ↔ Q) (h : iv_B P z) (h' : iv_B Q y) : y = z := by
  rcases h with ⟨a, b⟩ | ⟨a, b⟩
  · rcases h' with ⟨a', b'⟩ | ⟨a', b'⟩
    · rw [a, a']
    · exact absurd (e.mp b) b'
  · rcases h' with ⟨a', b'⟩ | ⟨a', b'⟩
    · exact absurd (e.mpr b') b
    · rw [a, a']
theorem iv_all_s {P : Nat → Prop} {i : Nat} (h : ∀ j, j < i → P j) (hi : P i) : ∀ j, j < i + 1 → P j := fun j hj => by
  by_cases e : j = i
  · rw [e]; exact hi
  · exact h j (by omega)
theorem iv_all_p {P : Nat → Prop} {i : Nat} (h : ∀ j, j < i + 1 → P j) : ∀ j, j < i → P j := fun j hj => h j (by omega)
/-- the four relations -/
def iv_H (t : Nat) (a b : Int) : Prop := (t = 0 ∧ a < b) ∨ (t = 1 ∧ a ≤ b) ∨ (t = 2 ∧ a = b) ∨ (3 ≤ t ∧ a ≠ b)
end
section
/-! pure: lines -/
theorem iv_r1 (g a b w v : Int) (h : w * (g * a) = v * (g * b)) : g * (a * w) = g * (b * v) := by grind
theorem iv_r2 (p q g a b : Int) (h : p * (g * b) = q * (g * a)) : g * (b * p) = g * (a * q) := by grind
theorem iv_r3 (p q A B w v : Int) (h : p * w = q * v) (hx : p * B = q * A) : p * (w * A) = p * (v * B) := by grind
theorem iv_r4 (p q p' q' run ri : Int) (h : p * ri = q * run) (h' : p' * ri = q' * run) : p' * q * run = p * q' * run := by grind
theorem iv_r5 (p q p' q' w v : Int) (hx : p' * q = p * q') (ht : p' * w = q' * v) : p' * (p * w) = p' * (q * v) := by grind
def iv_T (v w : Nat → Int) (c : Nat) (p q : Int) : Prop :=
  0 < p ∧ q ≠ 0 ∧ (∃ i, i < c ∧ v i ≠ v 0) ∧ ∀ i, i < c → p * (w i - w 0) = q * (v i - v 0)
/-- P, Q are the least line's, or both 0 -/
def iv_S (v w : Nat → Int) (c : Nat) (P Q : Int) : Prop :=
  (P = 0 ∧ Q = 0 ∧ ∀ p q, ¬ iv_T v w c p q) ∨ (iv_T v w c P Q ∧ ∀ p q, iv_T v w c p q → P ≤ p)
theorem iv_S_u {v w : Nat → Int} {c : Nat} {P Q P' Q' : Int} (h : iv_S v w c P Q) (h' : iv_S v w c P' Q') : P = P' ∧ Q = Q' := by
  rcases h with ⟨h1, h2, h3⟩ | ⟨h1, h2⟩
  · rcases h' with ⟨k1, k2, k3⟩ | ⟨k1, k2⟩
    · omega
    · exact absurd k1 (h3 _ _)
  · rcases h' with ⟨k1, k2, k3⟩ | ⟨k1, k2⟩
    · exact absurd h1 (k3 _ _)
    · have e : P = P' := Int.le_antisymm (h2 _ _ k1) (k2 _ _ h1)
      refine ⟨e, ?_⟩
      obtain ⟨_, _, ⟨i, hi, hv⟩, a⟩ := h1
      obtain ⟨_, _, _, b⟩ := k1
      have a' := a i hi
      have b' := b i hi
      rw [← e, a'] at b'
      exact Int.eq_of_mul_eq_mul_right (by omega : v i - v 0 ≠ 0) b'
/-- two ways of a line: cross product -/
theorem iv_T_x {v w : Nat → Int} {c : Nat} {p q : Int} (h : iv_T v w c p q) {lo hi : Nat} (hlo : lo < c) (hhi : hi < c) : p * (w hi - w lo) = q * (v hi - v lo) := by
  obtain ⟨_, _, _, h⟩ := h
  have a := h lo hlo
  have b := h hi hhi
  rw [Int.mul_sub, Int.mul_sub] at a b ⊢
  omega
theorem iv_coprime {A B g : Int} (hg : 0 < g) (hA : 0 < A) (hA2 : g * A ≤ 200) (hm : ∀ d, g < d → d ≤ 200 → ¬ (d ∣ g * A ∧ d ∣ g * B)) : Int.gcd A B = 1 := by
  have h0 : 0 < Int.gcd A B := Int.gcd_pos_of_ne_zero_left B (by omega)
  rcases Nat.lt_or_ge (Int.gcd A B) 2 with a | a
  · omega
  · exfalso
    have d1 : g * (Int.gcd A B : Int) ∣ g * A := Int.mul_dvd_mul_left g (Int.gcd_dvd_left A B)
    have d2 : g * (Int.gcd A B : Int) ∣ g * B := Int.mul_dvd_mul_left g (Int.gcd_dvd_right A B)
    have hpos : 0 < g * A := Int.mul_pos hg hA
    have le := Int.le_of_dvd hpos d1
    have lt : g * 2 ≤ g * (Int.gcd A B : Int) := Int.mul_le_mul_of_nonneg_left (by omega) (by omega)
    exact hm _ (by omega) (by omega) ⟨d1, d2⟩
theorem iv_S_X {v w : Nat → Int} {c lo hi : Nat} {A B g : Int} (hlo : lo < c) (hhi : hi < c) (eA : A = v hi - v lo) (eB : B = w hi - w lo) (hA : 0 < A) (hA2 : A ≤ 200) (hB : B ≠ 0)
    (hon : ∀ i, i < c → (w i - w 0) * A = (v i - v 0) * B) (hg : 0 < g) (gA : g ∣ A) (gB : g ∣ B) (hm : ∀ d, g < d → d ≤ 200 → ¬ (d ∣ A ∧ d ∣ B)) : iv_S v w c (A.tdiv g) (B.tdiv g) := by
  obtain ⟨A', eA'⟩ := gA
  obtain ⟨B', eB'⟩ := gB
  have hg0 : g ≠ 0 := by omega
  rw [eA', eB', Int.mul_tdiv_cancel_left A' hg0, Int.mul_tdiv_cancel_left B' hg0]
  have hA' : 0 < A' := by
    rcases (by omega : A' < 0 ∨ A' = 0 ∨ 0 < A') with a | a | a
    · have : g * A' ≤ g * 0 := Int.mul_le_mul_of_nonneg_left (by omega) (by omega)
      omega
    · rw [a] at eA'; omega
    · exact a
  have hB' : B' ≠ 0 := by
    intro z
    rw [z] at eB'; omega
  have co : Int.gcd A' B' = 1 := iv_coprime hg hA' (by omega) (fun d a b => by rw [← eA', ← eB']; exact hm d a b)
  have hvar : ∃ i, i < c ∧ v i ≠ v 0 := by
    by_cases z : v lo = v 0
    · exact ⟨hi, hhi, by omega⟩
    · exact ⟨lo, hlo, z⟩
  refine Or.inr ⟨⟨hA', hB', hvar, ?_⟩, ?_⟩
  · intro i hi
    have h := hon i hi
    rw [eA', eB'] at h
    exact Int.eq_of_mul_eq_mul_left hg0 (iv_r1 _ _ _ _ _ h)
  · intro p q hT
    have hx := iv_T_x hT hlo hhi
    rw [← eA, ← eB, eA', eB'] at hx
    have hx2 : B' * p = A' * q := Int.eq_of_mul_eq_mul_left hg0 (iv_r2 _ _ _ _ _ hx)
    have dv : A' ∣ B' * p := ⟨q, hx2⟩
    rw [← Int.dvd_gcd_mul_iff_dvd_mul, co] at dv
    have dv' : A' ∣ p := by
      have e : ((1 : Nat) : Int) * p = p := by omega
      rw [e] at dv
      exact dv
    exact Int.le_of_dvd hT.1 dv'
/-- no line where the ways are nought or a sample lies off -/
theorem iv_S_X0 {v w : Nat → Int} {c lo hi : Nat} {A B : Int} (hlo : lo < c) (hhi : hi < c) (eA : A = v hi - v lo) (eB : B = w hi - w lo) (hA : 0 < A)
    (hno : B = 0 ∨ ∃ i, i < c ∧ (w i - w 0) * A ≠ (v i - v 0) * B) : iv_S v w c 0 0 := by
  refine Or.inl ⟨rfl, rfl, ?_⟩
  intro p q hT
  have hx := iv_T_x hT hlo hhi
  rw [← eA, ← eB] at hx
  obtain ⟨hp, hq, _, h⟩ := hT
  rcases hno with z | ⟨i, hi, z⟩
  · rw [z, Int.mul_zero] at hx
    exact Int.mul_ne_zero hq (by omega : A ≠ 0) hx.symm
  · refine z (Int.eq_of_mul_eq_mul_left (by omega : p ≠ 0) ?_)
    exact iv_r3 _ _ _ _ _ _ (h i hi) hx
theorem iv_S_const {v w : Nat → Int} {c : Nat} (h : ∀ i, i < c → v i = v 0) : iv_S v w c 0 0 :=
  Or.inl ⟨rfl, rfl, fun _ _ hT => by
    obtain ⟨_, _, ⟨i, hi, hv⟩, _⟩ := hT
    exact hv (h i hi)⟩
/-- the reference's search for the least factor, from 200 down to k + 1 -/
def iv_P (run ri k p q : Int) : Prop :=
  (p = 0 ∧ q = 0 ∧ ∀ j, k < j → j ≤ 200 → ¬ run ∣ j * ri) ∨ (k < p ∧ p ≤ 200 ∧ p * ri = q * run ∧ -40000 ≤ q ∧ q ≤ 40000 ∧ ∀ j, k < j → j < p → ¬ run ∣ j * ri)
theorem iv_P_0 (run ri : Int) : iv_P run ri 200 0 0 := Or.inl ⟨rfl, rfl, fun j a b => absurd a (by omega)⟩
theorem iv_P_n {run ri k p q : Int} (h : iv_P run ri (k + 1) p q) (hn : ¬ run ∣ (k + 1) * ri) : iv_P run ri k p q := by
  rcases h with ⟨h1, h2, h3⟩ | ⟨h1, h2, h3, h4, h5, h6⟩
  · refine Or.inl ⟨h1, h2, fun j a b => ?_⟩
    by_cases e : j = k + 1
    · rw [e]; exact hn
    · exact h3 j (by omega) b
  · refine Or.inr ⟨by omega, h2, h3, h4, h5, fun j a b => ?_⟩
    by_cases e : j = k + 1
    · rw [e]; exact hn
    · exact h6 j (by omega) b
theorem iv_bd {k r : Int} (h1 : 0 ≤ k) (h2 : k ≤ 200) (r1 : -200 ≤ r) (r2 : r ≤ 200) : -40000 ≤ k * r ∧ k * r ≤ 40000 := by
  have a : k * r ≤ k * 200 := Int.mul_le_mul_of_nonneg_left r2 h1
  have b : k * (-200) ≤ k * r := Int.mul_le_mul_of_nonneg_left r1 h1
  omega
theorem iv_bq {a b M : Int} (h1 : -M ≤ a) (h2 : a ≤ M) : -M ≤ a.tdiv b ∧ a.tdiv b ≤ M := by
  have := Int.natAbs_tdiv_le_natAbs a b
  omega
theorem iv_P_y {run ri k : Int} (h1 : 0 ≤ k) (h2 : k < 200) (r1 : -200 ≤ ri) (r2 : ri ≤ 200) (hy : ((k + 1) * ri).tmod run = 0) : iv_P run ri k (k + 1) (((k + 1) * ri).tdiv run) := by
  have b := iv_bd (k := k + 1) (r := ri) (by omega) (by omega) r1 r2
  have q := iv_bq (b := run) (M := 40000) b.1 b.2
  exact Or.inr ⟨by omega, by omega, (Int.tdiv_mul_cancel_of_tmod_eq_zero hy).symm, q.1, q.2, fun j a b => absurd b (by omega)⟩
theorem iv_P_e {run ri p q : Int} (h : iv_P run ri 0 p q) (hr : run ≠ 0) (r1 : -200 ≤ run) (r2 : run ≤ 200) : 0 < p ∧ p ≤ 200 ∧ p * ri = q * run ∧ -40000 ≤ q ∧ q ≤ 40000 ∧ ∀ j, 0 < j → j < p → ¬ run ∣ j * ri := by
  rcases h with ⟨_, _, h3⟩ | h
  · exfalso
    rcases (by omega : run < 0 ∨ 0 ≤ run) with a | a
    · exact h3 (-run) (by omega) (by omega) ⟨-ri, by rw [Int.mul_neg, Int.neg_mul]⟩
    · exact h3 run (by omega) (by omega) ⟨ri, rfl⟩
  · exact h
theorem iv_S_Y {v w : Nat → Int} {c o : Nat} {run ri p q : Int} (ho : o < c) (e1 : run = v o - v 0) (e2 : ri = w o - w 0) (hr : run ≠ 0) (r1 : -200 ≤ run) (r2 : run ≤ 200) (h : iv_P run ri 0 p q)
    (hq : q ≠ 0) (hall : ∀ i, i < c → p * w i = q * v i + (p * w 0 - q * v 0)) : iv_S v w c p q := by
  obtain ⟨p1, p2, p3, _, _, p4⟩ := iv_P_e h hr r1 r2
  refine Or.inr ⟨⟨p1, hq, ⟨o, ho, by omega⟩, ?_⟩, ?_⟩
  · intro i hi
    have := hall i hi
    rw [Int.mul_sub, Int.mul_sub]
    omega
  · intro p' q' hT
    rcases (by omega : p' < p ∨ p ≤ p') with a | a
    · exfalso
      have := hT.2.2.2 o ho
      rw [← e1, ← e2] at this
      exact p4 p' hT.1 a ⟨q', by rw [this, Int.mul_comm]⟩
    · exact a
theorem iv_S_Y0 {v w : Nat → Int} {c o : Nat} {run ri p q : Int} (ho : o < c) (e1 : run = v o - v 0) (e2 : ri = w o - w 0) (hr : run ≠ 0) (r1 : -200 ≤ run) (r2 : run ≤ 200) (h : iv_P run ri 0 p q)
    (hno : q = 0 ∨ ∃ i, i < c ∧ p * w i ≠ q * v i + (p * w 0 - q * v 0)) : iv_S v w c 0 0 := by
  obtain ⟨p1, p2, p3, _, _, p4⟩ := iv_P_e h hr r1 r2
  refine Or.inl ⟨rfl, rfl, ?_⟩
  intro p' q' hT
  obtain ⟨t1, t2, _, t4⟩ := hT
  have ht := t4 o ho
  rw [← e1, ← e2] at ht
  have hx : p' * q = p * q' := Int.eq_of_mul_eq_mul_right hr (iv_r4 _ _ _ _ _ _ p3 ht)
  rcases hno with z | ⟨i, hi, z⟩
  · rw [z, Int.mul_zero] at hx
    exact Int.mul_ne_zero (by omega : p ≠ 0) t2 hx.symm
  · have hti := t4 i hi
    have : p * (w i - w 0) = q * (v i - v 0) := Int.eq_of_mul_eq_mul_left (by omega : p' ≠ 0) (iv_r5 _ _ _ _ _ _ hx hti)
    rw [Int.mul_sub, Int.mul_sub] at this
    exact z (by omega)
/-- the greatest common divisor by counting down -/
def iv_Gd (a b g : Int) : Prop := 0 < g ∧ g ≤ 200 ∧ g ∣ a ∧ g ∣ b ∧ ∀ d, g < d → d ≤ 200 → ¬ (d ∣ a ∧ d ∣ b)
end
section
/-! the walks of the component -/
theorem iv_L_r {v : Nat → Int} {c : Nat} {fl r : Int} (hv : ∀ i, -100 ≤ v i ∧ v i ≤ 100) (h : iv_L v c fl r) : r = -1000 ∨ (-100 ≤ r ∧ r ≤ 100) := by
  rcases h with ⟨h, _⟩ | ⟨_, ⟨i, _, e⟩, _⟩
  · exact Or.inl h
  · rw [← e]; exact Or.inr (hv i)
theorem iv_xV {post : Int32 → Prop} {f : Int32} {G : Nat → Int} {i x : Nat} (hi : i < 100) (hx : x < 4) (h : post (iv_z (iv_v G x i))) : wpX_value post (f, iv_A G) (nI i) (nI x) :=
  And.intro (iv_in hi hx) (by rw [iv_yR G hi hx]; exact h)
theorem iv_xIs {post : Int32 → Prop} {x : Nat} (hx : x < 4) (h : post 1) : wpX_isVariable post (nI x) :=
  br_f (nI_pos (by omega)) (br_f (nI_ge (b := 4) hx (by omega)) h)
theorem iv_xIsN {post : Int32 → Prop} {p : Int32} (hp : iv_nv p) (h : post 0) : wpX_isVariable post p := by
  rcases hp with a | ⟨a, b, _⟩
  · exact br_t a h
  · exact br_f a (br_t b h)
theorem iv_1ne : ¬ (1 : Int32) = 0 := by decide
theorem iv_xPr {post : Int32 → Prop} {x y : Nat} (hx : x < 4) (hy : y < 4) (hxy : x ≠ y) (h : post 1) : wpX_isPair post (nI x) (nI y) :=
  iv_xIs hx (br_f iv_1ne (iv_xIs hy (br_f iv_1ne (br_f (fun e => hxy ((nI_eq (by omega) (by omega)).mp e)) h))))
/-- not a pair of different variables -/
def iv_np (p q : Int32) : Prop := iv_nv p ∨ ((∃ x : Nat, x < 4 ∧ p = nI x) ∧ iv_nv q) ∨ ((∃ x : Nat, x < 4 ∧ p = nI x) ∧ p = q)
theorem iv_pair (p q : Int32) : (∃ x y : Nat, x < 4 ∧ y < 4 ∧ x ≠ y ∧ p = nI x ∧ q = nI y) ∨ iv_np p q := by
  rcases iv_var p with ⟨x, hx, ex⟩ | h
  · rcases iv_var q with ⟨y, hy, ey⟩ | h
    · by_cases e : x = y
      · exact Or.inr (Or.inr (Or.inr ⟨⟨x, hx, ex⟩, by rw [ex, ey, e]⟩))
      · exact Or.inl ⟨x, y, hx, hy, e, ex, ey⟩
    · exact Or.inr (Or.inr (Or.inl ⟨⟨x, hx, ex⟩, h⟩))
  · exact Or.inr (Or.inl h)
theorem iv_xPrN {post : Int32 → Prop} {p q : Int32} (hp : iv_np p q) (h : post 0) : wpX_isPair post p q := by
  rcases hp with a | ⟨⟨x, hx, rfl⟩, b⟩ | ⟨⟨x, hx, rfl⟩, rfl⟩
  · exact iv_xIsN a (br_t rfl h)
  · exact iv_xIs hx (br_f iv_1ne (iv_xIsN b (br_t rfl h)))
  · exact iv_xIs hx (br_f iv_1ne (iv_xIs hx (br_f iv_1ne (br_t rfl h))))
theorem iv_xLA_l {post : Int32 → Prop} {c x : Nat} {G : Nat → Int} {fl : Int} (hc : c ≤ 100) (hG : iv_ok G) (hx : x < 4) (f1 : -1000 ≤ fl) (f2 : fl ≤ 1000) (hp : ∀ r, iv_L (iv_v G x) c fl r → post (iv_z r)) :
    ∀ (d i : Nat) (r : Int), i + d = c → -1000 ≤ r → r ≤ 100 → iv_L (iv_v G x) i fl r → wX_leastAbove_7 post (nI x) (iv_z fl) (nI c) (iv_A G) (d + 1) (iv_z r) (nI i) := by
  intro d
  induction d with
  | zero =>
    intro i r hi r1 r2 h
    obtain rfl : i = c := by omega
    exact br_t (nI_le (by omega) (by omega)) (hp r h)
  | succ d ih =>
    intro i r hi r1 r2 h
    have hv := iv_vb hG x i
    refine br_f (nI_ge (by omega) (by omega)) (iv_xV (by omega) hx ?_)
    refine iv_ble (iv_v G x i) fl (fun a => ?_) (fun a => iv_beq r (-1000) (fun b => ?_) (fun b => iv_ble r (iv_v G x i) (fun e => ?_) (fun e => ?_)) rfl iv_k1000)
    · exact nm_r (nI_1 i) (ih (i + 1) r (by omega) r1 r2 (iv_L_n h (Or.inl a)))
    · exact nm_r (nI_1 i) (ih (i + 1) _ (by omega) (by omega) (by omega) (iv_L_y f1 h a (Or.inl b)))
    · exact nm_r (nI_1 i) (ih (i + 1) r (by omega) r1 r2 (iv_L_n h (Or.inr ⟨b, e⟩)))
    · exact nm_r (nI_1 i) (ih (i + 1) _ (by omega) (by omega) (by omega) (iv_L_y f1 h a (Or.inr e)))
theorem iv_xLA {post : Int32 → Prop} {c x : Nat} {G : Nat → Int} {fl : Int} (hc : c ≤ 100) (hG : iv_ok G) (hx : x < 4) (f1 : -1000 ≤ fl) (f2 : fl ≤ 1000) (hp : ∀ r, iv_L (iv_v G x) c fl r → post (iv_z r)) : wpX_leastAbove post (nI c, iv_A G) (nI x) (iv_z fl) := by
  have h := iv_xLA_l hc hG hx f1 f2 hp c 0 (-1000) (by omega) (by omega) (by omega) (iv_L_0 _ _)
  rw [← iv_k1000] at h
  exact Exists.intro (c + 1) h
theorem iv_xDf_l {post : Int32 → Prop} {c x : Nat} {G : Nat → Int} (hc : c ≤ 100) (hG : iv_ok G) (hx : x < 4) (hp : ∀ d m, iv_E (iv_v G x) c d m → post (nI d)) :
    ∀ (d f : Nat) (m : Nat → Int) (l : Int), f + d = 4 → -101 ≤ l → l ≤ 100 → iv_C (iv_v G x) c f m l → wX_different_14 post (nI x) (nI c) (iv_A G) (d + 1) (iv_z l) (nI f) := by
  intro d
  induction d with
  | zero =>
    intro f m l hf l1 l2 h
    obtain rfl : f = 4 := by omega
    exact br_t (nI_lt (a := 3) (by omega) (by omega)) (hp 4 m (iv_C_4 h))
  | succ d ih =>
    intro f m l hf l1 l2 h
    refine br_f (nI_nlt (a := 3) (by omega) (by omega)) (iv_xLA hc hG hx (by omega) (by omega) (fun r hr => ?_))
    have hb := iv_L_r (iv_vb hG x) hr
    refine iv_beq r (-1000) (fun e => ?_) (fun e => ?_) rfl iv_k1000
    · subst e
      exact hp f m (iv_C_e h (by omega) hr (by omega))
    · exact nm_r (nI_1 f) (ih (f + 1) _ r (by omega) (by omega) (by omega) (iv_C_s h hr e))
theorem iv_xDf {post : Int32 → Prop} {c x : Nat} {G : Nat → Int} (hc : c ≤ 100) (hG : iv_ok G) (hx : x < 4) (hp : ∀ d m, iv_E (iv_v G x) c d m → post (nI d)) : wpX_different post (nI c, iv_A G) (nI x) := by
  have h := iv_xDf_l hc hG hx hp 4 0 (fun _ => 0) (-101) (by omega) (by omega) (by omega) (iv_C_0 (fun i => (iv_vb hG x i).1) _)
  rw [← iv_k101] at h
  unfold wpX_different
  dsimp only
  exact iv_xIs hx (br_f iv_1ne (Exists.intro 5 h))
theorem iv_xDfN {post : Int32 → Prop} {u : SX} {p : Int32} (hp : iv_nv p) (h : post (-1)) : wpX_different post u p := by
  obtain ⟨f, a⟩ := u
  unfold wpX_different
  dsimp only
  exact iv_xIsN hp (br_t rfl h)
theorem iv_xCo {post : Int32 → Prop} {c x : Nat} {G : Nat → Int} (hc : c ≤ 100) (hG : iv_ok G) (hx : x < 4) (hp : ∀ d m, iv_E (iv_v G x) c d m → (d = 1 → post (iv_z (iv_v G x 0))) ∧ (d ≠ 1 → post (-1000))) : wpX_constant post (nI c, iv_A G) (nI x) := by
  unfold wpX_constant
  dsimp only
  refine iv_xDf hc hG hx (fun d m hE => ?_)
  have hd := hE.1
  by_cases e : d = 1
  · subst e
    exact br_t rfl (iv_xV (i := 0) (by omega) hx ((hp 1 m hE).1 rfl))
  · exact br_f (fun z => e ((nI_eq (b := 1) (by omega) (by omega)).mp z)) ((hp d m hE).2 e)
theorem iv_xCoN {post : Int32 → Prop} {u : SX} {p : Int32} (hp : iv_nv p) (h : post (-1000)) : wpX_constant post u p := by
  obtain ⟨f, a⟩ := u
  unfold wpX_constant
  dsimp only
  exact iv_xDfN hp (br_f (by decide) h)
theorem iv_xLo_l {c x : Nat} {G : Nat → Int} (hc : c ≤ 100) (hG : iv_ok G) (hx : x < 4) :
    ∀ (d i b : Nat), i + d = c → b < i → iv_Lo (iv_v G x) i b → ∃ r, iv_Lo (iv_v G x) c r ∧ ∀ post : Int32 → Prop, post (nI r) → wX_sampleOfLeast_4 post (nI x) (nI c) (iv_A G) (d + 1) (nI b) (nI i) := by
  intro d
  induction d with
  | zero =>
    intro i b hi hb h
    obtain rfl : i = c := by omega
    exact ⟨b, h, fun post hp => br_t (nI_le (by omega) (by omega)) hp⟩
  | succ d ih =>
    intro i b hi hb h
    have hv := iv_vb hG x i
    have hw := iv_vb hG x b
    by_cases e : iv_v G x i < iv_v G x b
    · obtain ⟨r, hr, hk⟩ := ih (i + 1) i (by omega) (by omega) (iv_Lo_y h e)
      refine ⟨r, hr, fun post hp => br_f (nI_ge (by omega) (by omega)) (iv_xV (by omega) hx (iv_xV (by omega) hx ?_))⟩
      exact iv_ble (iv_v G x b) (iv_v G x i) (fun z => absurd e (by omega)) (fun _ => nm_r (nI_1 i) (hk post hp))
    · obtain ⟨r, hr, hk⟩ := ih (i + 1) b (by omega) (by omega) (iv_Lo_n h (by omega))
      refine ⟨r, hr, fun post hp => br_f (nI_ge (by omega) (by omega)) (iv_xV (by omega) hx (iv_xV (by omega) hx ?_))⟩
      exact iv_ble (iv_v G x b) (iv_v G x i) (fun _ => nm_r (nI_1 i) (hk post hp)) (fun z => absurd z e)
theorem iv_xHi_l {c x : Nat} {G : Nat → Int} (hc : c ≤ 100) (hG : iv_ok G) (hx : x < 4) :
    ∀ (d i b : Nat), i + d = c → b < i → iv_Hi (iv_v G x) i b → ∃ r, iv_Hi (iv_v G x) c r ∧ ∀ post : Int32 → Prop, post (nI r) → wX_sampleOfGreatest_4 post (nI x) (nI c) (iv_A G) (d + 1) (nI b) (nI i) := by
  intro d
  induction d with
  | zero =>
    intro i b hi hb h
    obtain rfl : i = c := by omega
    exact ⟨b, h, fun post hp => br_t (nI_le (by omega) (by omega)) hp⟩
  | succ d ih =>
    intro i b hi hb h
    have hv := iv_vb hG x i
    have hw := iv_vb hG x b
    by_cases e : iv_v G x b < iv_v G x i
    · obtain ⟨r, hr, hk⟩ := ih (i + 1) i (by omega) (by omega) (iv_Hi_y h e)
      refine ⟨r, hr, fun post hp => br_f (nI_ge (by omega) (by omega)) (iv_xV (by omega) hx (iv_xV (by omega) hx ?_))⟩
      exact iv_ble (iv_v G x i) (iv_v G x b) (fun z => absurd e (by omega)) (fun _ => nm_r (nI_1 i) (hk post hp))
    · obtain ⟨r, hr, hk⟩ := ih (i + 1) b (by omega) (by omega) (iv_Hi_n h (by omega))
      refine ⟨r, hr, fun post hp => br_f (nI_ge (by omega) (by omega)) (iv_xV (by omega) hx (iv_xV (by omega) hx ?_))⟩
      exact iv_ble (iv_v G x i) (iv_v G x b) (fun _ => nm_r (nI_1 i) (hk post hp)) (fun z => absurd z e)
theorem iv_xLo {c x : Nat} {G : Nat → Int} (hc : c ≤ 100) (hG : iv_ok G) (hx : x < 4) :
    ∃ r, iv_Lo (iv_v G x) c r ∧ ∀ post : Int32 → Prop, post (nI r) → wpX_sampleOfLeast post (nI c, iv_A G) (nI x) := by
  rcases Nat.eq_zero_or_pos c with h0 | h0
  · subst h0
    exact ⟨0, iv_Lo_0 _, fun post hp => Exists.intro 1 (br_t (nI_le (b := 1) (by omega) (by omega)) hp)⟩
  · obtain ⟨r, hr, hk⟩ := iv_xLo_l hc hG hx (c - 1) 1 0 (by omega) (by omega) (iv_Lo_1 _)
    exact ⟨r, hr, fun post hp => Exists.intro (c - 1 + 1) (hk post hp)⟩
theorem iv_xHi {c x : Nat} {G : Nat → Int} (hc : c ≤ 100) (hG : iv_ok G) (hx : x < 4) :
    ∃ r, iv_Hi (iv_v G x) c r ∧ ∀ post : Int32 → Prop, post (nI r) → wpX_sampleOfGreatest post (nI c, iv_A G) (nI x) := by
  rcases Nat.eq_zero_or_pos c with h0 | h0
  · subst h0
    exact ⟨0, iv_Hi_0 _, fun post hp => Exists.intro 1 (br_t (nI_le (b := 1) (by omega) (by omega)) hp)⟩
  · obtain ⟨r, hr, hk⟩ := iv_xHi_l hc hG hx (c - 1) 1 0 (by omega) (by omega) (iv_Hi_1 _)
    exact ⟨r, hr, fun post hp => Exists.intro (c - 1 + 1) (hk post hp)⟩
end
section
/-! the walks of the component, second half -/
theorem iv_xLA0 {post : Int32 → Prop} {c x : Nat} {G : Nat → Int} (hc : c ≤ 100) (hG : iv_ok G) (hx : x < 4) (hp : ∀ r, iv_L (iv_v G x) c (-101) r → post (iv_z r)) : wpX_leastAbove post (nI c, iv_A G) (nI x) (-101) := by
  rw [iv_k101]
  exact iv_xLA hc hG hx (by omega) (by omega) hp
theorem iv_C_ne {v : Nat → Int} {c d i : Nat} {f m : Nat → Int} {l r : Int} (hE : iv_E v c d f) (hi : i < d) (hC : iv_C v c i m l) (hl : -1000 ≤ l) (hL : iv_L v c l r) : r ≠ -1000 := by
  intro e
  subst e
  have h := hE.1
  have := iv_E_u hE (iv_C_e hC hl hL (by omega))
  omega
theorem iv_xVA_l {post : Int32 → Prop} {c x d k : Nat} {G f : Nat → Int} (hc : c ≤ 100) (hG : iv_ok G) (hx : x < 4) (hE : iv_E (iv_v G x) c d f) (hk : k < d) (hp : ∀ m r, iv_C (iv_v G x) c (k + 1) m r → m k = r → post (iv_z r)) :
    ∀ (e i : Nat) (m : Nat → Int) (r : Int), i + e = k → -100 ≤ r → r ≤ 100 → iv_C (iv_v G x) c (i + 1) m r → m i = r → wX_valueAt_36 post (nI x) (nI k) (nI c) (iv_A G) (e + 1) (iv_z r) (nI i) := by
  have hd := hE.1
  intro e
  induction e with
  | zero =>
    intro i m r hi r1 r2 hC hm
    obtain rfl : i = k := by omega
    exact br_t (nI_le (by omega) (by omega)) (hp m r hC hm)
  | succ e ih =>
    intro i m r hi r1 r2 hC hm
    refine br_f (nI_ge (by omega) (by omega)) (iv_xLA hc hG hx (by omega) (by omega) (fun r' hr' => ?_))
    have ne := iv_C_ne hE (by omega : i + 1 < d) hC (by omega) hr'
    have hb := iv_L_r (iv_vb hG x) hr'
    exact nm_r (nI_1 i) (ih (i + 1) _ r' (by omega) (by omega) (by omega) (iv_C_s hC hr' ne) (if_pos rfl))
theorem iv_xVA {post : Int32 → Prop} {c x : Nat} {G : Nat → Int} {p : Int32} (hc : c ≤ 100) (hG : iv_ok G) (hx : x < 4)
    (hp : ∀ d m, iv_E (iv_v G x) c d m → ((3 < d ∨ p < 0 ∨ nI d ≤ p) → post (-1000)) ∧ (∀ k, p = nI k → k < d → d < 4 → ∀ m r, iv_C (iv_v G x) c (k + 1) m r → m k = r → post (iv_z r))) : wpX_valueAt post (nI c, iv_A G) (nI x) p := by
  unfold wpX_valueAt
  dsimp only
  refine iv_xDf hc hG hx (fun d m hE => ?_)
  obtain ⟨h1, h2⟩ := hp d m hE
  have hd := hE.1
  by_cases a : 3 < d
  · exact br_t (nI_lt (a := 3) a (by omega)) (h1 (Or.inl a))
  · refine br_f (nI_nlt (a := 3) (by omega) (by omega)) ?_
    by_cases b : p < 0
    · exact br_t b (h1 (Or.inr (Or.inl b)))
    · refine br_f b ?_
      obtain ⟨k, hk, rfl⟩ := nI_of b
      by_cases e : k < d
      · refine br_t (nI_lt e (by omega)) (iv_xLA0 hc hG hx (fun r hr => ?_))
        have hC0 := iv_C_0 (c := c) (fun i => (iv_vb hG x i).1) (fun _ => 0)
        have ne := iv_C_ne hE (by omega : 0 < d) hC0 (by omega) hr
        have hb := iv_L_r (iv_vb hG x) hr
        exact Exists.intro (k + 1) (iv_xVA_l hc hG hx hE e (h2 k rfl e (by omega)) k 0 _ r (by omega) (by omega) (by omega) (iv_C_s hC0 hr ne) (if_pos rfl))
      · exact br_f (nI_nlt (by omega) hk) (h1 (Or.inr (Or.inr (nI_le (by omega) hk))))
theorem iv_xVAN {post : Int32 → Prop} {u : SX} {p q : Int32} (hp : iv_nv p) (h : post (-1000)) : wpX_valueAt post u p q := by
  obtain ⟨f, a⟩ := u
  unfold wpX_valueAt
  dsimp only
  refine iv_xDfN hp (br_f (by decide) ?_)
  by_cases b : q < 0
  · exact br_t b h
  · refine br_f b (br_f (fun z => b ?_) h)
    rw [Int32.lt_iff_toInt_lt] at z ⊢
    have e1 : (-1 : Int32).toInt = -1 := by decide
    have e2 : (0 : Int32).toInt = 0 := by decide
    omega
/-- the rest of a difference -/
theorem iv_dr {a b : Int} {m : Nat} (a1 : -100 ≤ a) (a2 : a ≤ 100) (b1 : -100 ≤ b) (b2 : b ≤ 100) (hm : m ≤ 200) : iv_z a - iv_z b - (iv_z a - iv_z b) / nI m * nI m = iv_z ((a - b).tmod m) := by
  rw [iv_n, iv_sub, iv_rem (by omega) (by omega) (by omega) (by omega)]
theorem iv_rm {a : Int} {m : Nat} (a1 : -1000000 ≤ a) (a2 : a ≤ 1000000) (hm : m ≤ 200) : iv_z a - iv_z a / nI m * nI m = iv_z (a.tmod m) := by
  rw [iv_n, iv_rem (by omega) (by omega) (by omega) (by omega)]
theorem iv_tb {a : Int} {m : Nat} (M : Nat) (h : a.natAbs ≤ M) : (a.tmod m).natAbs ≤ M := by
  have h1 := Int.natAbs_tmod a m
  have h2 := Nat.mod_le a.natAbs (m : Int).natAbs
  omega
theorem iv_xLR_l {post : Int32 → Prop} {c x m : Nat} {G : Nat → Int} (hc : c ≤ 100) (hG : iv_ok G) (hx : x < 4) (m1 : 2 ≤ m) (m2 : m ≤ 200) (h1 : iv_Sm (iv_v G x) c m → post 1) (h0 : ¬ iv_Sm (iv_v G x) c m → post 0) :
    ∀ (d i : Nat), i + d = c → (∀ j, j < i → (m : Int) ∣ iv_v G x j - iv_v G x 0) → wX_leavesOneRemainder_2 post (nI x) (nI m) (nI c) (iv_A G) (d + 1) (nI i) := by
  intro d
  induction d with
  | zero =>
    intro i hi h
    obtain rfl : i = c := by omega
    exact br_t (nI_le (by omega) (by omega)) (h1 h)
  | succ d ih =>
    intro i hi h
    have hv := iv_vb hG x i
    have hw := iv_vb hG x 0
    have hb := iv_tb (a := iv_v G x i - iv_v G x 0) (m := m) 200 (by omega)
    refine br_f (nI_ge (by omega) (by omega)) (iv_xV (by omega) hx (iv_xV (i := 0) (by omega) hx ⟨nI_ne0 (by omega) (by omega), ?_⟩))
    refine iv_beq ((iv_v G x i - iv_v G x 0).tmod m) 0 (fun e => ?_) (fun e => ?_) (iv_dr hv.1 hv.2 hw.1 hw.2 m2) iv_k0
    · exact nm_r (nI_1 i) (ih (i + 1) (by omega) (iv_all_s h (Int.dvd_of_tmod_eq_zero e)))
    · exact h0 (fun z => e (Int.tmod_eq_zero_of_dvd (z i (by omega))))
theorem iv_xLR {post : Int32 → Prop} {c x m : Nat} {G : Nat → Int} (hc : c ≤ 100) (hG : iv_ok G) (hx : x < 4) (m1 : 2 ≤ m) (m2 : m ≤ 200) (h1 : iv_Sm (iv_v G x) c m → post 1) (h0 : ¬ iv_Sm (iv_v G x) c m → post 0) : wpX_leavesOneRemainder post (nI c, iv_A G) (nI x) (nI m) := by
  rcases Nat.eq_zero_or_pos c with z | z
  · subst z
    exact Exists.intro 1 (br_t (nI_le (b := 1) (by omega) (by omega)) (h1 (fun i hi => absurd hi (by omega))))
  · refine Exists.intro (c - 1 + 1) (iv_xLR_l hc hG hx m1 m2 h1 h0 (c - 1) 1 (by omega) (fun j hj => ?_))
    obtain rfl : j = 0 := by omega
    exact ⟨0, by omega⟩
theorem iv_xMo_l {post : Int32 → Prop} {c x : Nat} {G : Nat → Int} (hc : c ≤ 100) (hG : iv_ok G) (hx : x < 4) (hp : ∀ M : Nat, M ≤ 200 → iv_Mo (iv_v G x) c M → post (nI M)) :
    ∀ d : Nat, d < 200 → (∀ j : Int, (d + 1 : Int) < j → j ≤ 200 → ¬ iv_Sm (iv_v G x) c j) → wX_modulus_24 post (nI x) (nI c) (iv_A G) (d + 1) (nI (d + 1)) := by
  intro d
  induction d with
  | zero =>
    intro _ h
    exact br_t (nI_lt (b := 2) (by omega) (by omega)) (hp 1 (by omega) (Or.inr ⟨rfl, fun m a b => h m (by omega) b⟩))
  | succ d ih =>
    intro hd h
    refine br_f (nI_nlt (b := 2) (by omega) (by omega)) (iv_xLR hc hG hx (by omega) (by omega) (fun a => ?_) (fun a => ?_))
    · exact br_f iv_1ne (hp (d + 1 + 1) (by omega) (Or.inl ⟨by omega, by omega, a, fun m b => h m (by omega)⟩))
    · refine br_t rfl (nm_r (iv_m1 (d + 1)) (ih (by omega) (fun j b e => ?_)))
      by_cases z : j = ((d + 1 + 1 : Nat) : Int)
      · rw [z]; exact a
      · exact h j (by omega) e
theorem iv_nm1 {d : Nat} (h : d < 2 ^ 31) : ¬ nI d = -1 := by
  intro z
  have := nI_pos h
  rw [z] at this
  exact this (by decide)
theorem iv_xMo {post : Int32 → Prop} {c x : Nat} {G : Nat → Int} (hc : c ≤ 100) (hG : iv_ok G) (hx : x < 4)
    (hp : ∀ d m, iv_E (iv_v G x) c d m → (d < 2 → post 0) ∧ (2 ≤ d → ∀ M : Nat, M ≤ 200 → iv_Mo (iv_v G x) c M → post (nI M))) : wpX_modulus post (nI c, iv_A G) (nI x) := by
  unfold wpX_modulus
  dsimp only
  refine iv_xDf hc hG hx (fun d m hE => ?_)
  obtain ⟨h1, h2⟩ := hp d m hE
  have hd := hE.1
  refine br_f (iv_nm1 (by omega)) ?_
  by_cases a : 2 ≤ d
  · exact br_t (nI_le (a := 2) a (by omega)) (Exists.intro 200 (iv_xMo_l hc hG hx (h2 a) 199 (by omega) (fun j b e => absurd b (by omega))))
  · exact br_f (nI_ge (b := 2) (by omega) (by omega)) (h1 (by omega))
theorem iv_xMoN {post : Int32 → Prop} {u : SX} {p : Int32} (hp : iv_nv p) (h : post (-1)) : wpX_modulus post u p := by
  obtain ⟨f, a⟩ := u
  unfold wpX_modulus
  dsimp only
  exact iv_xDfN hp (br_t rfl h)
theorem iv_xRm {post : Int32 → Prop} {c x : Nat} {G : Nat → Int} (hc : c ≤ 100) (hG : iv_ok G) (hx : x < 4)
    (hp : ∀ d m, iv_E (iv_v G x) c d m → (d < 2 → post (-1000)) ∧ (2 ≤ d → ∀ M : Nat, M ≤ 200 → iv_Mo (iv_v G x) c M → (M < 2 → post (-1000)) ∧ (2 ≤ M → post (iv_z (iv_v G x 0 % M))))) : wpX_remainder post (nI c, iv_A G) (nI x) := by
  unfold wpX_remainder
  dsimp only
  refine iv_xMo hc hG hx (fun d m hE => ?_)
  obtain ⟨h1, h2⟩ := hp d m hE
  refine ⟨fun a => br_f (by decide) (h1 a), fun a M hM hMo => ?_⟩
  obtain ⟨h3, h4⟩ := h2 a M hM hMo
  have hw := iv_vb hG x 0
  by_cases b : 2 ≤ M
  · have hb := iv_tb (a := iv_v G x 0) (m := M) 100 (by omega)
    refine br_t (nI_le (a := 2) b (by omega)) (iv_xV (i := 0) (by omega) hx ⟨nI_ne0 (by omega) (by omega), nm_r (iv_rm (by omega) (by omega) hM) ?_⟩)
    refine iv_ble 0 ((iv_v G x 0).tmod M) (fun e => ?_) (fun e => ?_) iv_k0 rfl
    · rw [iv_modp (by omega : (0 : Int) < M) e]; exact h4 b
    · rw [iv_n, iv_add, iv_modn (by omega : (0 : Int) < M) e]; exact h4 b
  · exact br_f (nI_ge (b := 2) (by omega) (by omega)) (h3 (by omega))
theorem iv_xRmN {post : Int32 → Prop} {u : SX} {p : Int32} (hp : iv_nv p) (h : post (-1000)) : wpX_remainder post u p := by
  obtain ⟨f, a⟩ := u
  unfold wpX_remainder
  dsimp only
  exact iv_xMoN hp (br_f (by decide) h)
theorem iv_xRl {post : Int32 → Prop} {a b : Int} {t : Nat} (a1 : -100 ≤ a) (a2 : a ≤ 100) (b1 : -100 ≤ b) (b2 : b ≤ 100) (ht : t ≤ 3) (h1 : iv_H t a b → post 1) (h0 : ¬ iv_H t a b → post 0) : wpX_isRelated post (iv_z a) (iv_z b) (nI t) := by
  refine br_f (nI_pos (by omega)) ?_
  rcases (by omega : t = 0 ∨ t = 1 ∨ t = 2 ∨ t = 3) with rfl | rfl | rfl | rfl
  · exact br_f (by decide) (br_t rfl (iv_ble b a (fun e => h0 (by unfold iv_H; omega)) (fun e => h1 (by unfold iv_H; omega))))
  · exact br_f (by decide) (br_f (by decide) (br_t rfl (iv_blt b a (fun e => h0 (by unfold iv_H; omega)) (fun e => h1 (by unfold iv_H; omega)))))
  · exact br_f (by decide) (br_f (by decide) (br_f (by decide) (br_t rfl (iv_beq a b (fun e => h1 (by unfold iv_H; omega)) (fun e => h0 (by unfold iv_H; omega))))))
  · exact br_t (by decide) (iv_beq a b (fun e => h0 (by unfold iv_H; omega)) (fun e => h1 (by unfold iv_H; omega)))
theorem iv_xRH_l {post : Int32 → Prop} {c x y t : Nat} {G : Nat → Int} (hc : c ≤ 100) (hG : iv_ok G) (hx : x < 4) (hy : y < 4) (ht : t ≤ 3) (h1 : (∀ i, i < c → iv_H t (iv_v G x i) (iv_v G y i)) → post 1) (h0 : ¬ (∀ i, i < c → iv_H t (iv_v G x i) (iv_v G y i)) → post 0) :
    ∀ (d i : Nat), i + d = c → (∀ j, j < i → iv_H t (iv_v G x j) (iv_v G y j)) → wX_relationHolds_3 post (nI x) (nI y) (nI t) (nI c) (iv_A G) (d + 1) (nI i) := by
  intro d
  induction d with
  | zero =>
    intro i hi h
    obtain rfl : i = c := by omega
    exact br_t (nI_le (by omega) (by omega)) (h1 h)
  | succ d ih =>
    intro i hi h
    have hv := iv_vb hG x i
    have hw := iv_vb hG y i
    refine br_f (nI_ge (by omega) (by omega)) (iv_xV (by omega) hx (iv_xV (by omega) hy (iv_xRl hv.1 hv.2 hw.1 hw.2 ht (fun e => ?_) (fun e => ?_))))
    · exact br_f iv_1ne (nm_r (nI_1 i) (ih (i + 1) (by omega) (iv_all_s h e)))
    · exact br_t rfl (h0 (fun z => e (z i (by omega))))
theorem iv_xRH {post : Int32 → Prop} {c x y t : Nat} {G : Nat → Int} (hc : c ≤ 100) (hG : iv_ok G) (hx : x < 4) (hy : y < 4) (ht : t ≤ 3) (h1 : (∀ i, i < c → iv_H t (iv_v G x i) (iv_v G y i)) → post 1) (h0 : ¬ (∀ i, i < c → iv_H t (iv_v G x i) (iv_v G y i)) → post 0) : wpX_relationHolds post (nI c, iv_A G) (nI x) (nI y) (nI t) :=
  Exists.intro (c + 1) (iv_xRH_l hc hG hx hy ht h1 h0 c 0 (by omega) (fun j hj => absurd hj (by omega)))
theorem iv_xOf_l {post : Int32 → Prop} {c x y : Nat} {G : Nat → Int} {k : Int} (hc : c ≤ 100) (hG : iv_ok G) (hx : x < 4) (hy : y < 4) (k1 : -200 ≤ k) (k2 : k ≤ 200) (h1 : (∀ i, i < c → iv_v G y i - iv_v G x i = k) → post (iv_z k)) (h0 : ¬ (∀ i, i < c → iv_v G y i - iv_v G x i = k) → post (-1000)) :
    ∀ (d i : Nat), i + d = c → (∀ j, j < i → iv_v G y j - iv_v G x j = k) → wX_offset_36 post (nI x) (nI y) (iv_z k) (nI c) (iv_A G) (d + 1) (nI i) := by
  intro d
  induction d with
  | zero =>
    intro i hi h
    obtain rfl : i = c := by omega
    exact br_t (nI_le (by omega) (by omega)) (h1 h)
  | succ d ih =>
    intro i hi h
    have hv := iv_vb hG x i
    have hw := iv_vb hG y i
    refine br_f (nI_ge (by omega) (by omega)) (iv_xV (by omega) hy (iv_xV (by omega) hx (iv_beq (iv_v G y i - iv_v G x i) k (fun e => ?_) (fun e => ?_) (iv_sub _ _) rfl)))
    · exact nm_r (nI_1 i) (ih (i + 1) (by omega) (iv_all_s h e))
    · exact h0 (fun z => e (z i (by omega)))
theorem iv_xOf {post : Int32 → Prop} {c x y : Nat} {G : Nat → Int} (hc : c ≤ 100) (hG : iv_ok G) (hx : x < 4) (hy : y < 4) (hxy : x ≠ y) (hz : c = 0 → post (-1000)) (h1 : 0 < c → (∀ i, i < c → iv_v G y i - iv_v G x i = iv_v G y 0 - iv_v G x 0) → post (iv_z (iv_v G y 0 - iv_v G x 0))) (h0 : 0 < c → ¬ (∀ i, i < c → iv_v G y i - iv_v G x i = iv_v G y 0 - iv_v G x 0) → post (-1000)) : wpX_offset post (nI c, iv_A G) (nI x) (nI y) := by
  unfold wpX_offset
  dsimp only
  refine iv_xPr hx hy hxy (br_f iv_1ne ?_)
  rcases Nat.eq_zero_or_pos c with z | z
  · subst z
    exact br_t rfl (hz rfl)
  · have hv := iv_vb hG x 0
    have hw := iv_vb hG y 0
    refine br_f (nI_ne0 z (by omega)) (iv_xV (i := 0) (by omega) hy (iv_xV (i := 0) (by omega) hx (nm_r (iv_sub _ _) ?_)))
    refine Exists.intro (c - 1 + 1) (iv_xOf_l hc hG hx hy (by omega) (by omega) (h1 z) (h0 z) (c - 1) 1 (by omega) (fun j hj => ?_))
    obtain rfl : j = 0 := by omega
    rfl
theorem iv_xOfN {post : Int32 → Prop} {u : SX} {p q : Int32} (hp : iv_np p q) (h : post (-1000)) : wpX_offset post u p q := by
  obtain ⟨f, a⟩ := u
  unfold wpX_offset
  dsimp only
  exact iv_xPrN hp (br_t rfl h)
theorem iv_xSu_l {post : Int32 → Prop} {c x y z : Nat} {G : Nat → Int} (hc : c ≤ 100) (hG : iv_ok G) (hx : x < 4) (hy : y < 4) (hz : z < 4) (h1 : (∀ i, i < c → iv_v G x i + iv_v G y i = iv_v G z i) → post 1) (h0 : ¬ (∀ i, i < c → iv_v G x i + iv_v G y i = iv_v G z i) → post 0) :
    ∀ (d i : Nat), i + d = c → (∀ j, j < i → iv_v G x j + iv_v G y j = iv_v G z j) → wX_sums_26 post (nI x) (nI y) (nI z) (nI c) (iv_A G) (d + 1) (nI i) := by
  intro d
  induction d with
  | zero =>
    intro i hi h
    obtain rfl : i = c := by omega
    exact br_t (nI_le (by omega) (by omega)) (h1 h)
  | succ d ih =>
    intro i hi h
    have hv := iv_vb hG x i
    have hw := iv_vb hG y i
    have hu := iv_vb hG z i
    refine br_f (nI_ge (by omega) (by omega)) (iv_xV (by omega) hx (iv_xV (by omega) hy (iv_xV (by omega) hz (iv_beq (iv_v G x i + iv_v G y i) (iv_v G z i) (fun e => ?_) (fun e => ?_) (iv_add _ _) rfl))))
    · exact nm_r (nI_1 i) (ih (i + 1) (by omega) (iv_all_s h e))
    · exact h0 (fun w => e (w i (by omega)))
theorem iv_xSu {post : Int32 → Prop} {c x y z : Nat} {G : Nat → Int} (hc : c ≤ 100) (hG : iv_ok G) (hx : x < 4) (hy : y < 4) (hz : z < 4) (h1 : (∀ i, i < c → iv_v G x i + iv_v G y i = iv_v G z i) → post 1) (h0 : ¬ (∀ i, i < c → iv_v G x i + iv_v G y i = iv_v G z i) → post 0) : wpX_sums post (nI c, iv_A G) (nI x) (nI y) (nI z) := by
  unfold wpX_sums
  dsimp only
  exact iv_xIs hx (br_f iv_1ne (iv_xIs hy (br_f iv_1ne (iv_xIs hz (br_f iv_1ne (Exists.intro (c + 1) (iv_xSu_l hc hG hx hy hz h1 h0 c 0 (by omega) (fun j hj => absurd hj (by omega)))))))))
end
section
/-! the walks of the component: lines -/
theorem iv_xWy {c x y lo hi : Nat} {G : Nat → Int} (hy : y < 4) (l1 : lo < 100) (l2 : hi < 100)
    (hlo : ∀ post : Int32 → Prop, post (nI lo) → wpX_sampleOfLeast post (nI c, iv_A G) (nI x)) (hhi : ∀ post : Int32 → Prop, post (nI hi) → wpX_sampleOfGreatest post (nI c, iv_A G) (nI x))
    (post : Int32 → Prop) (h : post (iv_z (iv_v G y hi - iv_v G y lo))) : wpX_wayOf post (nI c, iv_A G) (nI y) (nI x) := by
  unfold wpX_wayOf
  dsimp only
  refine hlo _ (hhi _ (iv_xV l2 hy (iv_xV l1 hy ?_)))
  rw [iv_sub]
  exact h
theorem iv_xOn_l {post : Int32 → Prop} {c x y : Nat} {G : Nat → Int} {A B : Int} (hc : c ≤ 100) (hG : iv_ok G) (hx : x < 4) (hy : y < 4) (A1 : A.natAbs ≤ 200) (B1 : B.natAbs ≤ 200)
    (h1 : (∀ i, i < c → (iv_v G y i - iv_v G y 0) * A = (iv_v G x i - iv_v G x 0) * B) → post 1) (h0 : ¬ (∀ i, i < c → (iv_v G y i - iv_v G y 0) * A = (iv_v G x i - iv_v G x 0) * B) → post 0) :
    ∀ (d i : Nat), i + d = c → (∀ j, j < i → (iv_v G y j - iv_v G y 0) * A = (iv_v G x j - iv_v G x 0) * B) → wX_isOnOneLine_3 post (nI x) (nI y) (iv_z A) (iv_z B) (nI c) (iv_A G) (d + 1) (nI i) := by
  intro d
  induction d with
  | zero =>
    intro i hi h
    obtain rfl : i = c := by omega
    exact br_t (nI_le (by omega) (by omega)) (h1 h)
  | succ d ih =>
    intro i hi h
    have hv := iv_vb hG x i
    have hv0 := iv_vb hG x 0
    have hw := iv_vb hG y i
    have hw0 := iv_vb hG y 0
    have b1 := iv_mb (a := iv_v G y i - iv_v G y 0) (b := A) 200 200 (by omega) A1
    have b2 := iv_mb (a := iv_v G x i - iv_v G x 0) (b := B) 200 200 (by omega) B1
    refine br_f (nI_ge (by omega) (by omega)) (iv_xV (by omega) hx (iv_xV (i := 0) (by omega) hx (nm_r (iv_sub _ _) (iv_xV (by omega) hy (iv_xV (i := 0) (by omega) hy (nm_r (iv_sub _ _) ?_))))))
    refine iv_beq ((iv_v G y i - iv_v G y 0) * A) ((iv_v G x i - iv_v G x 0) * B) (fun e => ?_) (fun e => ?_) (iv_mul _ _) (iv_mul _ _)
    · exact nm_r (nI_1 i) (ih (i + 1) (by omega) (iv_all_s h e))
    · exact h0 (fun z => e (z i (by omega)))
theorem iv_xOn {post : Int32 → Prop} {c x y : Nat} {G : Nat → Int} {A B : Int} (hc : c ≤ 100) (c0 : 0 < c) (hG : iv_ok G) (hx : x < 4) (hy : y < 4) (A1 : A.natAbs ≤ 200) (B1 : B.natAbs ≤ 200)
    (h1 : (∀ i, i < c → (iv_v G y i - iv_v G y 0) * A = (iv_v G x i - iv_v G x 0) * B) → post 1) (h0 : ¬ (∀ i, i < c → (iv_v G y i - iv_v G y 0) * A = (iv_v G x i - iv_v G x 0) * B) → post 0) : wpX_isOnOneLine post (nI c, iv_A G) (nI x) (nI y) (iv_z A) (iv_z B) := by
  refine Exists.intro (c - 1 + 1) (iv_xOn_l hc hG hx hy A1 B1 h1 h0 (c - 1) 1 (by omega) (fun j hj => ?_))
  obtain rfl : j = 0 := by omega
  rw [Int.sub_self, Int.sub_self, Int.zero_mul, Int.zero_mul]
theorem iv_xGd_l {A B : Int} (A1 : A.natAbs ≤ 200) (B1 : B.natAbs ≤ 200) :
    ∀ d : Nat, d < 200 → (∀ j : Int, (d + 1 : Int) < j → j ≤ 200 → ¬ (j ∣ A ∧ j ∣ B)) → ∃ g : Nat, iv_Gd A B g ∧ ∀ post : Int32 → Prop, post (nI g) → wX_greatestCommonDivisor_4 post (iv_z A) (iv_z B) (d + 1) (nI (d + 1)) := by
  intro d
  induction d with
  | zero =>
    intro _ h
    exact ⟨1, ⟨by omega, by omega, ⟨A, by omega⟩, ⟨B, by omega⟩, fun j a b => h j (by omega) b⟩, fun post hp => br_t (nI_le (b := 1) (by omega) (by omega)) hp⟩
  | succ d ih =>
    intro hd h
    have ha := iv_tb (a := A) (m := d + 1 + 1) 200 A1
    have hb := iv_tb (a := B) (m := d + 1 + 1) 200 B1
    by_cases z : ((d + 1 + 1 : Nat) : Int) ∣ A ∧ ((d + 1 + 1 : Nat) : Int) ∣ B
    · refine ⟨d + 1 + 1, ⟨by omega, by omega, z.1, z.2, fun j a b => h j (by omega) b⟩, fun post hp => ?_⟩
      refine br_f (nI_ge (a := 1) (by omega) (by omega)) ⟨nI_ne0 (by omega) (by omega), ?_⟩
      refine iv_beq (A.tmod (d + 1 + 1 : Nat)) 0 (fun _ => ⟨nI_ne0 (by omega) (by omega), ?_⟩) (fun e => absurd (Int.tmod_eq_zero_of_dvd z.1) e) (iv_rm (by omega) (by omega) (by omega)) iv_k0
      exact iv_beq (B.tmod (d + 1 + 1 : Nat)) 0 (fun _ => hp) (fun e => absurd (Int.tmod_eq_zero_of_dvd z.2) e) (iv_rm (by omega) (by omega) (by omega)) iv_k0
    · obtain ⟨g, hg, hk⟩ := ih (by omega) (fun j a b => by
        by_cases y : j = ((d + 1 + 1 : Nat) : Int)
        · rw [y]; exact z
        · exact h j (by omega) b)
      refine ⟨g, hg, fun post hp => ?_⟩
      refine br_f (nI_ge (a := 1) (by omega) (by omega)) ⟨nI_ne0 (by omega) (by omega), ?_⟩
      refine iv_beq (A.tmod (d + 1 + 1 : Nat)) 0 (fun e1 => ⟨nI_ne0 (by omega) (by omega), ?_⟩) (fun _ => nm_r (iv_m1 (d + 1)) (hk post hp)) (iv_rm (by omega) (by omega) (by omega)) iv_k0
      exact iv_beq (B.tmod (d + 1 + 1 : Nat)) 0 (fun e2 => absurd ⟨Int.dvd_of_tmod_eq_zero e1, Int.dvd_of_tmod_eq_zero e2⟩ z) (fun _ => nm_r (iv_m1 (d + 1)) (hk post hp)) (iv_rm (by omega) (by omega) (by omega)) iv_k0
theorem iv_xGd {A B : Int} (A1 : A.natAbs ≤ 200) (B1 : B.natAbs ≤ 200) : ∃ g : Nat, iv_Gd A B g ∧ ∀ post : Int32 → Prop, post (nI g) → wpX_greatestCommonDivisor post (iv_z A) (iv_z B) := by
  obtain ⟨g, hg, hk⟩ := iv_xGd_l A1 B1 199 (by omega) (fun j a b => absurd a (by omega))
  exact ⟨g, hg, fun post hp => Exists.intro 200 (hk post hp)⟩
/-- line and slope of a pair: one answer each, the least line's -/
theorem iv_xLn {c x y : Nat} {G : Nat → Int} (hc : c ≤ 100) (hG : iv_ok G) (hx : x < 4) (hy : y < 4) (hxy : x ≠ y) :
    ∃ P Q : Int, iv_S (iv_v G x) (iv_v G y) c P Q ∧ P.natAbs ≤ 200 ∧ Q.natAbs ≤ 200 ∧ (∀ post : Int32 → Prop, post (iv_z P) → wpX_line post (nI c, iv_A G) (nI x) (nI y)) ∧ (∀ post : Int32 → Prop, post (iv_z Q) → wpX_slope post (nI c, iv_A G) (nI x) (nI y)) := by
  obtain ⟨lo, sLo, wLo⟩ := iv_xLo hc hG hx
  obtain ⟨hi, sHi, wHi⟩ := iv_xHi hc hG hx
  have l1 : lo < 100 := by have := sLo.1; omega
  have l2 : hi < 100 := by have := sHi.1; omega
  have b1 := iv_vb hG x lo
  have b2 := iv_vb hG x hi
  have b3 := iv_vb hG y lo
  have b4 := iv_vb hG y hi
  have wA := iv_xWy hx l1 l2 wLo wHi
  have wB := iv_xWy hy l1 l2 wLo wHi
  generalize eA : iv_v G x hi - iv_v G x lo = A at wA
  generalize eB : iv_v G y hi - iv_v G y lo = B at wB
  have zero : iv_S (iv_v G x) (iv_v G y) c 0 0 → (∀ post : Int32 → Prop, post 0 → wpX_line post (nI c, iv_A G) (nI x) (nI y)) →
      ∃ P Q : Int, iv_S (iv_v G x) (iv_v G y) c P Q ∧ P.natAbs ≤ 200 ∧ Q.natAbs ≤ 200 ∧ (∀ post : Int32 → Prop, post (iv_z P) → wpX_line post (nI c, iv_A G) (nI x) (nI y)) ∧ (∀ post : Int32 → Prop, post (iv_z Q) → wpX_slope post (nI c, iv_A G) (nI x) (nI y)) := by
    intro hS hL
    refine ⟨0, 0, hS, by omega, by omega, fun post hp => hL post (by rw [iv_k0]; exact hp), fun post hp => ?_⟩
    unfold wpX_slope
    dsimp only
    exact hL _ (br_t rfl (by rw [iv_k0]; exact hp))
  by_cases z : A = 0
  · refine zero (iv_S_const (fun i hi' => ?_)) (fun post hp => ?_)
    · have h1 := sLo.2 i hi'
      have h2 := sHi.2 i hi'
      have h3 := sLo.2 0 (by omega)
      have h4 := sHi.2 0 (by omega)
      omega
    · unfold wpX_line
      dsimp only
      exact iv_xPr hx hy hxy (br_f iv_1ne (wA _ (wB _ (br_t (by rw [z]; exact iv_k0.symm) hp))))
  · have hA0 : ¬ iv_z A = 0 := by
      rw [iv_k0, iv_eq (by omega) (by omega) (by omega) (by omega)]; exact z
    have c0 : 0 < c := by
      rcases Nat.eq_zero_or_pos c with y | y
      · have h1 := sLo.1
        have h2 := sHi.1
        have h3 : lo = 0 := by omega
        have h4 : hi = 0 := by omega
        rw [h3, h4] at eA
        omega
      · exact y
    have lc : lo < c := by have := sLo.1; omega
    have hic : hi < c := by have := sHi.1; omega
    have hA : 0 < A := by
      have := sLo.2 hi hic
      omega
    by_cases z2 : B = 0
    · refine zero (iv_S_X0 lc hic eA.symm eB.symm hA (Or.inl z2)) (fun post hp => ?_)
      unfold wpX_line
      dsimp only
      exact iv_xPr hx hy hxy (br_f iv_1ne (wA _ (wB _ (br_f hA0 (br_t (by rw [z2]; exact iv_k0.symm) hp)))))
    · have hB0 : ¬ iv_z B = 0 := by
        rw [iv_k0, iv_eq (by omega) (by omega) (by omega) (by omega)]; exact z2
      by_cases on : ∀ i, i < c → (iv_v G y i - iv_v G y 0) * A = (iv_v G x i - iv_v G x 0) * B
      · obtain ⟨g, hg, wG⟩ := iv_xGd (A := A) (B := B) (by omega) (by omega)
        obtain ⟨g1, g2, g3, g4, g5⟩ := hg
        have hS := iv_S_X lc hic eA.symm eB.symm hA (by omega) z2 on g1 g3 g4 g5
        have hg0 : ¬ nI g = 0 := nI_ne0 (by omega) (by omega)
        have q1 := iv_bq (a := A) (b := (g : Int)) (M := 200) (by omega) (by omega)
        have q2 := iv_bq (a := B) (b := (g : Int)) (M := 200) (by omega) (by omega)
        have eP : iv_z A / nI g = iv_z (A.tdiv g) := by rw [iv_n, iv_div (by omega) (by omega) (by omega) (by omega)]
        have eQ : iv_z B / nI g = iv_z (B.tdiv g) := by rw [iv_n, iv_div (by omega) (by omega) (by omega) (by omega)]
        have wL : ∀ post : Int32 → Prop, post (iv_z (A.tdiv g)) → wpX_line post (nI c, iv_A G) (nI x) (nI y) := fun post hp => by
          unfold wpX_line
          dsimp only
          exact iv_xPr hx hy hxy (br_f iv_1ne (wA _ (wB _ (br_f hA0 (br_f hB0 (iv_xOn hc c0 hG hx hy (by omega) (by omega) (fun _ => br_f iv_1ne (wG _ ⟨hg0, by rw [eP]; exact hp⟩)) (fun n => absurd on n)))))))
        refine ⟨A.tdiv g, B.tdiv g, hS, by omega, by omega, wL, fun post hp => ?_⟩
        unfold wpX_slope
        dsimp only
        refine wL _ (br_f ?_ (wA _ (wB _ (wG _ ⟨hg0, by rw [eQ]; exact hp⟩))))
        rcases hS with ⟨s1, s2, s3⟩ | ⟨s1, _⟩
        · exfalso
          have t1 := Int.tdiv_mul_cancel g3
          rw [s1] at t1
          omega
        · have := s1.1
          rw [iv_k0, iv_eq (by omega) (by omega) (by omega) (by omega)]
          omega
      · refine zero (iv_S_X0 lc hic eA.symm eB.symm hA (Or.inr ?_)) (fun post hp => ?_)
        · exact Classical.byContradiction (fun n => on (fun i hi' => Classical.byContradiction (fun m => n ⟨i, hi', m⟩)))
        · unfold wpX_line
          dsimp only
          exact iv_xPr hx hy hxy (br_f iv_1ne (wA _ (wB _ (br_f hA0 (br_f hB0 (iv_xOn hc c0 hG hx hy (by omega) (by omega) (fun n => absurd n on) (fun _ => br_t rfl hp)))))))
theorem iv_xLnN {post : Int32 → Prop} {u : SX} {p q : Int32} (hp : iv_np p q) (h : post 0) : wpX_line post u p q := by
  obtain ⟨f, a⟩ := u
  unfold wpX_line
  dsimp only
  exact iv_xPrN hp (br_t rfl h)
theorem iv_xSlN {post : Int32 → Prop} {u : SX} {p q : Int32} (hp : iv_np p q) (h : post 0) : wpX_slope post u p q := by
  obtain ⟨f, a⟩ := u
  unfold wpX_slope
  dsimp only
  exact iv_xLnN hp (br_t rfl h)
theorem iv_xRiN {post : Int32 → Prop} {u : SX} {p q : Int32} (hp : iv_np p q) (h : post 0) : wpX_rise post u p q := by
  obtain ⟨f, a⟩ := u
  unfold wpX_rise
  dsimp only
  exact iv_xLnN hp (br_t rfl h)
theorem iv_xRi {post : Int32 → Prop} {c x y : Nat} {G : Nat → Int} {P Q : Int} (hx : x < 4) (hy : y < 4) (P1 : P.natAbs ≤ 200)
    (wL : ∀ post : Int32 → Prop, post (iv_z P) → wpX_line post (nI c, iv_A G) (nI x) (nI y)) (wS : ∀ post : Int32 → Prop, post (iv_z Q) → wpX_slope post (nI c, iv_A G) (nI x) (nI y))
    (h0 : P = 0 → post 0) (h1 : P ≠ 0 → post (iv_z (P * iv_v G y 0 - Q * iv_v G x 0))) : wpX_rise post (nI c, iv_A G) (nI x) (nI y) := by
  unfold wpX_rise
  dsimp only
  refine wL _ (iv_beq P 0 (fun e => h0 e) (fun e => wS _ (iv_xV (i := 0) (by omega) hy (iv_xV (i := 0) (by omega) hx ?_))) rfl iv_k0)
  rw [iv_mul, iv_mul, iv_sub]
  exact h1 e
end
section
/-! the walks of the reference -/
theorem iv_yIs {post : Int32 → Prop} {u : SY} {x : Nat} (hx : x < 4) (h : post 1) : wpY_is post u (nI x) := by
  obtain ⟨f1, f2, f3, f4, a, b⟩ := u
  exact br_f (nI_pos (by omega)) (br_f (nI_nlt (a := 3) (by omega) (by omega)) h)
theorem iv_yIsN {post : Int32 → Prop} {u : SY} {p : Int32} (hp : iv_nv p) (h : post 0) : wpY_is post u p := by
  obtain ⟨f1, f2, f3, f4, a, b⟩ := u
  rcases hp with z | ⟨z, _, y⟩
  · exact br_t z h
  · exact br_f z (br_t y h)
theorem iv_rdF (F : Nat → Int) {k : Nat} (hk : k < 1000) : iv_A F (nI k).toNatClampNeg = iv_z (F k) := by
  rw [nI_clamp (by omega)]; rfl
theorem iv_yUpd (G F : Nat → Int) {i x n : Nat} (hi : i < 100) (hx : x < 4) (hn : n < 4) : upd (iv_A F) (nI n).toNatClampNeg (iv_A G ((4 : Int32) * nI i + nI x).toNatClampNeg) = iv_A (fun j => if j = n then iv_v G x i else F j) := by
  rw [iv_yR G hi hx, nI_clamp (by omega), iv_A_upd]
theorem iv_yDf_i {post : Int32 → SY → Prop} {J : Int32 → Int32 → (Nat → Int32) → (Nat → Int32) → Prop} {c x n i : Nat} {G F : Nat → Int} {p q r : Int32} (hG : iv_ok G) (hx : x < 4) (hi : i < 100) (hn : n ≤ 4) (hF : ∀ j, j < n → -100 ≤ F j ∧ F j ≤ 100)
    (hk : (∃ k, k < n ∧ F k = iv_v G x i) → J (nI n) (nI (i + 1)) (iv_A G) (iv_A F))
    (ha : (∀ k, k < n → F k ≠ iv_v G x i) → n < 4 → J (nI (n + 1)) (nI (i + 1)) (iv_A G) (iv_A (fun j => if j = n then iv_v G x i else F j)))
    (hf : n = 4 → J (nI n) (nI (i + 1)) (iv_A G) (iv_A F)) :
    ∀ (d k : Nat) (z : Int32), k + d = n → iv_B (∃ t, t < k ∧ F t = iv_v G x i) z → wY_different_28 post J (nI x) (nI n) (nI i) (nI c) p q r (iv_A G) (iv_A F) (d + 1) z (nI k) := by
  intro d
  induction d with
  | zero =>
    intro k z hd h
    obtain rfl : k = n := by omega
    refine br_t (nI_le (by omega) (by omega)) ?_
    rcases h with ⟨rfl, h⟩ | ⟨rfl, h⟩
    · exact br_f iv_1ne (nm_r (nI_1 i) (hk h))
    · refine br_t rfl ?_
      by_cases e : k < 4
      · refine br_f (nI_ge (b := 4) e (by omega)) ⟨iv_in hi hx, vp_in_nI e (by omega), nm_r (iv_yUpd G F hi hx e) (nm_r (nI_1 k) (nm_r (nI_1 i) (ha (fun t ht y => h ⟨t, ht, y⟩) e)))⟩
      · exact br_t (nI_le (a := 4) (by omega) (by omega)) (nm_r (nI_1 i) (hf (by omega)))
  | succ d ih =>
    intro k z hd h
    have hv := iv_vb hG x i
    have hw := hF k (by omega)
    refine br_f (nI_ge (by omega) (by omega)) ?_
    rcases h with ⟨rfl, h⟩ | ⟨rfl, h⟩
    · obtain ⟨t, ht, et⟩ := h
      exact br_f iv_1ne (nm_r (nI_1 k) (ih (k + 1) 1 (by omega) (Or.inl ⟨rfl, t, by omega, et⟩)))
    · refine br_t rfl ⟨vp_in_nI (by omega) (by omega), iv_in hi hx, iv_beq (F k) (iv_v G x i) (fun e => ?_) (fun e => ?_) (iv_rdF F (by omega)) (iv_yR G hi hx)⟩
      · exact nm_r (nI_1 k) (ih (k + 1) 1 (by omega) (Or.inl ⟨rfl, k, by omega, e⟩))
      · refine nm_r (nI_1 k) (ih (k + 1) 0 (by omega) (Or.inr ⟨rfl, fun y => ?_⟩))
        obtain ⟨t, ht, et⟩ := y
        by_cases y : t = k
        · exact e (by rw [← y]; exact et)
        · exact h ⟨t, by omega, et⟩
theorem iv_yDf_l {post : Int32 → SY → Prop} {c x : Nat} {G : Nat → Int} {p q r : Int32} (hc : c ≤ 100) (hG : iv_ok G) (hx : x < 4) (hp : ∀ d F, iv_E (iv_v G x) c d F → post (nI d) (nI c, p, q, r, iv_A G, iv_A F)) :
    ∀ (e i n : Nat) (F : Nat → Int), i + e = c → iv_E (iv_v G x) i n F → wY_different_14 post (nI x) (nI c) p q r (e + 1) (nI n) (nI i) (iv_A G) (iv_A F) := by
  intro e
  induction e with
  | zero =>
    intro i n F hi h
    obtain rfl : i = c := by omega
    exact br_t (nI_le (by omega) (by omega)) (hp n F h)
  | succ e ih =>
    intro i n F hi h
    have hn := h.1
    refine br_f (nI_ge (by omega) (by omega)) (Exists.intro (n + 1) (iv_yDf_i hG hx (by omega) hn (fun j hj => iv_E_r (iv_vb hG x) h hj) (fun a => ?_) (fun a b => ?_) (fun a => ?_) n 0 0 (by omega) (Or.inr ⟨rfl, fun z => ?_⟩)))
    · exact ih (i + 1) n F (by omega) (iv_E_k h (Or.inl a))
    · exact ih (i + 1) (n + 1) _ (by omega) (iv_E_a h b a)
    · exact ih (i + 1) n F (by omega) (iv_E_k h (Or.inr a))
    · obtain ⟨t, ht, _⟩ := z
      omega
theorem iv_yDf {post : Int32 → SY → Prop} {c x : Nat} {G : Nat → Int} {p q r : Int32} {few : Nat → Int32} (hc : c ≤ 100) (hG : iv_ok G) (hx : x < 4) (hp : ∀ d F, iv_E (iv_v G x) c d F → post (nI d) (nI c, p, q, r, iv_A G, iv_A F)) : wpY_different post (nI c, p, q, r, iv_A G, few) (nI x) := by
  rw [iv_A_of few]
  unfold wpY_different
  dsimp only
  exact iv_yIs hx (br_f iv_1ne (Exists.intro (c + 1) (iv_yDf_l hc hG hx hp c 0 0 _ (by omega) (iv_E_0 _ _))))
theorem iv_yDfN {post : Int32 → SY → Prop} {u : SY} {p : Int32} (hp : iv_nv p) (h : post (-1) u) : wpY_different post u p := by
  obtain ⟨f1, f2, f3, f4, a, b⟩ := u
  unfold wpY_different
  dsimp only
  exact iv_yIsN hp (br_t rfl h)
theorem iv_yCo {post : Int32 → SY → Prop} {c x : Nat} {G : Nat → Int} {p q r : Int32} {few : Nat → Int32} (hc : c ≤ 100) (hG : iv_ok G) (hx : x < 4) (hp : ∀ d F, iv_E (iv_v G x) c d F → (d = 1 → post (iv_z (iv_v G x 0)) (nI c, p, q, r, iv_A G, iv_A F)) ∧ (d ≠ 1 → post (-1000) (nI c, p, q, r, iv_A G, iv_A F))) : wpY_constant post (nI c, p, q, r, iv_A G, few) (nI x) := by
  unfold wpY_constant
  dsimp only
  refine iv_yIs hx (br_f iv_1ne (iv_yDf hc hG hx (fun d F hE => ?_)))
  have hd := hE.1
  dsimp only
  by_cases e : d = 1
  · subst e
    refine br_t rfl ⟨iv_in0 hx, ?_⟩
    rw [iv_yR0 G hx]
    exact (hp 1 F hE).1 rfl
  · exact br_f (fun z => e ((nI_eq (b := 1) (by omega) (by omega)).mp z)) ((hp d F hE).2 e)
theorem iv_yCoN {post : Int32 → SY → Prop} {u : SY} {p : Int32} (hp : iv_nv p) (h : post (-1000) u) : wpY_constant post u p := by
  obtain ⟨f1, f2, f3, f4, a, b⟩ := u
  unfold wpY_constant
  dsimp only
  exact iv_yIsN hp (br_t rfl h)
theorem iv_yB0_l {post : Int32 → Prop} {c x : Nat} {G : Nat → Int} {p q r : Int32} {few : Nat → Int32} (hc : c ≤ 100) (hG : iv_ok G) (hx : x < 4) (hp : ∀ e : Int, (∃ j, j < c ∧ iv_v G x j = e) → (∀ j, j < c → e ≤ iv_v G x j) → post (iv_z e)) :
    ∀ (d i : Nat) (e : Int), i + d = c → (∃ j, j < c ∧ iv_v G x j = e) → (∀ j, j < i → e ≤ iv_v G x j) → wY_bound_38 post (nI x) 0 (nI c) p q r (iv_A G) few (d + 1) (iv_z e) (nI i) := by
  intro d
  induction d with
  | zero =>
    intro i e hi he h
    obtain rfl : i = c := by omega
    exact br_t (nI_le (by omega) (by omega)) (hp e he h)
  | succ d ih =>
    intro i e hi he h
    have hv := iv_vb hG x i
    have hb : -100 ≤ e ∧ e ≤ 100 := by
      obtain ⟨j, _, ej⟩ := he
      rw [← ej]; exact iv_vb hG x j
    refine br_f (nI_ge (by omega) (by omega)) ⟨iv_in (by omega) hx, nm_r (iv_yR G (by omega) hx) (br_t rfl (iv_ble e (iv_v G x i) (fun a => ?_) (fun a => ?_)))⟩
    · exact nm_r (nI_1 i) (ih (i + 1) e (by omega) he (iv_all_s h a))
    · exact nm_r (nI_1 i) (ih (i + 1) _ (by omega) ⟨i, by omega, rfl⟩ (iv_all_s (fun j hj => by have := h j hj; omega) (by omega)))
theorem iv_yB1_l {post : Int32 → Prop} {c x : Nat} {G : Nat → Int} {p q r : Int32} {few : Nat → Int32} (hc : c ≤ 100) (hG : iv_ok G) (hx : x < 4) (hp : ∀ e : Int, (∃ j, j < c ∧ iv_v G x j = e) → (∀ j, j < c → iv_v G x j ≤ e) → post (iv_z e)) :
    ∀ (d i : Nat) (e : Int), i + d = c → (∃ j, j < c ∧ iv_v G x j = e) → (∀ j, j < i → iv_v G x j ≤ e) → wY_bound_38 post (nI x) 1 (nI c) p q r (iv_A G) few (d + 1) (iv_z e) (nI i) := by
  intro d
  induction d with
  | zero =>
    intro i e hi he h
    obtain rfl : i = c := by omega
    exact br_t (nI_le (by omega) (by omega)) (hp e he h)
  | succ d ih =>
    intro i e hi he h
    have hv := iv_vb hG x i
    have hb : -100 ≤ e ∧ e ≤ 100 := by
      obtain ⟨j, _, ej⟩ := he
      rw [← ej]; exact iv_vb hG x j
    refine br_f (nI_ge (by omega) (by omega)) ⟨iv_in (by omega) hx, nm_r (iv_yR G (by omega) hx) (br_f iv_1ne (iv_ble (iv_v G x i) e (fun a => ?_) (fun a => ?_)))⟩
    · exact nm_r (nI_1 i) (ih (i + 1) e (by omega) he (iv_all_s h a))
    · exact nm_r (nI_1 i) (ih (i + 1) _ (by omega) ⟨i, by omega, rfl⟩ (iv_all_s (fun j hj => by have := h j hj; omega) (by omega)))
theorem iv_yVA_i {post : Int32 → SY → Prop} {J : Int32 → Prop} {c d k i : Nat} {F : Nat → Int} {p q r : Int32} {a : Nat → Int32} (hd : d ≤ 4) (hi : i < d) (hk : k < 2 ^ 31) (hF : ∀ j, j < d → -100 ≤ F j ∧ F j ≤ 100)
    (h1 : iv_ls F (F i) d = k → post (iv_z (F i)) (nI c, p, q, r, a, iv_A F)) (h0 : iv_ls F (F i) d ≠ k → J (nI (i + 1))) :
    ∀ (e j : Nat), j + e = d → wY_valueAt_39 post J (nI k) (nI d) (nI i) (nI c) p q r a (iv_A F) (e + 1) (nI (iv_ls F (F i) j)) (nI j) := by
  intro e
  induction e with
  | zero =>
    intro j hj
    obtain rfl : j = d := by omega
    have hl := iv_ls_le F (F i) j
    refine br_t (nI_le (by omega) (by omega)) ?_
    by_cases z : iv_ls F (F i) j = k
    · refine br_t (by rw [z]) ⟨vp_in_nI (by omega) (by omega), ?_⟩
      rw [iv_rdF F (by omega)]
      exact h1 z
    · exact br_f (fun y => z ((nI_eq (by omega) hk).mp y)) (nm_r (nI_1 i) (h0 z))
  | succ e ih =>
    intro j hj
    have hv := hF i hi
    have hw := hF j (by omega)
    have hn := ih (j + 1) (by omega)
    refine br_f (nI_ge (by omega) (by omega)) ⟨vp_in_nI (by omega) (by omega), vp_in_nI (by omega) (by omega), iv_ble (F i) (F j) (fun b => ?_) (fun b => ?_) (iv_rdF F (by omega)) (iv_rdF F (by omega))⟩
    · have e1 : iv_ls F (F i) (j + 1) = iv_ls F (F i) j := if_neg (by omega)
      rw [e1] at hn
      exact nm_r (nI_1 j) hn
    · have e1 : iv_ls F (F i) (j + 1) = iv_ls F (F i) j + 1 := if_pos b
      rw [e1] at hn
      exact nm_r (nI_1 _) (nm_r (nI_1 j) hn)
theorem iv_yVA_l {post : Int32 → SY → Prop} {c d k : Nat} {F : Nat → Int} {p q r : Int32} {a : Nat → Int32} {R : Int} (hd : d ≤ 4) (hk : k < 2 ^ 31) (hF : ∀ j, j < d → -100 ≤ F j ∧ F j ≤ 100)
    (hr : ∀ i, i < d → (iv_ls F (F i) d = k ↔ F i = R)) (hx : ∃ i, i < d ∧ F i = R) (hp : post (iv_z R) (nI c, p, q, r, a, iv_A F)) :
    ∀ (e i : Nat), i + e = d → (∀ t, t < i → F t ≠ R) → wY_valueAt_27 post (nI k) (nI d) (nI c) p q r a (iv_A F) (e + 1) (nI i) := by
  intro e
  induction e with
  | zero =>
    intro i hi h
    obtain ⟨t, ht, et⟩ := hx
    exact absurd et (h t (by omega))
  | succ e ih =>
    intro i hi h
    refine br_f (nI_ge (by omega) (by omega)) (Exists.intro (d + 1) (iv_yVA_i hd (by omega) hk hF (fun z => ?_) (fun z => ?_) d 0 (by omega)))
    · rw [(hr i (by omega)).mp z]; exact hp
    · exact ih (i + 1) (by omega) (iv_all_s h (fun y => z ((hr i (by omega)).mpr y)))
end
section
/-! the walks of the reference, second half -/
theorem iv_yVA {post : Int32 → SY → Prop} {c x : Nat} {G : Nat → Int} {p q r : Int32} {few : Nat → Int32} {k : Int32} (hc : c ≤ 100) (hG : iv_ok G) (hx : x < 4)
    (hp : ∀ d F, iv_E (iv_v G x) c d F → ((3 < d ∨ k < 0 ∨ nI d ≤ k) → post (-1000) (nI c, p, q, r, iv_A G, iv_A F)) ∧ (∀ K, k = nI K → K < d → d < 4 → ∃ m R, iv_C (iv_v G x) c (K + 1) m R ∧ m K = R ∧ post (iv_z R) (nI c, p, q, r, iv_A G, iv_A F))) : wpY_valueAt post (nI c, p, q, r, iv_A G, few) (nI x) k := by
  unfold wpY_valueAt
  dsimp only
  refine iv_yDf hc hG hx (fun d F hE => ?_)
  obtain ⟨h1, h2⟩ := hp d F hE
  have hd := hE.1
  dsimp only
  by_cases a : 3 < d
  · exact br_t (nI_lt (a := 3) a (by omega)) (h1 (Or.inl a))
  · refine br_f (nI_nlt (a := 3) (by omega) (by omega)) ?_
    by_cases b : k < 0
    · exact br_t b (h1 (Or.inr (Or.inl b)))
    · refine br_f b ?_
      obtain ⟨K, hK, rfl⟩ := nI_of b
      by_cases e : K < d
      · obtain ⟨m, R, hC, hm, hpost⟩ := h2 K rfl e (by omega)
        exact br_t (nI_lt e (by omega)) (Exists.intro (d + 1) (iv_yVA_l hd hK (fun j hj => iv_E_r (iv_vb hG x) hE hj) (fun i hi => iv_rank hE (by omega) hC hm hi) (iv_rank_ex hE (by omega) hC hm) hpost d 0 (by omega) (fun t ht => absurd ht (by omega))))
      · exact br_f (nI_nlt (by omega) hK) (h1 (Or.inr (Or.inr (nI_le (by omega) hK))))
theorem iv_yVAN {post : Int32 → SY → Prop} {u : SY} {p q : Int32} (hp : iv_nv p) (h : post (-1000) u) : wpY_valueAt post u p q := by
  obtain ⟨f1, f2, f3, f4, a, b⟩ := u
  unfold wpY_valueAt
  dsimp only
  refine iv_yDfN hp ?_
  dsimp only
  refine br_f (by decide) ?_
  by_cases b : q < 0
  · exact br_t b h
  · refine br_f b (br_f (fun z => b ?_) h)
    rw [Int32.lt_iff_toInt_lt] at z ⊢
    have e1 : (-1 : Int32).toInt = -1 := by decide
    have e2 : (0 : Int32).toInt = 0 := by decide
    omega
theorem iv_md {a : Int} {m : Nat} (a1 : -100 ≤ a) (a2 : a ≤ 100) (m0 : 0 < m) (hm : m ≤ 200) : (iv_z a - iv_z a / nI m * nI m + nI m) - (iv_z a - iv_z a / nI m * nI m + nI m) / nI m * nI m = iv_z (a % m) := by
  have hb := iv_tb (a := a) (m := m) 100 (by omega)
  have e : iv_z (a.tmod m) + nI m = iv_z (a.tmod m + m) := by rw [iv_n, iv_add]
  rw [iv_rm (by omega) (by omega) hm, e, iv_rm (by omega) (by omega) hm, iv_modu (by omega)]
theorem iv_yMd {post : Int32 → Prop} {u : SY} {a : Int} {m : Nat} (a1 : -100 ≤ a) (a2 : a ≤ 100) (m0 : 0 < m) (hm : m ≤ 200) (h : post (iv_z (a % m))) : wpY_modulo post u (iv_z a) (nI m) := by
  obtain ⟨f1, f2, f3, f4, b, b'⟩ := u
  refine And.intro (nI_ne0 m0 (by omega)) (And.intro (nI_ne0 m0 (by omega)) ?_)
  rw [iv_md a1 a2 m0 hm]
  exact h
theorem iv_yMo_i {post : Int32 → SY → Prop} {J : Int32 → Prop} {c x m : Nat} {G : Nat → Int} {p q r : Int32} {few : Nat → Int32} (hc : c ≤ 100) (hG : iv_ok G) (hx : x < 4) (hm : m < 200)
    (h1 : iv_Sm (iv_v G x) c (m + 1 : Nat) → post (nI (m + 1)) (nI c, p, q, r, iv_A G, few)) (h0 : ¬ iv_Sm (iv_v G x) c (m + 1 : Nat) → J (nI m)) :
    ∀ (d i : Nat) (z : Int32), i + d = c → iv_B (∀ j, j < i → ((m + 1 : Nat) : Int) ∣ iv_v G x j - iv_v G x 0) z → wY_modulus_35 post J (nI x) (nI (m + 1)) (nI c) p q r (iv_A G) few (d + 1) z (nI i) := by
  intro d
  induction d with
  | zero =>
    intro i z hi h
    obtain rfl : i = c := by omega
    refine br_t (nI_le (by omega) (by omega)) ?_
    rcases h with ⟨rfl, h⟩ | ⟨rfl, h⟩
    · exact br_f iv_1ne (h1 h)
    · exact br_t rfl (nm_r (iv_m1 m) (h0 h))
  | succ d ih =>
    intro i z hi h
    have hv := iv_vb hG x i
    have hw := iv_vb hG x 0
    refine br_f (nI_ge (by omega) (by omega)) ?_
    rcases h with ⟨rfl, h⟩ | ⟨rfl, h⟩
    · refine br_f iv_1ne ⟨iv_in (by omega) hx, ?_⟩
      rw [iv_yR G (by omega) hx]
      refine iv_yMd hv.1 hv.2 (by omega) (by omega) ⟨iv_in0 hx, ?_⟩
      rw [iv_yR0 G hx]
      refine iv_yMd hw.1 hw.2 (by omega) (by omega) ?_
      have m1 := Int.emod_nonneg (iv_v G x i) (b := ((m + 1 : Nat) : Int)) (by omega)
      have m2 := Int.emod_lt_of_pos (iv_v G x i) (b := ((m + 1 : Nat) : Int)) (by omega)
      have m3 := Int.emod_nonneg (iv_v G x 0) (b := ((m + 1 : Nat) : Int)) (by omega)
      have m4 := Int.emod_lt_of_pos (iv_v G x 0) (b := ((m + 1 : Nat) : Int)) (by omega)
      refine iv_beq (iv_v G x i % ((m + 1 : Nat) : Int)) (iv_v G x 0 % ((m + 1 : Nat) : Int)) (fun e => ?_) (fun e => ?_)
      · exact nm_r (nI_1 i) (ih (i + 1) 1 (by omega) (Or.inl ⟨rfl, iv_all_s h (iv_dvd.mp e)⟩))
      · exact nm_r (nI_1 i) (ih (i + 1) 0 (by omega) (Or.inr ⟨rfl, fun y => e (iv_dvd.mpr (y i (by omega)))⟩))
    · exact br_t rfl (nm_r (nI_1 i) (ih (i + 1) 0 (by omega) (Or.inr ⟨rfl, fun y => h (iv_all_p y)⟩)))
theorem iv_yMo_l {post : Int32 → SY → Prop} {c x : Nat} {G : Nat → Int} {p q r : Int32} {few : Nat → Int32} (hc : c ≤ 100) (hG : iv_ok G) (hx : x < 4) (hp : ∀ M : Nat, M ≤ 200 → iv_Mo (iv_v G x) c M → post (nI M) (nI c, p, q, r, iv_A G, few)) :
    ∀ d : Nat, d < 200 → (∀ j : Int, (d + 1 : Int) < j → j ≤ 200 → ¬ iv_Sm (iv_v G x) c j) → wY_modulus_25 post (nI x) (nI c) p q r (iv_A G) few (d + 1) (nI (d + 1)) := by
  intro d
  induction d with
  | zero =>
    intro _ h
    exact br_t (nI_lt (b := 2) (by omega) (by omega)) (hp 1 (by omega) (Or.inr ⟨rfl, fun m a b => h m (by omega) b⟩))
  | succ d ih =>
    intro hd h
    refine br_f (nI_nlt (b := 2) (by omega) (by omega)) (Exists.intro (c + 1) (iv_yMo_i hc hG hx (by omega) (fun a => ?_) (fun a => ?_) c 0 1 (by omega) (Or.inl ⟨rfl, fun j hj => absurd hj (by omega)⟩)))
    · exact hp (d + 1 + 1) (by omega) (Or.inl ⟨by omega, by omega, a, fun m b => h m (by omega)⟩)
    · refine ih (by omega) (fun j b e => ?_)
      by_cases z : j = ((d + 1 + 1 : Nat) : Int)
      · rw [z]; exact a
      · exact h j (by omega) e
theorem iv_yMo {post : Int32 → SY → Prop} {c x : Nat} {G : Nat → Int} {p q r : Int32} {few : Nat → Int32} (hc : c ≤ 100) (hG : iv_ok G) (hx : x < 4)
    (hp : ∀ d F, iv_E (iv_v G x) c d F → (d < 2 → post 0 (nI c, p, q, r, iv_A G, iv_A F)) ∧ (2 ≤ d → ∀ M : Nat, M ≤ 200 → iv_Mo (iv_v G x) c M → post (nI M) (nI c, p, q, r, iv_A G, iv_A F))) : wpY_modulus post (nI c, p, q, r, iv_A G, few) (nI x) := by
  unfold wpY_modulus
  dsimp only
  refine iv_yIs hx (br_f iv_1ne (iv_yDf hc hG hx (fun d F hE => ?_)))
  obtain ⟨h1, h2⟩ := hp d F hE
  have hd := hE.1
  dsimp only
  by_cases a : 2 ≤ d
  · exact br_t (nI_le (a := 2) a (by omega)) (Exists.intro 200 (iv_yMo_l hc hG hx (h2 a) 199 (by omega) (fun j b e => absurd b (by omega))))
  · exact br_f (nI_ge (b := 2) (by omega) (by omega)) (h1 (by omega))
theorem iv_yMoN {post : Int32 → SY → Prop} {u : SY} {p : Int32} (hp : iv_nv p) (h : post (-1) u) : wpY_modulus post u p := by
  obtain ⟨f1, f2, f3, f4, a, b⟩ := u
  unfold wpY_modulus
  dsimp only
  exact iv_yIsN hp (br_t rfl h)
theorem iv_yRm {post : Int32 → SY → Prop} {c x : Nat} {G : Nat → Int} {p q r : Int32} {few : Nat → Int32} (hc : c ≤ 100) (hG : iv_ok G) (hx : x < 4)
    (hp : ∀ d F, iv_E (iv_v G x) c d F → (d < 2 → post (-1000) (nI c, p, q, r, iv_A G, iv_A F)) ∧ (2 ≤ d → ∀ M : Nat, M ≤ 200 → iv_Mo (iv_v G x) c M → (M < 2 → post (-1000) (nI c, p, q, r, iv_A G, iv_A F)) ∧ (2 ≤ M → post (iv_z (iv_v G x 0 % M)) (nI c, p, q, r, iv_A G, iv_A F)))) : wpY_remainder post (nI c, p, q, r, iv_A G, few) (nI x) := by
  unfold wpY_remainder
  dsimp only
  refine iv_yMo hc hG hx (fun d F hE => ?_)
  obtain ⟨h1, h2⟩ := hp d F hE
  refine ⟨fun a => ?_, fun a M hM hMo => ?_⟩
  · dsimp only
    exact br_t (by decide) (h1 a)
  · obtain ⟨h3, h4⟩ := h2 a M hM hMo
    have hw := iv_vb hG x 0
    dsimp only
    by_cases b : 2 ≤ M
    · refine br_f (nI_nlt (b := 2) b (by omega)) ⟨iv_in0 hx, ?_⟩
      rw [iv_yR0 G hx]
      exact iv_yMd hw.1 hw.2 (by omega) hM (h4 b)
    · exact br_t (nI_lt (b := 2) (by omega) (by omega)) (h3 (by omega))
theorem iv_yRmN {post : Int32 → SY → Prop} {u : SY} {p : Int32} (hp : iv_nv p) (h : post (-1000) u) : wpY_remainder post u p := by
  obtain ⟨f1, f2, f3, f4, a, b⟩ := u
  unfold wpY_remainder
  dsimp only
  refine iv_yMoN hp ?_
  dsimp only
  exact br_t (by decide) h
theorem iv_yHo {post : Int32 → Prop} {u : SY} {a b : Int} {t : Nat} (a1 : -100 ≤ a) (a2 : a ≤ 100) (b1 : -100 ≤ b) (b2 : b ≤ 100) (ht : t ≤ 3) (h1 : iv_H t a b → post 1) (h0 : ¬ iv_H t a b → post 0) : wpY_holds post u (iv_z a) (iv_z b) (nI t) := by
  obtain ⟨f1, f2, f3, f4, k, k'⟩ := u
  rcases (by omega : t = 0 ∨ t = 1 ∨ t = 2 ∨ t = 3) with rfl | rfl | rfl | rfl
  · exact br_t rfl (iv_ble b a (fun e => h0 (by unfold iv_H; omega)) (fun e => h1 (by unfold iv_H; omega)))
  · exact br_f (by decide) (br_t rfl (iv_blt b a (fun e => h0 (by unfold iv_H; omega)) (fun e => h1 (by unfold iv_H; omega))))
  · exact br_f (by decide) (br_f (by decide) (br_t rfl (iv_beq a b (fun e => h1 (by unfold iv_H; omega)) (fun e => h0 (by unfold iv_H; omega)))))
  · exact br_f (by decide) (br_f (by decide) (br_f (by decide) (iv_beq a b (fun e => h0 (by unfold iv_H; omega)) (fun e => h1 (by unfold iv_H; omega)))))
theorem iv_yRe_l {post : Int32 → Prop} {c x y t : Nat} {G : Nat → Int} {p q r : Int32} {few : Nat → Int32} (hc : c ≤ 100) (hG : iv_ok G) (hx : x < 4) (hy : y < 4) (ht : t ≤ 3) (h1 : (∀ i, i < c → iv_H t (iv_v G x i) (iv_v G y i)) → post 1) (h0 : ¬ (∀ i, i < c → iv_H t (iv_v G x i) (iv_v G y i)) → post 0) :
    ∀ (d i : Nat) (z : Int32), i + d = c → iv_B (∀ j, j < i → iv_H t (iv_v G x j) (iv_v G y j)) z → wY_relation_38 post (nI x) (nI y) (nI t) (nI c) p q r (iv_A G) few (d + 1) z (nI i) := by
  intro d
  induction d with
  | zero =>
    intro i z hi h
    obtain rfl : i = c := by omega
    refine br_t (nI_le (by omega) (by omega)) ?_
    rcases h with ⟨rfl, h⟩ | ⟨rfl, h⟩
    · exact ⟨rfl, h1 h⟩
    · exact ⟨rfl, h0 h⟩
  | succ d ih =>
    intro i z hi h
    have hv := iv_vb hG x i
    have hw := iv_vb hG y i
    refine br_f (nI_ge (by omega) (by omega)) ?_
    rcases h with ⟨rfl, h⟩ | ⟨rfl, h⟩
    · refine br_f iv_1ne ⟨iv_in (by omega) hx, iv_in (by omega) hy, ?_⟩
      rw [iv_yR G (by omega) hx, iv_yR G (by omega) hy]
      refine iv_yHo hv.1 hv.2 hw.1 hw.2 ht (fun e => ?_) (fun e => ?_)
      · exact br_f iv_1ne (nm_r (nI_1 i) (ih (i + 1) 1 (by omega) (Or.inl ⟨rfl, iv_all_s h e⟩)))
      · exact br_t rfl (nm_r (nI_1 i) (ih (i + 1) 0 (by omega) (Or.inr ⟨rfl, fun w => e (w i (by omega))⟩)))
    · exact br_t rfl (nm_r (nI_1 i) (ih (i + 1) 0 (by omega) (Or.inr ⟨rfl, fun w => h (iv_all_p w)⟩)))
theorem iv_yRe {post : Int32 → Prop} {c x y t : Nat} {G : Nat → Int} {p q r : Int32} {few : Nat → Int32} (hc : c ≤ 100) (hG : iv_ok G) (hx : x < 4) (hy : y < 4) (hxy : x ≠ y) (ht : t ≤ 3) (h1 : (∀ i, i < c → iv_H t (iv_v G x i) (iv_v G y i)) → post 1) (h0 : ¬ (∀ i, i < c → iv_H t (iv_v G x i) (iv_v G y i)) → post 0) : wpY_relation post (nI c, p, q, r, iv_A G, few) (nI x) (nI y) (nI t) := by
  unfold wpY_relation
  dsimp only
  exact iv_yIs hx (br_f iv_1ne (iv_yIs hy (br_f iv_1ne (br_f (fun e => hxy ((nI_eq (by omega) (by omega)).mp e)) (br_f (nI_pos (by omega)) (br_t (nI_le (b := 3) ht (by omega)) (Exists.intro (c + 1) (iv_yRe_l hc hG hx hy ht h1 h0 c 0 1 (by omega) (Or.inl ⟨rfl, fun j hj => absurd hj (by omega)⟩)))))))))
theorem iv_yOf_l {post : Int32 → Prop} {c x y : Nat} {G : Nat → Int} {p q r : Int32} {few : Nat → Int32} {k : Int} (hc : c ≤ 100) (hG : iv_ok G) (hx : x < 4) (hy : y < 4) (k1 : -200 ≤ k) (k2 : k ≤ 200) (h1 : (∀ i, i < c → iv_v G y i - iv_v G x i = k) → post (iv_z k)) (h0 : ¬ (∀ i, i < c → iv_v G y i - iv_v G x i = k) → post (-1000)) :
    ∀ (d i : Nat) (z : Int32), i + d = c → iv_B (∀ j, j < i → iv_v G y j - iv_v G x j = k) z → wY_offset_52 post (nI x) (nI y) (iv_z k) (nI c) p q r (iv_A G) few (d + 1) z (nI i) := by
  intro d
  induction d with
  | zero =>
    intro i z hi h
    obtain rfl : i = c := by omega
    refine br_t (nI_le (by omega) (by omega)) ?_
    rcases h with ⟨rfl, h⟩ | ⟨rfl, h⟩
    · exact br_f iv_1ne (h1 h)
    · exact br_t rfl (h0 h)
  | succ d ih =>
    intro i z hi h
    have hv := iv_vb hG x i
    have hw := iv_vb hG y i
    refine br_f (nI_ge (by omega) (by omega)) ?_
    rcases h with ⟨rfl, h⟩ | ⟨rfl, h⟩
    · refine br_f iv_1ne ⟨iv_in (by omega) hy, iv_in (by omega) hx, iv_beq (iv_v G y i) (iv_v G x i + k) (fun e => ?_) (fun e => ?_) (iv_yR G (by omega) hy) (by rw [iv_yR G (by omega) hx, iv_add])⟩
      · exact nm_r (nI_1 i) (ih (i + 1) 1 (by omega) (Or.inl ⟨rfl, iv_all_s h (by omega)⟩))
      · exact nm_r (nI_1 i) (ih (i + 1) 0 (by omega) (Or.inr ⟨rfl, fun w => e (by have := w i (by omega); omega)⟩))
    · exact br_t rfl (nm_r (nI_1 i) (ih (i + 1) 0 (by omega) (Or.inr ⟨rfl, fun w => h (iv_all_p w)⟩)))
theorem iv_yOf {post : Int32 → Prop} {c x y : Nat} {G : Nat → Int} {p q r : Int32} {few : Nat → Int32} (hc : c ≤ 100) (hG : iv_ok G) (hx : x < 4) (hy : y < 4) (hxy : x ≠ y) (hz : c = 0 → post (-1000)) (h1 : 0 < c → (∀ i, i < c → iv_v G y i - iv_v G x i = iv_v G y 0 - iv_v G x 0) → post (iv_z (iv_v G y 0 - iv_v G x 0))) (h0 : 0 < c → ¬ (∀ i, i < c → iv_v G y i - iv_v G x i = iv_v G y 0 - iv_v G x 0) → post (-1000)) : wpY_offset post (nI c, p, q, r, iv_A G, few) (nI x) (nI y) := by
  unfold wpY_offset
  dsimp only
  refine iv_yIs hx (br_f iv_1ne (iv_yIs hy (br_f iv_1ne (br_f (fun e => hxy ((nI_eq (by omega) (by omega)).mp e)) ?_))))
  rcases Nat.eq_zero_or_pos c with z | z
  · subst z
    exact br_t rfl (hz rfl)
  · have hv := iv_vb hG x 0
    have hw := iv_vb hG y 0
    refine br_f (nI_ne0 z (by omega)) ⟨iv_in0 hy, iv_in0 hx, nm_r (by rw [iv_yR0 G hy, iv_yR0 G hx, iv_sub]) ?_⟩
    exact Exists.intro (c + 1) (iv_yOf_l hc hG hx hy (by omega) (by omega) (h1 z) (h0 z) c 0 1 (by omega) (Or.inl ⟨rfl, fun j hj => absurd hj (by omega)⟩))
theorem iv_yOfN {post : Int32 → Prop} {u : SY} {p q : Int32} (hp : iv_np p q) (h : post (-1000)) : wpY_offset post u p q := by
  obtain ⟨f1, f2, f3, f4, a, b⟩ := u
  unfold wpY_offset
  dsimp only
  rcases hp with a | ⟨⟨x, hx, rfl⟩, b⟩ | ⟨⟨x, hx, rfl⟩, rfl⟩
  · exact iv_yIsN a (br_t rfl h)
  · exact iv_yIs hx (br_f iv_1ne (iv_yIsN b (br_t rfl h)))
  · exact iv_yIs hx (br_f iv_1ne (iv_yIs hx (br_f iv_1ne (br_t rfl h))))
theorem iv_ySu_l {post : Int32 → Prop} {c x y z : Nat} {G : Nat → Int} {p q r : Int32} {few : Nat → Int32} (hc : c ≤ 100) (hG : iv_ok G) (hx : x < 4) (hy : y < 4) (hz : z < 4) (h1 : (∀ i, i < c → iv_v G x i + iv_v G y i = iv_v G z i) → post 1) (h0 : ¬ (∀ i, i < c → iv_v G x i + iv_v G y i = iv_v G z i) → post 0) :
    ∀ (d i : Nat) (b : Int32), i + d = c → iv_B (∀ j, j < i → iv_v G x j + iv_v G y j = iv_v G z j) b → wY_sums_34 post (nI x) (nI y) (nI z) (nI c) p q r (iv_A G) few (d + 1) b (nI i) := by
  intro d
  induction d with
  | zero =>
    intro i b hi h
    obtain rfl : i = c := by omega
    refine br_t (nI_le (by omega) (by omega)) ?_
    rcases h with ⟨rfl, h⟩ | ⟨rfl, h⟩
    · exact ⟨rfl, h1 h⟩
    · exact ⟨rfl, h0 h⟩
  | succ d ih =>
    intro i b hi h
    have hv := iv_vb hG x i
    have hw := iv_vb hG y i
    have hu := iv_vb hG z i
    refine br_f (nI_ge (by omega) (by omega)) ?_
    rcases h with ⟨rfl, h⟩ | ⟨rfl, h⟩
    · refine br_f iv_1ne ⟨iv_in (by omega) hx, iv_in (by omega) hy, iv_in (by omega) hz, iv_beq (iv_v G x i + iv_v G y i) (iv_v G z i) (fun e => ?_) (fun e => ?_) (by rw [iv_yR G (by omega) hx, iv_yR G (by omega) hy, iv_add]) (iv_yR G (by omega) hz)⟩
      · exact nm_r (nI_1 i) (ih (i + 1) 1 (by omega) (Or.inl ⟨rfl, iv_all_s h e⟩))
      · exact nm_r (nI_1 i) (ih (i + 1) 0 (by omega) (Or.inr ⟨rfl, fun w => e (w i (by omega))⟩))
    · exact br_t rfl ⟨rfl, h0 (fun w => h (fun j hj => w j (by omega)))⟩
end
section
/-! the walks of the reference: lines; and equals, both sides together -/
theorem iv_yF_l {post : Int32 → SY → Prop} {c x y : Nat} {G : Nat → Int} {few : Nat → Int32} {p q k : Int} {Z : Prop} (hc : c ≤ 100) (hG : iv_ok G) (hx : x < 4) (hy : y < 4) (p1 : p.natAbs ≤ 200) (q1 : q.natAbs ≤ 40000) (k1 : k.natAbs ≤ 5000000)
    (hp : ∀ z, iv_B (Z ∧ ∀ j, j < c → p * iv_v G y j = q * iv_v G x j + k) z → post z (nI c, iv_z p, iv_z q, iv_z k, iv_A G, few)) :
    ∀ (d i : Nat) (z : Int32), i + d = c → iv_B (Z ∧ ∀ j, j < i → p * iv_v G y j = q * iv_v G x j + k) z → wY_find_224 post (nI x) (nI y) (nI c) (iv_z p) (iv_z q) (iv_z k) (iv_A G) few (d + 1) z (nI i) := by
  intro d
  induction d with
  | zero =>
    intro i z hi h
    obtain rfl : i = c := by omega
    refine br_t (nI_le (by omega) (by omega)) ⟨?_, hp z h⟩
    rcases h with ⟨rfl, _⟩ | ⟨rfl, _⟩
    · rfl
    · rfl
  | succ d ih =>
    intro i z hi h
    have hv := iv_vb hG x i
    have hw := iv_vb hG y i
    have b1 := iv_mb (a := p) (b := iv_v G y i) 200 100 p1 (by omega)
    have b2 := iv_mb (a := q) (b := iv_v G x i) 40000 100 q1 (by omega)
    refine br_f (nI_ge (by omega) (by omega)) ?_
    rcases h with ⟨rfl, h⟩ | ⟨rfl, h⟩
    · refine br_f iv_1ne ⟨iv_in (by omega) hy, iv_in (by omega) hx, iv_beq (p * iv_v G y i) (q * iv_v G x i + k) (fun e => ?_) (fun e => ?_) (by rw [iv_yR G (by omega) hy, iv_mul]) (by rw [iv_yR G (by omega) hx, iv_mul, iv_add])⟩
      · exact nm_r (nI_1 i) (ih (i + 1) 1 (by omega) (Or.inl ⟨rfl, h.1, iv_all_s h.2 e⟩))
      · exact nm_r (nI_1 i) (ih (i + 1) 0 (by omega) (Or.inr ⟨rfl, fun w => e (w.2 i (by omega))⟩))
    · exact br_t rfl (nm_r (nI_1 i) (ih (i + 1) 0 (by omega) (Or.inr ⟨rfl, fun w => h ⟨w.1, iv_all_p w.2⟩⟩)))
theorem iv_yF173 {post : Int32 → SY → Prop} {c x y : Nat} {G : Nat → Int} {few : Nat → Int32} {r : Int32} {p q : Int} (hc : c ≤ 100) (hG : iv_ok G) (hx : x < 4) (hy : y < 4) (p0 : 0 < p) (p1 : p.natAbs ≤ 200) (q1 : q.natAbs ≤ 40000)
    (hp : ∀ z, iv_B (q ≠ 0 ∧ ∀ j, j < c → p * iv_v G y j = q * iv_v G x j + (p * iv_v G y 0 - q * iv_v G x 0)) z → post z (nI c, iv_z p, iv_z q, iv_z (p * iv_v G y 0 - q * iv_v G x 0), iv_A G, few)) :
    wY_find_173 post (nI x) (nI y) (nI c) (iv_z p) (iv_z q) r (iv_A G) few := by
  have hv := iv_vb hG x 0
  have hw := iv_vb hG y 0
  have b1 := iv_mb (a := p) (b := iv_v G y 0) 200 100 p1 (by omega)
  have b2 := iv_mb (a := q) (b := iv_v G x 0) 40000 100 q1 (by omega)
  refine And.intro (iv_in0 hy) (And.intro (iv_in0 hx) (nm_r (e' := iv_z (p * iv_v G y 0 - q * iv_v G x 0)) (by rw [iv_yR0 G hy, iv_yR0 G hx, iv_mul, iv_mul, iv_sub]) ?_))
  refine iv_ble p 0 (fun e => absurd e (by omega)) (fun _ => iv_beq q 0 (fun e => ?_) (fun e => ?_) rfl iv_k0) rfl iv_k0
  · exact Exists.intro (c + 1) (iv_yF_l hc hG hx hy p1 q1 (by omega) hp c 0 0 (by omega) (Or.inr ⟨rfl, fun w => w.1 e⟩))
  · exact Exists.intro (c + 1) (iv_yF_l hc hG hx hy p1 q1 (by omega) hp c 0 1 (by omega) (Or.inl ⟨rfl, e, fun j hj => absurd hj (by omega)⟩))
theorem iv_kr {k : Nat} {ri : Int} : nI k * iv_z ri = iv_z (k * ri) := by rw [iv_n, iv_mul]
theorem iv_yF127 {post : Int32 → SY → Prop} {c x y : Nat} {G : Nat → Int} {few : Nat → Int32} {r : Int32} {run ri : Int} (hr : run ≠ 0) (r1 : -200 ≤ run) (r2 : run ≤ 200) (s1 : -200 ≤ ri) (s2 : ri ≤ 200)
    (hp : ∀ p q, iv_P run ri 0 p q → wY_find_173 post (nI x) (nI y) (nI c) (iv_z p) (iv_z q) r (iv_A G) few) :
    ∀ (k : Nat) (p q : Int), k ≤ 200 → iv_P run ri k p q → wY_find_127 post (nI x) (nI y) (iv_z run) (iv_z ri) (nI c) r (iv_A G) few (k + 1) (nI k) (iv_z p) (iv_z q) := by
  have hr0 : ¬ iv_z run = 0 := by
    rw [iv_k0, iv_eq (by omega) (by omega) (by omega) (by omega)]; exact hr
  intro k
  induction k with
  | zero =>
    intro p q _ h
    exact br_t (nI_lt (b := 1) (by omega) (by omega)) (hp p q h)
  | succ k ih =>
    intro p q hk h
    have b := iv_bd (k := ((k + 1 : Nat) : Int)) (r := ri) (by omega) (by omega) s1 s2
    have tb := iv_bq (b := run) (M := 40000) b.1 b.2
    have hm : (((k + 1 : Nat) : Int) * ri).tmod run = 0 ∨ ((((k + 1 : Nat) : Int) * ri).tmod run ≠ 0) := by omega
    have mb : ((((k + 1 : Nat) : Int) * ri).tmod run).natAbs ≤ 40000 := by
      have h1 := Int.natAbs_tmod (((k + 1 : Nat) : Int) * ri) run
      have h2 := Nat.mod_le (((k + 1 : Nat) : Int) * ri).natAbs run.natAbs
      omega
    refine br_f (nI_nlt (b := 1) (by omega) (by omega)) (br_f hr0 ⟨hr0, iv_beq ((((k + 1 : Nat) : Int) * ri).tmod run) 0 (fun e => ?_) (fun e => ?_) (by rw [iv_kr, iv_rem (by omega) (by omega) (by omega) (by omega)]) iv_k0⟩)
    · have hn := ih ((k : Int) + 1) (((k : Int) + 1) * ri |>.tdiv run) (by omega) (iv_P_y (by omega) (by omega) s1 s2 e)
      have ek : iv_z ((k : Int) + 1) = nI (k + 1) := (iv_n (k + 1)).symm
      rw [ek] at hn
      exact ⟨hr0, nm_r (e' := iv_z ((((k : Int) + 1) * ri).tdiv run)) (by rw [iv_kr, iv_div (by omega) (by omega) (by omega) (by omega)]; rfl) (nm_r (iv_m1 k) hn)⟩
    · exact nm_r (iv_m1 k) (ih p q (by omega) (iv_P_n h (fun z => e (Int.tmod_eq_zero_of_dvd z))))
theorem iv_yF84 {post : Int32 → SY → Prop} {c x y o : Nat} {G : Nat → Int} {few : Nat → Int32} {r : Int32} (hc : c ≤ 100) (hG : iv_ok G) (hx : x < 4) (hy : y < 4) (ho : o < c) (hv : iv_v G x o ≠ iv_v G x 0)
    (hp : ∀ P Q : Int, iv_S (iv_v G x) (iv_v G y) c P Q → (P = 0 → ∀ (p q r : Int32) (few : Nat → Int32), post 0 (nI c, p, q, r, iv_A G, few)) ∧ (P ≠ 0 → ∀ few : Nat → Int32, post 1 (nI c, iv_z P, iv_z Q, iv_z (P * iv_v G y 0 - Q * iv_v G x 0), iv_A G, few))) :
    wY_find_84 post (nI x) (nI y) (nI o) (nI c) 0 0 r (iv_A G) few := by
  have a1 := iv_vb hG x o
  have a2 := iv_vb hG x 0
  have a3 := iv_vb hG y o
  have a4 := iv_vb hG y 0
  refine And.intro (iv_in (by omega) hx) (And.intro (iv_in0 hx) (nm_r (e' := iv_z (iv_v G x o - iv_v G x 0)) (by rw [iv_yR G (by omega) hx, iv_yR0 G hx, iv_sub]) (And.intro (iv_in (by omega) hy) (And.intro (iv_in0 hy) (nm_r (e' := iv_z (iv_v G y o - iv_v G y 0)) (by rw [iv_yR G (by omega) hy, iv_yR0 G hy, iv_sub]) ?_)))))
  have hr : iv_v G x o - iv_v G x 0 ≠ 0 := by omega
  have key := iv_yF127 (post := post) (c := c) (x := x) (y := y) (G := G) (few := few) (r := r) (run := iv_v G x o - iv_v G x 0) (ri := iv_v G y o - iv_v G y 0) hr (by omega) (by omega) (by omega) (by omega) (fun p q hP => ?_) 200 0 0 (by omega) (iv_P_0 _ _)
  · rw [← iv_k0] at key
    exact Exists.intro 201 key
  · have hE := iv_P_e hP hr (by omega) (by omega)
    refine iv_yF173 hc hG hx hy hE.1 (by omega) (by omega) (fun z hz => ?_)
    rcases hz with ⟨rfl, h1, h2⟩ | ⟨rfl, h⟩
    · exact (hp p q (iv_S_Y ho rfl rfl hr (by omega) (by omega) hP h1 h2)).2 (by omega) few
    · refine (hp 0 0 (iv_S_Y0 ho rfl rfl hr (by omega) (by omega) hP ?_)).1 rfl _ _ _ few
      by_cases z : q = 0
      · exact Or.inl z
      · exact Or.inr (Classical.byContradiction (fun n => h ⟨z, fun i hi => Classical.byContradiction (fun m => n ⟨i, hi, m⟩)⟩))
theorem iv_yF49 {post : Int32 → SY → Prop} {c x y : Nat} {G : Nat → Int} {few : Nat → Int32} {r : Int32} (hc : c ≤ 100) (c0 : 0 < c) (hG : iv_ok G) (hx : x < 4) (hex : ∃ i, i < c ∧ iv_v G x i ≠ iv_v G x 0)
    (hp : ∀ o, o < c → iv_v G x o ≠ iv_v G x 0 → wY_find_84 post (nI x) (nI y) (nI o) (nI c) 0 0 r (iv_A G) few) :
    ∀ (d o : Nat), o + d = c - 1 → (∀ i, i < o → iv_v G x i = iv_v G x 0) → wY_find_49 post (nI x) (nI y) (nI c) 0 0 r (iv_A G) few (d + 1) (nI o) := by
  have ec : nI c - 1 = nI (c - 1) := by
    obtain ⟨b, rfl⟩ : ∃ b, c = b + 1 := ⟨c - 1, by omega⟩
    exact nI_pred b
  intro d
  induction d with
  | zero =>
    intro o ho h
    refine br_t (by rw [ec]; exact nI_le (by omega) (by omega)) (hp o (by omega) ?_)
    obtain ⟨i, hi, hv⟩ := hex
    by_cases z : i < o
    · exact absurd (h i z) hv
    · obtain rfl : i = o := by omega
      exact hv
  | succ d ih =>
    intro o ho h
    have a1 := iv_vb hG x o
    have a2 := iv_vb hG x 0
    refine br_f (by rw [ec]; exact nI_ge (by omega) (by omega)) ⟨iv_in (by omega) hx, iv_in0 hx, iv_beq (iv_v G x o) (iv_v G x 0) (fun e => ?_) (fun e => hp o (by omega) e) (iv_yR G (by omega) hx) (iv_yR0 G hx)⟩
    exact nm_r (nI_1 o) (ih (o + 1) (by omega) (iv_all_s h e))
theorem iv_yFd {post : Int32 → SY → Prop} {c x y : Nat} {G : Nat → Int} {p q r : Int32} {few : Nat → Int32} (hc : c ≤ 100) (hG : iv_ok G) (hx : x < 4) (hy : y < 4) (hxy : x ≠ y)
    (hp : ∀ P Q : Int, iv_S (iv_v G x) (iv_v G y) c P Q → (P = 0 → ∀ (p q r : Int32) (few : Nat → Int32), post 0 (nI c, p, q, r, iv_A G, few)) ∧ (P ≠ 0 → ∀ few : Nat → Int32, post 1 (nI c, iv_z P, iv_z Q, iv_z (P * iv_v G y 0 - Q * iv_v G x 0), iv_A G, few))) :
    wpY_find post (nI c, p, q, r, iv_A G, few) (nI x) (nI y) := by
  unfold wpY_find
  dsimp only
  refine iv_yIs hx (br_f iv_1ne (iv_yIs hy (br_f iv_1ne (br_f (fun e => hxy ((nI_eq (by omega) (by omega)).mp e)) (iv_yDf hc hG hx (fun d F hE => ?_))))))
  have hd := hE.1
  dsimp only
  by_cases a : 2 ≤ d
  · have h2 := iv_E_two hE a
    exact br_t (nI_le (a := 2) a (by omega)) (Exists.intro (c - 1 + 1) (iv_yF49 hc h2.1 hG hx h2.2 (fun o ho hv => iv_yF84 hc hG hx hy ho hv hp) (c - 1) 0 (by omega) (fun i hi => absurd hi (by omega))))
  · exact br_f (nI_ge (b := 2) (by omega) (by omega)) ((hp 0 0 (iv_S_const (iv_E_const hE (by omega)))).1 rfl _ _ _ _)
theorem iv_yFdN {post : Int32 → SY → Prop} {s p q r : Int32} {a b : Nat → Int32} {x y : Int32} (hp : iv_np x y) (h : post 0 (s, 0, 0, 0, a, b)) : wpY_find post (s, p, q, r, a, b) x y := by
  unfold wpY_find
  dsimp only
  rcases hp with z | ⟨⟨x, hx, rfl⟩, z⟩ | ⟨⟨x, hx, rfl⟩, rfl⟩
  · exact iv_yIsN z (br_t rfl h)
  · exact iv_yIs hx (br_f iv_1ne (iv_yIsN z (br_t rfl h)))
  · exact iv_yIs hx (br_f iv_1ne (iv_yIs hx (br_f iv_1ne (br_t rfl h))))
/-- equals: one answer on both sides -/
theorem iv_Eq_i {c x : Nat} {G : Nat → Int} {p q r : Int32} {few : Nat → Int32} (hc : c ≤ 100) (hG : iv_ok G) (hx : x < 4) :
    ∀ (d y : Nat) (s : Int32), y + d = 4 → x < y → ∃ t : Int32, (∀ (post : Int32 → Prop) (J : Int32 → Int32 → Prop), J t (nI (x + 1)) → wX_equals_13 post J (nI x) (nI c) (iv_A G) (d + 1) s (nI y)) ∧ (∀ (post : Int32 → Prop) (J : Int32 → Int32 → Prop), J t (nI (x + 1)) → wY_equals_13 post J (nI x) (nI c) p q r (iv_A G) few (d + 1) s (nI y)) := by
  intro d
  induction d with
  | zero =>
    intro y s hy hxy
    exact ⟨s, fun post J h => br_t (nI_le (a := 4) (by omega) (by omega)) (nm_r (nI_1 x) h), fun post J h => br_t (nI_le (a := 4) (by omega) (by omega)) (nm_r (nI_1 x) h)⟩
  | succ d ih =>
    intro y s hy hxy
    by_cases z : ∀ i, i < c → iv_H 2 (iv_v G x i) (iv_v G y i)
    · obtain ⟨t, h1, h2⟩ := ih (y + 1) (s ||| ((1 : Int32) <<< (((4 * nI x) + nI y) &&& 31))) (by omega) (by omega)
      refine ⟨t, fun post J h => ?_, fun post J h => ?_⟩
      · exact br_f (nI_ge (b := 4) (by omega) (by omega)) (iv_xRH (t := 2) hc hG hx (by omega) (by omega) (fun _ => br_f iv_1ne (nm_e (nm_r (nI_1 y) (h1 post J h)))) (fun n => absurd z n))
      · exact br_f (nI_ge (b := 4) (by omega) (by omega)) (iv_yRe (t := 2) hc hG hx (by omega) (by omega) (by omega) (fun _ => br_f iv_1ne (nm_e (nm_r (nI_1 y) (h2 post J h)))) (fun n => absurd z n))
    · obtain ⟨t, h1, h2⟩ := ih (y + 1) s (by omega) (by omega)
      refine ⟨t, fun post J h => ?_, fun post J h => ?_⟩
      · exact br_f (nI_ge (b := 4) (by omega) (by omega)) (iv_xRH (t := 2) hc hG hx (by omega) (by omega) (fun n => absurd n z) (fun _ => br_t rfl (nm_r (nI_1 y) (h1 post J h))))
      · exact br_f (nI_ge (b := 4) (by omega) (by omega)) (iv_yRe (t := 2) hc hG hx (by omega) (by omega) (by omega) (fun n => absurd n z) (fun _ => br_t rfl (nm_r (nI_1 y) (h2 post J h))))
theorem iv_Eq_o {c : Nat} {G : Nat → Int} {p q r : Int32} {few : Nat → Int32} (hc : c ≤ 100) (hG : iv_ok G) :
    ∀ (d x : Nat) (s : Int32), x + d = 4 → ∃ t : Int32, (∀ post : Int32 → Prop, post t → wX_equals_4 post (nI c) (iv_A G) (d + 1) s (nI x)) ∧ (∀ post : Int32 → Prop, post t → wY_equals_4 post (nI c) p q r (iv_A G) few (d + 1) s (nI x)) := by
  intro d
  induction d with
  | zero =>
    intro x s hx
    exact ⟨s, fun post h => br_t (nI_le (a := 4) (by omega) (by omega)) h, fun post h => br_t (nI_le (a := 4) (by omega) (by omega)) h⟩
  | succ d ih =>
    intro x s hx
    obtain ⟨t1, h1, h2⟩ := iv_Eq_i (p := p) (q := q) (r := r) (few := few) hc hG (by omega : x < 4) d (x + 1) s (by omega) (by omega)
    obtain ⟨t, k1, k2⟩ := ih (x + 1) t1 (by omega)
    refine ⟨t, fun post h => ?_, fun post h => ?_⟩
    · exact br_f (nI_ge (b := 4) (by omega) (by omega)) (nm_r (nI_1 x) (Exists.intro (d + 1) (h1 post _ (k1 post h))))
    · exact br_f (nI_ge (b := 4) (by omega) (by omega)) (nm_r (nI_1 x) (Exists.intro (d + 1) (h2 post _ (k2 post h))))
end
section
/-! sample, bound, relation, sums: what is left of both sides -/
def iv_nf (p : Int32) : Prop := p < (-100) ∨ (¬ p < (-100) ∧ (100 : Int32) < p)
theorem iv_fit (p : Int32) : (∃ z : Int, -100 ≤ z ∧ z ≤ 100 ∧ p = iv_z z) ∨ iv_nf p := by
  have e1 : (-100 : Int32).toInt = -100 := by decide
  have e2 : (100 : Int32).toInt = 100 := by decide
  by_cases h : p < (-100)
  · exact Or.inr (Or.inl h)
  · by_cases h2 : (100 : Int32) < p
    · exact Or.inr (Or.inr ⟨h, h2⟩)
    · refine Or.inl ⟨p.toInt, ?_, ?_, (iv_back p).symm⟩
      · rw [Int32.lt_iff_toInt_lt] at h
        omega
      · rw [Int32.lt_iff_toInt_lt] at h2
        omega
theorem iv_xVal {post : Int32 → Prop} {z : Int} (h1 : -100 ≤ z) (h2 : z ≤ 100) (h : post 1) : wpX_isValue post (iv_z z) :=
  iv_blt z (-100) (fun a => absurd a (by omega)) (fun _ => iv_blt 100 z (fun a => absurd a (by omega)) (fun _ => h) iv_kp100 rfl) rfl iv_k100
theorem iv_xValN {post : Int32 → Prop} {p : Int32} (hp : iv_nf p) (h : post 0) : wpX_isValue post p := by
  rcases hp with a | ⟨a, b⟩
  · exact br_t a h
  · exact br_f a (br_t b h)
theorem iv_yFit {post : Int32 → Prop} {u : SY} {z : Int} (h1 : -100 ≤ z) (h2 : z ≤ 100) (h : post 1) : wpY_fits post u (iv_z z) := by
  obtain ⟨f1, f2, f3, f4, a, b⟩ := u
  exact iv_blt z (-100) (fun a => absurd a (by omega)) (fun _ => iv_blt 100 z (fun a => absurd a (by omega)) (fun _ => h) iv_kp100 rfl) rfl iv_k100
theorem iv_yFitN {post : Int32 → Prop} {u : SY} {p : Int32} (hp : iv_nf p) (h : post 0) : wpY_fits post u p := by
  obtain ⟨f1, f2, f3, f4, a, b⟩ := u
  rcases hp with z | ⟨z, y⟩
  · exact br_t z h
  · exact br_f z (br_t y h)
/-- one of four is no value -/
def iv_bad (a b c d : Int32) : Prop := iv_nf a ∨ (∃ z : Int, -100 ≤ z ∧ z ≤ 100 ∧ a = iv_z z) ∧ (iv_nf b ∨ (∃ z : Int, -100 ≤ z ∧ z ≤ 100 ∧ b = iv_z z) ∧ (iv_nf c ∨ (∃ z : Int, -100 ≤ z ∧ z ≤ 100 ∧ c = iv_z z) ∧ iv_nf d))
theorem iv_four (a b c d : Int32) : (∃ z1 z2 z3 z4 : Int, (-100 ≤ z1 ∧ z1 ≤ 100) ∧ (-100 ≤ z2 ∧ z2 ≤ 100) ∧ (-100 ≤ z3 ∧ z3 ≤ 100) ∧ (-100 ≤ z4 ∧ z4 ≤ 100) ∧ a = iv_z z1 ∧ b = iv_z z2 ∧ c = iv_z z3 ∧ d = iv_z z4) ∨ iv_bad a b c d := by
  rcases iv_fit a with h1 | h1
  · rcases iv_fit b with h2 | h2
    · rcases iv_fit c with h3 | h3
      · rcases iv_fit d with h4 | h4
        · obtain ⟨z1, a1, b1, e1⟩ := h1
          obtain ⟨z2, a2, b2, e2⟩ := h2
          obtain ⟨z3, a3, b3, e3⟩ := h3
          obtain ⟨z4, a4, b4, e4⟩ := h4
          exact Or.inl ⟨z1, z2, z3, z4, ⟨a1, b1⟩, ⟨a2, b2⟩, ⟨a3, b3⟩, ⟨a4, b4⟩, e1, e2, e3, e4⟩
        · exact Or.inr (Or.inr ⟨h1, Or.inr ⟨h2, Or.inr ⟨h3, h4⟩⟩⟩)
      · exact Or.inr (Or.inr ⟨h1, Or.inr ⟨h2, Or.inl h3⟩⟩)
    · exact Or.inr (Or.inr ⟨h1, Or.inl h2⟩)
  · exact Or.inr (Or.inl h1)
theorem iv_xSaN {post : Int32 → SX → Prop} {u : SX} {a b c d : Int32} (hb : iv_bad a b c d) (h : post (-1) u) : wpX_sample post u a b c d := by
  obtain ⟨f, g⟩ := u
  unfold wpX_sample
  dsimp only
  rcases hb with z | ⟨⟨z1, p1, q1, rfl⟩, z | ⟨⟨z2, p2, q2, rfl⟩, z | ⟨⟨z3, p3, q3, rfl⟩, z⟩⟩⟩
  · exact iv_xValN z (br_t rfl h)
  · exact iv_xVal p1 q1 (br_f iv_1ne (iv_xValN z (br_t rfl h)))
  · exact iv_xVal p1 q1 (br_f iv_1ne (iv_xVal p2 q2 (br_f iv_1ne (iv_xValN z (br_t rfl h)))))
  · exact iv_xVal p1 q1 (br_f iv_1ne (iv_xVal p2 q2 (br_f iv_1ne (iv_xVal p3 q3 (br_f iv_1ne (iv_xValN z (br_t rfl h)))))))
theorem iv_ySaN {post : Int32 → SY → Prop} {u : SY} {a b c d : Int32} (hb : iv_bad a b c d) (h : post (-1) u) : wpY_sample post u a b c d := by
  obtain ⟨f1, f2, f3, f4, g1, g2⟩ := u
  unfold wpY_sample
  dsimp only
  rcases hb with z | ⟨⟨z1, p1, q1, rfl⟩, z | ⟨⟨z2, p2, q2, rfl⟩, z | ⟨⟨z3, p3, q3, rfl⟩, z⟩⟩⟩
  · exact iv_yFitN z (br_t rfl h)
  · exact iv_yFit p1 q1 (br_f iv_1ne (iv_yFitN z (br_t rfl h)))
  · exact iv_yFit p1 q1 (br_f iv_1ne (iv_yFit p2 q2 (br_f iv_1ne (iv_yFitN z (br_t rfl h)))))
  · exact iv_yFit p1 q1 (br_f iv_1ne (iv_yFit p2 q2 (br_f iv_1ne (iv_yFit p3 q3 (br_f iv_1ne (iv_yFitN z (br_t rfl h)))))))
def iv_put (G : Nat → Int) (n : Nat) (z : Int) : Nat → Int := fun j => if j = n then z else G j
theorem iv_put_ok {G : Nat → Int} {n : Nat} {z : Int} (hG : iv_ok G) (hz : -100 ≤ z ∧ z ≤ 100) : iv_ok (iv_put G n z) := by
  intro j
  show -100 ≤ (if j = n then z else G j) ∧ (if j = n then z else G j) ≤ 100
  by_cases e : j = n
  · rw [if_pos e]; exact hz
  · rw [if_neg e]; exact hG j
theorem iv_up {G : Nat → Int} {n : Nat} {z : Int} {idx : Int32} (hn : n < 400) (h : idx = nI n) : upd (iv_A G) idx.toNatClampNeg (iv_z z) = iv_A (iv_put G n z) := by
  subst h
  rw [nI_clamp (by omega), iv_A_upd]
  rfl
theorem iv_inw {n : Nat} {idx : Int32} (hn : n < 400) (h : idx = nI n) : vp_in idx 400 := by
  subst h
  exact vp_in_nI hn (by omega)
theorem iv_xSa {post : Int32 → SX → Prop} {c : Nat} {G : Nat → Int} {z1 z2 z3 z4 : Int} (hc : c ≤ 100) (h1 : -100 ≤ z1 ∧ z1 ≤ 100) (h2 : -100 ≤ z2 ∧ z2 ≤ 100) (h3 : -100 ≤ z3 ∧ z3 ≤ 100) (h4 : -100 ≤ z4 ∧ z4 ≤ 100)
    (hf : c = 100 → post (-2) (nI c, iv_A G)) (hp : c < 100 → post (nI (c + 1)) (nI (c + 1), iv_A (iv_put (iv_put (iv_put (iv_put G (4 * c) z1) (4 * c + 1) z2) (4 * c + 2) z3) (4 * c + 3) z4))) : wpX_sample post (nI c, iv_A G) (iv_z z1) (iv_z z2) (iv_z z3) (iv_z z4) := by
  unfold wpX_sample
  dsimp only
  refine iv_xVal h1.1 h1.2 (br_f iv_1ne (iv_xVal h2.1 h2.2 (br_f iv_1ne (iv_xVal h3.1 h3.2 (br_f iv_1ne (iv_xVal h4.1 h4.2 (br_f iv_1ne ?_)))))))
  by_cases a : c < 100
  · refine br_t (nI_lt (b := 100) a (by omega)) (nm_r (iv_4 c) ?_)
    exact ⟨iv_inw (n := 4 * c) (by omega) rfl, nm_r (iv_up (n := 4 * c) (by omega) rfl) ⟨iv_inw (n := 4 * c + 1) (by omega) (nI_add (4 * c) 1), nm_r (iv_up (n := 4 * c + 1) (by omega) (nI_add (4 * c) 1)) ⟨iv_inw (n := 4 * c + 2) (by omega) (nI_add (4 * c) 2), nm_r (iv_up (n := 4 * c + 2) (by omega) (nI_add (4 * c) 2)) ⟨iv_inw (n := 4 * c + 3) (by omega) (nI_add (4 * c) 3), nm_r (iv_up (n := 4 * c + 3) (by omega) (nI_add (4 * c) 3)) (nm_r (nI_1 c) (hp a))⟩⟩⟩⟩
  · exact br_f (nI_nlt (b := 100) (by omega) (by omega)) (hf (by omega))
theorem iv_4a (c k : Nat) : (4 : Int32) * nI c + nI k = nI (4 * c + k) := iv_ix c k
theorem iv_ySa {post : Int32 → SY → Prop} {c : Nat} {G : Nat → Int} {p q r : Int32} {few : Nat → Int32} {z1 z2 z3 z4 : Int} (hc : c ≤ 100) (h1 : -100 ≤ z1 ∧ z1 ≤ 100) (h2 : -100 ≤ z2 ∧ z2 ≤ 100) (h3 : -100 ≤ z3 ∧ z3 ≤ 100) (h4 : -100 ≤ z4 ∧ z4 ≤ 100)
    (hf : c = 100 → post (-2) (nI c, p, q, r, iv_A G, few)) (hp : c < 100 → post (nI (c + 1)) (nI (c + 1), p, q, r, iv_A (iv_put (iv_put (iv_put (iv_put G (4 * c) z1) (4 * c + 1) z2) (4 * c + 2) z3) (4 * c + 3) z4), few)) : wpY_sample post (nI c, p, q, r, iv_A G, few) (iv_z z1) (iv_z z2) (iv_z z3) (iv_z z4) := by
  unfold wpY_sample
  dsimp only
  refine iv_yFit h1.1 h1.2 (br_f iv_1ne (iv_yFit h2.1 h2.2 (br_f iv_1ne (iv_yFit h3.1 h3.2 (br_f iv_1ne (iv_yFit h4.1 h4.2 (br_f iv_1ne ?_)))))))
  by_cases a : c < 100
  · refine br_t (nI_lt (b := 100) a (by omega)) ?_
    exact ⟨iv_inw (n := 4 * c) (by omega) (iv_4 c), nm_r (iv_up (n := 4 * c) (by omega) (iv_4 c)) ⟨iv_inw (n := 4 * c + 1) (by omega) (iv_4a c 1), nm_r (iv_up (n := 4 * c + 1) (by omega) (iv_4a c 1)) ⟨iv_inw (n := 4 * c + 2) (by omega) (iv_4a c 2), nm_r (iv_up (n := 4 * c + 2) (by omega) (iv_4a c 2)) ⟨iv_inw (n := 4 * c + 3) (by omega) (iv_4a c 3), nm_r (iv_up (n := 4 * c + 3) (by omega) (iv_4a c 3)) (nm_r (nI_1 c) (hp a))⟩⟩⟩⟩
  · exact br_f (nI_nlt (b := 100) (by omega) (by omega)) (hf (by omega))
theorem iv_3le {p : Int32} (h : (3 : Int32) < p) : ¬ p ≤ 3 := Int32.not_le.mpr h
theorem iv_xReN {post : Int32 → Prop} {u : SX} {p q t : Int32} (hp : iv_np p q) (h : post 0) : wpX_relation post u p q t := by
  obtain ⟨f, a⟩ := u
  unfold wpX_relation
  dsimp only
  exact iv_xPrN hp (br_t rfl h)
theorem iv_xReT {post : Int32 → Prop} {u : SX} {x y : Nat} {t : Int32} (hx : x < 4) (hy : y < 4) (hxy : x ≠ y) (ht : iv_nv t) (h : post 0) : wpX_relation post u (nI x) (nI y) t := by
  obtain ⟨f, a⟩ := u
  unfold wpX_relation
  dsimp only
  refine iv_xPr hx hy hxy (br_f iv_1ne ?_)
  rcases ht with z | ⟨z, _, w⟩
  · exact br_t z h
  · exact br_f z (br_f (iv_3le w) h)
theorem iv_xRe {post : Int32 → Prop} {c x y t : Nat} {G : Nat → Int} (hc : c ≤ 100) (hG : iv_ok G) (hx : x < 4) (hy : y < 4) (hxy : x ≠ y) (ht : t ≤ 3) (h1 : (∀ i, i < c → iv_H t (iv_v G x i) (iv_v G y i)) → post 1) (h0 : ¬ (∀ i, i < c → iv_H t (iv_v G x i) (iv_v G y i)) → post 0) : wpX_relation post (nI c, iv_A G) (nI x) (nI y) (nI t) := by
  unfold wpX_relation
  dsimp only
  exact iv_xPr hx hy hxy (br_f iv_1ne (br_f (nI_pos (by omega)) (br_t (nI_le (b := 3) ht (by omega)) (iv_xRH hc hG hx hy ht (fun a => ⟨rfl, h1 a⟩) (fun a => ⟨rfl, h0 a⟩)))))
theorem iv_yReN {post : Int32 → Prop} {u : SY} {p q t : Int32} (hp : iv_np p q) (h : post 0) : wpY_relation post u p q t := by
  obtain ⟨f1, f2, f3, f4, a, b⟩ := u
  unfold wpY_relation
  dsimp only
  rcases hp with z | ⟨⟨x, hx, rfl⟩, z⟩ | ⟨⟨x, hx, rfl⟩, rfl⟩
  · exact iv_yIsN z (br_t rfl h)
  · exact iv_yIs hx (br_f iv_1ne (iv_yIsN z (br_t rfl h)))
  · exact iv_yIs hx (br_f iv_1ne (iv_yIs hx (br_f iv_1ne (br_t rfl h))))
theorem iv_yReT {post : Int32 → Prop} {u : SY} {x y : Nat} {t : Int32} (hx : x < 4) (hy : y < 4) (hxy : x ≠ y) (ht : iv_nv t) (h : post 0) : wpY_relation post u (nI x) (nI y) t := by
  obtain ⟨f1, f2, f3, f4, a, b⟩ := u
  unfold wpY_relation
  dsimp only
  refine iv_yIs hx (br_f iv_1ne (iv_yIs hy (br_f iv_1ne (br_f (fun e => hxy ((nI_eq (by omega) (by omega)).mp e)) ?_))))
  rcases ht with z | ⟨z, _, w⟩
  · exact br_t z h
  · exact br_f z (br_f (iv_3le w) h)
/-- one of three is no variable -/
def iv_nt (p q t : Int32) : Prop := iv_nv p ∨ (∃ x : Nat, x < 4 ∧ p = nI x) ∧ (iv_nv q ∨ (∃ x : Nat, x < 4 ∧ q = nI x) ∧ iv_nv t)
theorem iv_three (p q t : Int32) : (∃ x y z : Nat, x < 4 ∧ y < 4 ∧ z < 4 ∧ p = nI x ∧ q = nI y ∧ t = nI z) ∨ iv_nt p q t := by
  rcases iv_var p with h1 | h1
  · rcases iv_var q with h2 | h2
    · rcases iv_var t with h3 | h3
      · obtain ⟨x, hx, ex⟩ := h1
        obtain ⟨y, hy, ey⟩ := h2
        obtain ⟨z, hz, ez⟩ := h3
        exact Or.inl ⟨x, y, z, hx, hy, hz, ex, ey, ez⟩
      · exact Or.inr (Or.inr ⟨h1, Or.inr ⟨h2, h3⟩⟩)
    · exact Or.inr (Or.inr ⟨h1, Or.inl h2⟩)
  · exact Or.inr (Or.inl h1)
theorem iv_xSuN {post : Int32 → Prop} {u : SX} {p q t : Int32} (hp : iv_nt p q t) (h : post 0) : wpX_sums post u p q t := by
  obtain ⟨f, a⟩ := u
  unfold wpX_sums
  dsimp only
  rcases hp with z | ⟨⟨x, hx, rfl⟩, z | ⟨⟨y, hy, rfl⟩, z⟩⟩
  · exact iv_xIsN z (br_t rfl h)
  · exact iv_xIs hx (br_f iv_1ne (iv_xIsN z (br_t rfl h)))
  · exact iv_xIs hx (br_f iv_1ne (iv_xIs hy (br_f iv_1ne (iv_xIsN z (br_t rfl h)))))
theorem iv_ySu0 {post : Int32 → Prop} {p q t s f2 f3 f4 : Int32} {a b : Nat → Int32} (h : post 0) : ∃ n, wY_sums_34 post p q t s f2 f3 f4 a b n 0 0 :=
  Exists.intro 1 (br_c (fun _ => ⟨rfl, h⟩) (fun _ => br_t rfl ⟨rfl, h⟩))
theorem iv_ySuN {post : Int32 → Prop} {u : SY} {p q t : Int32} (hp : iv_nt p q t) (h : post 0) : wpY_sums post u p q t := by
  obtain ⟨f1, f2, f3, f4, a, b⟩ := u
  unfold wpY_sums
  dsimp only
  rcases hp with z | ⟨⟨x, hx, rfl⟩, z | ⟨⟨y, hy, rfl⟩, z⟩⟩
  · exact iv_yIsN z (br_t rfl (iv_ySu0 h))
  · exact iv_yIs hx (br_f iv_1ne (iv_yIsN z (br_t rfl (iv_ySu0 h))))
  · exact iv_yIs hx (br_f iv_1ne (iv_yIs hy (br_f iv_1ne (iv_yIsN z (br_t rfl (iv_ySu0 h))))))
theorem iv_ySu {post : Int32 → Prop} {c x y z : Nat} {G : Nat → Int} {p q r : Int32} {few : Nat → Int32} (hc : c ≤ 100) (hG : iv_ok G) (hx : x < 4) (hy : y < 4) (hz : z < 4) (h1 : (∀ i, i < c → iv_v G x i + iv_v G y i = iv_v G z i) → post 1) (h0 : ¬ (∀ i, i < c → iv_v G x i + iv_v G y i = iv_v G z i) → post 0) : wpY_sums post (nI c, p, q, r, iv_A G, few) (nI x) (nI y) (nI z) := by
  unfold wpY_sums
  dsimp only
  exact iv_yIs hx (br_f iv_1ne (iv_yIs hy (br_f iv_1ne (iv_yIs hz (br_f iv_1ne (Exists.intro (c + 1) (iv_ySu_l hc hG hx hy hz h1 h0 c 0 1 (by omega) (Or.inl ⟨rfl, fun j hj => absurd hj (by omega)⟩))))))))
/-- bound where it answers nothing -/
theorem iv_xBdN {post : Int32 → Prop} {f : Int32} {a : Nat → Int32} {p w : Int32} (hn : iv_nv p ∨ (∃ x : Nat, x < 4 ∧ p = nI x) ∧ (f = 0 ∨ ¬ f = 0 ∧ ¬ w = 0 ∧ ¬ w = 1)) (h : post (-1000)) : wpX_bound post (f, a) p w := by
  unfold wpX_bound
  dsimp only
  rcases hn with z | ⟨⟨x, hx, rfl⟩, z | ⟨z, z0, z1⟩⟩
  · exact iv_xIsN z (br_t rfl h)
  · exact iv_xIs hx (br_f iv_1ne (br_t z h))
  · exact iv_xIs hx (br_f iv_1ne (br_f z (br_f z0 (br_f z1 h))))
theorem iv_yBdN {post : Int32 → Prop} {f f2 f3 f4 : Int32} {a b : Nat → Int32} {p w : Int32} (hn : iv_nv p ∨ (∃ x : Nat, x < 4 ∧ p = nI x) ∧ (f = 0 ∨ ¬ f = 0 ∧ ¬ w = 0 ∧ ¬ w = 1)) (h : post (-1000)) : wpY_bound post (f, f2, f3, f4, a, b) p w := by
  unfold wpY_bound
  dsimp only
  rcases hn with z | ⟨⟨x, hx, rfl⟩, z | ⟨z, z0, z1⟩⟩
  · exact iv_yIsN z (br_t rfl h)
  · exact iv_yIs hx (br_f iv_1ne (br_t z h))
  · exact iv_yIs hx (br_f iv_1ne (br_f z (br_f z0 (br_f z1 h))))
theorem iv_xBd0 {post : Int32 → Prop} {c x : Nat} {G : Nat → Int} (hc : c ≤ 100) (c0 : 0 < c) (hG : iv_ok G) (hx : x < 4) (h : ∀ e : Int, (∃ j, j < c ∧ iv_v G x j = e) → (∀ j, j < c → e ≤ iv_v G x j) → post (iv_z e)) : wpX_bound post (nI c, iv_A G) (nI x) 0 := by
  obtain ⟨b, sb, wb⟩ := iv_xLo hc hG hx
  have hb : b < c := by have := sb.1; omega
  unfold wpX_bound
  dsimp only
  exact iv_xIs hx (br_f iv_1ne (br_f (nI_ne0 c0 (by omega)) (br_t rfl (wb _ (iv_xV (by omega) hx (h _ ⟨b, hb, rfl⟩ sb.2))))))
theorem iv_xBd1 {post : Int32 → Prop} {c x : Nat} {G : Nat → Int} (hc : c ≤ 100) (c0 : 0 < c) (hG : iv_ok G) (hx : x < 4) (h : ∀ e : Int, (∃ j, j < c ∧ iv_v G x j = e) → (∀ j, j < c → iv_v G x j ≤ e) → post (iv_z e)) : wpX_bound post (nI c, iv_A G) (nI x) 1 := by
  obtain ⟨b, sb, wb⟩ := iv_xHi hc hG hx
  have hb : b < c := by have := sb.1; omega
  unfold wpX_bound
  dsimp only
  exact iv_xIs hx (br_f iv_1ne (br_f (nI_ne0 c0 (by omega)) (br_f iv_1ne (br_t rfl (wb _ (iv_xV (by omega) hx (h _ ⟨b, hb, rfl⟩ sb.2)))))))
theorem iv_yBd0 {post : Int32 → Prop} {c x : Nat} {G : Nat → Int} {p q r : Int32} {few : Nat → Int32} (hc : c ≤ 100) (c0 : 0 < c) (hG : iv_ok G) (hx : x < 4) (h : ∀ e : Int, (∃ j, j < c ∧ iv_v G x j = e) → (∀ j, j < c → e ≤ iv_v G x j) → post (iv_z e)) : wpY_bound post (nI c, p, q, r, iv_A G, few) (nI x) 0 := by
  unfold wpY_bound
  dsimp only
  exact iv_yIs hx (br_f iv_1ne (br_f (nI_ne0 c0 (by omega)) (br_t rfl ⟨iv_in0 hx, nm_r (iv_yR0 G hx) (Exists.intro (c + 1) (iv_yB0_l hc hG hx h c 0 _ (by omega) ⟨0, c0, rfl⟩ (fun j hj => absurd hj (by omega))))⟩)))
theorem iv_yBd1 {post : Int32 → Prop} {c x : Nat} {G : Nat → Int} {p q r : Int32} {few : Nat → Int32} (hc : c ≤ 100) (c0 : 0 < c) (hG : iv_ok G) (hx : x < 4) (h : ∀ e : Int, (∃ j, j < c ∧ iv_v G x j = e) → (∀ j, j < c → iv_v G x j ≤ e) → post (iv_z e)) : wpY_bound post (nI c, p, q, r, iv_A G, few) (nI x) 1 := by
  unfold wpY_bound
  dsimp only
  exact iv_yIs hx (br_f iv_1ne (br_f (nI_ne0 c0 (by omega)) (br_f iv_1ne (br_t rfl ⟨iv_in0 hx, nm_r (iv_yR0 G hx) (Exists.intro (c + 1) (iv_yB1_l hc hG hx h c 0 _ (by omega) ⟨0, c0, rfl⟩ (fun j hj => absurd hj (by omega))))⟩))))
end
section
/-- one count, one array of values in -100 .. 100; few, p, q, r are the reference's own -/
def i_Rel (k : Nat) (u : SX) (v : SY) : Prop := ∃ (c : Nat) (G : Nat → Int) (p q r : Int32) (few : Nat → Int32), c ≤ 100 ∧ iv_ok G ∧ u = (nI c, iv_A G) ∧ v = (nI c, p, q, r, iv_A G, few)
theorem iv_rel {k c : Nat} {G : Nat → Int} {p q r : Int32} {few : Nat → Int32} (hc : c ≤ 100) (hG : iv_ok G) : i_Rel k (nI c, iv_A G) (nI c, p, q, r, iv_A G, few) := ⟨c, G, p, q, r, few, hc, hG, rfl, rfl⟩
theorem i_up {k : Nat} {u : SX} {v : SY} (h : i_Rel k u v) : i_Rel (k + 5) u v := h
theorem i_vc0 : wpX_init (fun u => wpY_init (fun v => i_Rel 0 u v)) := by
  have e : (fun _ => (0 : Int32)) = iv_A (fun _ => 0) := funext fun _ => iv_k0
  exact ⟨0, fun _ => 0, 0, 0, 0, fun _ => 0, by omega, fun _ => (by decide : (-100 : Int) ≤ 0 ∧ (0 : Int) ≤ 100), congrArg (Prod.mk (nI 0)) e, congrArg (fun a => ((nI 0, 0, 0, 0, a, fun _ => 0) : SY)) e⟩
theorem i_vc_sample {k : Nat} {u : SX} {v : SY} (I : i_Rel k u v) (hk : k + 5 ≤ 2560) (v1 : Int32) (v2 : Int32) (v3 : Int32) (v4 : Int32) : wpX_sample (fun r u' => wpY_sample (fun r' v' => r' = r ∧ i_Rel (k + 5) u' v') v v1 v2 v3 v4) u v1 v2 v3 v4 := by
  obtain ⟨c, G, p, q, r, few, hc, hG, rfl, rfl⟩ := I
  rcases iv_four v1 v2 v3 v4 with ⟨z1, z2, z3, z4, h1, h2, h3, h4, rfl, rfl, rfl, rfl⟩ | hb
  · refine iv_xSa hc h1 h2 h3 h4 (fun e => ?_) (fun e => ?_)
    · exact iv_ySa hc h1 h2 h3 h4 (fun _ => ⟨rfl, iv_rel hc hG⟩) (fun e' => absurd e' (by omega))
    · exact iv_ySa hc h1 h2 h3 h4 (fun e' => absurd e' (by omega)) (fun _ => ⟨rfl, iv_rel (by omega) (iv_put_ok (iv_put_ok (iv_put_ok (iv_put_ok hG h1) h2) h3) h4)⟩)
  · exact iv_xSaN hb (iv_ySaN hb ⟨rfl, iv_rel hc hG⟩)
theorem i_vc_clear {k : Nat} {u : SX} {v : SY} (I : i_Rel k u v) (hk : k + 5 ≤ 2560) : wpX_clear (fun u' => wpY_clear (fun v' => i_Rel (k + 5) u' v') v) u := by
  obtain ⟨c, G, p, q, r, few, hc, hG, rfl, rfl⟩ := I
  exact ⟨0, G, p, q, r, few, by omega, hG, rfl, rfl⟩
theorem i_vc_samples {k : Nat} {u : SX} {v : SY} (I : i_Rel k u v) (hk : k + 5 ≤ 2560) : wpX_samples (fun r => wpY_samples (fun r' => r' = r ∧ i_Rel (k + 5) u v) v) u := by
  obtain ⟨c, G, p, q, r, few, hc, hG, rfl, rfl⟩ := I
  exact And.intro rfl (iv_rel hc hG)
theorem i_vc_constant {k : Nat} {u : SX} {v : SY} (I : i_Rel k u v) (hk : k + 5 ≤ 2560) (v1 : Int32) : wpX_constant (fun r => wpY_constant (fun r' v' => r' = r ∧ i_Rel (k + 5) u v') v v1) u v1 := by
  obtain ⟨c, G, p, q, r, few, hc, hG, rfl, rfl⟩ := I
  rcases iv_var v1 with ⟨x, hx, rfl⟩ | hn
  · refine iv_xCo hc hG hx (fun d m hE => ⟨fun e => ?_, fun e => ?_⟩)
    · exact iv_yCo hc hG hx (fun d' F hF => ⟨fun _ => ⟨rfl, iv_rel hc hG⟩, fun e' => absurd (iv_E_u hE hF) (by omega)⟩)
    · exact iv_yCo hc hG hx (fun d' F hF => ⟨fun e' => absurd (iv_E_u hE hF) (by omega), fun _ => ⟨rfl, iv_rel hc hG⟩⟩)
  · exact iv_xCoN hn (iv_yCoN hn ⟨rfl, iv_rel hc hG⟩)
theorem i_vc_bound {k : Nat} {u : SX} {v : SY} (I : i_Rel k u v) (hk : k + 5 ≤ 2560) (v1 : Int32) (v2 : Int32) : wpX_bound (fun r => wpY_bound (fun r' => r' = r ∧ i_Rel (k + 5) u v) v v1 v2) u v1 v2 := by
  obtain ⟨c, G, p, q, r, few, hc, hG, rfl, rfl⟩ := I
  rcases iv_var v1 with ⟨x, hx, rfl⟩ | hn
  · rcases Nat.eq_zero_or_pos c with c0 | c0
    · subst c0
      exact iv_xBdN (Or.inr ⟨⟨x, hx, rfl⟩, Or.inl rfl⟩) (iv_yBdN (Or.inr ⟨⟨x, hx, rfl⟩, Or.inl rfl⟩) ⟨rfl, iv_rel hc hG⟩)
    · by_cases w0 : v2 = 0
      · subst w0
        refine iv_xBd0 hc c0 hG hx (fun e h1 h2 => iv_yBd0 hc c0 hG hx (fun e' h1' h2' => ⟨?_, iv_rel hc hG⟩))
        obtain ⟨j, hj, ej⟩ := h1
        obtain ⟨j', hj', ej'⟩ := h1'
        have a := h2 j' hj'
        have b := h2' j hj
        exact congrArg iv_z (by omega)
      · by_cases w1 : v2 = 1
        · subst w1
          refine iv_xBd1 hc c0 hG hx (fun e h1 h2 => iv_yBd1 hc c0 hG hx (fun e' h1' h2' => ⟨?_, iv_rel hc hG⟩))
          obtain ⟨j, hj, ej⟩ := h1
          obtain ⟨j', hj', ej'⟩ := h1'
          have a := h2 j' hj'
          have b := h2' j hj
          exact congrArg iv_z (by omega)
        · have hn : ¬ nI c = 0 := nI_ne0 c0 (by omega)
          exact iv_xBdN (Or.inr ⟨⟨x, hx, rfl⟩, Or.inr ⟨hn, w0, w1⟩⟩) (iv_yBdN (Or.inr ⟨⟨x, hx, rfl⟩, Or.inr ⟨hn, w0, w1⟩⟩) ⟨rfl, iv_rel hc hG⟩)
  · exact iv_xBdN (Or.inl hn) (iv_yBdN (Or.inl hn) ⟨rfl, iv_rel hc hG⟩)
theorem i_vc_different {k : Nat} {u : SX} {v : SY} (I : i_Rel k u v) (hk : k + 5 ≤ 2560) (v1 : Int32) : wpX_different (fun r => wpY_different (fun r' v' => r' = r ∧ i_Rel (k + 5) u v') v v1) u v1 := by
  obtain ⟨c, G, p, q, r, few, hc, hG, rfl, rfl⟩ := I
  rcases iv_var v1 with ⟨x, hx, rfl⟩ | hn
  · exact iv_xDf hc hG hx (fun d m hE => iv_yDf hc hG hx (fun d' F hF => ⟨by rw [iv_E_u hE hF], iv_rel hc hG⟩))
  · exact iv_xDfN hn (iv_yDfN hn ⟨rfl, iv_rel hc hG⟩)
theorem i_vc_valueAt {k : Nat} {u : SX} {v : SY} (I : i_Rel k u v) (hk : k + 5 ≤ 2560) (v1 : Int32) (v2 : Int32) : wpX_valueAt (fun r => wpY_valueAt (fun r' v' => r' = r ∧ i_Rel (k + 5) u v') v v1 v2) u v1 v2 := by
  obtain ⟨c, G, p, q, r, few, hc, hG, rfl, rfl⟩ := I
  rcases iv_var v1 with ⟨x, hx, rfl⟩ | hn
  · refine iv_xVA hc hG hx (fun d m hE => ⟨fun hno => ?_, fun K eK hK hd m' R hC hm => ?_⟩)
    · refine iv_yVA hc hG hx (fun d' F hF => ⟨fun _ => ⟨rfl, iv_rel hc hG⟩, fun K eK hK hd => ?_⟩)
      exfalso
      have e := iv_E_u hE hF
      subst eK
      rcases hno with z | z | z
      · omega
      · exact nI_pos (by omega) z
      · exact nI_ge (a := K) (b := d) (by omega) (by omega) z
    · refine iv_yVA hc hG hx (fun d' F hF => ⟨fun hno => ?_, fun K' eK' _ _ => ⟨m', R, ?_, ?_, rfl, iv_rel hc hG⟩⟩)
      · exfalso
        have e := iv_E_u hE hF
        subst eK
        rcases hno with z | z | z
        · omega
        · exact nI_pos (by omega) z
        · exact nI_ge (a := K) (b := d') (by omega) (by omega) z
      · have e : K = K' := (nI_eq (by omega) (by omega)).mp (eK.symm.trans eK')
        rw [← e]; exact hC
      · have e : K = K' := (nI_eq (by omega) (by omega)).mp (eK.symm.trans eK')
        rw [← e]; exact hm
  · exact iv_xVAN hn (iv_yVAN hn ⟨rfl, iv_rel hc hG⟩)
theorem i_vc_modulus {k : Nat} {u : SX} {v : SY} (I : i_Rel k u v) (hk : k + 5 ≤ 2560) (v1 : Int32) : wpX_modulus (fun r => wpY_modulus (fun r' v' => r' = r ∧ i_Rel (k + 5) u v') v v1) u v1 := by
  obtain ⟨c, G, p, q, r, few, hc, hG, rfl, rfl⟩ := I
  rcases iv_var v1 with ⟨x, hx, rfl⟩ | hn
  · refine iv_xMo hc hG hx (fun d m hE => ⟨fun a => ?_, fun a M _ hM => ?_⟩)
    · exact iv_yMo hc hG hx (fun d' F hF => ⟨fun _ => ⟨rfl, iv_rel hc hG⟩, fun b => absurd (iv_E_u hE hF) (by omega)⟩)
    · refine iv_yMo hc hG hx (fun d' F hF => ⟨fun b => absurd (iv_E_u hE hF) (by omega), fun _ M' _ hM' => ⟨?_, iv_rel hc hG⟩⟩)
      have e := iv_Mo_u hM hM'
      exact congrArg nI (by omega)
  · exact iv_xMoN hn (iv_yMoN hn ⟨rfl, iv_rel hc hG⟩)
theorem i_vc_remainder {k : Nat} {u : SX} {v : SY} (I : i_Rel k u v) (hk : k + 5 ≤ 2560) (v1 : Int32) : wpX_remainder (fun r => wpY_remainder (fun r' v' => r' = r ∧ i_Rel (k + 5) u v') v v1) u v1 := by
  obtain ⟨c, G, p, q, r, few, hc, hG, rfl, rfl⟩ := I
  rcases iv_var v1 with ⟨x, hx, rfl⟩ | hn
  · refine iv_xRm hc hG hx (fun d m hE => ⟨fun a => ?_, fun a M _ hM => ⟨fun b => ?_, fun b => ?_⟩⟩)
    · exact iv_yRm hc hG hx (fun d' F hF => ⟨fun _ => ⟨rfl, iv_rel hc hG⟩, fun b => absurd (iv_E_u hE hF) (by omega)⟩)
    · refine iv_yRm hc hG hx (fun d' F hF => ⟨fun b => absurd (iv_E_u hE hF) (by omega), fun _ M' _ hM' => ⟨fun _ => ⟨rfl, iv_rel hc hG⟩, fun b' => ?_⟩⟩)
      have e := iv_Mo_u hM hM'
      omega
    · refine iv_yRm hc hG hx (fun d' F hF => ⟨fun b => absurd (iv_E_u hE hF) (by omega), fun _ M' _ hM' => ⟨fun b' => ?_, fun _ => ⟨?_, iv_rel hc hG⟩⟩⟩)
      · have e := iv_Mo_u hM hM'
        omega
      · rw [iv_Mo_u hM hM']
  · exact iv_xRmN hn (iv_yRmN hn ⟨rfl, iv_rel hc hG⟩)
theorem i_vc_relation {k : Nat} {u : SX} {v : SY} (I : i_Rel k u v) (hk : k + 5 ≤ 2560) (v1 : Int32) (v2 : Int32) (v3 : Int32) : wpX_relation (fun r => wpY_relation (fun r' => r' = r ∧ i_Rel (k + 5) u v) v v1 v2 v3) u v1 v2 v3 := by
  obtain ⟨c, G, p, q, r, few, hc, hG, rfl, rfl⟩ := I
  rcases iv_pair v1 v2 with ⟨x, y, hx, hy, hxy, rfl, rfl⟩ | hn
  · rcases iv_var v3 with ⟨t, ht, rfl⟩ | ht
    · refine iv_xRe hc hG hx hy hxy (by omega) (fun a => ?_) (fun a => ?_)
      · exact iv_yRe hc hG hx hy hxy (by omega) (fun _ => ⟨rfl, iv_rel hc hG⟩) (fun b => absurd a b)
      · exact iv_yRe hc hG hx hy hxy (by omega) (fun b => absurd b a) (fun _ => ⟨rfl, iv_rel hc hG⟩)
    · exact iv_xReT hx hy hxy ht (iv_yReT hx hy hxy ht ⟨rfl, iv_rel hc hG⟩)
  · exact iv_xReN hn (iv_yReN hn ⟨rfl, iv_rel hc hG⟩)
theorem i_vc_offset {k : Nat} {u : SX} {v : SY} (I : i_Rel k u v) (hk : k + 5 ≤ 2560) (v1 : Int32) (v2 : Int32) : wpX_offset (fun r => wpY_offset (fun r' => r' = r ∧ i_Rel (k + 5) u v) v v1 v2) u v1 v2 := by
  obtain ⟨c, G, p, q, r, few, hc, hG, rfl, rfl⟩ := I
  rcases iv_pair v1 v2 with ⟨x, y, hx, hy, hxy, rfl, rfl⟩ | hn
  · refine iv_xOf hc hG hx hy hxy (fun z => ?_) (fun z a => ?_) (fun z a => ?_)
    · exact iv_yOf hc hG hx hy hxy (fun _ => ⟨rfl, iv_rel hc hG⟩) (fun z' => absurd z (by omega)) (fun z' => absurd z (by omega))
    · exact iv_yOf hc hG hx hy hxy (fun z' => absurd z (by omega)) (fun _ _ => ⟨rfl, iv_rel hc hG⟩) (fun _ b => absurd a b)
    · exact iv_yOf hc hG hx hy hxy (fun z' => absurd z (by omega)) (fun _ b => absurd b a) (fun _ _ => ⟨rfl, iv_rel hc hG⟩)
  · exact iv_xOfN hn (iv_yOfN hn ⟨rfl, iv_rel hc hG⟩)
theorem i_vc_line {k : Nat} {u : SX} {v : SY} (I : i_Rel k u v) (hk : k + 5 ≤ 2560) (v1 : Int32) (v2 : Int32) : wpX_line (fun r => wpY_line (fun r' v' => r' = r ∧ i_Rel (k + 5) u v') v v1 v2) u v1 v2 := by
  obtain ⟨c, G, p, q, r, few, hc, hG, rfl, rfl⟩ := I
  rcases iv_pair v1 v2 with ⟨x, y, hx, hy, hxy, rfl, rfl⟩ | hn
  · obtain ⟨P, Q, hS, _, _, wL, _⟩ := iv_xLn hc hG hx hy hxy
    refine wL _ ?_
    unfold wpY_line
    dsimp only
    refine iv_yFd hc hG hx hy hxy (fun P' Q' hS' => ⟨fun e p q r few => ?_, fun e few => ?_⟩)
    · have h := iv_S_u hS hS'
      dsimp only
      refine br_t rfl ⟨?_, iv_rel hc hG⟩
      rw [h.1, e]; exact iv_k0
    · have h := iv_S_u hS hS'
      dsimp only
      refine br_f iv_1ne ⟨?_, iv_rel hc hG⟩
      rw [h.1]
  · refine iv_xLnN hn ?_
    unfold wpY_line
    dsimp only
    refine iv_yFdN hn ?_
    dsimp only
    exact br_t rfl ⟨rfl, iv_rel hc hG⟩
theorem i_vc_slope {k : Nat} {u : SX} {v : SY} (I : i_Rel k u v) (hk : k + 5 ≤ 2560) (v1 : Int32) (v2 : Int32) : wpX_slope (fun r => wpY_slope (fun r' v' => r' = r ∧ i_Rel (k + 5) u v') v v1 v2) u v1 v2 := by
  obtain ⟨c, G, p, q, r, few, hc, hG, rfl, rfl⟩ := I
  rcases iv_pair v1 v2 with ⟨x, y, hx, hy, hxy, rfl, rfl⟩ | hn
  · obtain ⟨P, Q, hS, _, _, _, wS⟩ := iv_xLn hc hG hx hy hxy
    refine wS _ ?_
    unfold wpY_slope
    dsimp only
    refine iv_yFd hc hG hx hy hxy (fun P' Q' hS' => ⟨fun e p q r few => ?_, fun e few => ?_⟩)
    · have h := iv_S_u hS hS'
      have hQ : Q' = 0 := by
        rcases hS' with ⟨_, z, _⟩ | ⟨z, _⟩
        · exact z
        · have := z.1
          omega
      dsimp only
      refine br_t rfl ⟨?_, iv_rel hc hG⟩
      rw [h.2, hQ]; exact iv_k0
    · have h := iv_S_u hS hS'
      dsimp only
      refine br_f iv_1ne ⟨?_, iv_rel hc hG⟩
      rw [h.2]
  · refine iv_xSlN hn ?_
    unfold wpY_slope
    dsimp only
    refine iv_yFdN hn ?_
    dsimp only
    exact br_t rfl ⟨rfl, iv_rel hc hG⟩
theorem i_vc_rise {k : Nat} {u : SX} {v : SY} (I : i_Rel k u v) (hk : k + 5 ≤ 2560) (v1 : Int32) (v2 : Int32) : wpX_rise (fun r => wpY_rise (fun r' v' => r' = r ∧ i_Rel (k + 5) u v') v v1 v2) u v1 v2 := by
  obtain ⟨c, G, p, q, r, few, hc, hG, rfl, rfl⟩ := I
  rcases iv_pair v1 v2 with ⟨x, y, hx, hy, hxy, rfl, rfl⟩ | hn
  · obtain ⟨P, Q, hS, hP, _, wL, wS⟩ := iv_xLn hc hG hx hy hxy
    refine iv_xRi hx hy hP wL wS (fun eP => ?_) (fun eP => ?_)
    · unfold wpY_rise
      dsimp only
      refine iv_yFd hc hG hx hy hxy (fun P' Q' hS' => ⟨fun e p q r few => ?_, fun e few => ?_⟩)
      · dsimp only
        exact br_t rfl ⟨rfl, iv_rel hc hG⟩
      · exact absurd (iv_S_u hS hS').1 (by omega)
    · unfold wpY_rise
      dsimp only
      refine iv_yFd hc hG hx hy hxy (fun P' Q' hS' => ⟨fun e p q r few => ?_, fun e few => ?_⟩)
      · exact absurd (iv_S_u hS hS').1 (by omega)
      · have h := iv_S_u hS hS'
        dsimp only
        refine br_f iv_1ne ⟨?_, iv_rel hc hG⟩
        rw [h.1, h.2]
  · refine iv_xRiN hn ?_
    unfold wpY_rise
    dsimp only
    refine iv_yFdN hn ?_
    dsimp only
    exact br_t rfl ⟨rfl, iv_rel hc hG⟩
theorem i_vc_equals {k : Nat} {u : SX} {v : SY} (I : i_Rel k u v) (hk : k + 5 ≤ 2560) : wpX_equals (fun r => wpY_equals (fun r' => r' = r ∧ i_Rel (k + 5) u v) v) u := by
  obtain ⟨c, G, p, q, r, few, hc, hG, rfl, rfl⟩ := I
  obtain ⟨t, h1, h2⟩ := iv_Eq_o (p := p) (q := q) (r := r) (few := few) hc hG 4 0 0 (by omega)
  exact Exists.intro 5 (h1 _ (Exists.intro 5 (h2 _ ⟨rfl, iv_rel hc hG⟩)))
theorem i_vc_sums {k : Nat} {u : SX} {v : SY} (I : i_Rel k u v) (hk : k + 5 ≤ 2560) (v1 : Int32) (v2 : Int32) (v3 : Int32) : wpX_sums (fun r => wpY_sums (fun r' => r' = r ∧ i_Rel (k + 5) u v) v v1 v2 v3) u v1 v2 v3 := by
  obtain ⟨c, G, p, q, r, few, hc, hG, rfl, rfl⟩ := I
  rcases iv_three v1 v2 v3 with ⟨x, y, z, hx, hy, hz, rfl, rfl, rfl⟩ | hn
  · refine iv_xSu hc hG hx hy hz (fun a => ?_) (fun a => ?_)
    · exact iv_ySu hc hG hx hy hz (fun _ => ⟨rfl, iv_rel hc hG⟩) (fun b => absurd a b)
    · exact iv_ySu hc hG hx hy hz (fun b => absurd b a) (fun _ => ⟨rfl, iv_rel hc hG⟩)
  · exact iv_xSuN hn (iv_ySuN hn ⟨rfl, iv_rel hc hG⟩)
end
