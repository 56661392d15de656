section
/-! numbers: Int32 as the image of an Int; branches and names by Int -/
def iv_z (z : Int) : Int32 := Int32.ofInt z
theorem iv_n (n : Nat) : nI n = iv_z n := Int32.ofInt_eq_ofNat.symm
theorem iv_add (a b : Int) : iv_z a + iv_z b = iv_z (a + b) := (Int32.ofInt_add a b).symm
theorem iv_sub (a b : Int) : iv_z a - iv_z b = iv_z (a - b) := (Int32.ofInt_sub a b).symm
theorem iv_mul (a b : Int) : iv_z a * iv_z b = iv_z (a * b) := (Int32.ofInt_mul a b).symm
theorem iv_t {z : Int} (h1 : -2147483648 ≤ z) (h2 : z < 2147483648) : (iv_z z).toInt = z := Int32.toInt_ofInt_of_le (by omega) (by omega)
theorem iv_back (x : Int32) : iv_z x.toInt = x := Int32.ofInt_toInt x
theorem iv_le {a b : Int} (a1 : -2147483648 ≤ a) (a2 : a < 2147483648) (b1 : -2147483648 ≤ b) (b2 : b < 2147483648) : iv_z a ≤ iv_z b ↔ a ≤ b := by
  rw [Int32.le_iff_toInt_le, iv_t a1 a2, iv_t b1 b2]
theorem iv_lt {a b : Int} (a1 : -2147483648 ≤ a) (a2 : a < 2147483648) (b1 : -2147483648 ≤ b) (b2 : b < 2147483648) : iv_z a < iv_z b ↔ a < b := by
  rw [Int32.lt_iff_toInt_lt, iv_t a1 a2, iv_t b1 b2]
theorem iv_eq {a b : Int} (a1 : -2147483648 ≤ a) (a2 : a < 2147483648) (b1 : -2147483648 ≤ b) (b2 : b < 2147483648) : iv_z a = iv_z b ↔ a = b := by
  rw [← Int32.toInt_inj, iv_t a1 a2, iv_t b1 b2]
theorem iv_div {a b : Int} (a1 : -2147483648 ≤ a) (a2 : a < 2147483648) (b1 : -2147483648 ≤ b) (b2 : b < 2147483648) : iv_z a / iv_z b = iv_z (a.tdiv b) := by
  have m1 : Int32.minValue.toInt = -2147483648 := by decide
  have m2 : Int32.maxValue.toInt = 2147483647 := by decide
  exact (Int32.ofInt_tdiv (by omega) (by omega) (by omega) (by omega)).symm
theorem iv_rem {a b : Int} (a1 : -2147483648 ≤ a) (a2 : a < 2147483648) (b1 : -2147483648 ≤ b) (b2 : b < 2147483648) : iv_z a - iv_z a / iv_z b * iv_z b = iv_z (a.tmod b) := by
  rw [iv_div a1 a2 b1 b2, iv_mul, iv_sub]
  refine congrArg iv_z ?_
  have h := Int.tmod_def a b
  rw [Int.mul_comm] at h
  exact h.symm
theorem iv_ble {x y : Int32} {A B : Prop} (a b : Int) (f : a ≤ b → A) (g : b < a → B) (hx : x = iv_z a := by rfl) (hy : y = iv_z b := by rfl) (a1 : -2147483648 ≤ a := by omega) (a2 : a < 2147483648 := by omega) (b1 : -2147483648 ≤ b := by omega) (b2 : b < 2147483648 := by omega) : (x ≤ y → A) ∧ (¬ x ≤ y → B) := by
  subst hx hy
  rw [iv_le a1 a2 b1 b2]
  exact ⟨f, fun z => g (by omega)⟩
theorem iv_blt {x y : Int32} {A B : Prop} (a b : Int) (f : a < b → A) (g : b ≤ a → B) (hx : x = iv_z a := by rfl) (hy : y = iv_z b := by rfl) (a1 : -2147483648 ≤ a := by omega) (a2 : a < 2147483648 := by omega) (b1 : -2147483648 ≤ b := by omega) (b2 : b < 2147483648 := by omega) : (x < y → A) ∧ (¬ x < y → B) := by
  subst hx hy
  rw [iv_lt a1 a2 b1 b2]
  exact ⟨f, fun z => g (by omega)⟩
theorem iv_beq {x y : Int32} {A B : Prop} (a b : Int) (f : a = b → A) (g : a ≠ b → B) (hx : x = iv_z a := by rfl) (hy : y = iv_z b := by rfl) (a1 : -2147483648 ≤ a := by omega) (a2 : a < 2147483648 := by omega) (b1 : -2147483648 ≤ b := by omega) (b2 : b < 2147483648 := by omega) : (x = y → A) ∧ (¬ x = y → B) := by
  subst hx hy
  rw [iv_eq a1 a2 b1 b2]
  exact ⟨f, g⟩
/-- an array of ints as the image of a function to Int -/
def iv_A (G : Nat → Int) : Nat → Int32 := fun j => iv_z (G j)
theorem iv_A_of (a : Nat → Int32) : a = iv_A (fun j => (a j).toInt) := funext fun j => (iv_back (a j)).symm
theorem iv_A_upd (G : Nat → Int) (k : Nat) (z : Int) : upd (iv_A G) k (iv_z z) = iv_A (fun j => if j = k then z else G j) := by
  funext j
  show (if j = k then iv_z z else iv_z (G j)) = iv_z (if j = k then z else G j)
  by_cases h : j = k
  · rw [if_pos h, if_pos h]
  · rw [if_neg h, if_neg h]
theorem iv_4 (i : Nat) : (4 : Int32) * nI i = nI (4 * i) := (Int32.ofNat_mul 4 i).symm
theorem iv_ix (i x : Nat) : (4 : Int32) * nI i + nI x = nI (4 * i + x) := by rw [iv_4, nI_add]
theorem iv_in {i x : Nat} (hi : i < 100) (hx : x < 4) : vp_in ((4 : Int32) * nI i + nI x) 400 := by
  rw [iv_ix]; exact vp_in_nI (by omega) (by omega)
theorem iv_in0 {x : Nat} (hx : x < 4) : vp_in (nI x) 400 := vp_in_nI (by omega) (by omega)
theorem iv_rd (G : Nat → Int) {i x : Nat} (hi : i < 100) (hx : x < 4) : iv_A G ((4 : Int32) * nI i + nI x).toNatClampNeg = iv_z (G (4 * i + x)) := by
  rw [iv_ix, nI_clamp (by omega)]; rfl
theorem iv_rd0 (G : Nat → Int) {x : Nat} (hx : x < 4) : iv_A G (nI x).toNatClampNeg = iv_z (G x) := by
  rw [nI_clamp (by omega)]; rfl
theorem iv_m1 (n : Nat) : nI (n + 1) + (-1) = nI n := by
  rw [← nI_1, Int32.add_assoc, show (1 : Int32) + (-1) = 0 from rfl, Int32.add_zero]
/-- an int is no variable's number -/
def iv_nv (p : Int32) : Prop := p < 0 ∨ (¬ p < 0 ∧ (4 : Int32) ≤ p ∧ (3 : Int32) < p)
theorem iv_var (p : Int32) : (∃ x : Nat, x < 4 ∧ p = nI x) ∨ iv_nv p := by
  by_cases h : p < 0
  · exact Or.inr (Or.inl h)
  · obtain ⟨j, hj, rfl⟩ := nI_of h
    by_cases h4 : j < 4
    · exact Or.inl ⟨j, h4, rfl⟩
    · exact Or.inr (Or.inr ⟨h, nI_le (a := 4) (by omega) hj, nI_lt (a := 3) (by omega) hj⟩)
/-- the values of variable x -/
def iv_v (G : Nat → Int) (x : Nat) : Nat → Int := fun i => G (4 * i + x)
def iv_ok (G : Nat → Int) : Prop := ∀ j, -100 ≤ G j ∧ G j ≤ 100
theorem iv_vb {G : Nat → Int} (h : iv_ok G) (x i : Nat) : -100 ≤ iv_v G x i ∧ iv_v G x i ≤ 100 := h (4 * i + x)
theorem iv_yR (G : Nat → Int) {i x : Nat} (hi : i < 100) (hx : x < 4) : iv_A G ((4 : Int32) * nI i + nI x).toNatClampNeg = iv_z (iv_v G x i) := iv_rd G hi hx
theorem iv_yR0 (G : Nat → Int) {x : Nat} (hx : x < 4) : iv_A G (nI x).toNatClampNeg = iv_z (iv_v G x 0) := by
  rw [iv_rd0 G hx]
  show iv_z (G x) = iv_z (G (4 * 0 + x))
  rw [Nat.mul_zero, Nat.zero_add]
theorem iv_k1000 : (-1000 : Int32) = iv_z (-1000) := by decide
theorem iv_k101 : (-101 : Int32) = iv_z (-101) := by decide
theorem iv_k100 : (-100 : Int32) = iv_z (-100) := by decide
theorem iv_kp100 : (100 : Int32) = iv_z 100 := by decide
theorem iv_k0 : (0 : Int32) = iv_z 0 := by decide
theorem iv_k1 : (1 : Int32) = iv_z 1 := by decide
theorem iv_k2 : (2 : Int32) = iv_z 2 := by decide
theorem iv_k200 : (200 : Int32) = iv_z 200 := by decide
theorem iv_km1 : (-1 : Int32) = iv_z (-1) := by decide
end
section
/-! pure: distinct values, their order, moduli -/
theorem iv_pig : ∀ (n m : Nat) (f g : Nat → Int), (∀ i j, i < m → j < m → f i = f j → i = j) → (∀ i, i < m → ∃ j, j < n ∧ f i = g j) → m ≤ n := by
  intro n
  induction n with
  | zero =>
    intro m f g _ h
    rcases Nat.eq_zero_or_pos m with h0 | h0
    · omega
    · obtain ⟨j, hj, _⟩ := h 0 h0
      omega
  | succ n ih =>
    intro m f g inj h
    by_cases hz : ∃ i, i < m ∧ f i = g n
    · obtain ⟨i0, hi0, e0⟩ := hz
      have key : m - 1 ≤ n := by
        refine ih (m - 1) (fun i => if i = i0 then f (m - 1) else f i) g ?_ ?_
        · intro i j hi hj e
          have e' : (if i = i0 then f (m - 1) else f i) = (if j = i0 then f (m - 1) else f j) := e
          by_cases a : i = i0
          · by_cases b : j = i0
            · omega
            · rw [if_pos a, if_neg b] at e'
              have := inj (m - 1) j (by omega) (by omega) e'
              omega
          · by_cases b : j = i0
            · rw [if_neg a, if_pos b] at e'
              have := inj i (m - 1) (by omega) (by omega) e'
              omega
            · rw [if_neg a, if_neg b] at e'
              exact inj i j (by omega) (by omega) e'
        · intro i hi
          show ∃ j, j < n ∧ (if i = i0 then f (m - 1) else f i) = g j
          by_cases a : i = i0
          · rw [if_pos a]
            obtain ⟨j, hj, e⟩ := h (m - 1) (by omega)
            refine ⟨j, ?_, e⟩
            rcases Nat.lt_or_ge j n with hl | hl
            · exact hl
            · have hjn : j = n := by omega
              rw [hjn, ← e0] at e
              have := inj (m - 1) i0 (by omega) hi0 e
              omega
          · rw [if_neg a]
            obtain ⟨j, hj, e⟩ := h i (by omega)
            refine ⟨j, ?_, e⟩
            rcases Nat.lt_or_ge j n with hl | hl
            · exact hl
            · have hjn : j = n := by omega
              rw [hjn, ← e0] at e
              exact absurd (inj i i0 (by omega) hi0 e) a
      omega
    · have key : m ≤ n := by
        refine ih m f g inj ?_
        intro i hi
        obtain ⟨j, hj, e⟩ := h i hi
        refine ⟨j, ?_, e⟩
        rcases Nat.lt_or_ge j n with hl | hl
        · exact hl
        · have hjn : j = n := by omega
          rw [hjn] at e
          exact absurd ⟨i, hi, e⟩ hz
      omega
/-- m lists d different values of the first c of v: all of them, or four -/
def iv_E (v : Nat → Int) (c d : Nat) (m : Nat → Int) : Prop :=
  d ≤ 4 ∧ (∀ j, j < d → ∃ i, i < c ∧ v i = m j) ∧ (∀ i j, i < d → j < d → m i = m j → i = j) ∧ (d < 4 → ∀ i, i < c → ∃ j, j < d ∧ v i = m j)
theorem iv_E_le {v : Nat → Int} {c d d' : Nat} {m m' : Nat → Int} (h : iv_E v c d m) (h' : iv_E v c d' m') : d ≤ d' := by
  obtain ⟨h1, h2, h3, _⟩ := h
  obtain ⟨k1, _, _, k4⟩ := h'
  by_cases hd : d' < 4
  · refine iv_pig d' d m m' h3 ?_
    intro j hj
    obtain ⟨i, hi, e⟩ := h2 j hj
    obtain ⟨t, ht, e'⟩ := k4 hd i hi
    exact ⟨t, ht, by rw [← e, e']⟩
  · omega
theorem iv_E_u {v : Nat → Int} {c d d' : Nat} {m m' : Nat → Int} (h : iv_E v c d m) (h' : iv_E v c d' m') : d = d' :=
  Nat.le_antisymm (iv_E_le h h') (iv_E_le h' h)
/-- fewer than two different values: all are the first -/
theorem iv_E_const {v : Nat → Int} {c d : Nat} {m : Nat → Int} (h : iv_E v c d m) (hd : d < 2) : ∀ i, i < c → v i = v 0 := by
  obtain ⟨_, _, _, h4⟩ := h
  intro i hi
  obtain ⟨j, hj, e⟩ := h4 (by omega) i hi
  obtain ⟨k, hk, e'⟩ := h4 (by omega) 0 (by omega)
  have : j = k := by omega
  rw [e, e', this]
theorem iv_E_two {v : Nat → Int} {c d : Nat} {m : Nat → Int} (h : iv_E v c d m) (hd : 2 ≤ d) : 0 < c ∧ ∃ i, i < c ∧ v i ≠ v 0 := by
  obtain ⟨_, h2, h3, _⟩ := h
  obtain ⟨a, ha, ea⟩ := h2 0 (by omega)
  obtain ⟨b, hb, eb⟩ := h2 1 (by omega)
  refine ⟨by omega, ?_⟩
  by_cases z : v a = v 0
  · refine ⟨b, hb, fun z' => ?_⟩
    have := h3 0 1 (by omega) (by omega) (by rw [← ea, ← eb, z, z'])
    omega
  · exact ⟨a, ha, z⟩
/-- r is the least of the first c of v above fl, or -1000 -/
def iv_L (v : Nat → Int) (c : Nat) (fl r : Int) : Prop :=
  (r = -1000 ∧ ∀ i, i < c → v i ≤ fl) ∨ (fl < r ∧ (∃ i, i < c ∧ v i = r) ∧ ∀ i, i < c → fl < v i → r ≤ v i)
theorem iv_L_0 (v : Nat → Int) (fl : Int) : iv_L v 0 fl (-1000) := Or.inl ⟨rfl, fun i hi => absurd hi (by omega)⟩
theorem iv_L_y {v : Nat → Int} {i : Nat} {fl r : Int} (hfl : -1000 ≤ fl) (h : iv_L v i fl r) (hf : fl < v i) (hr : r = -1000 ∨ v i < r) : iv_L v (i + 1) fl (v i) := by
  refine Or.inr ⟨hf, ⟨i, by omega, rfl⟩, ?_⟩
  intro j hj hv
  by_cases e : j = i
  · subst e; omega
  · rcases h with ⟨_, h⟩ | ⟨h1, _, h⟩
    · have := h j (by omega)
      omega
    · have := h j (by omega) hv
      omega
theorem iv_L_n {v : Nat → Int} {i : Nat} {fl r : Int} (h : iv_L v i fl r) (hn : v i ≤ fl ∨ (r ≠ -1000 ∧ r ≤ v i)) : iv_L v (i + 1) fl r := by
  rcases h with ⟨h1, h⟩ | ⟨h1, ⟨k, hk, ek⟩, h⟩
  · refine Or.inl ⟨h1, ?_⟩
    intro j hj
    by_cases e : j = i
    · subst e; omega
    · exact h j (by omega)
  · refine Or.inr ⟨h1, ⟨k, by omega, ek⟩, ?_⟩
    intro j hj hv
    by_cases e : j = i
    · subst e; omega
    · exact h j (by omega) hv
/-- m 0 < .. < m (f - 1) are the values up to l -/
def iv_C (v : Nat → Int) (c f : Nat) (m : Nat → Int) (l : Int) : Prop :=
  (∀ j, j < f → ∃ i, i < c ∧ v i = m j) ∧ (∀ j k, j < k → k < f → m j < m k) ∧ (∀ j, j < f → m j ≤ l) ∧ (∀ i, i < c → v i ≤ l → ∃ j, j < f ∧ v i = m j)
theorem iv_C_0 {v : Nat → Int} {c : Nat} (hv : ∀ i, -100 ≤ v i) (m : Nat → Int) : iv_C v c 0 m (-101) :=
  ⟨fun j hj => absurd hj (by omega), fun j k _ hk => absurd hk (by omega), fun j hj => absurd hj (by omega), fun i _ h => absurd h (by have := hv i; omega)⟩
theorem iv_C_s {v : Nat → Int} {c f : Nat} {m : Nat → Int} {l r : Int} (h : iv_C v c f m l) (hL : iv_L v c l r) (hr : r ≠ -1000) : iv_C v c (f + 1) (fun j => if j = f then r else m j) r := by
  obtain ⟨h1, h2, h3, h4⟩ := h
  rcases hL with ⟨e, _⟩ | ⟨k1, ⟨i0, hi0, e0⟩, k3⟩
  · exact absurd e hr
  · refine ⟨?_, ?_, ?_, ?_⟩
    · intro j hj
      show ∃ i, i < c ∧ v i = (if j = f then r else m j)
      by_cases e : j = f
      · rw [if_pos e]; exact ⟨i0, hi0, e0⟩
      · rw [if_neg e]; exact h1 j (by omega)
    · intro j k hjk hk
      show (if j = f then r else m j) < (if k = f then r else m k)
      rw [if_neg (by omega : ¬ j = f)]
      by_cases e : k = f
      · rw [if_pos e]
        have := h3 j (by omega)
        omega
      · rw [if_neg e]; exact h2 j k hjk (by omega)
    · intro j hj
      show (if j = f then r else m j) ≤ r
      by_cases e : j = f
      · exact Int.le_of_eq (if_pos e)
      · rw [if_neg e]
        have := h3 j (by omega)
        omega
    · intro i hi hv
      show ∃ j, j < f + 1 ∧ v i = (if j = f then r else m j)
      by_cases e : v i ≤ l
      · obtain ⟨j, hj, ej⟩ := h4 i hi e
        exact ⟨j, by omega, by rw [if_neg (by omega : ¬ j = f)]; exact ej⟩
      · have := k3 i hi (by omega)
        exact ⟨f, by omega, by rw [if_pos rfl]; omega⟩
theorem iv_C_inj {v : Nat → Int} {c f : Nat} {m : Nat → Int} {l : Int} (h : iv_C v c f m l) : ∀ i j, i < f → j < f → m i = m j → i = j := by
  obtain ⟨_, h2, _, _⟩ := h
  intro i j hi hj e
  rcases Nat.lt_trichotomy i j with a | a | a
  · have := h2 i j a hj
    omega
  · exact a
  · have := h2 j i a hi
    omega
theorem iv_C_e {v : Nat → Int} {c f : Nat} {m : Nat → Int} {l : Int} (h : iv_C v c f m l) (hl : -1000 ≤ l) (hL : iv_L v c l (-1000)) (hf : f ≤ 4) : iv_E v c f m := by
  refine ⟨hf, h.1, iv_C_inj h, fun _ i hi => h.2.2.2 i hi ?_⟩
  rcases hL with ⟨_, k⟩ | ⟨k, _, _⟩
  · exact k i hi
  · omega
theorem iv_C_4 {v : Nat → Int} {c : Nat} {m : Nat → Int} {l : Int} (h : iv_C v c 4 m l) : iv_E v c 4 m :=
  ⟨by omega, h.1, iv_C_inj h, fun z => absurd z (by omega)⟩
/-- how many of the first n of f are below t -/
def iv_ls (f : Nat → Int) (t : Int) : Nat → Nat
  | 0 => 0
  | n + 1 => if f n < t then iv_ls f t n + 1 else iv_ls f t n
theorem iv_ls_le (f : Nat → Int) (t : Int) (n : Nat) : iv_ls f t n ≤ n := by
  induction n with
  | zero => exact Nat.le_refl 0
  | succ n ih =>
    show (if f n < t then iv_ls f t n + 1 else iv_ls f t n) ≤ n + 1
    split <;> omega
theorem iv_ls_none {f : Nat → Int} {a b : Int} (n : Nat) (h : ∀ j, j < n → (f j < b ↔ f j < a)) : iv_ls f b n = iv_ls f a n := by
  induction n with
  | zero => rfl
  | succ n ih =>
    show (if f n < b then iv_ls f b n + 1 else iv_ls f b n) = (if f n < a then iv_ls f a n + 1 else iv_ls f a n)
    have e := h n (by omega)
    have i := ih (fun j hj => h j (by omega))
    by_cases z : f n < a
    · rw [if_pos z, if_pos (e.mpr z), i]
    · rw [if_neg z, if_neg (fun y => z (e.mp y)), i]
theorem iv_ls_one {f : Nat → Int} {a b : Int} (hab : a < b) (n : Nat) (h : ∀ j, j < n → (f j < b ↔ f j < a ∨ f j = a)) (inj : ∀ i j, i < n → j < n → f i = f j → i = j) (hx : ∃ j, j < n ∧ f j = a) : iv_ls f b n = iv_ls f a n + 1 := by
  induction n with
  | zero => obtain ⟨j, hj, _⟩ := hx; omega
  | succ n ih =>
    show (if f n < b then iv_ls f b n + 1 else iv_ls f b n) = (if f n < a then iv_ls f a n + 1 else iv_ls f a n) + 1
    by_cases z : f n = a
    · rw [if_pos (by omega : f n < b), if_neg (by omega : ¬ f n < a)]
      refine congrArg (· + 1) (iv_ls_none n ?_)
      intro j hj
      rw [h j (by omega)]
      refine ⟨fun y => ?_, fun y => Or.inl y⟩
      rcases y with y | y
      · exact y
      · have := inj j n (by omega) (by omega) (by rw [y, z])
        omega
    · obtain ⟨j, hj, ej⟩ := hx
      have hjn : j ≠ n := fun y => z (by rw [← y]; exact ej)
      have i := ih (fun j hj => h j (by omega)) (fun i j hi hj => inj i j (by omega) (by omega)) ⟨j, by omega, ej⟩
      have e := h n (by omega)
      by_cases y : f n < a
      · rw [if_pos y, if_pos (e.mpr (Or.inl y)), i]
      · have hb : ¬ f n < b := fun w => by rcases e.mp w with w | w <;> omega
        rw [if_neg y, if_neg hb, i]
theorem iv_ls_mono {f : Nat → Int} {a b : Int} (hab : a ≤ b) (n : Nat) : iv_ls f a n ≤ iv_ls f b n := by
  induction n with
  | zero => exact Nat.le_refl 0
  | succ n ih =>
    show (if f n < a then iv_ls f a n + 1 else iv_ls f a n) ≤ (if f n < b then iv_ls f b n + 1 else iv_ls f b n)
    by_cases z : f n < a
    · rw [if_pos z, if_pos (by omega : f n < b)]; omega
    · rw [if_neg z]; split <;> omega
theorem iv_ls_lt {f : Nat → Int} {a b : Int} (hab : a < b) (n : Nat) (hx : ∃ j, j < n ∧ f j = a) : iv_ls f a n < iv_ls f b n := by
  induction n with
  | zero => obtain ⟨j, hj, _⟩ := hx; omega
  | succ n ih =>
    show (if f n < a then iv_ls f a n + 1 else iv_ls f a n) < (if f n < b then iv_ls f b n + 1 else iv_ls f b n)
    by_cases z : f n = a
    · rw [if_neg (by omega : ¬ f n < a), if_pos (by omega : f n < b)]
      have := iv_ls_mono (f := f) (a := a) (b := b) (by omega) n
      omega
    · obtain ⟨j, hj, ej⟩ := hx
      have hjn : j ≠ n := fun y => z (by rw [← y]; exact ej)
      have i := ih ⟨j, by omega, ej⟩
      by_cases y : f n < a
      · rw [if_pos y, if_pos (by omega : f n < b)]; omega
      · rw [if_neg y]; split <;> omega
theorem iv_rank0 {v : Nat → Int} {c d K : Nat} {f m : Nat → Int} {l : Int} (hE : iv_E v c d f) (hd : d < 4) (hC : iv_C v c K m l) : ∀ k, k < K → iv_ls f (m k) d = k := by
  obtain ⟨_, e2, e3, e4⟩ := hE
  obtain ⟨c1, c2, c3, c4⟩ := hC
  have hin : ∀ j k, j < d → k < K → f j < m k → ∃ t, t < k ∧ f j = m t := by
    intro j k hj hk hlt
    obtain ⟨i, hi, ei⟩ := e2 j hj
    have hl := c3 k hk
    obtain ⟨t, ht, et⟩ := c4 i hi (by omega)
    refine ⟨t, ?_, by rw [← ei, et]⟩
    rcases Nat.lt_trichotomy t k with a | a | a
    · exact a
    · rw [a] at et; omega
    · have := c2 k t a ht
      omega
  intro k
  induction k with
  | zero =>
    intro hk
    have hz : ∀ n, n ≤ d → iv_ls f (m 0) n = 0 := by
      intro n
      induction n with
      | zero => intro _; rfl
      | succ n ih =>
        intro hn
        show (if f n < m 0 then iv_ls f (m 0) n + 1 else iv_ls f (m 0) n) = 0
        have hnn : ¬ f n < m 0 := by
          intro z
          obtain ⟨t, ht, _⟩ := hin n 0 (by omega) hk z
          omega
        rw [if_neg hnn]
        exact ih (by omega)
    exact hz d (Nat.le_refl d)
  | succ k ih =>
    intro hk
    have h1 := ih (by omega)
    have hlt := c2 k (k + 1) (by omega) hk
    rw [iv_ls_one (a := m k) hlt d ?_ e3 ?_, h1]
    · intro j hj
      refine ⟨fun z => ?_, fun z => by omega⟩
      obtain ⟨t, ht, et⟩ := hin j (k + 1) hj hk z
      by_cases y : t = k
      · exact Or.inr (by rw [et, y])
      · have := c2 t k (by omega) (by omega)
        exact Or.inl (by omega)
    · obtain ⟨i, hi, ei⟩ := c1 k (by omega)
      obtain ⟨j, hj, ej⟩ := e4 hd i hi
      exact ⟨j, hj, by rw [← ej, ei]⟩
/-- the place of a value in the order is its number of lesser ones -/
theorem iv_rank {v : Nat → Int} {c d k : Nat} {f m : Nat → Int} {r : Int} (hE : iv_E v c d f) (hd : d < 4) (hC : iv_C v c (k + 1) m r) (hr : m k = r) {i : Nat} (hi : i < d) : iv_ls f (f i) d = k ↔ f i = r := by
  have h0 := iv_rank0 hE hd hC k (by omega)
  refine ⟨fun h => ?_, fun h => by rw [h, ← hr]; exact h0⟩
  obtain ⟨i1, hi1, e1⟩ := hC.1 k (by omega)
  obtain ⟨j, hj, ej⟩ := hE.2.2.2 hd i1 hi1
  rcases (by omega : f i < m k ∨ f i = m k ∨ m k < f i) with a | a | a
  · have := iv_ls_lt (f := f) a d ⟨i, hi, rfl⟩
    omega
  · rw [a, hr]
  · have := iv_ls_lt (f := f) a d ⟨j, hj, by rw [← ej, e1]⟩
    omega
theorem iv_rank_ex {v : Nat → Int} {c d k : Nat} {f m : Nat → Int} {r : Int} (hE : iv_E v c d f) (hd : d < 4) (hC : iv_C v c (k + 1) m r) (hr : m k = r) : ∃ i, i < d ∧ f i = r := by
  obtain ⟨i1, hi1, e1⟩ := hC.1 k (by omega)
  obtain ⟨j, hj, ej⟩ := hE.2.2.2 hd i1 hi1
  exact ⟨j, hj, by rw [← ej, e1, hr]⟩
/-- all leave one rest -/
def iv_Sm (v : Nat → Int) (c : Nat) (m : Int) : Prop := ∀ i, i < c → m ∣ v i - v 0
theorem iv_modu {v m : Int} (hm : 0 < m) : (v.tmod m + m).tmod m = v % m := by
  have h1 := Int.lt_tmod_of_pos v hm
  have h0 : 0 ≤ v.tmod m + m := by omega
  rw [Int.tmod_eq_emod_of_nonneg h0, Int.add_emod_right, Int.tmod_def, Int.sub_mul_emod_self_left]
theorem iv_modn {v m : Int} (hm : 0 < m) (h : v.tmod m < 0) : v.tmod m + m = v % m := by
  have h1 := Int.lt_tmod_of_pos v hm
  have h2 := iv_modu (v := v) hm
  have h0 : 0 ≤ v.tmod m + m := by omega
  rw [Int.tmod_eq_emod_of_nonneg h0, Int.emod_eq_of_lt h0 (by omega : v.tmod m + m < m)] at h2
  exact h2
theorem iv_modp {v m : Int} (hm : 0 < m) (h : 0 ≤ v.tmod m) : v.tmod m = v % m := by
  have h1 := Int.tmod_lt_of_pos v hm
  have h2 := iv_modu (v := v) hm
  have h0 : 0 ≤ v.tmod m + m := by omega
  rw [Int.tmod_eq_emod_of_nonneg h0, Int.add_emod_right, Int.emod_eq_of_lt h h1] at h2
  exact h2
theorem iv_dvd {a b m : Int} : a % m = b % m ↔ m ∣ a - b := by
  rw [Int.emod_eq_emod_iff_emod_sub_eq_zero, Int.dvd_iff_emod_eq_zero]
/-- the greatest modulus -/
def iv_Mo (v : Nat → Int) (c : Nat) (M : Int) : Prop :=
  (2 ≤ M ∧ M ≤ 200 ∧ iv_Sm v c M ∧ ∀ m, M < m → m ≤ 200 → ¬ iv_Sm v c m) ∨ (M = 1 ∧ ∀ m, 2 ≤ m → m ≤ 200 → ¬ iv_Sm v c m)
theorem iv_Mo_u {v : Nat → Int} {c : Nat} {M M' : Int} (h : iv_Mo v c M) (h' : iv_Mo v c M') : M = M' := by
  rcases h with ⟨h1, h2, h3, h4⟩ | ⟨h1, h2⟩
  · rcases h' with ⟨k1, k2, k3, k4⟩ | ⟨k1, k2⟩
    · rcases (by omega : M < M' ∨ M = M' ∨ M' < M) with a | a | a
      · exact absurd k3 (h4 M' a k2)
      · exact a
      · exact absurd h3 (k4 M a h2)
    · exact absurd h3 (k2 M h1 h2)
  · rcases h' with ⟨k1, k2, k3, k4⟩ | ⟨k1, k2⟩
    · exact absurd k3 (h2 M' k1 k2)
    · omega
theorem iv_E_0 (v : Nat → Int) (F : Nat → Int) : iv_E v 0 0 F :=
  ⟨by omega, fun j hj => absurd hj (by omega), fun i j hi => absurd hi (by omega), fun _ i hi => absurd hi (by omega)⟩
theorem iv_E_k {v : Nat → Int} {i n : Nat} {F : Nat → Int} (h : iv_E v i n F) (hk : (∃ k, k < n ∧ F k = v i) ∨ n = 4) : iv_E v (i + 1) n F := by
  obtain ⟨h1, h2, h3, h4⟩ := h
  refine ⟨h1, fun j hj => ?_, h3, fun hn j hj => ?_⟩
  · obtain ⟨t, ht, et⟩ := h2 j hj
    exact ⟨t, by omega, et⟩
  · by_cases e : j = i
    · rcases hk with ⟨k, hk, ek⟩ | hk
      · exact ⟨k, hk, by rw [e, ek]⟩
      · omega
    · exact h4 hn j (by omega)
theorem iv_E_a {v : Nat → Int} {i n : Nat} {F : Nat → Int} (h : iv_E v i n F) (hn : n < 4) (hk : ∀ k, k < n → F k ≠ v i) : iv_E v (i + 1) (n + 1) (fun j => if j = n then v i else F j) := by
  obtain ⟨h1, h2, h3, h4⟩ := h
  refine ⟨by omega, fun j hj => ?_, fun a b ha hb e => ?_, fun _ j hj => ?_⟩
  · show ∃ t, t < i + 1 ∧ v t = (if j = n then v i else F j)
    by_cases e : j = n
    · rw [if_pos e]; exact ⟨i, by omega, rfl⟩
    · rw [if_neg e]
      obtain ⟨t, ht, et⟩ := h2 j (by omega)
      exact ⟨t, by omega, et⟩
  · have e' : (if a = n then v i else F a) = (if b = n then v i else F b) := e
    by_cases x : a = n
    · by_cases y : b = n
      · omega
      · rw [if_pos x, if_neg y] at e'
        exact absurd e'.symm (hk b (by omega))
    · by_cases y : b = n
      · rw [if_neg x, if_pos y] at e'
        exact absurd e' (hk a (by omega))
      · rw [if_neg x, if_neg y] at e'
        exact h3 a b (by omega) (by omega) e'
  · show ∃ t, t < n + 1 ∧ v j = (if t = n then v i else F t)
    by_cases e : j = i
    · exact ⟨n, by omega, by rw [if_pos rfl, e]⟩
    · obtain ⟨t, ht, et⟩ := h4 hn j (by omega)
      exact ⟨t, by omega, by rw [if_neg (by omega : ¬ t = n)]; exact et⟩
theorem iv_E_r {v : Nat → Int} {c d : Nat} {F : Nat → Int} (hv : ∀ i, -100 ≤ v i ∧ v i ≤ 100) (h : iv_E v c d F) {j : Nat} (hj : j < d) : -100 ≤ F j ∧ F j ≤ 100 := by
  obtain ⟨i, _, e⟩ := h.2.1 j hj
  rw [← e]; exact hv i
theorem iv_mb {a b : Int} (M N : Nat) (ha : a.natAbs ≤ M) (hb : b.natAbs ≤ N) : (a * b).natAbs ≤ M * N := by
  rw [Int.natAbs_mul]; exact Nat.mul_le_mul ha hb
/-- b is a place of the least value -/
def iv_Lo (v : Nat → Int) (c b : Nat) : Prop := (b = 0 ∨ b < c) ∧ ∀ i, i < c → v b ≤ v i
def iv_Hi (v : Nat → Int) (c b : Nat) : Prop := (b = 0 ∨ b < c) ∧ ∀ i, i < c → v i ≤ v b
theorem iv_Lo_1 (v : Nat → Int) : iv_Lo v 1 0 := by
  refine ⟨Or.inl rfl, fun i hi => ?_⟩
  obtain rfl : i = 0 := by omega
  exact Int.le_refl _
theorem iv_Lo_0 (v : Nat → Int) : iv_Lo v 0 0 := ⟨Or.inl rfl, fun i hi => absurd hi (by omega)⟩
theorem iv_Hi_1 (v : Nat → Int) : iv_Hi v 1 0 := by
  refine ⟨Or.inl rfl, fun i hi => ?_⟩
  obtain rfl : i = 0 := by omega
  exact Int.le_refl _
theorem iv_Hi_0 (v : Nat → Int) : iv_Hi v 0 0 := ⟨Or.inl rfl, fun i hi => absurd hi (by omega)⟩
theorem iv_Lo_y {v : Nat → Int} {i b : Nat} (h : iv_Lo v i b) (hb : v i < v b) : iv_Lo v (i + 1) i :=
  ⟨Or.inr (by omega), fun j hj => by
    by_cases e : j = i
    · subst e; omega
    · have := h.2 j (by omega)
      omega⟩
theorem iv_Lo_n {v : Nat → Int} {i b : Nat} (h : iv_Lo v i b) (hb : v b ≤ v i) : iv_Lo v (i + 1) b :=
  ⟨by have := h.1; omega, fun j hj => by
    by_cases e : j = i
    · subst e; omega
    · exact h.2 j (by omega)⟩
theorem iv_Hi_y {v : Nat → Int} {i b : Nat} (h : iv_Hi v i b) (hb : v b < v i) : iv_Hi v (i + 1) i :=
  ⟨Or.inr (by omega), fun j hj => by
    by_cases e : j = i
    · subst e; omega
    · have := h.2 j (by omega)
      omega⟩
theorem iv_Hi_n {v : Nat → Int} {i b : Nat} (h : iv_Hi v i b) (hb : v i ≤ v b) : iv_Hi v (i + 1) b :=
  ⟨by have := h.1; omega, fun j hj => by
    by_cases e : j = i
    · subst e; omega
    · exact h.2 j (by omega)⟩
/-- a truth as an int -/
def iv_B (P : Prop) (z : Int32) : Prop := (z = 1 ∧ P) ∨ (z = 0 ∧ ¬ P)
theorem iv_B_u {P Q : Prop} {z y : Int32} (e : P ↔ Q) (h : iv_B P z) (h' : iv_B Q y) : y = z := by
  rcases h with ⟨a, b⟩ | ⟨a, b⟩
  · rcases h' with ⟨a', b'⟩ | ⟨a', b'⟩
    · rw [a, a']
    · exact absurd (e.mp b) b'
  · rcases h' with ⟨a', b'⟩ | ⟨a', b'⟩
    · exact absurd (e.mpr b') b
    · rw [a, a']
theorem iv_all_s {P : Nat → Prop} {i : Nat} (h : ∀ j, j < i → P j) (hi : P i) : ∀ j, j < i + 1 → P j := fun j hj => by
  by_cases e : j = i
  · rw [e]; exact hi
  · exact h j (by omega)
theorem iv_all_p {P : Nat → Prop} {i : Nat} (h : ∀ j, j < i + 1 → P j) : ∀ j, j < i → P j := fun j hj => h j (by omega)
/-- the four relations -/
def iv_H (t : Nat) (a b : Int) : Prop := (t = 0 ∧ a < b) ∨ (t = 1 ∧ a ≤ b) ∨ (t = 2 ∧ a = b) ∨ (3 ≤ t ∧ a ≠ b)
end
section
/-! pure: lines -/
theorem iv_r1 (g a b w v : Int) (h : w * (g * a) = v * (g * b)) : g * (a * w) = g * (b * v) := by grind
theorem iv_r2 (p q g a b : Int) (h : p * (g * b) = q * (g * a)) : g * (b * p) = g * (a * q) := by grind
theorem iv_r3 (p q A B w v : Int) (h : p * w = q * v) (hx : p * B = q * A) : p * (w * A) = p * (v * B) := by grind
theorem iv_r4 (p q p' q' run ri : Int) (h : p * ri = q * run) (h' : p' * ri = q' * run) : p' * q * run = p * q' * run := by grind
theorem iv_r5 (p q p' q' w v : Int) (hx : p' * q = p * q') (ht : p' * w = q' * v) : p' * (p * w) = p' * (q * v) := by grind
def iv_T (v w : Nat → Int) (c : Nat) (p q : Int) : Prop :=
  0 < p ∧ q ≠ 0 ∧ (∃ i, i < c ∧ v i ≠ v 0) ∧ ∀ i, i < c → p * (w i - w 0) = q * (v i - v 0)
/-- P, Q are the least line's, or both 0 -/
def iv_S (v w : Nat → Int) (c : Nat) (P Q : Int) : Prop :=
  (P = 0 ∧ Q = 0 ∧ ∀ p q, ¬ iv_T v w c p q) ∨ (iv_T v w c P Q ∧ ∀ p q, iv_T v w c p q → P ≤ p)
theorem iv_S_u {v w : Nat → Int} {c : Nat} {P Q P' Q' : Int} (h : iv_S v w c P Q) (h' : iv_S v w c P' Q') : P = P' ∧ Q = Q' := by
  rcases h with ⟨h1, h2, h3⟩ | ⟨h1, h2⟩
  · rcases h' with ⟨k1, k2, k3⟩ | ⟨k1, k2⟩
    · omega
    · exact absurd k1 (h3 _ _)
  · rcases h' with ⟨k1, k2, k3⟩ | ⟨k1, k2⟩
    · exact absurd h1 (k3 _ _)
    · have e : P = P' := Int.le_antisymm (h2 _ _ k1) (k2 _ _ h1)
      refine ⟨e, ?_⟩
      obtain ⟨_, _, ⟨i, hi, hv⟩, a⟩ := h1
      obtain ⟨_, _, _, b⟩ := k1
      have a' := a i hi
      have b' := b i hi
      rw [← e, a'] at b'
      exact Int.eq_of_mul_eq_mul_right (by omega : v i - v 0 ≠ 0) b'
/-- two ways of a line: cross product -/
theorem iv_T_x {v w : Nat → Int} {c : Nat} {p q : Int} (h : iv_T v w c p q) {lo hi : Nat} (hlo : lo < c) (hhi : hi < c) : p * (w hi - w lo) = q * (v hi - v lo) := by
  obtain ⟨_, _, _, h⟩ := h
  have a := h lo hlo
  have b := h hi hhi
  rw [Int.mul_sub, Int.mul_sub] at a b ⊢
  omega
theorem iv_coprime {A B g : Int} (hg : 0 < g) (hA : 0 < A) (hA2 : g * A ≤ 200) (hm : ∀ d, g < d → d ≤ 200 → ¬ (d ∣ g * A ∧ d ∣ g * B)) : Int.gcd A B = 1 := by
  have h0 : 0 < Int.gcd A B := Int.gcd_pos_of_ne_zero_left B (by omega)
  rcases Nat.lt_or_ge (Int.gcd A B) 2 with a | a
  · omega
  · exfalso
    have d1 : g * (Int.gcd A B : Int) ∣ g * A := Int.mul_dvd_mul_left g (Int.gcd_dvd_left A B)
    have d2 : g * (Int.gcd A B : Int) ∣ g * B := Int.mul_dvd_mul_left g (Int.gcd_dvd_right A B)
    have hpos : 0 < g * A := Int.mul_pos hg hA
    have le := Int.le_of_dvd hpos d1
    have lt : g * 2 ≤ g * (Int.gcd A B : Int) := Int.mul_le_mul_of_nonneg_left (by omega) (by omega)
    exact hm _ (by omega) (by omega) ⟨d1, d2⟩
theorem iv_S_X {v w : Nat → Int} {c lo hi : Nat} {A B g : Int} (hlo : lo < c) (hhi : hi < c) (eA : A = v hi - v lo) (eB : B = w hi - w lo) (hA : 0 < A) (hA2 : A ≤ 200) (hB : B ≠ 0)
    (hon : ∀ i, i < c → (w i - w 0) * A = (v i - v 0) * B) (hg : 0 < g) (gA : g ∣ A) (gB : g ∣ B) (hm : ∀ d, g < d → d ≤ 200 → ¬ (d ∣ A ∧ d ∣ B)) : iv_S v w c (A.tdiv g) (B.tdiv g) := by
  obtain ⟨A', eA'⟩ := gA
  obtain ⟨B', eB'⟩ := gB
  have hg0 : g ≠ 0 := by omega
  rw [eA', eB', Int.mul_tdiv_cancel_left A' hg0, Int.mul_tdiv_cancel_left B' hg0]
  have hA' : 0 < A' := by
    rcases (by omega : A' < 0 ∨ A' = 0 ∨ 0 < A') with a | a | a
    · have : g * A' ≤ g * 0 := Int.mul_le_mul_of_nonneg_left (by omega) (by omega)
      omega
    · rw [a] at eA'; omega
    · exact a
  have hB' : B' ≠ 0 := by
    intro z
    rw [z] at eB'; omega
  have co : Int.gcd A' B' = 1 := iv_coprime hg hA' (by omega) (fun d a b => by rw [← eA', ← eB']; exact hm d a b)
  have hvar : ∃ i, i < c ∧ v i ≠ v 0 := by
    by_cases z : v lo = v 0
    · exact ⟨hi, hhi, by omega⟩
    · exact ⟨lo, hlo, z⟩
  refine Or.inr ⟨⟨hA', hB', hvar, ?_⟩, ?_⟩
  · intro i hi
    have h := hon i hi
    rw [eA', eB'] at h
    exact Int.eq_of_mul_eq_mul_left hg0 (iv_r1 _ _ _ _ _ h)
  · intro p q hT
    have hx := iv_T_x hT hlo hhi
    rw [← eA, ← eB, eA', eB'] at hx
    have hx2 : B' * p = A' * q := Int.eq_of_mul_eq_mul_left hg0 (iv_r2 _ _ _ _ _ hx)
    have dv : A' ∣ B' * p := ⟨q, hx2⟩
    rw [← Int.dvd_gcd_mul_iff_dvd_mul, co] at dv
    have dv' : A' ∣ p := by
      have e : ((1 : Nat) : Int) * p = p := by omega
      rw [e] at dv
      exact dv
    exact Int.le_of_dvd hT.1 dv'
/-- no line where the ways are nought or a sample lies off -/
theorem iv_S_X0 {v w : Nat → Int} {c lo hi : Nat} {A B : Int} (hlo : lo < c) (hhi : hi < c) (eA : A = v hi - v lo) (eB : B = w hi - w lo) (hA : 0 < A)
    (hno : B = 0 ∨ ∃ i, i < c ∧ (w i - w 0) * A ≠ (v i - v 0) * B) : iv_S v w c 0 0 := by
  refine Or.inl ⟨rfl, rfl, ?_⟩
  intro p q hT
  have hx := iv_T_x hT hlo hhi
  rw [← eA, ← eB] at hx
  obtain ⟨hp, hq, _, h⟩ := hT
  rcases hno with z | ⟨i, hi, z⟩
  · rw [z, Int.mul_zero] at hx
    exact Int.mul_ne_zero hq (by omega : A ≠ 0) hx.symm
  · refine z (Int.eq_of_mul_eq_mul_left (by omega : p ≠ 0) ?_)
    exact iv_r3 _ _ _ _ _ _ (h i hi) hx
theorem iv_S_const {v w : Nat → Int} {c : Nat} (h : ∀ i, i < c → v i = v 0) : iv_S v w c 0 0 :=
  Or.inl ⟨rfl, rfl, fun _ _ hT => by
    obtain ⟨_, _, ⟨i, hi, hv⟩, _⟩ := hT
    exact hv (h i hi)⟩
/-- the reference's search for the least factor, from 200 down to k + 1 -/
def iv_P (run ri k p q : Int) : Prop :=
  (p = 0 ∧ q = 0 ∧ ∀ j, k < j → j ≤ 200 → ¬ run ∣ j * ri) ∨ (k < p ∧ p ≤ 200 ∧ p * ri = q * run ∧ -40000 ≤ q ∧ q ≤ 40000 ∧ ∀ j, k < j → j < p → ¬ run ∣ j * ri)
theorem iv_P_0 (run ri : Int) : iv_P run ri 200 0 0 := Or.inl ⟨rfl, rfl, fun j a b => absurd a (by omega)⟩
theorem iv_P_n {run ri k p q : Int} (h : iv_P run ri (k + 1) p q) (hn : ¬ run ∣ (k + 1) * ri) : iv_P run ri k p q := by
  rcases h with ⟨h1, h2, h3⟩ | ⟨h1, h2, h3, h4, h5, h6⟩
  · refine Or.inl ⟨h1, h2, fun j a b => ?_⟩
    by_cases e : j = k + 1
    · rw [e]; exact hn
    · exact h3 j (by omega) b
  · refine Or.inr ⟨by omega, h2, h3, h4, h5, fun j a b => ?_⟩
    by_cases e : j = k + 1
    · rw [e]; exact hn
    · exact h6 j (by omega) b
theorem iv_bd {k r : Int} (h1 : 0 ≤ k) (h2 : k ≤ 200) (r1 : -200 ≤ r) (r2 : r ≤ 200) : -40000 ≤ k * r ∧ k * r ≤ 40000 := by
  have a : k * r ≤ k * 200 := Int.mul_le_mul_of_nonneg_left r2 h1
  have b : k * (-200) ≤ k * r := Int.mul_le_mul_of_nonneg_left r1 h1
  omega
theorem iv_bq {a b M : Int} (h1 : -M ≤ a) (h2 : a ≤ M) : -M ≤ a.tdiv b ∧ a.tdiv b ≤ M := by
  have := Int.natAbs_tdiv_le_natAbs a b
  omega
theorem iv_P_y {run ri k : Int} (h1 : 0 ≤ k) (h2 : k < 200) (r1 : -200 ≤ ri) (r2 : ri ≤ 200) (hy : ((k + 1) * ri).tmod run = 0) : iv_P run ri k (k + 1) (((k + 1) * ri).tdiv run) := by
  have b := iv_bd (k := k + 1) (r := ri) (by omega) (by omega) r1 r2
  have q := iv_bq (b := run) (M := 40000) b.1 b.2
  exact Or.inr ⟨by omega, by omega, (Int.tdiv_mul_cancel_of_tmod_eq_zero hy).symm, q.1, q.2, fun j a b => absurd b (by omega)⟩
theorem iv_P_e {run ri p q : Int} (h : iv_P run ri 0 p q) (hr : run ≠ 0) (r1 : -200 ≤ run) (r2 : run ≤ 200) : 0 < p ∧ p ≤ 200 ∧ p * ri = q * run ∧ -40000 ≤ q ∧ q ≤ 40000 ∧ ∀ j, 0 < j → j < p → ¬ run ∣ j * ri := by
  rcases h with ⟨_, _, h3⟩ | h
  · exfalso
    rcases (by omega : run < 0 ∨ 0 ≤ run) with a | a
    · exact h3 (-run) (by omega) (by omega) ⟨-ri, by rw [Int.mul_neg, Int.neg_mul]⟩
    · exact h3 run (by omega) (by omega) ⟨ri, rfl⟩
  · exact h
theorem iv_S_Y {v w : Nat → Int} {c o : Nat} {run ri p q : Int} (ho : o < c) (e1 : run = v o - v 0) (e2 : ri = w o - w 0) (hr : run ≠ 0) (r1 : -200 ≤ run) (r2 : run ≤ 200) (h : iv_P run ri 0 p q)
    (hq : q ≠ 0) (hall : ∀ i, i < c → p * w i = q * v i + (p * w 0 - q * v 0)) : iv_S v w c p q := by
  obtain ⟨p1, p2, p3, _, _, p4⟩ := iv_P_e h hr r1 r2
  refine Or.inr ⟨⟨p1, hq, ⟨o, ho, by omega⟩, ?_⟩, ?_⟩
  · intro i hi
    have := hall i hi
    rw [Int.mul_sub, Int.mul_sub]
    omega
  · intro p' q' hT
    rcases (by omega : p' < p ∨ p ≤ p') with a | a
    · exfalso
      have := hT.2.2.2 o ho
      rw [← e1, ← e2] at this
      exact p4 p' hT.1 a ⟨q', by rw [this, Int.mul_comm]⟩
    · exact a
theorem iv_S_Y0 {v w : Nat → Int} {c o : Nat} {run ri p q : Int} (ho : o < c) (e1 : run = v o - v 0) (e2 : ri = w o - w 0) (hr : run ≠ 0) (r1 : -200 ≤ run) (r2 : run ≤ 200) (h : iv_P run ri 0 p q)
    (hno : q = 0 ∨ ∃ i, i < c ∧ p * w i ≠ q * v i + (p * w 0 - q * v 0)) : iv_S v w c 0 0 := by
  obtain ⟨p1, p2, p3, _, _, p4⟩ := iv_P_e h hr r1 r2
  refine Or.inl ⟨rfl, rfl, ?_⟩
  intro p' q' hT
  obtain ⟨t1, t2, _, t4⟩ := hT
  have ht := t4 o ho
  rw [← e1, ← e2] at ht
  have hx : p' * q = p * q' := Int.eq_of_mul_eq_mul_right hr (iv_r4 _ _ _ _ _ _ p3 ht)
  rcases hno with z | ⟨i, hi, z⟩
  · rw [z, Int.mul_zero] at hx
    exact Int.mul_ne_zero (by omega : p ≠ 0) t2 hx.symm
  · have hti := t4 i hi
    have : p * (w i - w 0) = q * (v i - v 0) := Int.eq_of_mul_eq_mul_left (by omega : p' ≠ 0) (iv_r5 _ _ _ _ _ _ hx hti)
    rw [Int.mul_sub, Int.mul_sub] at this
    exact z (by omega)
/-- the greatest common divisor by counting down -/
def iv_Gd (a b g : Int) : Prop := 0 < g ∧ g ≤ 200 ∧ g ∣ a ∧ g ∣ b ∧ ∀ d, g < d → d ≤ 200 → ¬ (d ∣ a ∧ d ∣ b)
end
