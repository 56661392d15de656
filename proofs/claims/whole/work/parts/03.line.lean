/-! pure: lines -/
theorem iv_r1 (g a b w v : Int) (h : w * (g * a) = v * (g * b)) : g * (a * w) = g * (b * v) := by grind
theorem iv_r2 (p q g a b : Int) (h : p * (g * b) = q * (g * a)) : g * (b * p) = g * (a * q) := by grind
theorem iv_r3 (p q A B w v : Int) (h : p * w = q * v) (hx : p * B = q * A) : p * (w * A) = p * (v * B) := by grind
theorem iv_r4 (p q p' q' run ri : Int) (h : p * ri = q * run) (h' : p' * ri = q' * run) : p' * q * run = p * q' * run := by grind
theorem iv_r5 (p q p' q' w v : Int) (hx : p' * q = p * q') (ht : p' * w = q' * v) : p' * (p * w) = p' * (q * v) := by grind
def iv_T (v w : Nat → Int) (c : Nat) (p q : Int) : Prop :=
  0 < p ∧ q ≠ 0 ∧ (∃ i, i < c ∧ v i ≠ v 0) ∧ ∀ i, i < c → p * (w i - w 0) = q * (v i - v 0)
/-- P, Q are the least line's, or both 0 -/
def iv_S (v w : Nat → Int) (c : Nat) (P Q : Int) : Prop :=
  (P = 0 ∧ Q = 0 ∧ ∀ p q, ¬ iv_T v w c p q) ∨ (iv_T v w c P Q ∧ ∀ p q, iv_T v w c p q → P ≤ p)
theorem iv_S_u {v w : Nat → Int} {c : Nat} {P Q P' Q' : Int} (h : iv_S v w c P Q) (h' : iv_S v w c P' Q') : P = P' ∧ Q = Q' := by
  rcases h with ⟨h1, h2, h3⟩ | ⟨h1, h2⟩
  · rcases h' with ⟨k1, k2, k3⟩ | ⟨k1, k2⟩
    · omega
    · exact absurd k1 (h3 _ _)
  · rcases h' with ⟨k1, k2, k3⟩ | ⟨k1, k2⟩
    · exact absurd h1 (k3 _ _)
    · have e : P = P' := Int.le_antisymm (h2 _ _ k1) (k2 _ _ h1)
      refine ⟨e, ?_⟩
      obtain ⟨_, _, ⟨i, hi, hv⟩, a⟩ := h1
      obtain ⟨_, _, _, b⟩ := k1
      have a' := a i hi
      have b' := b i hi
      rw [← e, a'] at b'
      exact Int.eq_of_mul_eq_mul_right (by omega : v i - v 0 ≠ 0) b'
/-- two ways of a line: cross product -/
theorem iv_T_x {v w : Nat → Int} {c : Nat} {p q : Int} (h : iv_T v w c p q) {lo hi : Nat} (hlo : lo < c) (hhi : hi < c) : p * (w hi - w lo) = q * (v hi - v lo) := by
  obtain ⟨_, _, _, h⟩ := h
  have a := h lo hlo
  have b := h hi hhi
  rw [Int.mul_sub, Int.mul_sub] at a b ⊢
  omega
theorem iv_coprime {A B g : Int} (hg : 0 < g) (hA : 0 < A) (hA2 : g * A ≤ 200) (hm : ∀ d, g < d → d ≤ 200 → ¬ (d ∣ g * A ∧ d ∣ g * B)) : Int.gcd A B = 1 := by
  have h0 : 0 < Int.gcd A B := Int.gcd_pos_of_ne_zero_left B (by omega)
  rcases Nat.lt_or_ge (Int.gcd A B) 2 with a | a
  · omega
  · exfalso
    have d1 : g * (Int.gcd A B : Int) ∣ g * A := Int.mul_dvd_mul_left g (Int.gcd_dvd_left A B)
    have d2 : g * (Int.gcd A B : Int) ∣ g * B := Int.mul_dvd_mul_left g (Int.gcd_dvd_right A B)
    have hpos : 0 < g * A := Int.mul_pos hg hA
    have le := Int.le_of_dvd hpos d1
    have lt : g * 2 ≤ g * (Int.gcd A B : Int) := Int.mul_le_mul_of_nonneg_left (by omega) (by omega)
    exact hm _ (by omega) (by omega) ⟨d1, d2⟩
theorem iv_S_X {v w : Nat → Int} {c lo hi : Nat} {A B g : Int} (hlo : lo < c) (hhi : hi < c) (eA : A = v hi - v lo) (eB : B = w hi - w lo) (hA : 0 < A) (hA2 : A ≤ 200) (hB : B ≠ 0)
    (hon : ∀ i, i < c → (w i - w 0) * A = (v i - v 0) * B) (hg : 0 < g) (gA : g ∣ A) (gB : g ∣ B) (hm : ∀ d, g < d → d ≤ 200 → ¬ (d ∣ A ∧ d ∣ B)) : iv_S v w c (A.tdiv g) (B.tdiv g) := by
  obtain ⟨A', eA'⟩ := gA
  obtain ⟨B', eB'⟩ := gB
  have hg0 : g ≠ 0 := by omega
  rw [eA', eB', Int.mul_tdiv_cancel_left A' hg0, Int.mul_tdiv_cancel_left B' hg0]
  have hA' : 0 < A' := by
    rcases (by omega : A' < 0 ∨ A' = 0 ∨ 0 < A') with a | a | a
    · have : g * A' ≤ g * 0 := Int.mul_le_mul_of_nonneg_left (by omega) (by omega)
      omega
    · rw [a] at eA'; omega
    · exact a
  have hB' : B' ≠ 0 := by
    intro z
    rw [z] at eB'; omega
  have co : Int.gcd A' B' = 1 := iv_coprime hg hA' (by omega) (fun d a b => by rw [← eA', ← eB']; exact hm d a b)
  have hvar : ∃ i, i < c ∧ v i ≠ v 0 := by
    by_cases z : v lo = v 0
    · exact ⟨hi, hhi, by omega⟩
    · exact ⟨lo, hlo, z⟩
  refine Or.inr ⟨⟨hA', hB', hvar, ?_⟩, ?_⟩
  · intro i hi
    have h := hon i hi
    rw [eA', eB'] at h
    exact Int.eq_of_mul_eq_mul_left hg0 (iv_r1 _ _ _ _ _ h)
  · intro p q hT
    have hx := iv_T_x hT hlo hhi
    rw [← eA, ← eB, eA', eB'] at hx
    have hx2 : B' * p = A' * q := Int.eq_of_mul_eq_mul_left hg0 (iv_r2 _ _ _ _ _ hx)
    have dv : A' ∣ B' * p := ⟨q, hx2⟩
    rw [← Int.dvd_gcd_mul_iff_dvd_mul, co] at dv
    have dv' : A' ∣ p := by
      have e : ((1 : Nat) : Int) * p = p := by omega
      rw [e] at dv
      exact dv
    exact Int.le_of_dvd hT.1 dv'
/-- no line where the ways are nought or a sample lies off -/
theorem iv_S_X0 {v w : Nat → Int} {c lo hi : Nat} {A B : Int} (hlo : lo < c) (hhi : hi < c) (eA : A = v hi - v lo) (eB : B = w hi - w lo) (hA : 0 < A)
    (hno : B = 0 ∨ ∃ i, i < c ∧ (w i - w 0) * A ≠ (v i - v 0) * B) : iv_S v w c 0 0 := by
  refine Or.inl ⟨rfl, rfl, ?_⟩
  intro p q hT
  have hx := iv_T_x hT hlo hhi
  rw [← eA, ← eB] at hx
  obtain ⟨hp, hq, _, h⟩ := hT
  rcases hno with z | ⟨i, hi, z⟩
  · rw [z, Int.mul_zero] at hx
    exact Int.mul_ne_zero hq (by omega : A ≠ 0) hx.symm
  · refine z (Int.eq_of_mul_eq_mul_left (by omega : p ≠ 0) ?_)
    exact iv_r3 _ _ _ _ _ _ (h i hi) hx
theorem iv_S_const {v w : Nat → Int} {c : Nat} (h : ∀ i, i < c → v i = v 0) : iv_S v w c 0 0 :=
  Or.inl ⟨rfl, rfl, fun _ _ hT => by
    obtain ⟨_, _, ⟨i, hi, hv⟩, _⟩ := hT
    exact hv (h i hi)⟩
/-- the reference's search for the least factor, from 200 down to k + 1 -/
def iv_P (run ri k p q : Int) : Prop :=
  (p = 0 ∧ q = 0 ∧ ∀ j, k < j → j ≤ 200 → ¬ run ∣ j * ri) ∨ (k < p ∧ p ≤ 200 ∧ p * ri = q * run ∧ -40000 ≤ q ∧ q ≤ 40000 ∧ ∀ j, k < j → j < p → ¬ run ∣ j * ri)
theorem iv_P_0 (run ri : Int) : iv_P run ri 200 0 0 := Or.inl ⟨rfl, rfl, fun j a b => absurd a (by omega)⟩
theorem iv_P_n {run ri k p q : Int} (h : iv_P run ri (k + 1) p q) (hn : ¬ run ∣ (k + 1) * ri) : iv_P run ri k p q := by
  rcases h with ⟨h1, h2, h3⟩ | ⟨h1, h2, h3, h4, h5, h6⟩
  · refine Or.inl ⟨h1, h2, fun j a b => ?_⟩
    by_cases e : j = k + 1
    · rw [e]; exact hn
    · exact h3 j (by omega) b
  · refine Or.inr ⟨by omega, h2, h3, h4, h5, fun j a b => ?_⟩
    by_cases e : j = k + 1
    · rw [e]; exact hn
    · exact h6 j (by omega) b
theorem iv_bd {k r : Int} (h1 : 0 ≤ k) (h2 : k ≤ 200) (r1 : -200 ≤ r) (r2 : r ≤ 200) : -40000 ≤ k * r ∧ k * r ≤ 40000 := by
  have a : k * r ≤ k * 200 := Int.mul_le_mul_of_nonneg_left r2 h1
  have b : k * (-200) ≤ k * r := Int.mul_le_mul_of_nonneg_left r1 h1
  omega
theorem iv_bq {a b M : Int} (h1 : -M ≤ a) (h2 : a ≤ M) : -M ≤ a.tdiv b ∧ a.tdiv b ≤ M := by
  have := Int.natAbs_tdiv_le_natAbs a b
  omega
theorem iv_P_y {run ri k : Int} (h1 : 0 ≤ k) (h2 : k < 200) (r1 : -200 ≤ ri) (r2 : ri ≤ 200) (hy : ((k + 1) * ri).tmod run = 0) : iv_P run ri k (k + 1) (((k + 1) * ri).tdiv run) := by
  have b := iv_bd (k := k + 1) (r := ri) (by omega) (by omega) r1 r2
  have q := iv_bq (b := run) (M := 40000) b.1 b.2
  exact Or.inr ⟨by omega, by omega, (Int.tdiv_mul_cancel_of_tmod_eq_zero hy).symm, q.1, q.2, fun j a b => absurd b (by omega)⟩
theorem iv_P_e {run ri p q : Int} (h : iv_P run ri 0 p q) (hr : run ≠ 0) (r1 : -200 ≤ run) (r2 : run ≤ 200) : 0 < p ∧ p ≤ 200 ∧ p * ri = q * run ∧ -40000 ≤ q ∧ q ≤ 40000 ∧ ∀ j, 0 < j → j < p → ¬ run ∣ j * ri := by
  rcases h with ⟨_, _, h3⟩ | h
  · exfalso
    rcases (by omega : run < 0 ∨ 0 ≤ run) with a | a
    · exact h3 (-run) (by omega) (by omega) ⟨-ri, by rw [Int.mul_neg, Int.neg_mul]⟩
    · exact h3 run (by omega) (by omega) ⟨ri, rfl⟩
  · exact h
theorem iv_S_Y {v w : Nat → Int} {c o : Nat} {run ri p q : Int} (ho : o < c) (e1 : run = v o - v 0) (e2 : ri = w o - w 0) (hr : run ≠ 0) (r1 : -200 ≤ run) (r2 : run ≤ 200) (h : iv_P run ri 0 p q)
    (hq : q ≠ 0) (hall : ∀ i, i < c → p * w i = q * v i + (p * w 0 - q * v 0)) : iv_S v w c p q := by
  obtain ⟨p1, p2, p3, _, _, p4⟩ := iv_P_e h hr r1 r2
  refine Or.inr ⟨⟨p1, hq, ⟨o, ho, by omega⟩, ?_⟩, ?_⟩
  · intro i hi
    have := hall i hi
    rw [Int.mul_sub, Int.mul_sub]
    omega
  · intro p' q' hT
    rcases (by omega : p' < p ∨ p ≤ p') with a | a
    · exfalso
      have := hT.2.2.2 o ho
      rw [← e1, ← e2] at this
      exact p4 p' hT.1 a ⟨q', by rw [this, Int.mul_comm]⟩
    · exact a
theorem iv_S_Y0 {v w : Nat → Int} {c o : Nat} {run ri p q : Int} (ho : o < c) (e1 : run = v o - v 0) (e2 : ri = w o - w 0) (hr : run ≠ 0) (r1 : -200 ≤ run) (r2 : run ≤ 200) (h : iv_P run ri 0 p q)
    (hno : q = 0 ∨ ∃ i, i < c ∧ p * w i ≠ q * v i + (p * w 0 - q * v 0)) : iv_S v w c 0 0 := by
  obtain ⟨p1, p2, p3, _, _, p4⟩ := iv_P_e h hr r1 r2
  refine Or.inl ⟨rfl, rfl, ?_⟩
  intro p' q' hT
  obtain ⟨t1, t2, _, t4⟩ := hT
  have ht := t4 o ho
  rw [← e1, ← e2] at ht
  have hx : p' * q = p * q' := Int.eq_of_mul_eq_mul_right hr (iv_r4 _ _ _ _ _ _ p3 ht)
  rcases hno with z | ⟨i, hi, z⟩
  · rw [z, Int.mul_zero] at hx
    exact Int.mul_ne_zero (by omega : p ≠ 0) t2 hx.symm
  · have hti := t4 i hi
    have : p * (w i - w 0) = q * (v i - v 0) := Int.eq_of_mul_eq_mul_left (by omega : p' ≠ 0) (iv_r5 _ _ _ _ _ _ hx hti)
    rw [Int.mul_sub, Int.mul_sub] at this
    exact z (by omega)
/-- the greatest common divisor by counting down -/
def iv_Gd (a b g : Int) : Prop := 0 < g ∧ g ≤ 200 ∧ g ∣ a ∧ g ∣ b ∧ ∀ d, g < d → d ≤ 200 → ¬ (d ∣ a ∧ d ∣ b)
