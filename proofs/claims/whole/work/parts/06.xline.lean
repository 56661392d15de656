/-! the walks of the component: lines -/
theorem iv_xWy {c x y lo hi : Nat} {G : Nat → Int} (hy : y < 4) (l1 : lo < 100) (l2 : hi < 100)
    (hlo : ∀ post : Int32 → Prop, post (nI lo) → wpX_sampleOfLeast post (nI c, iv_A G) (nI x)) (hhi : ∀ post : Int32 → Prop, post (nI hi) → wpX_sampleOfGreatest post (nI c, iv_A G) (nI x))
    (post : Int32 → Prop) (h : post (iv_z (iv_v G y hi - iv_v G y lo))) : wpX_wayOf post (nI c, iv_A G) (nI y) (nI x) := by
  unfold wpX_wayOf
  dsimp only
  refine hlo _ (hhi _ (iv_xV l2 hy (iv_xV l1 hy ?_)))
  rw [iv_sub]
  exact h
theorem iv_xOn_l {post : Int32 → Prop} {c x y : Nat} {G : Nat → Int} {A B : Int} (hc : c ≤ 100) (hG : iv_ok G) (hx : x < 4) (hy : y < 4) (A1 : A.natAbs ≤ 200) (B1 : B.natAbs ≤ 200)
    (h1 : (∀ i, i < c → (iv_v G y i - iv_v G y 0) * A = (iv_v G x i - iv_v G x 0) * B) → post 1) (h0 : ¬ (∀ i, i < c → (iv_v G y i - iv_v G y 0) * A = (iv_v G x i - iv_v G x 0) * B) → post 0) :
    ∀ (d i : Nat), i + d = c → (∀ j, j < i → (iv_v G y j - iv_v G y 0) * A = (iv_v G x j - iv_v G x 0) * B) → wX_isOnOneLine_3 post (nI x) (nI y) (iv_z A) (iv_z B) (nI c) (iv_A G) (d + 1) (nI i) := by
  intro d
  induction d with
  | zero =>
    intro i hi h
    obtain rfl : i = c := by omega
    exact br_t (nI_le (by omega) (by omega)) (h1 h)
  | succ d ih =>
    intro i hi h
    have hv := iv_vb hG x i
    have hv0 := iv_vb hG x 0
    have hw := iv_vb hG y i
    have hw0 := iv_vb hG y 0
    have b1 := iv_mb (a := iv_v G y i - iv_v G y 0) (b := A) 200 200 (by omega) A1
    have b2 := iv_mb (a := iv_v G x i - iv_v G x 0) (b := B) 200 200 (by omega) B1
    refine br_f (nI_ge (by omega) (by omega)) (iv_xV (by omega) hx (iv_xV (i := 0) (by omega) hx (nm_r (iv_sub _ _) (iv_xV (by omega) hy (iv_xV (i := 0) (by omega) hy (nm_r (iv_sub _ _) ?_))))))
    refine iv_beq ((iv_v G y i - iv_v G y 0) * A) ((iv_v G x i - iv_v G x 0) * B) (fun e => ?_) (fun e => ?_) (iv_mul _ _) (iv_mul _ _)
    · exact nm_r (nI_1 i) (ih (i + 1) (by omega) (iv_all_s h e))
    · exact h0 (fun z => e (z i (by omega)))
theorem iv_xOn {post : Int32 → Prop} {c x y : Nat} {G : Nat → Int} {A B : Int} (hc : c ≤ 100) (c0 : 0 < c) (hG : iv_ok G) (hx : x < 4) (hy : y < 4) (A1 : A.natAbs ≤ 200) (B1 : B.natAbs ≤ 200)
    (h1 : (∀ i, i < c → (iv_v G y i - iv_v G y 0) * A = (iv_v G x i - iv_v G x 0) * B) → post 1) (h0 : ¬ (∀ i, i < c → (iv_v G y i - iv_v G y 0) * A = (iv_v G x i - iv_v G x 0) * B) → post 0) : wpX_isOnOneLine post (nI c, iv_A G) (nI x) (nI y) (iv_z A) (iv_z B) := by
  refine Exists.intro (c - 1 + 1) (iv_xOn_l hc hG hx hy A1 B1 h1 h0 (c - 1) 1 (by omega) (fun j hj => ?_))
  obtain rfl : j = 0 := by omega
  rw [Int.sub_self, Int.sub_self, Int.zero_mul, Int.zero_mul]
theorem iv_xGd_l {A B : Int} (A1 : A.natAbs ≤ 200) (B1 : B.natAbs ≤ 200) :
    ∀ d : Nat, d < 200 → (∀ j : Int, (d + 1 : Int) < j → j ≤ 200 → ¬ (j ∣ A ∧ j ∣ B)) → ∃ g : Nat, iv_Gd A B g ∧ ∀ post : Int32 → Prop, post (nI g) → wX_greatestCommonDivisor_4 post (iv_z A) (iv_z B) (d + 1) (nI (d + 1)) := by
  intro d
  induction d with
  | zero =>
    intro _ h
    exact ⟨1, ⟨by omega, by omega, ⟨A, by omega⟩, ⟨B, by omega⟩, fun j a b => h j (by omega) b⟩, fun post hp => br_t (nI_le (b := 1) (by omega) (by omega)) hp⟩
  | succ d ih =>
    intro hd h
    have ha := iv_tb (a := A) (m := d + 1 + 1) 200 A1
    have hb := iv_tb (a := B) (m := d + 1 + 1) 200 B1
    by_cases z : ((d + 1 + 1 : Nat) : Int) ∣ A ∧ ((d + 1 + 1 : Nat) : Int) ∣ B
    · refine ⟨d + 1 + 1, ⟨by omega, by omega, z.1, z.2, fun j a b => h j (by omega) b⟩, fun post hp => ?_⟩
      refine br_f (nI_ge (a := 1) (by omega) (by omega)) ⟨nI_ne0 (by omega) (by omega), ?_⟩
      refine iv_beq (A.tmod (d + 1 + 1 : Nat)) 0 (fun _ => ⟨nI_ne0 (by omega) (by omega), ?_⟩) (fun e => absurd (Int.tmod_eq_zero_of_dvd z.1) e) (iv_rm (by omega) (by omega) (by omega)) iv_k0
      exact iv_beq (B.tmod (d + 1 + 1 : Nat)) 0 (fun _ => hp) (fun e => absurd (Int.tmod_eq_zero_of_dvd z.2) e) (iv_rm (by omega) (by omega) (by omega)) iv_k0
    · obtain ⟨g, hg, hk⟩ := ih (by omega) (fun j a b => by
        by_cases y : j = ((d + 1 + 1 : Nat) : Int)
        · rw [y]; exact z
        · exact h j (by omega) b)
      refine ⟨g, hg, fun post hp => ?_⟩
      refine br_f (nI_ge (a := 1) (by omega) (by omega)) ⟨nI_ne0 (by omega) (by omega), ?_⟩
      refine iv_beq (A.tmod (d + 1 + 1 : Nat)) 0 (fun e1 => ⟨nI_ne0 (by omega) (by omega), ?_⟩) (fun _ => nm_r (iv_m1 (d + 1)) (hk post hp)) (iv_rm (by omega) (by omega) (by omega)) iv_k0
      exact iv_beq (B.tmod (d + 1 + 1 : Nat)) 0 (fun e2 => absurd ⟨Int.dvd_of_tmod_eq_zero e1, Int.dvd_of_tmod_eq_zero e2⟩ z) (fun _ => nm_r (iv_m1 (d + 1)) (hk post hp)) (iv_rm (by omega) (by omega) (by omega)) iv_k0
theorem iv_xGd {A B : Int} (A1 : A.natAbs ≤ 200) (B1 : B.natAbs ≤ 200) : ∃ g : Nat, iv_Gd A B g ∧ ∀ post : Int32 → Prop, post (nI g) → wpX_greatestCommonDivisor post (iv_z A) (iv_z B) := by
  obtain ⟨g, hg, hk⟩ := iv_xGd_l A1 B1 199 (by omega) (fun j a b => absurd a (by omega))
  exact ⟨g, hg, fun post hp => Exists.intro 200 (hk post hp)⟩
/-- line and slope of a pair: one answer each, the least line's -/
theorem iv_xLn {c x y : Nat} {G : Nat → Int} (hc : c ≤ 100) (hG : iv_ok G) (hx : x < 4) (hy : y < 4) (hxy : x ≠ y) :
    ∃ P Q : Int, iv_S (iv_v G x) (iv_v G y) c P Q ∧ P.natAbs ≤ 200 ∧ Q.natAbs ≤ 200 ∧ (∀ post : Int32 → Prop, post (iv_z P) → wpX_line post (nI c, iv_A G) (nI x) (nI y)) ∧ (∀ post : Int32 → Prop, post (iv_z Q) → wpX_slope post (nI c, iv_A G) (nI x) (nI y)) := by
  obtain ⟨lo, sLo, wLo⟩ := iv_xLo hc hG hx
  obtain ⟨hi, sHi, wHi⟩ := iv_xHi hc hG hx
  have l1 : lo < 100 := by have := sLo.1; omega
  have l2 : hi < 100 := by have := sHi.1; omega
  have b1 := iv_vb hG x lo
  have b2 := iv_vb hG x hi
  have b3 := iv_vb hG y lo
  have b4 := iv_vb hG y hi
  have wA := iv_xWy hx l1 l2 wLo wHi
  have wB := iv_xWy hy l1 l2 wLo wHi
  generalize eA : iv_v G x hi - iv_v G x lo = A at wA
  generalize eB : iv_v G y hi - iv_v G y lo = B at wB
  have zero : iv_S (iv_v G x) (iv_v G y) c 0 0 → (∀ post : Int32 → Prop, post 0 → wpX_line post (nI c, iv_A G) (nI x) (nI y)) →
      ∃ P Q : Int, iv_S (iv_v G x) (iv_v G y) c P Q ∧ P.natAbs ≤ 200 ∧ Q.natAbs ≤ 200 ∧ (∀ post : Int32 → Prop, post (iv_z P) → wpX_line post (nI c, iv_A G) (nI x) (nI y)) ∧ (∀ post : Int32 → Prop, post (iv_z Q) → wpX_slope post (nI c, iv_A G) (nI x) (nI y)) := by
    intro hS hL
    refine ⟨0, 0, hS, by omega, by omega, fun post hp => hL post (by rw [iv_k0]; exact hp), fun post hp => ?_⟩
    unfold wpX_slope
    dsimp only
    exact hL _ (br_t rfl (by rw [iv_k0]; exact hp))
  by_cases z : A = 0
  · refine zero (iv_S_const (fun i hi' => ?_)) (fun post hp => ?_)
    · have h1 := sLo.2 i hi'
      have h2 := sHi.2 i hi'
      have h3 := sLo.2 0 (by omega)
      have h4 := sHi.2 0 (by omega)
      omega
    · unfold wpX_line
      dsimp only
      exact iv_xPr hx hy hxy (br_f iv_1ne (wA _ (wB _ (br_t (by rw [z]; exact iv_k0.symm) hp))))
  · have hA0 : ¬ iv_z A = 0 := by
      rw [iv_k0, iv_eq (by omega) (by omega) (by omega) (by omega)]; exact z
    have c0 : 0 < c := by
      rcases Nat.eq_zero_or_pos c with y | y
      · have h1 := sLo.1
        have h2 := sHi.1
        have h3 : lo = 0 := by omega
        have h4 : hi = 0 := by omega
        rw [h3, h4] at eA
        omega
      · exact y
    have lc : lo < c := by have := sLo.1; omega
    have hic : hi < c := by have := sHi.1; omega
    have hA : 0 < A := by
      have := sLo.2 hi hic
      omega
    by_cases z2 : B = 0
    · refine zero (iv_S_X0 lc hic eA.symm eB.symm hA (Or.inl z2)) (fun post hp => ?_)
      unfold wpX_line
      dsimp only
      exact iv_xPr hx hy hxy (br_f iv_1ne (wA _ (wB _ (br_f hA0 (br_t (by rw [z2]; exact iv_k0.symm) hp)))))
    · have hB0 : ¬ iv_z B = 0 := by
        rw [iv_k0, iv_eq (by omega) (by omega) (by omega) (by omega)]; exact z2
      by_cases on : ∀ i, i < c → (iv_v G y i - iv_v G y 0) * A = (iv_v G x i - iv_v G x 0) * B
      · obtain ⟨g, hg, wG⟩ := iv_xGd (A := A) (B := B) (by omega) (by omega)
        obtain ⟨g1, g2, g3, g4, g5⟩ := hg
        have hS := iv_S_X lc hic eA.symm eB.symm hA (by omega) z2 on g1 g3 g4 g5
        have hg0 : ¬ nI g = 0 := nI_ne0 (by omega) (by omega)
        have q1 := iv_bq (a := A) (b := (g : Int)) (M := 200) (by omega) (by omega)
        have q2 := iv_bq (a := B) (b := (g : Int)) (M := 200) (by omega) (by omega)
        have eP : iv_z A / nI g = iv_z (A.tdiv g) := by rw [iv_n, iv_div (by omega) (by omega) (by omega) (by omega)]
        have eQ : iv_z B / nI g = iv_z (B.tdiv g) := by rw [iv_n, iv_div (by omega) (by omega) (by omega) (by omega)]
        have wL : ∀ post : Int32 → Prop, post (iv_z (A.tdiv g)) → wpX_line post (nI c, iv_A G) (nI x) (nI y) := fun post hp => by
          unfold wpX_line
          dsimp only
          exact iv_xPr hx hy hxy (br_f iv_1ne (wA _ (wB _ (br_f hA0 (br_f hB0 (iv_xOn hc c0 hG hx hy (by omega) (by omega) (fun _ => br_f iv_1ne (wG _ ⟨hg0, by rw [eP]; exact hp⟩)) (fun n => absurd on n)))))))
        refine ⟨A.tdiv g, B.tdiv g, hS, by omega, by omega, wL, fun post hp => ?_⟩
        unfold wpX_slope
        dsimp only
        refine wL _ (br_f ?_ (wA _ (wB _ (wG _ ⟨hg0, by rw [eQ]; exact hp⟩))))
        rcases hS with ⟨s1, s2, s3⟩ | ⟨s1, _⟩
        · exfalso
          have t1 := Int.tdiv_mul_cancel g3
          rw [s1] at t1
          omega
        · have := s1.1
          rw [iv_k0, iv_eq (by omega) (by omega) (by omega) (by omega)]
          omega
      · refine zero (iv_S_X0 lc hic eA.symm eB.symm hA (Or.inr ?_)) (fun post hp => ?_)
        · exact Classical.byContradiction (fun n => on (fun i hi' => Classical.byContradiction (fun m => n ⟨i, hi', m⟩)))
        · unfold wpX_line
          dsimp only
          exact iv_xPr hx hy hxy (br_f iv_1ne (wA _ (wB _ (br_f hA0 (br_f hB0 (iv_xOn hc c0 hG hx hy (by omega) (by omega) (fun n => absurd n on) (fun _ => br_t rfl hp)))))))
theorem iv_xLnN {post : Int32 → Prop} {u : SX} {p q : Int32} (hp : iv_np p q) (h : post 0) : wpX_line post u p q := by
  obtain ⟨f, a⟩ := u
  unfold wpX_line
  dsimp only
  exact iv_xPrN hp (br_t rfl h)
theorem iv_xSlN {post : Int32 → Prop} {u : SX} {p q : Int32} (hp : iv_np p q) (h : post 0) : wpX_slope post u p q := by
  obtain ⟨f, a⟩ := u
  unfold wpX_slope
  dsimp only
  exact iv_xLnN hp (br_t rfl h)
theorem iv_xRiN {post : Int32 → Prop} {u : SX} {p q : Int32} (hp : iv_np p q) (h : post 0) : wpX_rise post u p q := by
  obtain ⟨f, a⟩ := u
  unfold wpX_rise
  dsimp only
  exact iv_xLnN hp (br_t rfl h)
theorem iv_xRi {post : Int32 → Prop} {c x y : Nat} {G : Nat → Int} {P Q : Int} (hx : x < 4) (hy : y < 4) (P1 : P.natAbs ≤ 200)
    (wL : ∀ post : Int32 → Prop, post (iv_z P) → wpX_line post (nI c, iv_A G) (nI x) (nI y)) (wS : ∀ post : Int32 → Prop, post (iv_z Q) → wpX_slope post (nI c, iv_A G) (nI x) (nI y))
    (h0 : P = 0 → post 0) (h1 : P ≠ 0 → post (iv_z (P * iv_v G y 0 - Q * iv_v G x 0))) : wpX_rise post (nI c, iv_A G) (nI x) (nI y) := by
  unfold wpX_rise
  dsimp only
  refine wL _ (iv_beq P 0 (fun e => h0 e) (fun e => wS _ (iv_xV (i := 0) (by omega) hy (iv_xV (i := 0) (by omega) hx ?_))) rfl iv_k0)
  rw [iv_mul, iv_mul, iv_sub]
  exact h1 e
