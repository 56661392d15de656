/-! the walks of the reference, second half -/
theorem iv_yVA {post : Int32 → SY → Prop} {c x : Nat} {G : Nat → Int} {p q r : Int32} {few : Nat → Int32} {k : Int32} (hc : c ≤ 100) (hG : iv_ok G) (hx : x < 4)
    (hp : ∀ d F, iv_E (iv_v G x) c d F → ((3 < d ∨ k < 0 ∨ nI d ≤ k) → post (-1000) (nI c, p, q, r, iv_A G, iv_A F)) ∧ (∀ K, k = nI K → K < d → d < 4 → ∃ m R, iv_C (iv_v G x) c (K + 1) m R ∧ m K = R ∧ post (iv_z R) (nI c, p, q, r, iv_A G, iv_A F))) : wpY_valueAt post (nI c, p, q, r, iv_A G, few) (nI x) k := by
  unfold wpY_valueAt
  dsimp only
  refine iv_yDf hc hG hx (fun d F hE => ?_)
  obtain ⟨h1, h2⟩ := hp d F hE
  have hd := hE.1
  dsimp only
  by_cases a : 3 < d
  · exact br_t (nI_lt (a := 3) a (by omega)) (h1 (Or.inl a))
  · refine br_f (nI_nlt (a := 3) (by omega) (by omega)) ?_
    by_cases b : k < 0
    · exact br_t b (h1 (Or.inr (Or.inl b)))
    · refine br_f b ?_
      obtain ⟨K, hK, rfl⟩ := nI_of b
      by_cases e : K < d
      · obtain ⟨m, R, hC, hm, hpost⟩ := h2 K rfl e (by omega)
        exact br_t (nI_lt e (by omega)) (Exists.intro (d + 1) (iv_yVA_l hd hK (fun j hj => iv_E_r (iv_vb hG x) hE hj) (fun i hi => iv_rank hE (by omega) hC hm hi) (iv_rank_ex hE (by omega) hC hm) hpost d 0 (by omega) (fun t ht => absurd ht (by omega))))
      · exact br_f (nI_nlt (by omega) hK) (h1 (Or.inr (Or.inr (nI_le (by omega) hK))))
theorem iv_yVAN {post : Int32 → SY → Prop} {u : SY} {p q : Int32} (hp : iv_nv p) (h : post (-1000) u) : wpY_valueAt post u p q := by
  obtain ⟨f1, f2, f3, f4, a, b⟩ := u
  unfold wpY_valueAt
  dsimp only
  refine iv_yDfN hp ?_
  dsimp only
  refine br_f (by decide) ?_
  by_cases b : q < 0
  · exact br_t b h
  · refine br_f b (br_f (fun z => b ?_) h)
    rw [Int32.lt_iff_toInt_lt] at z ⊢
    have e1 : (-1 : Int32).toInt = -1 := by decide
    have e2 : (0 : Int32).toInt = 0 := by decide
    omega
theorem iv_md {a : Int} {m : Nat} (a1 : -100 ≤ a) (a2 : a ≤ 100) (m0 : 0 < m) (hm : m ≤ 200) : (iv_z a - iv_z a / nI m * nI m + nI m) - (iv_z a - iv_z a / nI m * nI m + nI m) / nI m * nI m = iv_z (a % m) := by
  have hb := iv_tb (a := a) (m := m) 100 (by omega)
  have e : iv_z (a.tmod m) + nI m = iv_z (a.tmod m + m) := by rw [iv_n, iv_add]
  rw [iv_rm (by omega) (by omega) hm, e, iv_rm (by omega) (by omega) hm, iv_modu (by omega)]
theorem iv_yMd {post : Int32 → Prop} {u : SY} {a : Int} {m : Nat} (a1 : -100 ≤ a) (a2 : a ≤ 100) (m0 : 0 < m) (hm : m ≤ 200) (h : post (iv_z (a % m))) : wpY_modulo post u (iv_z a) (nI m) := by
  obtain ⟨f1, f2, f3, f4, b, b'⟩ := u
  refine And.intro (nI_ne0 m0 (by omega)) (And.intro (nI_ne0 m0 (by omega)) ?_)
  rw [iv_md a1 a2 m0 hm]
  exact h
theorem iv_yMo_i {post : Int32 → SY → Prop} {J : Int32 → Prop} {c x m : Nat} {G : Nat → Int} {p q r : Int32} {few : Nat → Int32} (hc : c ≤ 100) (hG : iv_ok G) (hx : x < 4) (hm : m < 200)
    (h1 : iv_Sm (iv_v G x) c (m + 1 : Nat) → post (nI (m + 1)) (nI c, p, q, r, iv_A G, few)) (h0 : ¬ iv_Sm (iv_v G x) c (m + 1 : Nat) → J (nI m)) :
    ∀ (d i : Nat) (z : Int32), i + d = c → iv_B (∀ j, j < i → ((m + 1 : Nat) : Int) ∣ iv_v G x j - iv_v G x 0) z → wY_modulus_35 post J (nI x) (nI (m + 1)) (nI c) p q r (iv_A G) few (d + 1) z (nI i) := by
  intro d
  induction d with
  | zero =>
    intro i z hi h
    obtain rfl : i = c := by omega
    refine br_t (nI_le (by omega) (by omega)) ?_
    rcases h with ⟨rfl, h⟩ | ⟨rfl, h⟩
    · exact br_f iv_1ne (h1 h)
    · exact br_t rfl (nm_r (iv_m1 m) (h0 h))
  | succ d ih =>
    intro i z hi h
    have hv := iv_vb hG x i
    have hw := iv_vb hG x 0
    refine br_f (nI_ge (by omega) (by omega)) ?_
    rcases h with ⟨rfl, h⟩ | ⟨rfl, h⟩
    · refine br_f iv_1ne ⟨iv_in (by omega) hx, ?_⟩
      rw [iv_yR G (by omega) hx]
      refine iv_yMd hv.1 hv.2 (by omega) (by omega) ⟨iv_in0 hx, ?_⟩
      rw [iv_yR0 G hx]
      refine iv_yMd hw.1 hw.2 (by omega) (by omega) ?_
      have m1 := Int.emod_nonneg (iv_v G x i) (b := ((m + 1 : Nat) : Int)) (by omega)
      have m2 := Int.emod_lt_of_pos (iv_v G x i) (b := ((m + 1 : Nat) : Int)) (by omega)
      have m3 := Int.emod_nonneg (iv_v G x 0) (b := ((m + 1 : Nat) : Int)) (by omega)
      have m4 := Int.emod_lt_of_pos (iv_v G x 0) (b := ((m + 1 : Nat) : Int)) (by omega)
      refine iv_beq (iv_v G x i % ((m + 1 : Nat) : Int)) (iv_v G x 0 % ((m + 1 : Nat) : Int)) (fun e => ?_) (fun e => ?_)
      · exact nm_r (nI_1 i) (ih (i + 1) 1 (by omega) (Or.inl ⟨rfl, iv_all_s h (iv_dvd.mp e)⟩))
      · exact nm_r (nI_1 i) (ih (i + 1) 0 (by omega) (Or.inr ⟨rfl, fun y => e (iv_dvd.mpr (y i (by omega)))⟩))
    · exact br_t rfl (nm_r (nI_1 i) (ih (i + 1) 0 (by omega) (Or.inr ⟨rfl, fun y => h (iv_all_p y)⟩)))
theorem iv_yMo_l {post : Int32 → SY → Prop} {c x : Nat} {G : Nat → Int} {p q r : Int32} {few : Nat → Int32} (hc : c ≤ 100) (hG : iv_ok G) (hx : x < 4) (hp : ∀ M : Nat, M ≤ 200 → iv_Mo (iv_v G x) c M → post (nI M) (nI c, p, q, r, iv_A G, few)) :
    ∀ d : Nat, d < 200 → (∀ j : Int, (d + 1 : Int) < j → j ≤ 200 → ¬ iv_Sm (iv_v G x) c j) → wY_modulus_25 post (nI x) (nI c) p q r (iv_A G) few (d + 1) (nI (d + 1)) := by
  intro d
  induction d with
  | zero =>
    intro _ h
    exact br_t (nI_lt (b := 2) (by omega) (by omega)) (hp 1 (by omega) (Or.inr ⟨rfl, fun m a b => h m (by omega) b⟩))
  | succ d ih =>
    intro hd h
    refine br_f (nI_nlt (b := 2) (by omega) (by omega)) (Exists.intro (c + 1) (iv_yMo_i hc hG hx (by omega) (fun a => ?_) (fun a => ?_) c 0 1 (by omega) (Or.inl ⟨rfl, fun j hj => absurd hj (by omega)⟩)))
    · exact hp (d + 1 + 1) (by omega) (Or.inl ⟨by omega, by omega, a, fun m b => h m (by omega)⟩)
    · refine ih (by omega) (fun j b e => ?_)
      by_cases z : j = ((d + 1 + 1 : Nat) : Int)
      · rw [z]; exact a
      · exact h j (by omega) e
theorem iv_yMo {post : Int32 → SY → Prop} {c x : Nat} {G : Nat → Int} {p q r : Int32} {few : Nat → Int32} (hc : c ≤ 100) (hG : iv_ok G) (hx : x < 4)
    (hp : ∀ d F, iv_E (iv_v G x) c d F → (d < 2 → post 0 (nI c, p, q, r, iv_A G, iv_A F)) ∧ (2 ≤ d → ∀ M : Nat, M ≤ 200 → iv_Mo (iv_v G x) c M → post (nI M) (nI c, p, q, r, iv_A G, iv_A F))) : wpY_modulus post (nI c, p, q, r, iv_A G, few) (nI x) := by
  unfold wpY_modulus
  dsimp only
  refine iv_yIs hx (br_f iv_1ne (iv_yDf hc hG hx (fun d F hE => ?_)))
  obtain ⟨h1, h2⟩ := hp d F hE
  have hd := hE.1
  dsimp only
  by_cases a : 2 ≤ d
  · exact br_t (nI_le (a := 2) a (by omega)) (Exists.intro 200 (iv_yMo_l hc hG hx (h2 a) 199 (by omega) (fun j b e => absurd b (by omega))))
  · exact br_f (nI_ge (b := 2) (by omega) (by omega)) (h1 (by omega))
theorem iv_yMoN {post : Int32 → SY → Prop} {u : SY} {p : Int32} (hp : iv_nv p) (h : post (-1) u) : wpY_modulus post u p := by
  obtain ⟨f1, f2, f3, f4, a, b⟩ := u
  unfold wpY_modulus
  dsimp only
  exact iv_yIsN hp (br_t rfl h)
theorem iv_yRm {post : Int32 → SY → Prop} {c x : Nat} {G : Nat → Int} {p q r : Int32} {few : Nat → Int32} (hc : c ≤ 100) (hG : iv_ok G) (hx : x < 4)
    (hp : ∀ d F, iv_E (iv_v G x) c d F → (d < 2 → post (-1000) (nI c, p, q, r, iv_A G, iv_A F)) ∧ (2 ≤ d → ∀ M : Nat, M ≤ 200 → iv_Mo (iv_v G x) c M → (M < 2 → post (-1000) (nI c, p, q, r, iv_A G, iv_A F)) ∧ (2 ≤ M → post (iv_z (iv_v G x 0 % M)) (nI c, p, q, r, iv_A G, iv_A F)))) : wpY_remainder post (nI c, p, q, r, iv_A G, few) (nI x) := by
  unfold wpY_remainder
  dsimp only
  refine iv_yMo hc hG hx (fun d F hE => ?_)
  obtain ⟨h1, h2⟩ := hp d F hE
  refine ⟨fun a => ?_, fun a M hM hMo => ?_⟩
  · dsimp only
    exact br_t (by decide) (h1 a)
  · obtain ⟨h3, h4⟩ := h2 a M hM hMo
    have hw := iv_vb hG x 0
    dsimp only
    by_cases b : 2 ≤ M
    · refine br_f (nI_nlt (b := 2) b (by omega)) ⟨iv_in0 hx, ?_⟩
      rw [iv_yR0 G hx]
      exact iv_yMd hw.1 hw.2 (by omega) hM (h4 b)
    · exact br_t (nI_lt (b := 2) (by omega) (by omega)) (h3 (by omega))
theorem iv_yRmN {post : Int32 → SY → Prop} {u : SY} {p : Int32} (hp : iv_nv p) (h : post (-1000) u) : wpY_remainder post u p := by
  obtain ⟨f1, f2, f3, f4, a, b⟩ := u
  unfold wpY_remainder
  dsimp only
  refine iv_yMoN hp ?_
  dsimp only
  exact br_t (by decide) h
theorem iv_yHo {post : Int32 → Prop} {u : SY} {a b : Int} {t : Nat} (a1 : -100 ≤ a) (a2 : a ≤ 100) (b1 : -100 ≤ b) (b2 : b ≤ 100) (ht : t ≤ 3) (h1 : iv_H t a b → post 1) (h0 : ¬ iv_H t a b → post 0) : wpY_holds post u (iv_z a) (iv_z b) (nI t) := by
  obtain ⟨f1, f2, f3, f4, k, k'⟩ := u
  rcases (by omega : t = 0 ∨ t = 1 ∨ t = 2 ∨ t = 3) with rfl | rfl | rfl | rfl
  · exact br_t rfl (iv_ble b a (fun e => h0 (by unfold iv_H; omega)) (fun e => h1 (by unfold iv_H; omega)))
  · exact br_f (by decide) (br_t rfl (iv_blt b a (fun e => h0 (by unfold iv_H; omega)) (fun e => h1 (by unfold iv_H; omega))))
  · exact br_f (by decide) (br_f (by decide) (br_t rfl (iv_beq a b (fun e => h1 (by unfold iv_H; omega)) (fun e => h0 (by unfold iv_H; omega)))))
  · exact br_f (by decide) (br_f (by decide) (br_f (by decide) (iv_beq a b (fun e => h0 (by unfold iv_H; omega)) (fun e => h1 (by unfold iv_H; omega)))))
theorem iv_yRe_l {post : Int32 → Prop} {c x y t : Nat} {G : Nat → Int} {p q r : Int32} {few : Nat → Int32} (hc : c ≤ 100) (hG : iv_ok G) (hx : x < 4) (hy : y < 4) (ht : t ≤ 3) (h1 : (∀ i, i < c → iv_H t (iv_v G x i) (iv_v G y i)) → post 1) (h0 : ¬ (∀ i, i < c → iv_H t (iv_v G x i) (iv_v G y i)) → post 0) :
    ∀ (d i : Nat) (z : Int32), i + d = c → iv_B (∀ j, j < i → iv_H t (iv_v G x j) (iv_v G y j)) z → wY_relation_38 post (nI x) (nI y) (nI t) (nI c) p q r (iv_A G) few (d + 1) z (nI i) := by
  intro d
  induction d with
  | zero =>
    intro i z hi h
    obtain rfl : i = c := by omega
    refine br_t (nI_le (by omega) (by omega)) ?_
    rcases h with ⟨rfl, h⟩ | ⟨rfl, h⟩
    · exact ⟨rfl, h1 h⟩
    · exact ⟨rfl, h0 h⟩
  | succ d ih =>
    intro i z hi h
    have hv := iv_vb hG x i
    have hw := iv_vb hG y i
    refine br_f (nI_ge (by omega) (by omega)) ?_
    rcases h with ⟨rfl, h⟩ | ⟨rfl, h⟩
    · refine br_f iv_1ne ⟨iv_in (by omega) hx, iv_in (by omega) hy, ?_⟩
      rw [iv_yR G (by omega) hx, iv_yR G (by omega) hy]
      refine iv_yHo hv.1 hv.2 hw.1 hw.2 ht (fun e => ?_) (fun e => ?_)
      · exact br_f iv_1ne (nm_r (nI_1 i) (ih (i + 1) 1 (by omega) (Or.inl ⟨rfl, iv_all_s h e⟩)))
      · exact br_t rfl (nm_r (nI_1 i) (ih (i + 1) 0 (by omega) (Or.inr ⟨rfl, fun w => e (w i (by omega))⟩)))
    · exact br_t rfl (nm_r (nI_1 i) (ih (i + 1) 0 (by omega) (Or.inr ⟨rfl, fun w => h (iv_all_p w)⟩)))
theorem iv_yRe {post : Int32 → Prop} {c x y t : Nat} {G : Nat → Int} {p q r : Int32} {few : Nat → Int32} (hc : c ≤ 100) (hG : iv_ok G) (hx : x < 4) (hy : y < 4) (hxy : x ≠ y) (ht : t ≤ 3) (h1 : (∀ i, i < c → iv_H t (iv_v G x i) (iv_v G y i)) → post 1) (h0 : ¬ (∀ i, i < c → iv_H t (iv_v G x i) (iv_v G y i)) → post 0) : wpY_relation post (nI c, p, q, r, iv_A G, few) (nI x) (nI y) (nI t) := by
  unfold wpY_relation
  dsimp only
  exact iv_yIs hx (br_f iv_1ne (iv_yIs hy (br_f iv_1ne (br_f (fun e => hxy ((nI_eq (by omega) (by omega)).mp e)) (br_f (nI_pos (by omega)) (br_t (nI_le (b := 3) ht (by omega)) (Exists.intro (c + 1) (iv_yRe_l hc hG hx hy ht h1 h0 c 0 1 (by omega) (Or.inl ⟨rfl, fun j hj => absurd hj (by omega)⟩)))))))))
theorem iv_yOf_l {post : Int32 → Prop} {c x y : Nat} {G : Nat → Int} {p q r : Int32} {few : Nat → Int32} {k : Int} (hc : c ≤ 100) (hG : iv_ok G) (hx : x < 4) (hy : y < 4) (k1 : -200 ≤ k) (k2 : k ≤ 200) (h1 : (∀ i, i < c → iv_v G y i - iv_v G x i = k) → post (iv_z k)) (h0 : ¬ (∀ i, i < c → iv_v G y i - iv_v G x i = k) → post (-1000)) :
    ∀ (d i : Nat) (z : Int32), i + d = c → iv_B (∀ j, j < i → iv_v G y j - iv_v G x j = k) z → wY_offset_52 post (nI x) (nI y) (iv_z k) (nI c) p q r (iv_A G) few (d + 1) z (nI i) := by
  intro d
  induction d with
  | zero =>
    intro i z hi h
    obtain rfl : i = c := by omega
    refine br_t (nI_le (by omega) (by omega)) ?_
    rcases h with ⟨rfl, h⟩ | ⟨rfl, h⟩
    · exact br_f iv_1ne (h1 h)
    · exact br_t rfl (h0 h)
  | succ d ih =>
    intro i z hi h
    have hv := iv_vb hG x i
    have hw := iv_vb hG y i
    refine br_f (nI_ge (by omega) (by omega)) ?_
    rcases h with ⟨rfl, h⟩ | ⟨rfl, h⟩
    · refine br_f iv_1ne ⟨iv_in (by omega) hy, iv_in (by omega) hx, iv_beq (iv_v G y i) (iv_v G x i + k) (fun e => ?_) (fun e => ?_) (iv_yR G (by omega) hy) (by rw [iv_yR G (by omega) hx, iv_add])⟩
      · exact nm_r (nI_1 i) (ih (i + 1) 1 (by omega) (Or.inl ⟨rfl, iv_all_s h (by omega)⟩))
      · exact nm_r (nI_1 i) (ih (i + 1) 0 (by omega) (Or.inr ⟨rfl, fun w => e (by have := w i (by omega); omega)⟩))
    · exact br_t rfl (nm_r (nI_1 i) (ih (i + 1) 0 (by omega) (Or.inr ⟨rfl, fun w => h (iv_all_p w)⟩)))
theorem iv_yOf {post : Int32 → Prop} {c x y : Nat} {G : Nat → Int} {p q r : Int32} {few : Nat → Int32} (hc : c ≤ 100) (hG : iv_ok G) (hx : x < 4) (hy : y < 4) (hxy : x ≠ y) (hz : c = 0 → post (-1000)) (h1 : 0 < c → (∀ i, i < c → iv_v G y i - iv_v G x i = iv_v G y 0 - iv_v G x 0) → post (iv_z (iv_v G y 0 - iv_v G x 0))) (h0 : 0 < c → ¬ (∀ i, i < c → iv_v G y i - iv_v G x i = iv_v G y 0 - iv_v G x 0) → post (-1000)) : wpY_offset post (nI c, p, q, r, iv_A G, few) (nI x) (nI y) := by
  unfold wpY_offset
  dsimp only
  refine iv_yIs hx (br_f iv_1ne (iv_yIs hy (br_f iv_1ne (br_f (fun e => hxy ((nI_eq (by omega) (by omega)).mp e)) ?_))))
  rcases Nat.eq_zero_or_pos c with z | z
  · subst z
    exact br_t rfl (hz rfl)
  · have hv := iv_vb hG x 0
    have hw := iv_vb hG y 0
    refine br_f (nI_ne0 z (by omega)) ⟨iv_in0 hy, iv_in0 hx, nm_r (by rw [iv_yR0 G hy, iv_yR0 G hx, iv_sub]) ?_⟩
    exact Exists.intro (c + 1) (iv_yOf_l hc hG hx hy (by omega) (by omega) (h1 z) (h0 z) c 0 1 (by omega) (Or.inl ⟨rfl, fun j hj => absurd hj (by omega)⟩))
theorem iv_yOfN {post : Int32 → Prop} {u : SY} {p q : Int32} (hp : iv_np p q) (h : post (-1000)) : wpY_offset post u p q := by
  obtain ⟨f1, f2, f3, f4, a, b⟩ := u
  unfold wpY_offset
  dsimp only
  rcases hp with a | ⟨⟨x, hx, rfl⟩, b⟩ | ⟨⟨x, hx, rfl⟩, rfl⟩
  · exact iv_yIsN a (br_t rfl h)
  · exact iv_yIs hx (br_f iv_1ne (iv_yIsN b (br_t rfl h)))
  · exact iv_yIs hx (br_f iv_1ne (iv_yIs hx (br_f iv_1ne (br_t rfl h))))
theorem iv_ySu_l {post : Int32 → Prop} {c x y z : Nat} {G : Nat → Int} {p q r : Int32} {few : Nat → Int32} (hc : c ≤ 100) (hG : iv_ok G) (hx : x < 4) (hy : y < 4) (hz : z < 4) (h1 : (∀ i, i < c → iv_v G x i + iv_v G y i = iv_v G z i) → post 1) (h0 : ¬ (∀ i, i < c → iv_v G x i + iv_v G y i = iv_v G z i) → post 0) :
    ∀ (d i : Nat) (b : Int32), i + d = c → iv_B (∀ j, j < i → iv_v G x j + iv_v G y j = iv_v G z j) b → wY_sums_34 post (nI x) (nI y) (nI z) (nI c) p q r (iv_A G) few (d + 1) b (nI i) := by
  intro d
  induction d with
  | zero =>
    intro i b hi h
    obtain rfl : i = c := by omega
    refine br_t (nI_le (by omega) (by omega)) ?_
    rcases h with ⟨rfl, h⟩ | ⟨rfl, h⟩
    · exact ⟨rfl, h1 h⟩
    · exact ⟨rfl, h0 h⟩
  | succ d ih =>
    intro i b hi h
    have hv := iv_vb hG x i
    have hw := iv_vb hG y i
    have hu := iv_vb hG z i
    refine br_f (nI_ge (by omega) (by omega)) ?_
    rcases h with ⟨rfl, h⟩ | ⟨rfl, h⟩
    · refine br_f iv_1ne ⟨iv_in (by omega) hx, iv_in (by omega) hy, iv_in (by omega) hz, iv_beq (iv_v G x i + iv_v G y i) (iv_v G z i) (fun e => ?_) (fun e => ?_) (by rw [iv_yR G (by omega) hx, iv_yR G (by omega) hy, iv_add]) (iv_yR G (by omega) hz)⟩
      · exact nm_r (nI_1 i) (ih (i + 1) 1 (by omega) (Or.inl ⟨rfl, iv_all_s h e⟩))
      · exact nm_r (nI_1 i) (ih (i + 1) 0 (by omega) (Or.inr ⟨rfl, fun w => e (w i (by omega))⟩))
    · exact br_t rfl ⟨rfl, h0 (fun w => h (fun j hj => w j (by omega)))⟩
