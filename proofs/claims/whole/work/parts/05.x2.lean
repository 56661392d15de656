/-! the walks of the component, second half -/
theorem iv_xLA0 {post : Int32 → Prop} {c x : Nat} {G : Nat → Int} (hc : c ≤ 100) (hG : iv_ok G) (hx : x < 4) (hp : ∀ r, iv_L (iv_v G x) c (-101) r → post (iv_z r)) : wpX_leastAbove post (nI c, iv_A G) (nI x) (-101) := by
  rw [iv_k101]
  exact iv_xLA hc hG hx (by omega) (by omega) hp
theorem iv_C_ne {v : Nat → Int} {c d i : Nat} {f m : Nat → Int} {l r : Int} (hE : iv_E v c d f) (hi : i < d) (hC : iv_C v c i m l) (hl : -1000 ≤ l) (hL : iv_L v c l r) : r ≠ -1000 := by
  intro e
  subst e
  have h := hE.1
  have := iv_E_u hE (iv_C_e hC hl hL (by omega))
  omega
theorem iv_xVA_l {post : Int32 → Prop} {c x d k : Nat} {G f : Nat → Int} (hc : c ≤ 100) (hG : iv_ok G) (hx : x < 4) (hE : iv_E (iv_v G x) c d f) (hk : k < d) (hp : ∀ m r, iv_C (iv_v G x) c (k + 1) m r → m k = r → post (iv_z r)) :
    ∀ (e i : Nat) (m : Nat → Int) (r : Int), i + e = k → -100 ≤ r → r ≤ 100 → iv_C (iv_v G x) c (i + 1) m r → m i = r → wX_valueAt_36 post (nI x) (nI k) (nI c) (iv_A G) (e + 1) (iv_z r) (nI i) := by
  have hd := hE.1
  intro e
  induction e with
  | zero =>
    intro i m r hi r1 r2 hC hm
    obtain rfl : i = k := by omega
    exact br_t (nI_le (by omega) (by omega)) (hp m r hC hm)
  | succ e ih =>
    intro i m r hi r1 r2 hC hm
    refine br_f (nI_ge (by omega) (by omega)) (iv_xLA hc hG hx (by omega) (by omega) (fun r' hr' => ?_))
    have ne := iv_C_ne hE (by omega : i + 1 < d) hC (by omega) hr'
    have hb := iv_L_r (iv_vb hG x) hr'
    exact nm_r (nI_1 i) (ih (i + 1) _ r' (by omega) (by omega) (by omega) (iv_C_s hC hr' ne) (if_pos rfl))
theorem iv_xVA {post : Int32 → Prop} {c x : Nat} {G : Nat → Int} {p : Int32} (hc : c ≤ 100) (hG : iv_ok G) (hx : x < 4)
    (hp : ∀ d m, iv_E (iv_v G x) c d m → ((3 < d ∨ p < 0 ∨ nI d ≤ p) → post (-1000)) ∧ (∀ k, p = nI k → k < d → d < 4 → ∀ m r, iv_C (iv_v G x) c (k + 1) m r → m k = r → post (iv_z r))) : wpX_valueAt post (nI c, iv_A G) (nI x) p := by
  unfold wpX_valueAt
  dsimp only
  refine iv_xDf hc hG hx (fun d m hE => ?_)
  obtain ⟨h1, h2⟩ := hp d m hE
  have hd := hE.1
  by_cases a : 3 < d
  · exact br_t (nI_lt (a := 3) a (by omega)) (h1 (Or.inl a))
  · refine br_f (nI_nlt (a := 3) (by omega) (by omega)) ?_
    by_cases b : p < 0
    · exact br_t b (h1 (Or.inr (Or.inl b)))
    · refine br_f b ?_
      obtain ⟨k, hk, rfl⟩ := nI_of b
      by_cases e : k < d
      · refine br_t (nI_lt e (by omega)) (iv_xLA0 hc hG hx (fun r hr => ?_))
        have hC0 := iv_C_0 (c := c) (fun i => (iv_vb hG x i).1) (fun _ => 0)
        have ne := iv_C_ne hE (by omega : 0 < d) hC0 (by omega) hr
        have hb := iv_L_r (iv_vb hG x) hr
        exact Exists.intro (k + 1) (iv_xVA_l hc hG hx hE e (h2 k rfl e (by omega)) k 0 _ r (by omega) (by omega) (by omega) (iv_C_s hC0 hr ne) (if_pos rfl))
      · exact br_f (nI_nlt (by omega) hk) (h1 (Or.inr (Or.inr (nI_le (by omega) hk))))
theorem iv_xVAN {post : Int32 → Prop} {u : SX} {p q : Int32} (hp : iv_nv p) (h : post (-1000)) : wpX_valueAt post u p q := by
  obtain ⟨f, a⟩ := u
  unfold wpX_valueAt
  dsimp only
  refine iv_xDfN hp (br_f (by decide) ?_)
  by_cases b : q < 0
  · exact br_t b h
  · refine br_f b (br_f (fun z => b ?_) h)
    rw [Int32.lt_iff_toInt_lt] at z ⊢
    have e1 : (-1 : Int32).toInt = -1 := by decide
    have e2 : (0 : Int32).toInt = 0 := by decide
    omega
/-- the rest of a difference -/
theorem iv_dr {a b : Int} {m : Nat} (a1 : -100 ≤ a) (a2 : a ≤ 100) (b1 : -100 ≤ b) (b2 : b ≤ 100) (hm : m ≤ 200) : iv_z a - iv_z b - (iv_z a - iv_z b) / nI m * nI m = iv_z ((a - b).tmod m) := by
  rw [iv_n, iv_sub, iv_rem (by omega) (by omega) (by omega) (by omega)]
theorem iv_rm {a : Int} {m : Nat} (a1 : -1000000 ≤ a) (a2 : a ≤ 1000000) (hm : m ≤ 200) : iv_z a - iv_z a / nI m * nI m = iv_z (a.tmod m) := by
  rw [iv_n, iv_rem (by omega) (by omega) (by omega) (by omega)]
theorem iv_tb {a : Int} {m : Nat} (M : Nat) (h : a.natAbs ≤ M) : (a.tmod m).natAbs ≤ M := by
  have h1 := Int.natAbs_tmod a m
  have h2 := Nat.mod_le a.natAbs (m : Int).natAbs
  omega
theorem iv_xLR_l {post : Int32 → Prop} {c x m : Nat} {G : Nat → Int} (hc : c ≤ 100) (hG : iv_ok G) (hx : x < 4) (m1 : 2 ≤ m) (m2 : m ≤ 200) (h1 : iv_Sm (iv_v G x) c m → post 1) (h0 : ¬ iv_Sm (iv_v G x) c m → post 0) :
    ∀ (d i : Nat), i + d = c → (∀ j, j < i → (m : Int) ∣ iv_v G x j - iv_v G x 0) → wX_leavesOneRemainder_2 post (nI x) (nI m) (nI c) (iv_A G) (d + 1) (nI i) := by
  intro d
  induction d with
  | zero =>
    intro i hi h
    obtain rfl : i = c := by omega
    exact br_t (nI_le (by omega) (by omega)) (h1 h)
  | succ d ih =>
    intro i hi h
    have hv := iv_vb hG x i
    have hw := iv_vb hG x 0
    have hb := iv_tb (a := iv_v G x i - iv_v G x 0) (m := m) 200 (by omega)
    refine br_f (nI_ge (by omega) (by omega)) (iv_xV (by omega) hx (iv_xV (i := 0) (by omega) hx ⟨nI_ne0 (by omega) (by omega), ?_⟩))
    refine iv_beq ((iv_v G x i - iv_v G x 0).tmod m) 0 (fun e => ?_) (fun e => ?_) (iv_dr hv.1 hv.2 hw.1 hw.2 m2) iv_k0
    · exact nm_r (nI_1 i) (ih (i + 1) (by omega) (iv_all_s h (Int.dvd_of_tmod_eq_zero e)))
    · exact h0 (fun z => e (Int.tmod_eq_zero_of_dvd (z i (by omega))))
theorem iv_xLR {post : Int32 → Prop} {c x m : Nat} {G : Nat → Int} (hc : c ≤ 100) (hG : iv_ok G) (hx : x < 4) (m1 : 2 ≤ m) (m2 : m ≤ 200) (h1 : iv_Sm (iv_v G x) c m → post 1) (h0 : ¬ iv_Sm (iv_v G x) c m → post 0) : wpX_leavesOneRemainder post (nI c, iv_A G) (nI x) (nI m) := by
  rcases Nat.eq_zero_or_pos c with z | z
  · subst z
    exact Exists.intro 1 (br_t (nI_le (b := 1) (by omega) (by omega)) (h1 (fun i hi => absurd hi (by omega))))
  · refine Exists.intro (c - 1 + 1) (iv_xLR_l hc hG hx m1 m2 h1 h0 (c - 1) 1 (by omega) (fun j hj => ?_))
    obtain rfl : j = 0 := by omega
    exact ⟨0, by omega⟩
theorem iv_xMo_l {post : Int32 → Prop} {c x : Nat} {G : Nat → Int} (hc : c ≤ 100) (hG : iv_ok G) (hx : x < 4) (hp : ∀ M : Nat, M ≤ 200 → iv_Mo (iv_v G x) c M → post (nI M)) :
    ∀ d : Nat, d < 200 → (∀ j : Int, (d + 1 : Int) < j → j ≤ 200 → ¬ iv_Sm (iv_v G x) c j) → wX_modulus_24 post (nI x) (nI c) (iv_A G) (d + 1) (nI (d + 1)) := by
  intro d
  induction d with
  | zero =>
    intro _ h
    exact br_t (nI_lt (b := 2) (by omega) (by omega)) (hp 1 (by omega) (Or.inr ⟨rfl, fun m a b => h m (by omega) b⟩))
  | succ d ih =>
    intro hd h
    refine br_f (nI_nlt (b := 2) (by omega) (by omega)) (iv_xLR hc hG hx (by omega) (by omega) (fun a => ?_) (fun a => ?_))
    · exact br_f iv_1ne (hp (d + 1 + 1) (by omega) (Or.inl ⟨by omega, by omega, a, fun m b => h m (by omega)⟩))
    · refine br_t rfl (nm_r (iv_m1 (d + 1)) (ih (by omega) (fun j b e => ?_)))
      by_cases z : j = ((d + 1 + 1 : Nat) : Int)
      · rw [z]; exact a
      · exact h j (by omega) e
theorem iv_nm1 {d : Nat} (h : d < 2 ^ 31) : ¬ nI d = -1 := by
  intro z
  have := nI_pos h
  rw [z] at this
  exact this (by decide)
theorem iv_xMo {post : Int32 → Prop} {c x : Nat} {G : Nat → Int} (hc : c ≤ 100) (hG : iv_ok G) (hx : x < 4)
    (hp : ∀ d m, iv_E (iv_v G x) c d m → (d < 2 → post 0) ∧ (2 ≤ d → ∀ M : Nat, M ≤ 200 → iv_Mo (iv_v G x) c M → post (nI M))) : wpX_modulus post (nI c, iv_A G) (nI x) := by
  unfold wpX_modulus
  dsimp only
  refine iv_xDf hc hG hx (fun d m hE => ?_)
  obtain ⟨h1, h2⟩ := hp d m hE
  have hd := hE.1
  refine br_f (iv_nm1 (by omega)) ?_
  by_cases a : 2 ≤ d
  · exact br_t (nI_le (a := 2) a (by omega)) (Exists.intro 200 (iv_xMo_l hc hG hx (h2 a) 199 (by omega) (fun j b e => absurd b (by omega))))
  · exact br_f (nI_ge (b := 2) (by omega) (by omega)) (h1 (by omega))
theorem iv_xMoN {post : Int32 → Prop} {u : SX} {p : Int32} (hp : iv_nv p) (h : post (-1)) : wpX_modulus post u p := by
  obtain ⟨f, a⟩ := u
  unfold wpX_modulus
  dsimp only
  exact iv_xDfN hp (br_t rfl h)
theorem iv_xRm {post : Int32 → Prop} {c x : Nat} {G : Nat → Int} (hc : c ≤ 100) (hG : iv_ok G) (hx : x < 4)
    (hp : ∀ d m, iv_E (iv_v G x) c d m → (d < 2 → post (-1000)) ∧ (2 ≤ d → ∀ M : Nat, M ≤ 200 → iv_Mo (iv_v G x) c M → (M < 2 → post (-1000)) ∧ (2 ≤ M → post (iv_z (iv_v G x 0 % M))))) : wpX_remainder post (nI c, iv_A G) (nI x) := by
  unfold wpX_remainder
  dsimp only
  refine iv_xMo hc hG hx (fun d m hE => ?_)
  obtain ⟨h1, h2⟩ := hp d m hE
  refine ⟨fun a => br_f (by decide) (h1 a), fun a M hM hMo => ?_⟩
  obtain ⟨h3, h4⟩ := h2 a M hM hMo
  have hw := iv_vb hG x 0
  by_cases b : 2 ≤ M
  · have hb := iv_tb (a := iv_v G x 0) (m := M) 100 (by omega)
    refine br_t (nI_le (a := 2) b (by omega)) (iv_xV (i := 0) (by omega) hx ⟨nI_ne0 (by omega) (by omega), nm_r (iv_rm (by omega) (by omega) hM) ?_⟩)
    refine iv_ble 0 ((iv_v G x 0).tmod M) (fun e => ?_) (fun e => ?_) iv_k0 rfl
    · rw [iv_modp (by omega : (0 : Int) < M) e]; exact h4 b
    · rw [iv_n, iv_add, iv_modn (by omega : (0 : Int) < M) e]; exact h4 b
  · exact br_f (nI_ge (b := 2) (by omega) (by omega)) (h3 (by omega))
theorem iv_xRmN {post : Int32 → Prop} {u : SX} {p : Int32} (hp : iv_nv p) (h : post (-1000)) : wpX_remainder post u p := by
  obtain ⟨f, a⟩ := u
  unfold wpX_remainder
  dsimp only
  exact iv_xMoN hp (br_f (by decide) h)
theorem iv_xRl {post : Int32 → Prop} {a b : Int} {t : Nat} (a1 : -100 ≤ a) (a2 : a ≤ 100) (b1 : -100 ≤ b) (b2 : b ≤ 100) (ht : t ≤ 3) (h1 : iv_H t a b → post 1) (h0 : ¬ iv_H t a b → post 0) : wpX_isRelated post (iv_z a) (iv_z b) (nI t) := by
  refine br_f (nI_pos (by omega)) ?_
  rcases (by omega : t = 0 ∨ t = 1 ∨ t = 2 ∨ t = 3) with rfl | rfl | rfl | rfl
  · exact br_f (by decide) (br_t rfl (iv_ble b a (fun e => h0 (by unfold iv_H; omega)) (fun e => h1 (by unfold iv_H; omega))))
  · exact br_f (by decide) (br_f (by decide) (br_t rfl (iv_blt b a (fun e => h0 (by unfold iv_H; omega)) (fun e => h1 (by unfold iv_H; omega)))))
  · exact br_f (by decide) (br_f (by decide) (br_f (by decide) (br_t rfl (iv_beq a b (fun e => h1 (by unfold iv_H; omega)) (fun e => h0 (by unfold iv_H; omega))))))
  · exact br_t (by decide) (iv_beq a b (fun e => h0 (by unfold iv_H; omega)) (fun e => h1 (by unfold iv_H; omega)))
theorem iv_xRH_l {post : Int32 → Prop} {c x y t : Nat} {G : Nat → Int} (hc : c ≤ 100) (hG : iv_ok G) (hx : x < 4) (hy : y < 4) (ht : t ≤ 3) (h1 : (∀ i, i < c → iv_H t (iv_v G x i) (iv_v G y i)) → post 1) (h0 : ¬ (∀ i, i < c → iv_H t (iv_v G x i) (iv_v G y i)) → post 0) :
    ∀ (d i : Nat), i + d = c → (∀ j, j < i → iv_H t (iv_v G x j) (iv_v G y j)) → wX_relationHolds_3 post (nI x) (nI y) (nI t) (nI c) (iv_A G) (d + 1) (nI i) := by
  intro d
  induction d with
  | zero =>
    intro i hi h
    obtain rfl : i = c := by omega
    exact br_t (nI_le (by omega) (by omega)) (h1 h)
  | succ d ih =>
    intro i hi h
    have hv := iv_vb hG x i
    have hw := iv_vb hG y i
    refine br_f (nI_ge (by omega) (by omega)) (iv_xV (by omega) hx (iv_xV (by omega) hy (iv_xRl hv.1 hv.2 hw.1 hw.2 ht (fun e => ?_) (fun e => ?_))))
    · exact br_f iv_1ne (nm_r (nI_1 i) (ih (i + 1) (by omega) (iv_all_s h e)))
    · exact br_t rfl (h0 (fun z => e (z i (by omega))))
theorem iv_xRH {post : Int32 → Prop} {c x y t : Nat} {G : Nat → Int} (hc : c ≤ 100) (hG : iv_ok G) (hx : x < 4) (hy : y < 4) (ht : t ≤ 3) (h1 : (∀ i, i < c → iv_H t (iv_v G x i) (iv_v G y i)) → post 1) (h0 : ¬ (∀ i, i < c → iv_H t (iv_v G x i) (iv_v G y i)) → post 0) : wpX_relationHolds post (nI c, iv_A G) (nI x) (nI y) (nI t) :=
  Exists.intro (c + 1) (iv_xRH_l hc hG hx hy ht h1 h0 c 0 (by omega) (fun j hj => absurd hj (by omega)))
theorem iv_xOf_l {post : Int32 → Prop} {c x y : Nat} {G : Nat → Int} {k : Int} (hc : c ≤ 100) (hG : iv_ok G) (hx : x < 4) (hy : y < 4) (k1 : -200 ≤ k) (k2 : k ≤ 200) (h1 : (∀ i, i < c → iv_v G y i - iv_v G x i = k) → post (iv_z k)) (h0 : ¬ (∀ i, i < c → iv_v G y i - iv_v G x i = k) → post (-1000)) :
    ∀ (d i : Nat), i + d = c → (∀ j, j < i → iv_v G y j - iv_v G x j = k) → wX_offset_36 post (nI x) (nI y) (iv_z k) (nI c) (iv_A G) (d + 1) (nI i) := by
  intro d
  induction d with
  | zero =>
    intro i hi h
    obtain rfl : i = c := by omega
    exact br_t (nI_le (by omega) (by omega)) (h1 h)
  | succ d ih =>
    intro i hi h
    have hv := iv_vb hG x i
    have hw := iv_vb hG y i
    refine br_f (nI_ge (by omega) (by omega)) (iv_xV (by omega) hy (iv_xV (by omega) hx (iv_beq (iv_v G y i - iv_v G x i) k (fun e => ?_) (fun e => ?_) (iv_sub _ _) rfl)))
    · exact nm_r (nI_1 i) (ih (i + 1) (by omega) (iv_all_s h e))
    · exact h0 (fun z => e (z i (by omega)))
theorem iv_xOf {post : Int32 → Prop} {c x y : Nat} {G : Nat → Int} (hc : c ≤ 100) (hG : iv_ok G) (hx : x < 4) (hy : y < 4) (hxy : x ≠ y) (hz : c = 0 → post (-1000)) (h1 : 0 < c → (∀ i, i < c → iv_v G y i - iv_v G x i = iv_v G y 0 - iv_v G x 0) → post (iv_z (iv_v G y 0 - iv_v G x 0))) (h0 : 0 < c → ¬ (∀ i, i < c → iv_v G y i - iv_v G x i = iv_v G y 0 - iv_v G x 0) → post (-1000)) : wpX_offset post (nI c, iv_A G) (nI x) (nI y) := by
  unfold wpX_offset
  dsimp only
  refine iv_xPr hx hy hxy (br_f iv_1ne ?_)
  rcases Nat.eq_zero_or_pos c with z | z
  · subst z
    exact br_t rfl (hz rfl)
  · have hv := iv_vb hG x 0
    have hw := iv_vb hG y 0
    refine br_f (nI_ne0 z (by omega)) (iv_xV (i := 0) (by omega) hy (iv_xV (i := 0) (by omega) hx (nm_r (iv_sub _ _) ?_)))
    refine Exists.intro (c - 1 + 1) (iv_xOf_l hc hG hx hy (by omega) (by omega) (h1 z) (h0 z) (c - 1) 1 (by omega) (fun j hj => ?_))
    obtain rfl : j = 0 := by omega
    rfl
theorem iv_xOfN {post : Int32 → Prop} {u : SX} {p q : Int32} (hp : iv_np p q) (h : post (-1000)) : wpX_offset post u p q := by
  obtain ⟨f, a⟩ := u
  unfold wpX_offset
  dsimp only
  exact iv_xPrN hp (br_t rfl h)
theorem iv_xSu_l {post : Int32 → Prop} {c x y z : Nat} {G : Nat → Int} (hc : c ≤ 100) (hG : iv_ok G) (hx : x < 4) (hy : y < 4) (hz : z < 4) (h1 : (∀ i, i < c → iv_v G x i + iv_v G y i = iv_v G z i) → post 1) (h0 : ¬ (∀ i, i < c → iv_v G x i + iv_v G y i = iv_v G z i) → post 0) :
    ∀ (d i : Nat), i + d = c → (∀ j, j < i → iv_v G x j + iv_v G y j = iv_v G z j) → wX_sums_26 post (nI x) (nI y) (nI z) (nI c) (iv_A G) (d + 1) (nI i) := by
  intro d
  induction d with
  | zero =>
    intro i hi h
    obtain rfl : i = c := by omega
    exact br_t (nI_le (by omega) (by omega)) (h1 h)
  | succ d ih =>
    intro i hi h
    have hv := iv_vb hG x i
    have hw := iv_vb hG y i
    have hu := iv_vb hG z i
    refine br_f (nI_ge (by omega) (by omega)) (iv_xV (by omega) hx (iv_xV (by omega) hy (iv_xV (by omega) hz (iv_beq (iv_v G x i + iv_v G y i) (iv_v G z i) (fun e => ?_) (fun e => ?_) (iv_add _ _) rfl))))
    · exact nm_r (nI_1 i) (ih (i + 1) (by omega) (iv_all_s h e))
    · exact h0 (fun w => e (w i (by omega)))
theorem iv_xSu {post : Int32 → Prop} {c x y z : Nat} {G : Nat → Int} (hc : c ≤ 100) (hG : iv_ok G) (hx : x < 4) (hy : y < 4) (hz : z < 4) (h1 : (∀ i, i < c → iv_v G x i + iv_v G y i = iv_v G z i) → post 1) (h0 : ¬ (∀ i, i < c → iv_v G x i + iv_v G y i = iv_v G z i) → post 0) : wpX_sums post (nI c, iv_A G) (nI x) (nI y) (nI z) := by
  unfold wpX_sums
  dsimp only
  exact iv_xIs hx (br_f iv_1ne (iv_xIs hy (br_f iv_1ne (iv_xIs hz (br_f iv_1ne (Exists.intro (c + 1) (iv_xSu_l hc hG hx hy hz h1 h0 c 0 (by omega) (fun j hj => absurd hj (by omega)))))))))
