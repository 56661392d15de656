/-! the walks of the reference -/
theorem iv_yIs {post : Int32 → Prop} {u : SY} {x : Nat} (hx : x < 4) (h : post 1) : wpY_is post u (nI x) := by
  obtain ⟨f1, f2, f3, f4, a, b⟩ := u
  exact br_f (nI_pos (by omega)) (br_f (nI_nlt (a := 3) (by omega) (by omega)) h)
theorem iv_yIsN {post : Int32 → Prop} {u : SY} {p : Int32} (hp : iv_nv p) (h : post 0) : wpY_is post u p := by
  obtain ⟨f1, f2, f3, f4, a, b⟩ := u
  rcases hp with z | ⟨z, _, y⟩
  · exact br_t z h
  · exact br_f z (br_t y h)
theorem iv_rdF (F : Nat → Int) {k : Nat} (hk : k < 1000) : iv_A F (nI k).toNatClampNeg = iv_z (F k) := by
  rw [nI_clamp (by omega)]; rfl
theorem iv_yUpd (G F : Nat → Int) {i x n : Nat} (hi : i < 100) (hx : x < 4) (hn : n < 4) : upd (iv_A F) (nI n).toNatClampNeg (iv_A G ((4 : Int32) * nI i + nI x).toNatClampNeg) = iv_A (fun j => if j = n then iv_v G x i else F j) := by
  rw [iv_yR G hi hx, nI_clamp (by omega), iv_A_upd]
theorem iv_yDf_i {post : Int32 → SY → Prop} {J : Int32 → Int32 → (Nat → Int32) → (Nat → Int32) → Prop} {c x n i : Nat} {G F : Nat → Int} {p q r : Int32} (hG : iv_ok G) (hx : x < 4) (hi : i < 100) (hn : n ≤ 4) (hF : ∀ j, j < n → -100 ≤ F j ∧ F j ≤ 100)
    (hk : (∃ k, k < n ∧ F k = iv_v G x i) → J (nI n) (nI (i + 1)) (iv_A G) (iv_A F))
    (ha : (∀ k, k < n → F k ≠ iv_v G x i) → n < 4 → J (nI (n + 1)) (nI (i + 1)) (iv_A G) (iv_A (fun j => if j = n then iv_v G x i else F j)))
    (hf : n = 4 → J (nI n) (nI (i + 1)) (iv_A G) (iv_A F)) :
    ∀ (d k : Nat) (z : Int32), k + d = n → iv_B (∃ t, t < k ∧ F t = iv_v G x i) z → wY_different_28 post J (nI x) (nI n) (nI i) (nI c) p q r (iv_A G) (iv_A F) (d + 1) z (nI k) := by
  intro d
  induction d with
  | zero =>
    intro k z hd h
    obtain rfl : k = n := by omega
    refine br_t (nI_le (by omega) (by omega)) ?_
    rcases h with ⟨rfl, h⟩ | ⟨rfl, h⟩
    · exact br_f iv_1ne (nm_r (nI_1 i) (hk h))
    · refine br_t rfl ?_
      by_cases e : k < 4
      · refine br_f (nI_ge (b := 4) e (by omega)) ⟨iv_in hi hx, vp_in_nI e (by omega), nm_r (iv_yUpd G F hi hx e) (nm_r (nI_1 k) (nm_r (nI_1 i) (ha (fun t ht y => h ⟨t, ht, y⟩) e)))⟩
      · exact br_t (nI_le (a := 4) (by omega) (by omega)) (nm_r (nI_1 i) (hf (by omega)))
  | succ d ih =>
    intro k z hd h
    have hv := iv_vb hG x i
    have hw := hF k (by omega)
    refine br_f (nI_ge (by omega) (by omega)) ?_
    rcases h with ⟨rfl, h⟩ | ⟨rfl, h⟩
    · obtain ⟨t, ht, et⟩ := h
      exact br_f iv_1ne (nm_r (nI_1 k) (ih (k + 1) 1 (by omega) (Or.inl ⟨rfl, t, by omega, et⟩)))
    · refine br_t rfl ⟨vp_in_nI (by omega) (by omega), iv_in hi hx, iv_beq (F k) (iv_v G x i) (fun e => ?_) (fun e => ?_) (iv_rdF F (by omega)) (iv_yR G hi hx)⟩
      · exact nm_r (nI_1 k) (ih (k + 1) 1 (by omega) (Or.inl ⟨rfl, k, by omega, e⟩))
      · refine nm_r (nI_1 k) (ih (k + 1) 0 (by omega) (Or.inr ⟨rfl, fun y => ?_⟩))
        obtain ⟨t, ht, et⟩ := y
        by_cases y : t = k
        · exact e (by rw [← y]; exact et)
        · exact h ⟨t, by omega, et⟩
theorem iv_yDf_l {post : Int32 → SY → Prop} {c x : Nat} {G : Nat → Int} {p q r : Int32} (hc : c ≤ 100) (hG : iv_ok G) (hx : x < 4) (hp : ∀ d F, iv_E (iv_v G x) c d F → post (nI d) (nI c, p, q, r, iv_A G, iv_A F)) :
    ∀ (e i n : Nat) (F : Nat → Int), i + e = c → iv_E (iv_v G x) i n F → wY_different_14 post (nI x) (nI c) p q r (e + 1) (nI n) (nI i) (iv_A G) (iv_A F) := by
  intro e
  induction e with
  | zero =>
    intro i n F hi h
    obtain rfl : i = c := by omega
    exact br_t (nI_le (by omega) (by omega)) (hp n F h)
  | succ e ih =>
    intro i n F hi h
    have hn := h.1
    refine br_f (nI_ge (by omega) (by omega)) (Exists.intro (n + 1) (iv_yDf_i hG hx (by omega) hn (fun j hj => iv_E_r (iv_vb hG x) h hj) (fun a => ?_) (fun a b => ?_) (fun a => ?_) n 0 0 (by omega) (Or.inr ⟨rfl, fun z => ?_⟩)))
    · exact ih (i + 1) n F (by omega) (iv_E_k h (Or.inl a))
    · exact ih (i + 1) (n + 1) _ (by omega) (iv_E_a h b a)
    · exact ih (i + 1) n F (by omega) (iv_E_k h (Or.inr a))
    · obtain ⟨t, ht, _⟩ := z
      omega
theorem iv_yDf {post : Int32 → SY → Prop} {c x : Nat} {G : Nat → Int} {p q r : Int32} {few : Nat → Int32} (hc : c ≤ 100) (hG : iv_ok G) (hx : x < 4) (hp : ∀ d F, iv_E (iv_v G x) c d F → post (nI d) (nI c, p, q, r, iv_A G, iv_A F)) : wpY_different post (nI c, p, q, r, iv_A G, few) (nI x) := by
  rw [iv_A_of few]
  unfold wpY_different
  dsimp only
  exact iv_yIs hx (br_f iv_1ne (Exists.intro (c + 1) (iv_yDf_l hc hG hx hp c 0 0 _ (by omega) (iv_E_0 _ _))))
theorem iv_yDfN {post : Int32 → SY → Prop} {u : SY} {p : Int32} (hp : iv_nv p) (h : post (-1) u) : wpY_different post u p := by
  obtain ⟨f1, f2, f3, f4, a, b⟩ := u
  unfold wpY_different
  dsimp only
  exact iv_yIsN hp (br_t rfl h)
theorem iv_yCo {post : Int32 → SY → Prop} {c x : Nat} {G : Nat → Int} {p q r : Int32} {few : Nat → Int32} (hc : c ≤ 100) (hG : iv_ok G) (hx : x < 4) (hp : ∀ d F, iv_E (iv_v G x) c d F → (d = 1 → post (iv_z (iv_v G x 0)) (nI c, p, q, r, iv_A G, iv_A F)) ∧ (d ≠ 1 → post (-1000) (nI c, p, q, r, iv_A G, iv_A F))) : wpY_constant post (nI c, p, q, r, iv_A G, few) (nI x) := by
  unfold wpY_constant
  dsimp only
  refine iv_yIs hx (br_f iv_1ne (iv_yDf hc hG hx (fun d F hE => ?_)))
  have hd := hE.1
  dsimp only
  by_cases e : d = 1
  · subst e
    refine br_t rfl ⟨iv_in0 hx, ?_⟩
    rw [iv_yR0 G hx]
    exact (hp 1 F hE).1 rfl
  · exact br_f (fun z => e ((nI_eq (b := 1) (by omega) (by omega)).mp z)) ((hp d F hE).2 e)
theorem iv_yCoN {post : Int32 → SY → Prop} {u : SY} {p : Int32} (hp : iv_nv p) (h : post (-1000) u) : wpY_constant post u p := by
  obtain ⟨f1, f2, f3, f4, a, b⟩ := u
  unfold wpY_constant
  dsimp only
  exact iv_yIsN hp (br_t rfl h)
theorem iv_yB0_l {post : Int32 → Prop} {c x : Nat} {G : Nat → Int} {p q r : Int32} {few : Nat → Int32} (hc : c ≤ 100) (hG : iv_ok G) (hx : x < 4) (hp : ∀ e : Int, (∃ j, j < c ∧ iv_v G x j = e) → (∀ j, j < c → e ≤ iv_v G x j) → post (iv_z e)) :
    ∀ (d i : Nat) (e : Int), i + d = c → (∃ j, j < c ∧ iv_v G x j = e) → (∀ j, j < i → e ≤ iv_v G x j) → wY_bound_38 post (nI x) 0 (nI c) p q r (iv_A G) few (d + 1) (iv_z e) (nI i) := by
  intro d
  induction d with
  | zero =>
    intro i e hi he h
    obtain rfl : i = c := by omega
    exact br_t (nI_le (by omega) (by omega)) (hp e he h)
  | succ d ih =>
    intro i e hi he h
    have hv := iv_vb hG x i
    have hb : -100 ≤ e ∧ e ≤ 100 := by
      obtain ⟨j, _, ej⟩ := he
      rw [← ej]; exact iv_vb hG x j
    refine br_f (nI_ge (by omega) (by omega)) ⟨iv_in (by omega) hx, nm_r (iv_yR G (by omega) hx) (br_t rfl (iv_ble e (iv_v G x i) (fun a => ?_) (fun a => ?_)))⟩
    · exact nm_r (nI_1 i) (ih (i + 1) e (by omega) he (iv_all_s h a))
    · exact nm_r (nI_1 i) (ih (i + 1) _ (by omega) ⟨i, by omega, rfl⟩ (iv_all_s (fun j hj => by have := h j hj; omega) (by omega)))
theorem iv_yB1_l {post : Int32 → Prop} {c x : Nat} {G : Nat → Int} {p q r : Int32} {few : Nat → Int32} (hc : c ≤ 100) (hG : iv_ok G) (hx : x < 4) (hp : ∀ e : Int, (∃ j, j < c ∧ iv_v G x j = e) → (∀ j, j < c → iv_v G x j ≤ e) → post (iv_z e)) :
    ∀ (d i : Nat) (e : Int), i + d = c → (∃ j, j < c ∧ iv_v G x j = e) → (∀ j, j < i → iv_v G x j ≤ e) → wY_bound_38 post (nI x) 1 (nI c) p q r (iv_A G) few (d + 1) (iv_z e) (nI i) := by
  intro d
  induction d with
  | zero =>
    intro i e hi he h
    obtain rfl : i = c := by omega
    exact br_t (nI_le (by omega) (by omega)) (hp e he h)
  | succ d ih =>
    intro i e hi he h
    have hv := iv_vb hG x i
    have hb : -100 ≤ e ∧ e ≤ 100 := by
      obtain ⟨j, _, ej⟩ := he
      rw [← ej]; exact iv_vb hG x j
    refine br_f (nI_ge (by omega) (by omega)) ⟨iv_in (by omega) hx, nm_r (iv_yR G (by omega) hx) (br_f iv_1ne (iv_ble (iv_v G x i) e (fun a => ?_) (fun a => ?_)))⟩
    · exact nm_r (nI_1 i) (ih (i + 1) e (by omega) he (iv_all_s h a))
    · exact nm_r (nI_1 i) (ih (i + 1) _ (by omega) ⟨i, by omega, rfl⟩ (iv_all_s (fun j hj => by have := h j hj; omega) (by omega)))
theorem iv_yVA_i {post : Int32 → SY → Prop} {J : Int32 → Prop} {c d k i : Nat} {F : Nat → Int} {p q r : Int32} {a : Nat → Int32} (hd : d ≤ 4) (hi : i < d) (hk : k < 2 ^ 31) (hF : ∀ j, j < d → -100 ≤ F j ∧ F j ≤ 100)
    (h1 : iv_ls F (F i) d = k → post (iv_z (F i)) (nI c, p, q, r, a, iv_A F)) (h0 : iv_ls F (F i) d ≠ k → J (nI (i + 1))) :
    ∀ (e j : Nat), j + e = d → wY_valueAt_39 post J (nI k) (nI d) (nI i) (nI c) p q r a (iv_A F) (e + 1) (nI (iv_ls F (F i) j)) (nI j) := by
  intro e
  induction e with
  | zero =>
    intro j hj
    obtain rfl : j = d := by omega
    have hl := iv_ls_le F (F i) j
    refine br_t (nI_le (by omega) (by omega)) ?_
    by_cases z : iv_ls F (F i) j = k
    · refine br_t (by rw [z]) ⟨vp_in_nI (by omega) (by omega), ?_⟩
      rw [iv_rdF F (by omega)]
      exact h1 z
    · exact br_f (fun y => z ((nI_eq (by omega) hk).mp y)) (nm_r (nI_1 i) (h0 z))
  | succ e ih =>
    intro j hj
    have hv := hF i hi
    have hw := hF j (by omega)
    have hn := ih (j + 1) (by omega)
    refine br_f (nI_ge (by omega) (by omega)) ⟨vp_in_nI (by omega) (by omega), vp_in_nI (by omega) (by omega), iv_ble (F i) (F j) (fun b => ?_) (fun b => ?_) (iv_rdF F (by omega)) (iv_rdF F (by omega))⟩
    · have e1 : iv_ls F (F i) (j + 1) = iv_ls F (F i) j := if_neg (by omega)
      rw [e1] at hn
      exact nm_r (nI_1 j) hn
    · have e1 : iv_ls F (F i) (j + 1) = iv_ls F (F i) j + 1 := if_pos b
      rw [e1] at hn
      exact nm_r (nI_1 _) (nm_r (nI_1 j) hn)
theorem iv_yVA_l {post : Int32 → SY → Prop} {c d k : Nat} {F : Nat → Int} {p q r : Int32} {a : Nat → Int32} {R : Int} (hd : d ≤ 4) (hk : k < 2 ^ 31) (hF : ∀ j, j < d → -100 ≤ F j ∧ F j ≤ 100)
    (hr : ∀ i, i < d → (iv_ls F (F i) d = k ↔ F i = R)) (hx : ∃ i, i < d ∧ F i = R) (hp : post (iv_z R) (nI c, p, q, r, a, iv_A F)) :
    ∀ (e i : Nat), i + e = d → (∀ t, t < i → F t ≠ R) → wY_valueAt_27 post (nI k) (nI d) (nI c) p q r a (iv_A F) (e + 1) (nI i) := by
  intro e
  induction e with
  | zero =>
    intro i hi h
    obtain ⟨t, ht, et⟩ := hx
    exact absurd et (h t (by omega))
  | succ e ih =>
    intro i hi h
    refine br_f (nI_ge (by omega) (by omega)) (Exists.intro (d + 1) (iv_yVA_i hd (by omega) hk hF (fun z => ?_) (fun z => ?_) d 0 (by omega)))
    · rw [(hr i (by omega)).mp z]; exact hp
    · exact ih (i + 1) (by omega) (iv_all_s h (fun y => z ((hr i (by omega)).mpr y)))
