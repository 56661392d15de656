/-! the walks of the component -/
theorem iv_L_r {v : Nat → Int} {c : Nat} {fl r : Int} (hv : ∀ i, -100 ≤ v i ∧ v i ≤ 100) (h : iv_L v c fl r) : r = -1000 ∨ (-100 ≤ r ∧ r ≤ 100) := by
  rcases h with ⟨h, _⟩ | ⟨_, ⟨i, _, e⟩, _⟩
  · exact Or.inl h
  · rw [← e]; exact Or.inr (hv i)
theorem iv_xV {post : Int32 → Prop} {f : Int32} {G : Nat → Int} {i x : Nat} (hi : i < 100) (hx : x < 4) (h : post (iv_z (iv_v G x i))) : wpX_value post (f, iv_A G) (nI i) (nI x) :=
  And.intro (iv_in hi hx) (by rw [iv_yR G hi hx]; exact h)
theorem iv_xIs {post : Int32 → Prop} {x : Nat} (hx : x < 4) (h : post 1) : wpX_isVariable post (nI x) :=
  br_f (nI_pos (by omega)) (br_f (nI_ge (b := 4) hx (by omega)) h)
theorem iv_xIsN {post : Int32 → Prop} {p : Int32} (hp : iv_nv p) (h : post 0) : wpX_isVariable post p := by
  rcases hp with a | ⟨a, b, _⟩
  · exact br_t a h
  · exact br_f a (br_t b h)
theorem iv_1ne : ¬ (1 : Int32) = 0 := by decide
theorem iv_xPr {post : Int32 → Prop} {x y : Nat} (hx : x < 4) (hy : y < 4) (hxy : x ≠ y) (h : post 1) : wpX_isPair post (nI x) (nI y) :=
  iv_xIs hx (br_f iv_1ne (iv_xIs hy (br_f iv_1ne (br_f (fun e => hxy ((nI_eq (by omega) (by omega)).mp e)) h))))
/-- not a pair of different variables -/
def iv_np (p q : Int32) : Prop := iv_nv p ∨ ((∃ x : Nat, x < 4 ∧ p = nI x) ∧ iv_nv q) ∨ ((∃ x : Nat, x < 4 ∧ p = nI x) ∧ p = q)
theorem iv_pair (p q : Int32) : (∃ x y : Nat, x < 4 ∧ y < 4 ∧ x ≠ y ∧ p = nI x ∧ q = nI y) ∨ iv_np p q := by
  rcases iv_var p with ⟨x, hx, ex⟩ | h
  · rcases iv_var q with ⟨y, hy, ey⟩ | h
    · by_cases e : x = y
      · exact Or.inr (Or.inr (Or.inr ⟨⟨x, hx, ex⟩, by rw [ex, ey, e]⟩))
      · exact Or.inl ⟨x, y, hx, hy, e, ex, ey⟩
    · exact Or.inr (Or.inr (Or.inl ⟨⟨x, hx, ex⟩, h⟩))
  · exact Or.inr (Or.inl h)
theorem iv_xPrN {post : Int32 → Prop} {p q : Int32} (hp : iv_np p q) (h : post 0) : wpX_isPair post p q := by
  rcases hp with a | ⟨⟨x, hx, rfl⟩, b⟩ | ⟨⟨x, hx, rfl⟩, rfl⟩
  · exact iv_xIsN a (br_t rfl h)
  · exact iv_xIs hx (br_f iv_1ne (iv_xIsN b (br_t rfl h)))
  · exact iv_xIs hx (br_f iv_1ne (iv_xIs hx (br_f iv_1ne (br_t rfl h))))
theorem iv_xLA_l {post : Int32 → Prop} {c x : Nat} {G : Nat → Int} {fl : Int} (hc : c ≤ 100) (hG : iv_ok G) (hx : x < 4) (f1 : -1000 ≤ fl) (f2 : fl ≤ 1000) (hp : ∀ r, iv_L (iv_v G x) c fl r → post (iv_z r)) :
    ∀ (d i : Nat) (r : Int), i + d = c → -1000 ≤ r → r ≤ 100 → iv_L (iv_v G x) i fl r → wX_leastAbove_7 post (nI x) (iv_z fl) (nI c) (iv_A G) (d + 1) (iv_z r) (nI i) := by
  intro d
  induction d with
  | zero =>
    intro i r hi r1 r2 h
    obtain rfl : i = c := by omega
    exact br_t (nI_le (by omega) (by omega)) (hp r h)
  | succ d ih =>
    intro i r hi r1 r2 h
    have hv := iv_vb hG x i
    refine br_f (nI_ge (by omega) (by omega)) (iv_xV (by omega) hx ?_)
    refine iv_ble (iv_v G x i) fl (fun a => ?_) (fun a => iv_beq r (-1000) (fun b => ?_) (fun b => iv_ble r (iv_v G x i) (fun e => ?_) (fun e => ?_)) rfl iv_k1000)
    · exact nm_r (nI_1 i) (ih (i + 1) r (by omega) r1 r2 (iv_L_n h (Or.inl a)))
    · exact nm_r (nI_1 i) (ih (i + 1) _ (by omega) (by omega) (by omega) (iv_L_y f1 h a (Or.inl b)))
    · exact nm_r (nI_1 i) (ih (i + 1) r (by omega) r1 r2 (iv_L_n h (Or.inr ⟨b, e⟩)))
    · exact nm_r (nI_1 i) (ih (i + 1) _ (by omega) (by omega) (by omega) (iv_L_y f1 h a (Or.inr e)))
theorem iv_xLA {post : Int32 → Prop} {c x : Nat} {G : Nat → Int} {fl : Int} (hc : c ≤ 100) (hG : iv_ok G) (hx : x < 4) (f1 : -1000 ≤ fl) (f2 : fl ≤ 1000) (hp : ∀ r, iv_L (iv_v G x) c fl r → post (iv_z r)) : wpX_leastAbove post (nI c, iv_A G) (nI x) (iv_z fl) := by
  have h := iv_xLA_l hc hG hx f1 f2 hp c 0 (-1000) (by omega) (by omega) (by omega) (iv_L_0 _ _)
  rw [← iv_k1000] at h
  exact Exists.intro (c + 1) h
theorem iv_xDf_l {post : Int32 → Prop} {c x : Nat} {G : Nat → Int} (hc : c ≤ 100) (hG : iv_ok G) (hx : x < 4) (hp : ∀ d m, iv_E (iv_v G x) c d m → post (nI d)) :
    ∀ (d f : Nat) (m : Nat → Int) (l : Int), f + d = 4 → -101 ≤ l → l ≤ 100 → iv_C (iv_v G x) c f m l → wX_different_14 post (nI x) (nI c) (iv_A G) (d + 1) (iv_z l) (nI f) := by
  intro d
  induction d with
  | zero =>
    intro f m l hf l1 l2 h
    obtain rfl : f = 4 := by omega
    exact br_t (nI_lt (a := 3) (by omega) (by omega)) (hp 4 m (iv_C_4 h))
  | succ d ih =>
    intro f m l hf l1 l2 h
    refine br_f (nI_nlt (a := 3) (by omega) (by omega)) (iv_xLA hc hG hx (by omega) (by omega) (fun r hr => ?_))
    have hb := iv_L_r (iv_vb hG x) hr
    refine iv_beq r (-1000) (fun e => ?_) (fun e => ?_) rfl iv_k1000
    · subst e
      exact hp f m (iv_C_e h (by omega) hr (by omega))
    · exact nm_r (nI_1 f) (ih (f + 1) _ r (by omega) (by omega) (by omega) (iv_C_s h hr e))
theorem iv_xDf {post : Int32 → Prop} {c x : Nat} {G : Nat → Int} (hc : c ≤ 100) (hG : iv_ok G) (hx : x < 4) (hp : ∀ d m, iv_E (iv_v G x) c d m → post (nI d)) : wpX_different post (nI c, iv_A G) (nI x) := by
  have h := iv_xDf_l hc hG hx hp 4 0 (fun _ => 0) (-101) (by omega) (by omega) (by omega) (iv_C_0 (fun i => (iv_vb hG x i).1) _)
  rw [← iv_k101] at h
  unfold wpX_different
  dsimp only
  exact iv_xIs hx (br_f iv_1ne (Exists.intro 5 h))
theorem iv_xDfN {post : Int32 → Prop} {u : SX} {p : Int32} (hp : iv_nv p) (h : post (-1)) : wpX_different post u p := by
  obtain ⟨f, a⟩ := u
  unfold wpX_different
  dsimp only
  exact iv_xIsN hp (br_t rfl h)
theorem iv_xCo {post : Int32 → Prop} {c x : Nat} {G : Nat → Int} (hc : c ≤ 100) (hG : iv_ok G) (hx : x < 4) (hp : ∀ d m, iv_E (iv_v G x) c d m → (d = 1 → post (iv_z (iv_v G x 0))) ∧ (d ≠ 1 → post (-1000))) : wpX_constant post (nI c, iv_A G) (nI x) := by
  unfold wpX_constant
  dsimp only
  refine iv_xDf hc hG hx (fun d m hE => ?_)
  have hd := hE.1
  by_cases e : d = 1
  · subst e
    exact br_t rfl (iv_xV (i := 0) (by omega) hx ((hp 1 m hE).1 rfl))
  · exact br_f (fun z => e ((nI_eq (b := 1) (by omega) (by omega)).mp z)) ((hp d m hE).2 e)
theorem iv_xCoN {post : Int32 → Prop} {u : SX} {p : Int32} (hp : iv_nv p) (h : post (-1000)) : wpX_constant post u p := by
  obtain ⟨f, a⟩ := u
  unfold wpX_constant
  dsimp only
  exact iv_xDfN hp (br_f (by decide) h)
theorem iv_xLo_l {c x : Nat} {G : Nat → Int} (hc : c ≤ 100) (hG : iv_ok G) (hx : x < 4) :
    ∀ (d i b : Nat), i + d = c → b < i → iv_Lo (iv_v G x) i b → ∃ r, iv_Lo (iv_v G x) c r ∧ ∀ post : Int32 → Prop, post (nI r) → wX_sampleOfLeast_4 post (nI x) (nI c) (iv_A G) (d + 1) (nI b) (nI i) := by
  intro d
  induction d with
  | zero =>
    intro i b hi hb h
    obtain rfl : i = c := by omega
    exact ⟨b, h, fun post hp => br_t (nI_le (by omega) (by omega)) hp⟩
  | succ d ih =>
    intro i b hi hb h
    have hv := iv_vb hG x i
    have hw := iv_vb hG x b
    by_cases e : iv_v G x i < iv_v G x b
    · obtain ⟨r, hr, hk⟩ := ih (i + 1) i (by omega) (by omega) (iv_Lo_y h e)
      refine ⟨r, hr, fun post hp => br_f (nI_ge (by omega) (by omega)) (iv_xV (by omega) hx (iv_xV (by omega) hx ?_))⟩
      exact iv_ble (iv_v G x b) (iv_v G x i) (fun z => absurd e (by omega)) (fun _ => nm_r (nI_1 i) (hk post hp))
    · obtain ⟨r, hr, hk⟩ := ih (i + 1) b (by omega) (by omega) (iv_Lo_n h (by omega))
      refine ⟨r, hr, fun post hp => br_f (nI_ge (by omega) (by omega)) (iv_xV (by omega) hx (iv_xV (by omega) hx ?_))⟩
      exact iv_ble (iv_v G x b) (iv_v G x i) (fun _ => nm_r (nI_1 i) (hk post hp)) (fun z => absurd z e)
theorem iv_xHi_l {c x : Nat} {G : Nat → Int} (hc : c ≤ 100) (hG : iv_ok G) (hx : x < 4) :
    ∀ (d i b : Nat), i + d = c → b < i → iv_Hi (iv_v G x) i b → ∃ r, iv_Hi (iv_v G x) c r ∧ ∀ post : Int32 → Prop, post (nI r) → wX_sampleOfGreatest_4 post (nI x) (nI c) (iv_A G) (d + 1) (nI b) (nI i) := by
  intro d
  induction d with
  | zero =>
    intro i b hi hb h
    obtain rfl : i = c := by omega
    exact ⟨b, h, fun post hp => br_t (nI_le (by omega) (by omega)) hp⟩
  | succ d ih =>
    intro i b hi hb h
    have hv := iv_vb hG x i
    have hw := iv_vb hG x b
    by_cases e : iv_v G x b < iv_v G x i
    · obtain ⟨r, hr, hk⟩ := ih (i + 1) i (by omega) (by omega) (iv_Hi_y h e)
      refine ⟨r, hr, fun post hp => br_f (nI_ge (by omega) (by omega)) (iv_xV (by omega) hx (iv_xV (by omega) hx ?_))⟩
      exact iv_ble (iv_v G x i) (iv_v G x b) (fun z => absurd e (by omega)) (fun _ => nm_r (nI_1 i) (hk post hp))
    · obtain ⟨r, hr, hk⟩ := ih (i + 1) b (by omega) (by omega) (iv_Hi_n h (by omega))
      refine ⟨r, hr, fun post hp => br_f (nI_ge (by omega) (by omega)) (iv_xV (by omega) hx (iv_xV (by omega) hx ?_))⟩
      exact iv_ble (iv_v G x i) (iv_v G x b) (fun _ => nm_r (nI_1 i) (hk post hp)) (fun z => absurd z e)
theorem iv_xLo {c x : Nat} {G : Nat → Int} (hc : c ≤ 100) (hG : iv_ok G) (hx : x < 4) :
    ∃ r, iv_Lo (iv_v G x) c r ∧ ∀ post : Int32 → Prop, post (nI r) → wpX_sampleOfLeast post (nI c, iv_A G) (nI x) := by
  rcases Nat.eq_zero_or_pos c with h0 | h0
  · subst h0
    exact ⟨0, iv_Lo_0 _, fun post hp => Exists.intro 1 (br_t (nI_le (b := 1) (by omega) (by omega)) hp)⟩
  · obtain ⟨r, hr, hk⟩ := iv_xLo_l hc hG hx (c - 1) 1 0 (by omega) (by omega) (iv_Lo_1 _)
    exact ⟨r, hr, fun post hp => Exists.intro (c - 1 + 1) (hk post hp)⟩
theorem iv_xHi {c x : Nat} {G : Nat → Int} (hc : c ≤ 100) (hG : iv_ok G) (hx : x < 4) :
    ∃ r, iv_Hi (iv_v G x) c r ∧ ∀ post : Int32 → Prop, post (nI r) → wpX_sampleOfGreatest post (nI c, iv_A G) (nI x) := by
  rcases Nat.eq_zero_or_pos c with h0 | h0
  · subst h0
    exact ⟨0, iv_Hi_0 _, fun post hp => Exists.intro 1 (br_t (nI_le (b := 1) (by omega) (by omega)) hp)⟩
  · obtain ⟨r, hr, hk⟩ := iv_xHi_l hc hG hx (c - 1) 1 0 (by omega) (by omega) (iv_Hi_1 _)
    exact ⟨r, hr, fun post hp => Exists.intro (c - 1 + 1) (hk post hp)⟩
