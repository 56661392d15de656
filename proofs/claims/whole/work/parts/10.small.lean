/-! sample, bound, relation, sums: what is left of both sides -/
def iv_nf (p : Int32) : Prop := p < (-100) ∨ (¬ p < (-100) ∧ (100 : Int32) < p)
theorem iv_fit (p : Int32) : (∃ z : Int, -100 ≤ z ∧ z ≤ 100 ∧ p = iv_z z) ∨ iv_nf p := by
  have e1 : (-100 : Int32).toInt = -100 := by decide
  have e2 : (100 : Int32).toInt = 100 := by decide
  by_cases h : p < (-100)
  · exact Or.inr (Or.inl h)
  · by_cases h2 : (100 : Int32) < p
    · exact Or.inr (Or.inr ⟨h, h2⟩)
    · refine Or.inl ⟨p.toInt, ?_, ?_, (iv_back p).symm⟩
      · rw [Int32.lt_iff_toInt_lt] at h
        omega
      · rw [Int32.lt_iff_toInt_lt] at h2
        omega
theorem iv_xVal {post : Int32 → Prop} {z : Int} (h1 : -100 ≤ z) (h2 : z ≤ 100) (h : post 1) : wpX_isValue post (iv_z z) :=
  iv_blt z (-100) (fun a => absurd a (by omega)) (fun _ => iv_blt 100 z (fun a => absurd a (by omega)) (fun _ => h) iv_kp100 rfl) rfl iv_k100
theorem iv_xValN {post : Int32 → Prop} {p : Int32} (hp : iv_nf p) (h : post 0) : wpX_isValue post p := by
  rcases hp with a | ⟨a, b⟩
  · exact br_t a h
  · exact br_f a (br_t b h)
theorem iv_yFit {post : Int32 → Prop} {u : SY} {z : Int} (h1 : -100 ≤ z) (h2 : z ≤ 100) (h : post 1) : wpY_fits post u (iv_z z) := by
  obtain ⟨f1, f2, f3, f4, a, b⟩ := u
  exact iv_blt z (-100) (fun a => absurd a (by omega)) (fun _ => iv_blt 100 z (fun a => absurd a (by omega)) (fun _ => h) iv_kp100 rfl) rfl iv_k100
theorem iv_yFitN {post : Int32 → Prop} {u : SY} {p : Int32} (hp : iv_nf p) (h : post 0) : wpY_fits post u p := by
  obtain ⟨f1, f2, f3, f4, a, b⟩ := u
  rcases hp with z | ⟨z, y⟩
  · exact br_t z h
  · exact br_f z (br_t y h)
/-- one of four is no value -/
def iv_bad (a b c d : Int32) : Prop := iv_nf a ∨ (∃ z : Int, -100 ≤ z ∧ z ≤ 100 ∧ a = iv_z z) ∧ (iv_nf b ∨ (∃ z : Int, -100 ≤ z ∧ z ≤ 100 ∧ b = iv_z z) ∧ (iv_nf c ∨ (∃ z : Int, -100 ≤ z ∧ z ≤ 100 ∧ c = iv_z z) ∧ iv_nf d))
theorem iv_four (a b c d : Int32) : (∃ z1 z2 z3 z4 : Int, (-100 ≤ z1 ∧ z1 ≤ 100) ∧ (-100 ≤ z2 ∧ z2 ≤ 100) ∧ (-100 ≤ z3 ∧ z3 ≤ 100) ∧ (-100 ≤ z4 ∧ z4 ≤ 100) ∧ a = iv_z z1 ∧ b = iv_z z2 ∧ c = iv_z z3 ∧ d = iv_z z4) ∨ iv_bad a b c d := by
  rcases iv_fit a with h1 | h1
  · rcases iv_fit b with h2 | h2
    · rcases iv_fit c with h3 | h3
      · rcases iv_fit d with h4 | h4
        · obtain ⟨z1, a1, b1, e1⟩ := h1
          obtain ⟨z2, a2, b2, e2⟩ := h2
          obtain ⟨z3, a3, b3, e3⟩ := h3
          obtain ⟨z4, a4, b4, e4⟩ := h4
          exact Or.inl ⟨z1, z2, z3, z4, ⟨a1, b1⟩, ⟨a2, b2⟩, ⟨a3, b3⟩, ⟨a4, b4⟩, e1, e2, e3, e4⟩
        · exact Or.inr (Or.inr ⟨h1, Or.inr ⟨h2, Or.inr ⟨h3, h4⟩⟩⟩)
      · exact Or.inr (Or.inr ⟨h1, Or.inr ⟨h2, Or.inl h3⟩⟩)
    · exact Or.inr (Or.inr ⟨h1, Or.inl h2⟩)
  · exact Or.inr (Or.inl h1)
theorem iv_xSaN {post : Int32 → SX → Prop} {u : SX} {a b c d : Int32} (hb : iv_bad a b c d) (h : post (-1) u) : wpX_sample post u a b c d := by
  obtain ⟨f, g⟩ := u
  unfold wpX_sample
  dsimp only
  rcases hb with z | ⟨⟨z1, p1, q1, rfl⟩, z | ⟨⟨z2, p2, q2, rfl⟩, z | ⟨⟨z3, p3, q3, rfl⟩, z⟩⟩⟩
  · exact iv_xValN z (br_t rfl h)
  · exact iv_xVal p1 q1 (br_f iv_1ne (iv_xValN z (br_t rfl h)))
  · exact iv_xVal p1 q1 (br_f iv_1ne (iv_xVal p2 q2 (br_f iv_1ne (iv_xValN z (br_t rfl h)))))
  · exact iv_xVal p1 q1 (br_f iv_1ne (iv_xVal p2 q2 (br_f iv_1ne (iv_xVal p3 q3 (br_f iv_1ne (iv_xValN z (br_t rfl h)))))))
theorem iv_ySaN {post : Int32 → SY → Prop} {u : SY} {a b c d : Int32} (hb : iv_bad a b c d) (h : post (-1) u) : wpY_sample post u a b c d := by
  obtain ⟨f1, f2, f3, f4, g1, g2⟩ := u
  unfold wpY_sample
  dsimp only
  rcases hb with z | ⟨⟨z1, p1, q1, rfl⟩, z | ⟨⟨z2, p2, q2, rfl⟩, z | ⟨⟨z3, p3, q3, rfl⟩, z⟩⟩⟩
  · exact iv_yFitN z (br_t rfl h)
  · exact iv_yFit p1 q1 (br_f iv_1ne (iv_yFitN z (br_t rfl h)))
  · exact iv_yFit p1 q1 (br_f iv_1ne (iv_yFit p2 q2 (br_f iv_1ne (iv_yFitN z (br_t rfl h)))))
  · exact iv_yFit p1 q1 (br_f iv_1ne (iv_yFit p2 q2 (br_f iv_1ne (iv_yFit p3 q3 (br_f iv_1ne (iv_yFitN z (br_t rfl h)))))))
def iv_put (G : Nat → Int) (n : Nat) (z : Int) : Nat → Int := fun j => if j = n then z else G j
theorem iv_put_ok {G : Nat → Int} {n : Nat} {z : Int} (hG : iv_ok G) (hz : -100 ≤ z ∧ z ≤ 100) : iv_ok (iv_put G n z) := by
  intro j
  show -100 ≤ (if j = n then z else G j) ∧ (if j = n then z else G j) ≤ 100
  by_cases e : j = n
  · rw [if_pos e]; exact hz
  · rw [if_neg e]; exact hG j
theorem iv_up {G : Nat → Int} {n : Nat} {z : Int} {idx : Int32} (hn : n < 400) (h : idx = nI n) : upd (iv_A G) idx.toNatClampNeg (iv_z z) = iv_A (iv_put G n z) := by
  subst h
  rw [nI_clamp (by omega), iv_A_upd]
  rfl
theorem iv_inw {n : Nat} {idx : Int32} (hn : n < 400) (h : idx = nI n) : vp_in idx 400 := by
  subst h
  exact vp_in_nI hn (by omega)
theorem iv_xSa {post : Int32 → SX → Prop} {c : Nat} {G : Nat → Int} {z1 z2 z3 z4 : Int} (hc : c ≤ 100) (h1 : -100 ≤ z1 ∧ z1 ≤ 100) (h2 : -100 ≤ z2 ∧ z2 ≤ 100) (h3 : -100 ≤ z3 ∧ z3 ≤ 100) (h4 : -100 ≤ z4 ∧ z4 ≤ 100)
    (hf : c = 100 → post (-2) (nI c, iv_A G)) (hp : c < 100 → post (nI (c + 1)) (nI (c + 1), iv_A (iv_put (iv_put (iv_put (iv_put G (4 * c) z1) (4 * c + 1) z2) (4 * c + 2) z3) (4 * c + 3) z4))) : wpX_sample post (nI c, iv_A G) (iv_z z1) (iv_z z2) (iv_z z3) (iv_z z4) := by
  unfold wpX_sample
  dsimp only
  refine iv_xVal h1.1 h1.2 (br_f iv_1ne (iv_xVal h2.1 h2.2 (br_f iv_1ne (iv_xVal h3.1 h3.2 (br_f iv_1ne (iv_xVal h4.1 h4.2 (br_f iv_1ne ?_)))))))
  by_cases a : c < 100
  · refine br_t (nI_lt (b := 100) a (by omega)) (nm_r (iv_4 c) ?_)
    exact ⟨iv_inw (n := 4 * c) (by omega) rfl, nm_r (iv_up (n := 4 * c) (by omega) rfl) ⟨iv_inw (n := 4 * c + 1) (by omega) (nI_add (4 * c) 1), nm_r (iv_up (n := 4 * c + 1) (by omega) (nI_add (4 * c) 1)) ⟨iv_inw (n := 4 * c + 2) (by omega) (nI_add (4 * c) 2), nm_r (iv_up (n := 4 * c + 2) (by omega) (nI_add (4 * c) 2)) ⟨iv_inw (n := 4 * c + 3) (by omega) (nI_add (4 * c) 3), nm_r (iv_up (n := 4 * c + 3) (by omega) (nI_add (4 * c) 3)) (nm_r (nI_1 c) (hp a))⟩⟩⟩⟩
  · exact br_f (nI_nlt (b := 100) (by omega) (by omega)) (hf (by omega))
theorem iv_4a (c k : Nat) : (4 : Int32) * nI c + nI k = nI (4 * c + k) := iv_ix c k
theorem iv_ySa {post : Int32 → SY → Prop} {c : Nat} {G : Nat → Int} {p q r : Int32} {few : Nat → Int32} {z1 z2 z3 z4 : Int} (hc : c ≤ 100) (h1 : -100 ≤ z1 ∧ z1 ≤ 100) (h2 : -100 ≤ z2 ∧ z2 ≤ 100) (h3 : -100 ≤ z3 ∧ z3 ≤ 100) (h4 : -100 ≤ z4 ∧ z4 ≤ 100)
    (hf : c = 100 → post (-2) (nI c, p, q, r, iv_A G, few)) (hp : c < 100 → post (nI (c + 1)) (nI (c + 1), p, q, r, iv_A (iv_put (iv_put (iv_put (iv_put G (4 * c) z1) (4 * c + 1) z2) (4 * c + 2) z3) (4 * c + 3) z4), few)) : wpY_sample post (nI c, p, q, r, iv_A G, few) (iv_z z1) (iv_z z2) (iv_z z3) (iv_z z4) := by
  unfold wpY_sample
  dsimp only
  refine iv_yFit h1.1 h1.2 (br_f iv_1ne (iv_yFit h2.1 h2.2 (br_f iv_1ne (iv_yFit h3.1 h3.2 (br_f iv_1ne (iv_yFit h4.1 h4.2 (br_f iv_1ne ?_)))))))
  by_cases a : c < 100
  · refine br_t (nI_lt (b := 100) a (by omega)) ?_
    exact ⟨iv_inw (n := 4 * c) (by omega) (iv_4 c), nm_r (iv_up (n := 4 * c) (by omega) (iv_4 c)) ⟨iv_inw (n := 4 * c + 1) (by omega) (iv_4a c 1), nm_r (iv_up (n := 4 * c + 1) (by omega) (iv_4a c 1)) ⟨iv_inw (n := 4 * c + 2) (by omega) (iv_4a c 2), nm_r (iv_up (n := 4 * c + 2) (by omega) (iv_4a c 2)) ⟨iv_inw (n := 4 * c + 3) (by omega) (iv_4a c 3), nm_r (iv_up (n := 4 * c + 3) (by omega) (iv_4a c 3)) (nm_r (nI_1 c) (hp a))⟩⟩⟩⟩
  · exact br_f (nI_nlt (b := 100) (by omega) (by omega)) (hf (by omega))
theorem iv_3le {p : Int32} (h : (3 : Int32) < p) : ¬ p ≤ 3 := Int32.not_le.mpr h
theorem iv_xReN {post : Int32 → Prop} {u : SX} {p q t : Int32} (hp : iv_np p q) (h : post 0) : wpX_relation post u p q t := by
  obtain ⟨f, a⟩ := u
  unfold wpX_relation
  dsimp only
  exact iv_xPrN hp (br_t rfl h)
theorem iv_xReT {post : Int32 → Prop} {u : SX} {x y : Nat} {t : Int32} (hx : x < 4) (hy : y < 4) (hxy : x ≠ y) (ht : iv_nv t) (h : post 0) : wpX_relation post u (nI x) (nI y) t := by
  obtain ⟨f, a⟩ := u
  unfold wpX_relation
  dsimp only
  refine iv_xPr hx hy hxy (br_f iv_1ne ?_)
  rcases ht with z | ⟨z, _, w⟩
  · exact br_t z h
  · exact br_f z (br_f (iv_3le w) h)
theorem iv_xRe {post : Int32 → Prop} {c x y t : Nat} {G : Nat → Int} (hc : c ≤ 100) (hG : iv_ok G) (hx : x < 4) (hy : y < 4) (hxy : x ≠ y) (ht : t ≤ 3) (h1 : (∀ i, i < c → iv_H t (iv_v G x i) (iv_v G y i)) → post 1) (h0 : ¬ (∀ i, i < c → iv_H t (iv_v G x i) (iv_v G y i)) → post 0) : wpX_relation post (nI c, iv_A G) (nI x) (nI y) (nI t) := by
  unfold wpX_relation
  dsimp only
  exact iv_xPr hx hy hxy (br_f iv_1ne (br_f (nI_pos (by omega)) (br_t (nI_le (b := 3) ht (by omega)) (iv_xRH hc hG hx hy ht (fun a => ⟨rfl, h1 a⟩) (fun a => ⟨rfl, h0 a⟩)))))
theorem iv_yReN {post : Int32 → Prop} {u : SY} {p q t : Int32} (hp : iv_np p q) (h : post 0) : wpY_relation post u p q t := by
  obtain ⟨f1, f2, f3, f4, a, b⟩ := u
  unfold wpY_relation
  dsimp only
  rcases hp with z | ⟨⟨x, hx, rfl⟩, z⟩ | ⟨⟨x, hx, rfl⟩, rfl⟩
  · exact iv_yIsN z (br_t rfl h)
  · exact iv_yIs hx (br_f iv_1ne (iv_yIsN z (br_t rfl h)))
  · exact iv_yIs hx (br_f iv_1ne (iv_yIs hx (br_f iv_1ne (br_t rfl h))))
theorem iv_yReT {post : Int32 → Prop} {u : SY} {x y : Nat} {t : Int32} (hx : x < 4) (hy : y < 4) (hxy : x ≠ y) (ht : iv_nv t) (h : post 0) : wpY_relation post u (nI x) (nI y) t := by
  obtain ⟨f1, f2, f3, f4, a, b⟩ := u
  unfold wpY_relation
  dsimp only
  refine iv_yIs hx (br_f iv_1ne (iv_yIs hy (br_f iv_1ne (br_f (fun e => hxy ((nI_eq (by omega) (by omega)).mp e)) ?_))))
  rcases ht with z | ⟨z, _, w⟩
  · exact br_t z h
  · exact br_f z (br_f (iv_3le w) h)
/-- one of three is no variable -/
def iv_nt (p q t : Int32) : Prop := iv_nv p ∨ (∃ x : Nat, x < 4 ∧ p = nI x) ∧ (iv_nv q ∨ (∃ x : Nat, x < 4 ∧ q = nI x) ∧ iv_nv t)
theorem iv_three (p q t : Int32) : (∃ x y z : Nat, x < 4 ∧ y < 4 ∧ z < 4 ∧ p = nI x ∧ q = nI y ∧ t = nI z) ∨ iv_nt p q t := by
  rcases iv_var p with h1 | h1
  · rcases iv_var q with h2 | h2
    · rcases iv_var t with h3 | h3
      · obtain ⟨x, hx, ex⟩ := h1
        obtain ⟨y, hy, ey⟩ := h2
        obtain ⟨z, hz, ez⟩ := h3
        exact Or.inl ⟨x, y, z, hx, hy, hz, ex, ey, ez⟩
      · exact Or.inr (Or.inr ⟨h1, Or.inr ⟨h2, h3⟩⟩)
    · exact Or.inr (Or.inr ⟨h1, Or.inl h2⟩)
  · exact Or.inr (Or.inl h1)
theorem iv_xSuN {post : Int32 → Prop} {u : SX} {p q t : Int32} (hp : iv_nt p q t) (h : post 0) : wpX_sums post u p q t := by
  obtain ⟨f, a⟩ := u
  unfold wpX_sums
  dsimp only
  rcases hp with z | ⟨⟨x, hx, rfl⟩, z | ⟨⟨y, hy, rfl⟩, z⟩⟩
  · exact iv_xIsN z (br_t rfl h)
  · exact iv_xIs hx (br_f iv_1ne (iv_xIsN z (br_t rfl h)))
  · exact iv_xIs hx (br_f iv_1ne (iv_xIs hy (br_f iv_1ne (iv_xIsN z (br_t rfl h)))))
theorem iv_ySu0 {post : Int32 → Prop} {p q t s f2 f3 f4 : Int32} {a b : Nat → Int32} (h : post 0) : ∃ n, wY_sums_34 post p q t s f2 f3 f4 a b n 0 0 :=
  Exists.intro 1 (br_c (fun _ => ⟨rfl, h⟩) (fun _ => br_t rfl ⟨rfl, h⟩))
theorem iv_ySuN {post : Int32 → Prop} {u : SY} {p q t : Int32} (hp : iv_nt p q t) (h : post 0) : wpY_sums post u p q t := by
  obtain ⟨f1, f2, f3, f4, a, b⟩ := u
  unfold wpY_sums
  dsimp only
  rcases hp with z | ⟨⟨x, hx, rfl⟩, z | ⟨⟨y, hy, rfl⟩, z⟩⟩
  · exact iv_yIsN z (br_t rfl (iv_ySu0 h))
  · exact iv_yIs hx (br_f iv_1ne (iv_yIsN z (br_t rfl (iv_ySu0 h))))
  · exact iv_yIs hx (br_f iv_1ne (iv_yIs hy (br_f iv_1ne (iv_yIsN z (br_t rfl (iv_ySu0 h))))))
theorem iv_ySu {post : Int32 → Prop} {c x y z : Nat} {G : Nat → Int} {p q r : Int32} {few : Nat → Int32} (hc : c ≤ 100) (hG : iv_ok G) (hx : x < 4) (hy : y < 4) (hz : z < 4) (h1 : (∀ i, i < c → iv_v G x i + iv_v G y i = iv_v G z i) → post 1) (h0 : ¬ (∀ i, i < c → iv_v G x i + iv_v G y i = iv_v G z i) → post 0) : wpY_sums post (nI c, p, q, r, iv_A G, few) (nI x) (nI y) (nI z) := by
  unfold wpY_sums
  dsimp only
  exact iv_yIs hx (br_f iv_1ne (iv_yIs hy (br_f iv_1ne (iv_yIs hz (br_f iv_1ne (Exists.intro (c + 1) (iv_ySu_l hc hG hx hy hz h1 h0 c 0 1 (by omega) (Or.inl ⟨rfl, fun j hj => absurd hj (by omega)⟩))))))))
/-- bound where it answers nothing -/
theorem iv_xBdN {post : Int32 → Prop} {f : Int32} {a : Nat → Int32} {p w : Int32} (hn : iv_nv p ∨ (∃ x : Nat, x < 4 ∧ p = nI x) ∧ (f = 0 ∨ ¬ f = 0 ∧ ¬ w = 0 ∧ ¬ w = 1)) (h : post (-1000)) : wpX_bound post (f, a) p w := by
  unfold wpX_bound
  dsimp only
  rcases hn with z | ⟨⟨x, hx, rfl⟩, z | ⟨z, z0, z1⟩⟩
  · exact iv_xIsN z (br_t rfl h)
  · exact iv_xIs hx (br_f iv_1ne (br_t z h))
  · exact iv_xIs hx (br_f iv_1ne (br_f z (br_f z0 (br_f z1 h))))
theorem iv_yBdN {post : Int32 → Prop} {f f2 f3 f4 : Int32} {a b : Nat → Int32} {p w : Int32} (hn : iv_nv p ∨ (∃ x : Nat, x < 4 ∧ p = nI x) ∧ (f = 0 ∨ ¬ f = 0 ∧ ¬ w = 0 ∧ ¬ w = 1)) (h : post (-1000)) : wpY_bound post (f, f2, f3, f4, a, b) p w := by
  unfold wpY_bound
  dsimp only
  rcases hn with z | ⟨⟨x, hx, rfl⟩, z | ⟨z, z0, z1⟩⟩
  · exact iv_yIsN z (br_t rfl h)
  · exact iv_yIs hx (br_f iv_1ne (br_t z h))
  · exact iv_yIs hx (br_f iv_1ne (br_f z (br_f z0 (br_f z1 h))))
theorem iv_xBd0 {post : Int32 → Prop} {c x : Nat} {G : Nat → Int} (hc : c ≤ 100) (c0 : 0 < c) (hG : iv_ok G) (hx : x < 4) (h : ∀ e : Int, (∃ j, j < c ∧ iv_v G x j = e) → (∀ j, j < c → e ≤ iv_v G x j) → post (iv_z e)) : wpX_bound post (nI c, iv_A G) (nI x) 0 := by
  obtain ⟨b, sb, wb⟩ := iv_xLo hc hG hx
  have hb : b < c := by have := sb.1; omega
  unfold wpX_bound
  dsimp only
  exact iv_xIs hx (br_f iv_1ne (br_f (nI_ne0 c0 (by omega)) (br_t rfl (wb _ (iv_xV (by omega) hx (h _ ⟨b, hb, rfl⟩ sb.2))))))
theorem iv_xBd1 {post : Int32 → Prop} {c x : Nat} {G : Nat → Int} (hc : c ≤ 100) (c0 : 0 < c) (hG : iv_ok G) (hx : x < 4) (h : ∀ e : Int, (∃ j, j < c ∧ iv_v G x j = e) → (∀ j, j < c → iv_v G x j ≤ e) → post (iv_z e)) : wpX_bound post (nI c, iv_A G) (nI x) 1 := by
  obtain ⟨b, sb, wb⟩ := iv_xHi hc hG hx
  have hb : b < c := by have := sb.1; omega
  unfold wpX_bound
  dsimp only
  exact iv_xIs hx (br_f iv_1ne (br_f (nI_ne0 c0 (by omega)) (br_f iv_1ne (br_t rfl (wb _ (iv_xV (by omega) hx (h _ ⟨b, hb, rfl⟩ sb.2)))))))
theorem iv_yBd0 {post : Int32 → Prop} {c x : Nat} {G : Nat → Int} {p q r : Int32} {few : Nat → Int32} (hc : c ≤ 100) (c0 : 0 < c) (hG : iv_ok G) (hx : x < 4) (h : ∀ e : Int, (∃ j, j < c ∧ iv_v G x j = e) → (∀ j, j < c → e ≤ iv_v G x j) → post (iv_z e)) : wpY_bound post (nI c, p, q, r, iv_A G, few) (nI x) 0 := by
  unfold wpY_bound
  dsimp only
  exact iv_yIs hx (br_f iv_1ne (br_f (nI_ne0 c0 (by omega)) (br_t rfl ⟨iv_in0 hx, nm_r (iv_yR0 G hx) (Exists.intro (c + 1) (iv_yB0_l hc hG hx h c 0 _ (by omega) ⟨0, c0, rfl⟩ (fun j hj => absurd hj (by omega))))⟩)))
theorem iv_yBd1 {post : Int32 → Prop} {c x : Nat} {G : Nat → Int} {p q r : Int32} {few : Nat → Int32} (hc : c ≤ 100) (c0 : 0 < c) (hG : iv_ok G) (hx : x < 4) (h : ∀ e : Int, (∃ j, j < c ∧ iv_v G x j = e) → (∀ j, j < c → iv_v G x j ≤ e) → post (iv_z e)) : wpY_bound post (nI c, p, q, r, iv_A G, few) (nI x) 1 := by
  unfold wpY_bound
  dsimp only
  exact iv_yIs hx (br_f iv_1ne (br_f (nI_ne0 c0 (by omega)) (br_f iv_1ne (br_t rfl ⟨iv_in0 hx, nm_r (iv_yR0 G hx) (Exists.intro (c + 1) (iv_yB1_l hc hG hx h c 0 _ (by omega) ⟨0, c0, rfl⟩ (fun j hj => absurd hj (by omega))))⟩))))
