/-! the walks of the reference: lines; and equals, both sides together -/
theorem iv_yF_l {post : Int32 → SY → Prop} {c x y : Nat} {G : Nat → Int} {few : Nat → Int32} {p q k : Int} {Z : Prop} (hc : c ≤ 100) (hG : iv_ok G) (hx : x < 4) (hy : y < 4) (p1 : p.natAbs ≤ 200) (q1 : q.natAbs ≤ 40000) (k1 : k.natAbs ≤ 5000000)
    (hp : ∀ z, iv_B (Z ∧ ∀ j, j < c → p * iv_v G y j = q * iv_v G x j + k) z → post z (nI c, iv_z p, iv_z q, iv_z k, iv_A G, few)) :
    ∀ (d i : Nat) (z : Int32), i + d = c → iv_B (Z ∧ ∀ j, j < i → p * iv_v G y j = q * iv_v G x j + k) z → wY_find_224 post (nI x) (nI y) (nI c) (iv_z p) (iv_z q) (iv_z k) (iv_A G) few (d + 1) z (nI i) := by
  intro d
  induction d with
  | zero =>
    intro i z hi h
    obtain rfl : i = c := by omega
    refine br_t (nI_le (by omega) (by omega)) ⟨?_, hp z h⟩
    rcases h with ⟨rfl, _⟩ | ⟨rfl, _⟩
    · rfl
    · rfl
  | succ d ih =>
    intro i z hi h
    have hv := iv_vb hG x i
    have hw := iv_vb hG y i
    have b1 := iv_mb (a := p) (b := iv_v G y i) 200 100 p1 (by omega)
    have b2 := iv_mb (a := q) (b := iv_v G x i) 40000 100 q1 (by omega)
    refine br_f (nI_ge (by omega) (by omega)) ?_
    rcases h with ⟨rfl, h⟩ | ⟨rfl, h⟩
    · refine br_f iv_1ne ⟨iv_in (by omega) hy, iv_in (by omega) hx, iv_beq (p * iv_v G y i) (q * iv_v G x i + k) (fun e => ?_) (fun e => ?_) (by rw [iv_yR G (by omega) hy, iv_mul]) (by rw [iv_yR G (by omega) hx, iv_mul, iv_add])⟩
      · exact nm_r (nI_1 i) (ih (i + 1) 1 (by omega) (Or.inl ⟨rfl, h.1, iv_all_s h.2 e⟩))
      · exact nm_r (nI_1 i) (ih (i + 1) 0 (by omega) (Or.inr ⟨rfl, fun w => e (w.2 i (by omega))⟩))
    · exact br_t rfl (nm_r (nI_1 i) (ih (i + 1) 0 (by omega) (Or.inr ⟨rfl, fun w => h ⟨w.1, iv_all_p w.2⟩⟩)))
theorem iv_yF173 {post : Int32 → SY → Prop} {c x y : Nat} {G : Nat → Int} {few : Nat → Int32} {r : Int32} {p q : Int} (hc : c ≤ 100) (hG : iv_ok G) (hx : x < 4) (hy : y < 4) (p0 : 0 < p) (p1 : p.natAbs ≤ 200) (q1 : q.natAbs ≤ 40000)
    (hp : ∀ z, iv_B (q ≠ 0 ∧ ∀ j, j < c → p * iv_v G y j = q * iv_v G x j + (p * iv_v G y 0 - q * iv_v G x 0)) z → post z (nI c, iv_z p, iv_z q, iv_z (p * iv_v G y 0 - q * iv_v G x 0), iv_A G, few)) :
    wY_find_173 post (nI x) (nI y) (nI c) (iv_z p) (iv_z q) r (iv_A G) few := by
  have hv := iv_vb hG x 0
  have hw := iv_vb hG y 0
  have b1 := iv_mb (a := p) (b := iv_v G y 0) 200 100 p1 (by omega)
  have b2 := iv_mb (a := q) (b := iv_v G x 0) 40000 100 q1 (by omega)
  refine And.intro (iv_in0 hy) (And.intro (iv_in0 hx) (nm_r (e' := iv_z (p * iv_v G y 0 - q * iv_v G x 0)) (by rw [iv_yR0 G hy, iv_yR0 G hx, iv_mul, iv_mul, iv_sub]) ?_))
  refine iv_ble p 0 (fun e => absurd e (by omega)) (fun _ => iv_beq q 0 (fun e => ?_) (fun e => ?_) rfl iv_k0) rfl iv_k0
  · exact Exists.intro (c + 1) (iv_yF_l hc hG hx hy p1 q1 (by omega) hp c 0 0 (by omega) (Or.inr ⟨rfl, fun w => w.1 e⟩))
  · exact Exists.intro (c + 1) (iv_yF_l hc hG hx hy p1 q1 (by omega) hp c 0 1 (by omega) (Or.inl ⟨rfl, e, fun j hj => absurd hj (by omega)⟩))
theorem iv_kr {k : Nat} {ri : Int} : nI k * iv_z ri = iv_z (k * ri) := by rw [iv_n, iv_mul]
theorem iv_yF127 {post : Int32 → SY → Prop} {c x y : Nat} {G : Nat → Int} {few : Nat → Int32} {r : Int32} {run ri : Int} (hr : run ≠ 0) (r1 : -200 ≤ run) (r2 : run ≤ 200) (s1 : -200 ≤ ri) (s2 : ri ≤ 200)
    (hp : ∀ p q, iv_P run ri 0 p q → wY_find_173 post (nI x) (nI y) (nI c) (iv_z p) (iv_z q) r (iv_A G) few) :
    ∀ (k : Nat) (p q : Int), k ≤ 200 → iv_P run ri k p q → wY_find_127 post (nI x) (nI y) (iv_z run) (iv_z ri) (nI c) r (iv_A G) few (k + 1) (nI k) (iv_z p) (iv_z q) := by
  have hr0 : ¬ iv_z run = 0 := by
    rw [iv_k0, iv_eq (by omega) (by omega) (by omega) (by omega)]; exact hr
  intro k
  induction k with
  | zero =>
    intro p q _ h
    exact br_t (nI_lt (b := 1) (by omega) (by omega)) (hp p q h)
  | succ k ih =>
    intro p q hk h
    have b := iv_bd (k := ((k + 1 : Nat) : Int)) (r := ri) (by omega) (by omega) s1 s2
    have tb := iv_bq (b := run) (M := 40000) b.1 b.2
    have hm : (((k + 1 : Nat) : Int) * ri).tmod run = 0 ∨ ((((k + 1 : Nat) : Int) * ri).tmod run ≠ 0) := by omega
    have mb : ((((k + 1 : Nat) : Int) * ri).tmod run).natAbs ≤ 40000 := by
      have h1 := Int.natAbs_tmod (((k + 1 : Nat) : Int) * ri) run
      have h2 := Nat.mod_le (((k + 1 : Nat) : Int) * ri).natAbs run.natAbs
      omega
    refine br_f (nI_nlt (b := 1) (by omega) (by omega)) (br_f hr0 ⟨hr0, iv_beq ((((k + 1 : Nat) : Int) * ri).tmod run) 0 (fun e => ?_) (fun e => ?_) (by rw [iv_kr, iv_rem (by omega) (by omega) (by omega) (by omega)]) iv_k0⟩)
    · have hn := ih ((k : Int) + 1) (((k : Int) + 1) * ri |>.tdiv run) (by omega) (iv_P_y (by omega) (by omega) s1 s2 e)
      have ek : iv_z ((k : Int) + 1) = nI (k + 1) := (iv_n (k + 1)).symm
      rw [ek] at hn
      exact ⟨hr0, nm_r (e' := iv_z ((((k : Int) + 1) * ri).tdiv run)) (by rw [iv_kr, iv_div (by omega) (by omega) (by omega) (by omega)]; rfl) (nm_r (iv_m1 k) hn)⟩
    · exact nm_r (iv_m1 k) (ih p q (by omega) (iv_P_n h (fun z => e (Int.tmod_eq_zero_of_dvd z))))
theorem iv_yF84 {post : Int32 → SY → Prop} {c x y o : Nat} {G : Nat → Int} {few : Nat → Int32} {r : Int32} (hc : c ≤ 100) (hG : iv_ok G) (hx : x < 4) (hy : y < 4) (ho : o < c) (hv : iv_v G x o ≠ iv_v G x 0)
    (hp : ∀ P Q : Int, iv_S (iv_v G x) (iv_v G y) c P Q → (P = 0 → ∀ (p q r : Int32) (few : Nat → Int32), post 0 (nI c, p, q, r, iv_A G, few)) ∧ (P ≠ 0 → ∀ few : Nat → Int32, post 1 (nI c, iv_z P, iv_z Q, iv_z (P * iv_v G y 0 - Q * iv_v G x 0), iv_A G, few))) :
    wY_find_84 post (nI x) (nI y) (nI o) (nI c) 0 0 r (iv_A G) few := by
  have a1 := iv_vb hG x o
  have a2 := iv_vb hG x 0
  have a3 := iv_vb hG y o
  have a4 := iv_vb hG y 0
  refine And.intro (iv_in (by omega) hx) (And.intro (iv_in0 hx) (nm_r (e' := iv_z (iv_v G x o - iv_v G x 0)) (by rw [iv_yR G (by omega) hx, iv_yR0 G hx, iv_sub]) (And.intro (iv_in (by omega) hy) (And.intro (iv_in0 hy) (nm_r (e' := iv_z (iv_v G y o - iv_v G y 0)) (by rw [iv_yR G (by omega) hy, iv_yR0 G hy, iv_sub]) ?_)))))
  have hr : iv_v G x o - iv_v G x 0 ≠ 0 := by omega
  have key := iv_yF127 (post := post) (c := c) (x := x) (y := y) (G := G) (few := few) (r := r) (run := iv_v G x o - iv_v G x 0) (ri := iv_v G y o - iv_v G y 0) hr (by omega) (by omega) (by omega) (by omega) (fun p q hP => ?_) 200 0 0 (by omega) (iv_P_0 _ _)
  · rw [← iv_k0] at key
    exact Exists.intro 201 key
  · have hE := iv_P_e hP hr (by omega) (by omega)
    refine iv_yF173 hc hG hx hy hE.1 (by omega) (by omega) (fun z hz => ?_)
    rcases hz with ⟨rfl, h1, h2⟩ | ⟨rfl, h⟩
    · exact (hp p q (iv_S_Y ho rfl rfl hr (by omega) (by omega) hP h1 h2)).2 (by omega) few
    · refine (hp 0 0 (iv_S_Y0 ho rfl rfl hr (by omega) (by omega) hP ?_)).1 rfl _ _ _ few
      by_cases z : q = 0
      · exact Or.inl z
      · exact Or.inr (Classical.byContradiction (fun n => h ⟨z, fun i hi => Classical.byContradiction (fun m => n ⟨i, hi, m⟩)⟩))
theorem iv_yF49 {post : Int32 → SY → Prop} {c x y : Nat} {G : Nat → Int} {few : Nat → Int32} {r : Int32} (hc : c ≤ 100) (c0 : 0 < c) (hG : iv_ok G) (hx : x < 4) (hex : ∃ i, i < c ∧ iv_v G x i ≠ iv_v G x 0)
    (hp : ∀ o, o < c → iv_v G x o ≠ iv_v G x 0 → wY_find_84 post (nI x) (nI y) (nI o) (nI c) 0 0 r (iv_A G) few) :
    ∀ (d o : Nat), o + d = c - 1 → (∀ i, i < o → iv_v G x i = iv_v G x 0) → wY_find_49 post (nI x) (nI y) (nI c) 0 0 r (iv_A G) few (d + 1) (nI o) := by
  have ec : nI c - 1 = nI (c - 1) := by
    obtain ⟨b, rfl⟩ : ∃ b, c = b + 1 := ⟨c - 1, by omega⟩
    exact nI_pred b
  intro d
  induction d with
  | zero =>
    intro o ho h
    refine br_t (by rw [ec]; exact nI_le (by omega) (by omega)) (hp o (by omega) ?_)
    obtain ⟨i, hi, hv⟩ := hex
    by_cases z : i < o
    · exact absurd (h i z) hv
    · obtain rfl : i = o := by omega
      exact hv
  | succ d ih =>
    intro o ho h
    have a1 := iv_vb hG x o
    have a2 := iv_vb hG x 0
    refine br_f (by rw [ec]; exact nI_ge (by omega) (by omega)) ⟨iv_in (by omega) hx, iv_in0 hx, iv_beq (iv_v G x o) (iv_v G x 0) (fun e => ?_) (fun e => hp o (by omega) e) (iv_yR G (by omega) hx) (iv_yR0 G hx)⟩
    exact nm_r (nI_1 o) (ih (o + 1) (by omega) (iv_all_s h e))
theorem iv_yFd {post : Int32 → SY → Prop} {c x y : Nat} {G : Nat → Int} {p q r : Int32} {few : Nat → Int32} (hc : c ≤ 100) (hG : iv_ok G) (hx : x < 4) (hy : y < 4) (hxy : x ≠ y)
    (hp : ∀ P Q : Int, iv_S (iv_v G x) (iv_v G y) c P Q → (P = 0 → ∀ (p q r : Int32) (few : Nat → Int32), post 0 (nI c, p, q, r, iv_A G, few)) ∧ (P ≠ 0 → ∀ few : Nat → Int32, post 1 (nI c, iv_z P, iv_z Q, iv_z (P * iv_v G y 0 - Q * iv_v G x 0), iv_A G, few))) :
    wpY_find post (nI c, p, q, r, iv_A G, few) (nI x) (nI y) := by
  unfold wpY_find
  dsimp only
  refine iv_yIs hx (br_f iv_1ne (iv_yIs hy (br_f iv_1ne (br_f (fun e => hxy ((nI_eq (by omega) (by omega)).mp e)) (iv_yDf hc hG hx (fun d F hE => ?_))))))
  have hd := hE.1
  dsimp only
  by_cases a : 2 ≤ d
  · have h2 := iv_E_two hE a
    exact br_t (nI_le (a := 2) a (by omega)) (Exists.intro (c - 1 + 1) (iv_yF49 hc h2.1 hG hx h2.2 (fun o ho hv => iv_yF84 hc hG hx hy ho hv hp) (c - 1) 0 (by omega) (fun i hi => absurd hi (by omega))))
  · exact br_f (nI_ge (b := 2) (by omega) (by omega)) ((hp 0 0 (iv_S_const (iv_E_const hE (by omega)))).1 rfl _ _ _ _)
theorem iv_yFdN {post : Int32 → SY → Prop} {s p q r : Int32} {a b : Nat → Int32} {x y : Int32} (hp : iv_np x y) (h : post 0 (s, 0, 0, 0, a, b)) : wpY_find post (s, p, q, r, a, b) x y := by
  unfold wpY_find
  dsimp only
  rcases hp with z | ⟨⟨x, hx, rfl⟩, z⟩ | ⟨⟨x, hx, rfl⟩, rfl⟩
  · exact iv_yIsN z (br_t rfl h)
  · exact iv_yIs hx (br_f iv_1ne (iv_yIsN z (br_t rfl h)))
  · exact iv_yIs hx (br_f iv_1ne (iv_yIs hx (br_f iv_1ne (br_t rfl h))))
/-- equals: one answer on both sides -/
theorem iv_Eq_i {c x : Nat} {G : Nat → Int} {p q r : Int32} {few : Nat → Int32} (hc : c ≤ 100) (hG : iv_ok G) (hx : x < 4) :
    ∀ (d y : Nat) (s : Int32), y + d = 4 → x < y → ∃ t : Int32, (∀ (post : Int32 → Prop) (J : Int32 → Int32 → Prop), J t (nI (x + 1)) → wX_equals_13 post J (nI x) (nI c) (iv_A G) (d + 1) s (nI y)) ∧ (∀ (post : Int32 → Prop) (J : Int32 → Int32 → Prop), J t (nI (x + 1)) → wY_equals_13 post J (nI x) (nI c) p q r (iv_A G) few (d + 1) s (nI y)) := by
  intro d
  induction d with
  | zero =>
    intro y s hy hxy
    exact ⟨s, fun post J h => br_t (nI_le (a := 4) (by omega) (by omega)) (nm_r (nI_1 x) h), fun post J h => br_t (nI_le (a := 4) (by omega) (by omega)) (nm_r (nI_1 x) h)⟩
  | succ d ih =>
    intro y s hy hxy
    by_cases z : ∀ i, i < c → iv_H 2 (iv_v G x i) (iv_v G y i)
    · obtain ⟨t, h1, h2⟩ := ih (y + 1) (s ||| ((1 : Int32) <<< (((4 * nI x) + nI y) &&& 31))) (by omega) (by omega)
      refine ⟨t, fun post J h => ?_, fun post J h => ?_⟩
      · exact br_f (nI_ge (b := 4) (by omega) (by omega)) (iv_xRH (t := 2) hc hG hx (by omega) (by omega) (fun _ => br_f iv_1ne (nm_e (nm_r (nI_1 y) (h1 post J h)))) (fun n => absurd z n))
      · exact br_f (nI_ge (b := 4) (by omega) (by omega)) (iv_yRe (t := 2) hc hG hx (by omega) (by omega) (by omega) (fun _ => br_f iv_1ne (nm_e (nm_r (nI_1 y) (h2 post J h)))) (fun n => absurd z n))
    · obtain ⟨t, h1, h2⟩ := ih (y + 1) s (by omega) (by omega)
      refine ⟨t, fun post J h => ?_, fun post J h => ?_⟩
      · exact br_f (nI_ge (b := 4) (by omega) (by omega)) (iv_xRH (t := 2) hc hG hx (by omega) (by omega) (fun n => absurd n z) (fun _ => br_t rfl (nm_r (nI_1 y) (h1 post J h))))
      · exact br_f (nI_ge (b := 4) (by omega) (by omega)) (iv_yRe (t := 2) hc hG hx (by omega) (by omega) (by omega) (fun n => absurd n z) (fun _ => br_t rfl (nm_r (nI_1 y) (h2 post J h))))
theorem iv_Eq_o {c : Nat} {G : Nat → Int} {p q r : Int32} {few : Nat → Int32} (hc : c ≤ 100) (hG : iv_ok G) :
    ∀ (d x : Nat) (s : Int32), x + d = 4 → ∃ t : Int32, (∀ post : Int32 → Prop, post t → wX_equals_4 post (nI c) (iv_A G) (d + 1) s (nI x)) ∧ (∀ post : Int32 → Prop, post t → wY_equals_4 post (nI c) p q r (iv_A G) few (d + 1) s (nI x)) := by
  intro d
  induction d with
  | zero =>
    intro x s hx
    exact ⟨s, fun post h => br_t (nI_le (a := 4) (by omega) (by omega)) h, fun post h => br_t (nI_le (a := 4) (by omega) (by omega)) h⟩
  | succ d ih =>
    intro x s hx
    obtain ⟨t1, h1, h2⟩ := iv_Eq_i (p := p) (q := q) (r := r) (few := few) hc hG (by omega : x < 4) d (x + 1) s (by omega) (by omega)
    obtain ⟨t, k1, k2⟩ := ih (x + 1) t1 (by omega)
    refine ⟨t, fun post h => ?_, fun post h => ?_⟩
    · exact br_f (nI_ge (b := 4) (by omega) (by omega)) (nm_r (nI_1 x) (Exists.intro (d + 1) (h1 post _ (k1 post h))))
    · exact br_f (nI_ge (b := 4) (by omega) (by omega)) (nm_r (nI_1 x) (Exists.intro (d + 1) (h2 post _ (k2 post h))))
