/-- one count, one array of values in -100 .. 100; few, p, q, r are the reference's own -/
def i_Rel (k : Nat) (u : SX) (v : SY) : Prop := ∃ (c : Nat) (G : Nat → Int) (p q r : Int32) (few : Nat → Int32), c ≤ 100 ∧ iv_ok G ∧ u = (nI c, iv_A G) ∧ v = (nI c, p, q, r, iv_A G, few)
theorem iv_rel {k c : Nat} {G : Nat → Int} {p q r : Int32} {few : Nat → Int32} (hc : c ≤ 100) (hG : iv_ok G) : i_Rel k (nI c, iv_A G) (nI c, p, q, r, iv_A G, few) := ⟨c, G, p, q, r, few, hc, hG, rfl, rfl⟩
theorem i_up {k : Nat} {u : SX} {v : SY} (h : i_Rel k u v) : i_Rel (k + 5) u v := h
theorem i_vc0 : wpX_init (fun u => wpY_init (fun v => i_Rel 0 u v)) := by
  have e : (fun _ => (0 : Int32)) = iv_A (fun _ => 0) := funext fun _ => iv_k0
  exact ⟨0, fun _ => 0, 0, 0, 0, fun _ => 0, by omega, fun _ => (by decide : (-100 : Int) ≤ 0 ∧ (0 : Int) ≤ 100), congrArg (Prod.mk (nI 0)) e, congrArg (fun a => ((nI 0, 0, 0, 0, a, fun _ => 0) : SY)) e⟩
theorem i_vc_sample {k : Nat} {u : SX} {v : SY} (I : i_Rel k u v) (hk : k + 5 ≤ 2560) (v1 : Int32) (v2 : Int32) (v3 : Int32) (v4 : Int32) : wpX_sample (fun r u' => wpY_sample (fun r' v' => r' = r ∧ i_Rel (k + 5) u' v') v v1 v2 v3 v4) u v1 v2 v3 v4 := by
  obtain ⟨c, G, p, q, r, few, hc, hG, rfl, rfl⟩ := I
  rcases iv_four v1 v2 v3 v4 with ⟨z1, z2, z3, z4, h1, h2, h3, h4, rfl, rfl, rfl, rfl⟩ | hb
  · refine iv_xSa hc h1 h2 h3 h4 (fun e => ?_) (fun e => ?_)
    · exact iv_ySa hc h1 h2 h3 h4 (fun _ => ⟨rfl, iv_rel hc hG⟩) (fun e' => absurd e' (by omega))
    · exact iv_ySa hc h1 h2 h3 h4 (fun e' => absurd e' (by omega)) (fun _ => ⟨rfl, iv_rel (by omega) (iv_put_ok (iv_put_ok (iv_put_ok (iv_put_ok hG h1) h2) h3) h4)⟩)
  · exact iv_xSaN hb (iv_ySaN hb ⟨rfl, iv_rel hc hG⟩)
theorem i_vc_clear {k : Nat} {u : SX} {v : SY} (I : i_Rel k u v) (hk : k + 5 ≤ 2560) : wpX_clear (fun u' => wpY_clear (fun v' => i_Rel (k + 5) u' v') v) u := by
  obtain ⟨c, G, p, q, r, few, hc, hG, rfl, rfl⟩ := I
  exact ⟨0, G, p, q, r, few, by omega, hG, rfl, rfl⟩
theorem i_vc_samples {k : Nat} {u : SX} {v : SY} (I : i_Rel k u v) (hk : k + 5 ≤ 2560) : wpX_samples (fun r => wpY_samples (fun r' => r' = r ∧ i_Rel (k + 5) u v) v) u := by
  obtain ⟨c, G, p, q, r, few, hc, hG, rfl, rfl⟩ := I
  exact And.intro rfl (iv_rel hc hG)
theorem i_vc_constant {k : Nat} {u : SX} {v : SY} (I : i_Rel k u v) (hk : k + 5 ≤ 2560) (v1 : Int32) : wpX_constant (fun r => wpY_constant (fun r' v' => r' = r ∧ i_Rel (k + 5) u v') v v1) u v1 := by
  obtain ⟨c, G, p, q, r, few, hc, hG, rfl, rfl⟩ := I
  rcases iv_var v1 with ⟨x, hx, rfl⟩ | hn
  · refine iv_xCo hc hG hx (fun d m hE => ⟨fun e => ?_, fun e => ?_⟩)
    · exact iv_yCo hc hG hx (fun d' F hF => ⟨fun _ => ⟨rfl, iv_rel hc hG⟩, fun e' => absurd (iv_E_u hE hF) (by omega)⟩)
    · exact iv_yCo hc hG hx (fun d' F hF => ⟨fun e' => absurd (iv_E_u hE hF) (by omega), fun _ => ⟨rfl, iv_rel hc hG⟩⟩)
  · exact iv_xCoN hn (iv_yCoN hn ⟨rfl, iv_rel hc hG⟩)
theorem i_vc_bound {k : Nat} {u : SX} {v : SY} (I : i_Rel k u v) (hk : k + 5 ≤ 2560) (v1 : Int32) (v2 : Int32) : wpX_bound (fun r => wpY_bound (fun r' => r' = r ∧ i_Rel (k + 5) u v) v v1 v2) u v1 v2 := by
  obtain ⟨c, G, p, q, r, few, hc, hG, rfl, rfl⟩ := I
  rcases iv_var v1 with ⟨x, hx, rfl⟩ | hn
  · rcases Nat.eq_zero_or_pos c with c0 | c0
    · subst c0
      exact iv_xBdN (Or.inr ⟨⟨x, hx, rfl⟩, Or.inl rfl⟩) (iv_yBdN (Or.inr ⟨⟨x, hx, rfl⟩, Or.inl rfl⟩) ⟨rfl, iv_rel hc hG⟩)
    · by_cases w0 : v2 = 0
      · subst w0
        refine iv_xBd0 hc c0 hG hx (fun e h1 h2 => iv_yBd0 hc c0 hG hx (fun e' h1' h2' => ⟨?_, iv_rel hc hG⟩))
        obtain ⟨j, hj, ej⟩ := h1
        obtain ⟨j', hj', ej'⟩ := h1'
        have a := h2 j' hj'
        have b := h2' j hj
        exact congrArg iv_z (by omega)
      · by_cases w1 : v2 = 1
        · subst w1
          refine iv_xBd1 hc c0 hG hx (fun e h1 h2 => iv_yBd1 hc c0 hG hx (fun e' h1' h2' => ⟨?_, iv_rel hc hG⟩))
          obtain ⟨j, hj, ej⟩ := h1
          obtain ⟨j', hj', ej'⟩ := h1'
          have a := h2 j' hj'
          have b := h2' j hj
          exact congrArg iv_z (by omega)
        · have hn : ¬ nI c = 0 := nI_ne0 c0 (by omega)
          exact iv_xBdN (Or.inr ⟨⟨x, hx, rfl⟩, Or.inr ⟨hn, w0, w1⟩⟩) (iv_yBdN (Or.inr ⟨⟨x, hx, rfl⟩, Or.inr ⟨hn, w0, w1⟩⟩) ⟨rfl, iv_rel hc hG⟩)
  · exact iv_xBdN (Or.inl hn) (iv_yBdN (Or.inl hn) ⟨rfl, iv_rel hc hG⟩)
theorem i_vc_different {k : Nat} {u : SX} {v : SY} (I : i_Rel k u v) (hk : k + 5 ≤ 2560) (v1 : Int32) : wpX_different (fun r => wpY_different (fun r' v' => r' = r ∧ i_Rel (k + 5) u v') v v1) u v1 := by
  obtain ⟨c, G, p, q, r, few, hc, hG, rfl, rfl⟩ := I
  rcases iv_var v1 with ⟨x, hx, rfl⟩ | hn
  · exact iv_xDf hc hG hx (fun d m hE => iv_yDf hc hG hx (fun d' F hF => ⟨by rw [iv_E_u hE hF], iv_rel hc hG⟩))
  · exact iv_xDfN hn (iv_yDfN hn ⟨rfl, iv_rel hc hG⟩)
theorem i_vc_valueAt {k : Nat} {u : SX} {v : SY} (I : i_Rel k u v) (hk : k + 5 ≤ 2560) (v1 : Int32) (v2 : Int32) : wpX_valueAt (fun r => wpY_valueAt (fun r' v' => r' = r ∧ i_Rel (k + 5) u v') v v1 v2) u v1 v2 := by
  obtain ⟨c, G, p, q, r, few, hc, hG, rfl, rfl⟩ := I
  rcases iv_var v1 with ⟨x, hx, rfl⟩ | hn
  · refine iv_xVA hc hG hx (fun d m hE => ⟨fun hno => ?_, fun K eK hK hd m' R hC hm => ?_⟩)
    · refine iv_yVA hc hG hx (fun d' F hF => ⟨fun _ => ⟨rfl, iv_rel hc hG⟩, fun K eK hK hd => ?_⟩)
      exfalso
      have e := iv_E_u hE hF
      subst eK
      rcases hno with z | z | z
      · omega
      · exact nI_pos (by omega) z
      · exact nI_ge (a := K) (b := d) (by omega) (by omega) z
    · refine iv_yVA hc hG hx (fun d' F hF => ⟨fun hno => ?_, fun K' eK' _ _ => ⟨m', R, ?_, ?_, rfl, iv_rel hc hG⟩⟩)
      · exfalso
        have e := iv_E_u hE hF
        subst eK
        rcases hno with z | z | z
        · omega
        · exact nI_pos (by omega) z
        · exact nI_ge (a := K) (b := d') (by omega) (by omega) z
      · have e : K = K' := (nI_eq (by omega) (by omega)).mp (eK.symm.trans eK')
        rw [← e]; exact hC
      · have e : K = K' := (nI_eq (by omega) (by omega)).mp (eK.symm.trans eK')
        rw [← e]; exact hm
  · exact iv_xVAN hn (iv_yVAN hn ⟨rfl, iv_rel hc hG⟩)
theorem i_vc_modulus {k : Nat} {u : SX} {v : SY} (I : i_Rel k u v) (hk : k + 5 ≤ 2560) (v1 : Int32) : wpX_modulus (fun r => wpY_modulus (fun r' v' => r' = r ∧ i_Rel (k + 5) u v') v v1) u v1 := by
  obtain ⟨c, G, p, q, r, few, hc, hG, rfl, rfl⟩ := I
  rcases iv_var v1 with ⟨x, hx, rfl⟩ | hn
  · refine iv_xMo hc hG hx (fun d m hE => ⟨fun a => ?_, fun a M _ hM => ?_⟩)
    · exact iv_yMo hc hG hx (fun d' F hF => ⟨fun _ => ⟨rfl, iv_rel hc hG⟩, fun b => absurd (iv_E_u hE hF) (by omega)⟩)
    · refine iv_yMo hc hG hx (fun d' F hF => ⟨fun b => absurd (iv_E_u hE hF) (by omega), fun _ M' _ hM' => ⟨?_, iv_rel hc hG⟩⟩)
      have e := iv_Mo_u hM hM'
      exact congrArg nI (by omega)
  · exact iv_xMoN hn (iv_yMoN hn ⟨rfl, iv_rel hc hG⟩)
theorem i_vc_remainder {k : Nat} {u : SX} {v : SY} (I : i_Rel k u v) (hk : k + 5 ≤ 2560) (v1 : Int32) : wpX_remainder (fun r => wpY_remainder (fun r' v' => r' = r ∧ i_Rel (k + 5) u v') v v1) u v1 := by
  obtain ⟨c, G, p, q, r, few, hc, hG, rfl, rfl⟩ := I
  rcases iv_var v1 with ⟨x, hx, rfl⟩ | hn
  · refine iv_xRm hc hG hx (fun d m hE => ⟨fun a => ?_, fun a M _ hM => ⟨fun b => ?_, fun b => ?_⟩⟩)
    · exact iv_yRm hc hG hx (fun d' F hF => ⟨fun _ => ⟨rfl, iv_rel hc hG⟩, fun b => absurd (iv_E_u hE hF) (by omega)⟩)
    · refine iv_yRm hc hG hx (fun d' F hF => ⟨fun b => absurd (iv_E_u hE hF) (by omega), fun _ M' _ hM' => ⟨fun _ => ⟨rfl, iv_rel hc hG⟩, fun b' => ?_⟩⟩)
      have e := iv_Mo_u hM hM'
      omega
    · refine iv_yRm hc hG hx (fun d' F hF => ⟨fun b => absurd (iv_E_u hE hF) (by omega), fun _ M' _ hM' => ⟨fun b' => ?_, fun _ => ⟨?_, iv_rel hc hG⟩⟩⟩)
      · have e := iv_Mo_u hM hM'
        omega
      · rw [iv_Mo_u hM hM']
  · exact iv_xRmN hn (iv_yRmN hn ⟨rfl, iv_rel hc hG⟩)
theorem i_vc_relation {k : Nat} {u : SX} {v : SY} (I : i_Rel k u v) (hk : k + 5 ≤ 2560) (v1 : Int32) (v2 : Int32) (v3 : Int32) : wpX_relation (fun r => wpY_relation (fun r' => r' = r ∧ i_Rel (k + 5) u v) v v1 v2 v3) u v1 v2 v3 := by
  obtain ⟨c, G, p, q, r, few, hc, hG, rfl, rfl⟩ := I
  rcases iv_pair v1 v2 with ⟨x, y, hx, hy, hxy, rfl, rfl⟩ | hn
  · rcases iv_var v3 with ⟨t, ht, rfl⟩ | ht
    · refine iv_xRe hc hG hx hy hxy (by omega) (fun a => ?_) (fun a => ?_)
      · exact iv_yRe hc hG hx hy hxy (by omega) (fun _ => ⟨rfl, iv_rel hc hG⟩) (fun b => absurd a b)
      · exact iv_yRe hc hG hx hy hxy (by omega) (fun b => absurd b a) (fun _ => ⟨rfl, iv_rel hc hG⟩)
    · exact iv_xReT hx hy hxy ht (iv_yReT hx hy hxy ht ⟨rfl, iv_rel hc hG⟩)
  · exact iv_xReN hn (iv_yReN hn ⟨rfl, iv_rel hc hG⟩)
theorem i_vc_offset {k : Nat} {u : SX} {v : SY} (I : i_Rel k u v) (hk : k + 5 ≤ 2560) (v1 : Int32) (v2 : Int32) : wpX_offset (fun r => wpY_offset (fun r' => r' = r ∧ i_Rel (k + 5) u v) v v1 v2) u v1 v2 := by
  obtain ⟨c, G, p, q, r, few, hc, hG, rfl, rfl⟩ := I
  rcases iv_pair v1 v2 with ⟨x, y, hx, hy, hxy, rfl, rfl⟩ | hn
  · refine iv_xOf hc hG hx hy hxy (fun z => ?_) (fun z a => ?_) (fun z a => ?_)
    · exact iv_yOf hc hG hx hy hxy (fun _ => ⟨rfl, iv_rel hc hG⟩) (fun z' => absurd z (by omega)) (fun z' => absurd z (by omega))
    · exact iv_yOf hc hG hx hy hxy (fun z' => absurd z (by omega)) (fun _ _ => ⟨rfl, iv_rel hc hG⟩) (fun _ b => absurd a b)
    · exact iv_yOf hc hG hx hy hxy (fun z' => absurd z (by omega)) (fun _ b => absurd b a) (fun _ _ => ⟨rfl, iv_rel hc hG⟩)
  · exact iv_xOfN hn (iv_yOfN hn ⟨rfl, iv_rel hc hG⟩)
theorem i_vc_line {k : Nat} {u : SX} {v : SY} (I : i_Rel k u v) (hk : k + 5 ≤ 2560) (v1 : Int32) (v2 : Int32) : wpX_line (fun r => wpY_line (fun r' v' => r' = r ∧ i_Rel (k + 5) u v') v v1 v2) u v1 v2 := by
  obtain ⟨c, G, p, q, r, few, hc, hG, rfl, rfl⟩ := I
  rcases iv_pair v1 v2 with ⟨x, y, hx, hy, hxy, rfl, rfl⟩ | hn
  · obtain ⟨P, Q, hS, _, _, wL, _⟩ := iv_xLn hc hG hx hy hxy
    refine wL _ ?_
    unfold wpY_line
    dsimp only
    refine iv_yFd hc hG hx hy hxy (fun P' Q' hS' => ⟨fun e p q r few => ?_, fun e few => ?_⟩)
    · have h := iv_S_u hS hS'
      dsimp only
      refine br_t rfl ⟨?_, iv_rel hc hG⟩
      rw [h.1, e]; exact iv_k0
    · have h := iv_S_u hS hS'
      dsimp only
      refine br_f iv_1ne ⟨?_, iv_rel hc hG⟩
      rw [h.1]
  · refine iv_xLnN hn ?_
    unfold wpY_line
    dsimp only
    refine iv_yFdN hn ?_
    dsimp only
    exact br_t rfl ⟨rfl, iv_rel hc hG⟩
theorem i_vc_slope {k : Nat} {u : SX} {v : SY} (I : i_Rel k u v) (hk : k + 5 ≤ 2560) (v1 : Int32) (v2 : Int32) : wpX_slope (fun r => wpY_slope (fun r' v' => r' = r ∧ i_Rel (k + 5) u v') v v1 v2) u v1 v2 := by
  obtain ⟨c, G, p, q, r, few, hc, hG, rfl, rfl⟩ := I
  rcases iv_pair v1 v2 with ⟨x, y, hx, hy, hxy, rfl, rfl⟩ | hn
  · obtain ⟨P, Q, hS, _, _, _, wS⟩ := iv_xLn hc hG hx hy hxy
    refine wS _ ?_
    unfold wpY_slope
    dsimp only
    refine iv_yFd hc hG hx hy hxy (fun P' Q' hS' => ⟨fun e p q r few => ?_, fun e few => ?_⟩)
    · have h := iv_S_u hS hS'
      have hQ : Q' = 0 := by
        rcases hS' with ⟨_, z, _⟩ | ⟨z, _⟩
        · exact z
        · have := z.1
          omega
      dsimp only
      refine br_t rfl ⟨?_, iv_rel hc hG⟩
      rw [h.2, hQ]; exact iv_k0
    · have h := iv_S_u hS hS'
      dsimp only
      refine br_f iv_1ne ⟨?_, iv_rel hc hG⟩
      rw [h.2]
  · refine iv_xSlN hn ?_
    unfold wpY_slope
    dsimp only
    refine iv_yFdN hn ?_
    dsimp only
    exact br_t rfl ⟨rfl, iv_rel hc hG⟩
theorem i_vc_rise {k : Nat} {u : SX} {v : SY} (I : i_Rel k u v) (hk : k + 5 ≤ 2560) (v1 : Int32) (v2 : Int32) : wpX_rise (fun r => wpY_rise (fun r' v' => r' = r ∧ i_Rel (k + 5) u v') v v1 v2) u v1 v2 := by
  obtain ⟨c, G, p, q, r, few, hc, hG, rfl, rfl⟩ := I
  rcases iv_pair v1 v2 with ⟨x, y, hx, hy, hxy, rfl, rfl⟩ | hn
  · obtain ⟨P, Q, hS, hP, _, wL, wS⟩ := iv_xLn hc hG hx hy hxy
    refine iv_xRi hx hy hP wL wS (fun eP => ?_) (fun eP => ?_)
    · unfold wpY_rise
      dsimp only
      refine iv_yFd hc hG hx hy hxy (fun P' Q' hS' => ⟨fun e p q r few => ?_, fun e few => ?_⟩)
      · dsimp only
        exact br_t rfl ⟨rfl, iv_rel hc hG⟩
      · exact absurd (iv_S_u hS hS').1 (by omega)
    · unfold wpY_rise
      dsimp only
      refine iv_yFd hc hG hx hy hxy (fun P' Q' hS' => ⟨fun e p q r few => ?_, fun e few => ?_⟩)
      · exact absurd (iv_S_u hS hS').1 (by omega)
      · have h := iv_S_u hS hS'
        dsimp only
        refine br_f iv_1ne ⟨?_, iv_rel hc hG⟩
        rw [h.1, h.2]
  · refine iv_xRiN hn ?_
    unfold wpY_rise
    dsimp only
    refine iv_yFdN hn ?_
    dsimp only
    exact br_t rfl ⟨rfl, iv_rel hc hG⟩
theorem i_vc_equals {k : Nat} {u : SX} {v : SY} (I : i_Rel k u v) (hk : k + 5 ≤ 2560) : wpX_equals (fun r => wpY_equals (fun r' => r' = r ∧ i_Rel (k + 5) u v) v) u := by
  obtain ⟨c, G, p, q, r, few, hc, hG, rfl, rfl⟩ := I
  obtain ⟨t, h1, h2⟩ := iv_Eq_o (p := p) (q := q) (r := r) (few := few) hc hG 4 0 0 (by omega)
  exact Exists.intro 5 (h1 _ (Exists.intro 5 (h2 _ ⟨rfl, iv_rel hc hG⟩)))
theorem i_vc_sums {k : Nat} {u : SX} {v : SY} (I : i_Rel k u v) (hk : k + 5 ≤ 2560) (v1 : Int32) (v2 : Int32) (v3 : Int32) : wpX_sums (fun r => wpY_sums (fun r' => r' = r ∧ i_Rel (k + 5) u v) v v1 v2 v3) u v1 v2 v3 := by
  obtain ⟨c, G, p, q, r, few, hc, hG, rfl, rfl⟩ := I
  rcases iv_three v1 v2 v3 with ⟨x, y, z, hx, hy, hz, rfl, rfl, rfl⟩ | hn
  · refine iv_xSu hc hG hx hy hz (fun a => ?_) (fun a => ?_)
    · exact iv_ySu hc hG hx hy hz (fun _ => ⟨rfl, iv_rel hc hG⟩) (fun b => absurd a b)
    · exact iv_ySu hc hG hx hy hz (fun b => absurd b a) (fun _ => ⟨rfl, iv_rel hc hG⟩)
  · exact iv_xSuN hn (iv_ySuN hn ⟨rfl, iv_rel hc hG⟩)
