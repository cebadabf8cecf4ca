/-! weight, setLaw -/
theorem law_256 : ∀ j, j < 256 → f_J0_indexOf_0f7a4 (nI j) = f_X7_lawOf (nI j) ∧ (f_X7_lawOf (nI j) = (-1 : Int32) ∨ (0 ≤ (f_X7_lawOf (nI j)).toInt ∧ (f_X7_lawOf (nI j)).toInt ≤ 11)) := by decide +kernel
theorem let_r : ∀ j, j < 12 → 98 ≤ (f_X7_letterOf (nI j)).toInt ∧ (f_X7_letterOf (nI j)).toInt ≤ 120 := by decide +kernel
theorem law_out {p : Int32} (h : p.toInt < 0 ∨ 255 < p.toInt) : f_X7_lawOf p = (-1 : Int32) := by
  have key : ∀ n fu i, i ≤ 12 → 12 - i = n → n < fu → f_X7_lawOf_l4 p fu (-1 : Int32) (nI i) = (-1 : Int32) := by
    intro n
    induction n with
    | zero =>
      intro fu i h1 h2 h3
      obtain ⟨f, rfl⟩ : ∃ f, fu = f + 1 := ⟨fu - 1, by omega⟩
      have hi : i = 12 := by omega
      rw [e_X7_lawOf_l4, if_pos (by rw [hi]; decide)]
    | succ n ih =>
      intro fu i h1 h2 h3
      obtain ⟨f, rfl⟩ : ∃ f, fu = f + 1 := ⟨fu - 1, by omega⟩
      have e12 : (12 : Int32).toInt = 12 := rfl
      have hne : ¬ f_X7_letterOf (nI i) = p := by
        intro e
        have hr := let_r i (by omega)
        rw [e] at hr
        omega
      rw [e_X7_lawOf_l4, if_neg (by rw [t_le, e12, t_n (by omega)]; omega), if_neg hne, e_X7_lawOf_j23]
      have h4 := ih f (i + 1) (by omega) (by omega) (by omega)
      rw [nI_plus] at h4
      exact h4
  exact key 12 13 0 (by omega) rfl (by omega)
theorem law_eq {p : Int32} : f_J0_indexOf_0f7a4 p = f_X7_lawOf p ∧ (f_X7_lawOf p = (-1 : Int32) ∨ (0 ≤ (f_X7_lawOf p).toInt ∧ (f_X7_lawOf p).toInt ≤ 11)) := by
  by_cases h : 0 ≤ p.toInt ∧ p.toInt ≤ 255
  · have e := nI_back h.1
    have h1 := law_256 p.toInt.toNat (by omega)
    rw [e] at h1
    exact h1
  · have ho : p.toInt < 0 ∨ 255 < p.toInt := by omega
    have e1 := law_out ho
    have e255 : (255 : Int32).toInt = 255 := rfl
    have ec : f_J1_canEncode_9a6ad p = 0 := by
      rw [e_J1_canEncode_9a6ad]
      by_cases a : p < (0 : Int32)
      · exact if_pos a
      · rw [if_neg a]
        rw [t_lt, e0i] at a
        exact if_pos (by rw [t_lt, e255]; omega)
    have e2 : f_J0_indexOf_0f7a4 p = (-1 : Int32) := by
      rw [e_J0_indexOf_0f7a4, e_J0_indexOf_7cf53, e_J1_indexOf_4cfef, if_pos ec]
    exact ⟨e2.trans e1.symm, Or.inl e1⟩
theorem rl_cls {p : Int32} : (f_X6_requiredLaw p = Sum.inl "java/lang/IllegalArgumentException" ∧ f_X7_lawOf p = (-1 : Int32)) ∨ ∃ j, j < 12 ∧ f_X6_requiredLaw p = Sum.inr (nI j) ∧ f_X7_lawOf p = nI j := by
  obtain ⟨h1, h2⟩ := law_eq (p := p)
  rcases h2 with h2 | ⟨h2, h3⟩
  · exact Or.inl (And.intro (by rw [e_X6_requiredLaw, h1, h2]; exact if_neg (by decide)) h2)
  · have e := nI_back h2
    exact Or.inr ⟨(f_X7_lawOf p).toInt.toNat, by omega, by rw [e_X6_requiredLaw, h1, if_pos (by rw [t_le, e0i]; exact h2), e], e.symm⟩
theorem wOf_v {wv : Nat → Int32} {j : Nat} (h : j < 12) : f_X2_weightOf wv (nI j) = wv j := by
  have e12 : (12 : Int32).toInt = 12 := rfl
  rw [e_X2_weightOf, if_neg (by rw [t_lt, e0i, t_n (by omega)]; omega), if_neg (by rw [t_le, e12, t_n (by omega)]; omega), nI_clamp (by omega)]
theorem wSet_v {wv : Nat → Int32} {wn x : Int32} {j : Nat} (h : j < 12) : f_X2_setWeight wn wv (nI j) x = (upd wv j x, wn + (1 : Int32)) := by
  have e12 : (12 : Int32).toInt = 12 := rfl
  rw [e_X2_setWeight, if_neg (by rw [t_lt, e0i, t_n (by omega)]; omega), if_neg (by rw [t_le, e12, t_n (by omega)]; omega), nI_clamp (by omega)]
theorem wtr_upd {wv mw : Nat → Int32} {j : Nat} {x : Int32} (h : wtr wv mw) (hx : 0 ≤ x.toInt ∧ x.toInt ≤ 10) : wtr (upd wv j x) (upd mw j x) := by
  intro i hi
  by_cases e : i = j
  · have e1 : upd wv j x i = x := if_pos e
    have e2 : upd mw j x i = x := if_pos e
    rw [e1, e2]
    exact ⟨rfl, hx⟩
  · have e1 : upd wv j x i = wv i := if_neg e
    have e2 : upd mw j x i = mw i := if_neg e
    rw [e1, e2]
    exact h i hi
theorem s_weight {Rs : RsT} : St_weight (RelB Rs) := by
  intro k tc tv gc gs gb gf gl gh gn gv wn wv mt mc mn mr mb mf mlo mhi mx mg ml mw me mo p0 w hk h
  have h0 := h
  obtain ⟨hl, hc, ht, hn, hw, -⟩ := h
  rcases rl_cls (p := p0) with ⟨ha, hb⟩ | ⟨j, hj, ha, hb⟩
  · have e6 : f_X6_weight wv p0 = Sum.inl "java/lang/IllegalArgumentException" := by
      rw [e_X6_weight, ha, sb_l rfl]
    have e7 : f_X7_weight mw p0 = ((0 : Int32), (1 : Int32)) := by
      rw [e_X7_weight, if_pos hb, e_X7_weight_j16, go1]
      exact if_pos rfl
    rw [e6, e7]
    exact ⟨fun E e => (Sum.inl.inj e).symm, kcd_0.symm, fun e => absurd e kc_ne, rb_up h0⟩
  · have e6 : f_X6_weight wv p0 = Sum.inr (wv j) := by
      rw [e_X6_weight, ha, sb_r rfl, wOf_v hj]
    have e7 : f_X7_weight mw p0 = (mw j, (0 : Int32)) := by
      rw [e_X7_weight, if_neg (by rw [hb]; exact nm1 (by omega)), e_X7_weight_j16, go0, hb, nI_clamp (by omega)]
      exact if_neg (by decide)
    rw [e6, e7, (hw j hj).1]
    exact ⟨fun E e => inr_ne e, rfl, fun _ => rfl, rb_up h0⟩
theorem s_setLaw {Rs : RsT} (R : RsOk Rs) : St_setLaw (RelB Rs) := by
  intro k tc tv gc gs gb gf gl gh gn gv wn wv mt mc mn mr mb mf mlo mhi mx mg ml mw me mo p0 p1 w hk h
  have h0 := h
  obtain ⟨hl, hc, ht, hn, hw, hr, hz, hgn, ⟨a, ha, rfl⟩, hs⟩ := h
  have e10 : (10 : Int32).toInt = 10 := rfl
  have y25 : f_X7_setLaw_j25 mw p0 p1 = ((0 : Int32), (1 : Int32), mw) := by
    rw [e_X7_setLaw_j25, e_X7_setLaw_j26, go1]
    exact if_pos rfl
  have cls : (f_X6_setLaw (nI a) wv p0 p1 = (Sum.inl "java/lang/IllegalArgumentException", wv, nI a) ∧ f_X7_setLaw mw p0 p1 = ((0 : Int32), (1 : Int32), mw)) ∨ ∃ j, j < 12 ∧ (0 ≤ p1.toInt ∧ p1.toInt ≤ 10) ∧ f_X6_setLaw (nI a) wv p0 p1 = (Sum.inr (wv j), upd wv j p1, nI a + (1 : Int32)) ∧ f_X7_setLaw mw p0 p1 = (mw j, (0 : Int32), upd mw j p1) := by
    rcases rl_cls (p := p0) with ⟨hb, hd⟩ | ⟨j, hj, hb, hd⟩
    · exact Or.inl (And.intro (by rw [e_X6_setLaw, hb, sb_l rfl]) (by rw [e_X7_setLaw, if_pos hd, y25]))
    · have hd2 : ¬ f_X7_lawOf p0 = (-1 : Int32) := by
        rw [hd]
        exact nm1 (by omega)
      by_cases b1 : p1 < (0 : Int32)
      · exact Or.inl (And.intro (by rw [e_X6_setLaw, hb, sb_r rfl, if_pos b1, e_X6_setLaw_j16]) (by rw [e_X7_setLaw, if_neg hd2, if_pos (in_lo b1), y25]))
      · by_cases b2 : p1 ≤ (10 : Int32)
        · have b3 : ¬ (10 : Int32) < p1 := by
            rw [t_le] at b2
            rw [t_lt]
            omega
          refine Or.inr ⟨j, hj, ⟨?_, ?_⟩, ?_, ?_⟩
          · rw [t_lt, e0i] at b1
            omega
          · rw [t_le, e10] at b2
            exact b2
          · rw [e_X6_setLaw, hb, sb_r rfl, if_neg b1, if_pos b2, wOf_v hj, wSet_v hj]
          · rw [e_X7_setLaw, if_neg hd2, if_neg (in_ok b1 b3), e_X7_setLaw_j26, go0, hd, nI_clamp (by omega)]
            exact if_neg (by decide)
        · have b3 : (10 : Int32) < p1 := by
            rw [t_le] at b2
            rw [t_lt]
            omega
          exact Or.inl (And.intro (by rw [e_X6_setLaw, hb, sb_r rfl, if_neg b1, if_neg b2, e_X6_setLaw_j16]) (by rw [e_X7_setLaw, if_neg hd2, if_pos (in_hi b1 b3), y25]))
  rcases cls with ⟨e6, e7⟩ | ⟨j, hj, hp, e6, e7⟩
  · rw [e6, e7]
    exact ⟨fun E e => (Sum.inl.inj e).symm, kcd_0.symm, fun e => absurd e kc_ne, rb_up h0⟩
  · rw [e6, e7]
    exact ⟨fun E e => inr_ne e, rfl, fun _ => congrArg Sum.inr (hw j hj).1, hl, hc, ht, hn, wtr_upd hw hp, hr, hz, e_up hgn, e_up1 ha, R.w (by omega) hs⟩
