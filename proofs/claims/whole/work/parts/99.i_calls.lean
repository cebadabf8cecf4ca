/-! other, change, noteAt, ratio, range -/
theorem e1i : (1 : Int32).toInt = 1 := rfl
theorem e0i : (0 : Int32).toInt = 0 := rfl
theorem e53i : (53 : Int32).toInt = 53 := rfl
theorem x_ot1 {tc gc gs p0 : Int32} {tv : Nat → Int32} (h : f_X5_isNote p0 = 0) : f_X6_other tc tv gc gs p0 = (Sum.inl "java/lang/IllegalArgumentException", tv, tc) := by
  rw [e_X6_other, e_X6_requireNote, if_pos h, sb_l rfl]
theorem x_ot2 {tc gc gs p0 : Int32} {tv : Nat → Int32} (h : ¬ f_X5_isNote p0 = 0) (h2 : ¬ tc < f_X1_room gc gs) : f_X6_other tc tv gc gs p0 = (Sum.inl "java/lang/IllegalStateException", tv, tc) := by
  have e2 : f_X3_isFull tc gc gs = 1 := if_neg h2
  rw [e_X6_other, e_X6_requireNote, if_neg h, sb_r rfl, e2]
  exact if_neg (by decide)
theorem x_ot3 {tc gc gs p0 : Int32} {tv : Nat → Int32} (h : ¬ f_X5_isNote p0 = 0) (h2 : tc < f_X1_room gc gs) (h3 : ¬ (53 : Int32) ≤ tc) : f_X6_other tc tv gc gs p0 = (Sum.inr (tc + (1 : Int32)), upd tv tc.toNatClampNeg p0, tc + (1 : Int32)) := by
  have e1 : f_X3_append tc tv p0 = (upd tv tc.toNatClampNeg p0, tc + (1 : Int32)) := if_neg h3
  have e2 : f_X3_isFull tc gc gs = 0 := if_pos h2
  rw [e_X6_other, e_X6_requireNote, if_neg h, sb_r rfl, e1, e2]
  exact if_pos rfl
theorem y_ot1 {mc mn mr p0 : Int32} {ml : Nat → Int32} (h : f_X5_isNote p0 = 0) : f_X7_other mc mn mr ml p0 = ((0 : Int32), (1 : Int32), ml, mn) := by
  rw [e_X7_other, isn, if_pos h, e_X7_other_j28, go1]
  exact if_pos rfl
theorem y_ot2 {mc mn mr p0 : Int32} {ml : Nat → Int32} (h : ¬ f_X5_isNote p0 = 0) (h2 : mn = f_X7_most mc mr) : f_X7_other mc mn mr ml p0 = ((0 : Int32), (2 : Int32), ml, mn) := by
  rw [e_X7_other, isn, if_neg h, if_pos h2, e_X7_other_j28, go2]
  exact if_pos rfl
theorem y_ot3 {mc mn mr p0 : Int32} {ml : Nat → Int32} (h : ¬ f_X5_isNote p0 = 0) (h2 : ¬ mn = f_X7_most mc mr) : f_X7_other mc mn mr ml p0 = (mn + (1 : Int32), (0 : Int32), upd ml mn.toNatClampNeg p0, mn + (1 : Int32)) := by
  rw [e_X7_other, isn, if_neg h, if_neg h2, e_X7_other_j28, go0]
  exact if_neg (by decide)
theorem s_other {Rs : RsT} (R : RsOk Rs) : St_other (RelB Rs) := by
  intro k tc tv gc gs gb gf gl gh gn gv wn wv mt mc mn mr mb mf mlo mhi mx mg ml mw me mo p0 w hk h
  have h0 := h
  obtain ⟨⟨hm, hg, hf, hb, hgv, htv⟩, hc, ht, hn, hw, hr, hz, ⟨a, ha, rfl⟩, hwn, hs⟩ := h
  subst hc ht
  have hrm := ma_room hm hg
  have h53 := most_53 hm
  by_cases h1 : f_X5_isNote p0 = 0
  · rw [x_ot1 h1, y_ot1 h1]
    exact ⟨fun E e => Or.inl (Sum.inl.inj e).symm, kcd_0.symm, fun e => absurd e kc_ne, rb_up h0⟩
  · by_cases h2 : tc < f_X7_most gc mr
    · have h4 : ¬ tc = f_X7_most gc mr := by
        intro e
        rw [← e, t_lt] at h2
        omega
      have h5 := t_lt.mp h2
      have h3 : ¬ (53 : Int32) ≤ tc := by
        rw [t_le, e53i]
        omega
      rw [x_ot3 h1 (by rw [hrm]; exact h2) h3, y_ot3 h1 h4]
      have h6 := hn.1
      have h7 : (tc + (1 : Int32)).toInt = tc.toInt + 1 := by
        rw [t_add (by rw [e1i]; omega) (by rw [e1i]; omega), e1i]
      exact ⟨fun E e => inr_ne e, rfl, fun _ => rfl, ⟨hm, hg, hf, hb, hgv, upd_r htv (isn_r h1)⟩, rfl, rfl, ⟨by rw [h7]; omega, by rw [h7]; omega⟩, hw, hr, hz, ⟨a, by omega, rfl⟩, e_up hwn, hs⟩
    · have h5 := hn.2
      have h4 : tc = f_X7_most gc mr := by
        rw [t_lt] at h2
        exact Int32.toInt_inj.mp (by omega)
      rw [x_ot2 h1 (by rw [hrm]; exact h2), y_ot2 h1 h4]
      exact ⟨fun E e => Or.inr (Sum.inl.inj e).symm, (kcd_1 (by decide)).symm, fun e => absurd e kc_ne, rb_up h0⟩
theorem has_eq {tc p : Int32} (h0 : 0 ≤ tc.toInt) (h1 : tc.toInt ≤ 53) : f_X7_has tc p = f_X3_has tc p := by
  have h2 : (tc - (1 : Int32)).toInt = tc.toInt - 1 := by
    rw [t_sub (by rw [e1i]; omega) (by rw [e1i]; omega), e1i]
  rw [e_X7_has, e_X7_in, e_X3_has]
  by_cases h : p < (0 : Int32)
  · rw [if_pos h, if_pos h]
  · rw [if_neg h, if_neg h]
    by_cases h3 : tc ≤ p
    · have h4 : tc - (1 : Int32) < p := by
        rw [t_le] at h3
        rw [t_lt, h2]
        omega
      rw [if_pos h3, if_pos h4]
    · have h4 : ¬ tc - (1 : Int32) < p := by
        rw [t_le] at h3
        rw [t_lt, h2]
        omega
      rw [if_neg h3, if_neg h4]
theorem has_r {tc p : Int32} (h : ¬ f_X3_has tc p = 0) : 0 ≤ p.toInt ∧ p.toInt < tc.toInt := by
  rw [e_X3_has] at h
  by_cases h1 : p < (0 : Int32)
  · exact absurd (if_pos h1) h
  · rw [if_neg h1] at h
    by_cases h2 : tc ≤ p
    · exact absurd (if_pos h2) h
    · rw [t_lt, e0i] at h1
      rw [t_le] at h2
      exact ⟨by omega, by omega⟩
theorem tone_v {tv : Nat → Int32} {p : Int32} (h0 : 0 ≤ p.toInt) (h1 : p.toInt < 53) : f_X3_toneAt tv p = tv p.toNatClampNeg := by
  have h2 : ¬ p < (0 : Int32) := by
    rw [t_lt, e0i]
    omega
  have h3 : ¬ (53 : Int32) ≤ p := by
    rw [t_le, e53i]
    omega
  rw [e_X3_toneAt, if_neg h2, if_neg h3]
theorem put_v {tv : Nat → Int32} {p x : Int32} (h0 : 0 ≤ p.toInt) (h1 : p.toInt < 53) : f_X3_put tv p x = upd tv p.toNatClampNeg x := by
  have h2 : ¬ p < (0 : Int32) := by
    rw [t_lt, e0i]
    omega
  have h3 : ¬ (53 : Int32) ≤ p := by
    rw [t_le, e53i]
    omega
  rw [e_X3_put, if_neg h2, if_neg h3]
theorem s_noteAt {Rs : RsT} : St_noteAt (RelB Rs) := by
  intro k tc tv gc gs gb gf gl gh gn gv wn wv mt mc mn mr mb mf mlo mhi mx mg ml mw me mo p0 w hk h
  have h0 := h
  obtain ⟨⟨hm, hg, hf, hb, hgv, htv⟩, hc, ht, hn, -⟩ := h
  subst ht
  have h53 := most_53 hm
  have he := has_eq (p := p0) hn.1 (Int.le_trans hn.2 h53)
  by_cases h1 : f_X3_has tc p0 = 0
  · have e6 : f_X6_noteAt tc tv p0 = Sum.inl "java/lang/IndexOutOfBoundsException" := by
      rw [e_X6_noteAt, e_X6_requireIndex, if_pos h1, sb_l rfl]
    have e7 : f_X7_noteAt tc ml p0 = ((0 : Int32), (1 : Int32)) := by
      rw [e_X7_noteAt, he, if_pos h1, e_X7_noteAt_j14, go1]
      exact if_pos rfl
    rw [e6, e7]
    exact ⟨fun E e => (Sum.inl.inj e).symm, kcd_0.symm, fun e => absurd e kc_ne, rb_up h0⟩
  · have hp := has_r h1
    have h2 := hn.2
    have e6 : f_X6_noteAt tc tv p0 = Sum.inr (tv p0.toNatClampNeg) := by
      rw [e_X6_noteAt, e_X6_requireIndex, if_neg h1, sb_r rfl, tone_v hp.1 (by omega)]
    have e7 : f_X7_noteAt tc ml p0 = (ml p0.toNatClampNeg, (0 : Int32)) := by
      rw [e_X7_noteAt, he, if_neg h1, e_X7_noteAt_j14, go0]
      exact if_neg (by decide)
    have hv : tv p0.toNatClampNeg = ml p0.toNatClampNeg := (htv _ (by show p0.toInt.toNat < 53; omega)).1
    rw [e6, e7, hv]
    exact ⟨fun E e => inr_ne e, rfl, fun _ => rfl, rb_up h0⟩
theorem s_change {Rs : RsT} : St_change (RelB Rs) := by
  intro k tc tv gc gs gb gf gl gh gn gv wn wv mt mc mn mr mb mf mlo mhi mx mg ml mw me mo p0 p1 w hk h
  have h0 := h
  obtain ⟨⟨hm, hg, hf, hb, hgv, htv⟩, hc, ht, hn, hw, hr, hz, hgn, hwn, hs⟩ := h
  subst ht
  have h53 := most_53 hm
  have he := has_eq (p := p0) hn.1 (Int.le_trans hn.2 h53)
  by_cases h1 : f_X3_has tc p0 = 0
  · have e6 : f_X6_change tc tv p0 p1 = (Sum.inl "java/lang/IndexOutOfBoundsException", tv) := by
      rw [e_X6_change, e_X6_requireIndex, if_pos h1, sb_l rfl]
    have e7 : f_X7_change tc ml p0 p1 = ((0 : Int32), (1 : Int32), ml) := by
      rw [e_X7_change, he, if_pos h1, e_X7_change_j25, go1]
      exact if_pos rfl
    rw [e6, e7]
    exact ⟨fun E e => Or.inl (Sum.inl.inj e).symm, kcd_0.symm, fun e => absurd e kc_ne, rb_up h0⟩
  · by_cases h2 : f_X5_isNote p1 = 0
    · have e6 : f_X6_change tc tv p0 p1 = (Sum.inl "java/lang/IllegalArgumentException", tv) := by
        rw [e_X6_change, e_X6_requireIndex, if_neg h1, sb_r rfl, e_X6_requireNote, if_pos h2, sb_l rfl]
      have e7 : f_X7_change tc ml p0 p1 = ((0 : Int32), (2 : Int32), ml) := by
        rw [e_X7_change, he, if_neg h1, isn, if_pos h2, e_X7_change_j25, go2]
        exact if_pos rfl
      rw [e6, e7]
      exact ⟨fun E e => Or.inr (Sum.inl.inj e).symm, (kcd_1 (by decide)).symm, fun e => absurd e kc_ne, rb_up h0⟩
    · have hp := has_r h1
      have h3 := hn.2
      have e6 : f_X6_change tc tv p0 p1 = (Sum.inr (tv p0.toNatClampNeg), upd tv p0.toNatClampNeg p1) := by
        rw [e_X6_change, e_X6_requireIndex, if_neg h1, sb_r rfl, e_X6_requireNote, if_neg h2, sb_r rfl, tone_v hp.1 (by omega), put_v hp.1 (by omega)]
      have e7 : f_X7_change tc ml p0 p1 = (ml p0.toNatClampNeg, (0 : Int32), upd ml p0.toNatClampNeg p1) := by
        rw [e_X7_change, he, if_neg h1, isn, if_neg h2, e_X7_change_j25, go0]
        exact if_neg (by decide)
      have hv : tv p0.toNatClampNeg = ml p0.toNatClampNeg := (htv _ (by show p0.toInt.toNat < 53; omega)).1
      rw [e6, e7]
      exact ⟨fun E e => inr_ne e, rfl, fun _ => congrArg Sum.inr hv, ⟨hm, hg, hf, hb, hgv, upd_r htv (isn_r h2)⟩, hc, rfl, hn, hw, hr, hz, e_up hgn, e_up hwn, hs⟩
theorem s_ratio {Rs : RsT} (R : RsOk Rs) : St_ratio (RelB Rs) := by
  intro k tc tv gc gs gb gf gl gh gn gv wn wv mt mc mn mr mb mf mlo mhi mx mg ml mw me mo p0 w hk h
  have h0 := h
  obtain ⟨⟨hm, hg, hf, hb, hgv, htv⟩, hc, ht, hn, hw, hr, hz, ⟨a, ha, rfl⟩, hwn, hs⟩ := h
  subst hc ht
  have e2 : f_X3_stretch (0 : Int32) = 0 := by decide
  have hp := ma_per hg
  have y : f_X7_ratio_j21 tc mr p0 (0 : Int32) = (mr, (0 : Int32), p0, (0 : Int32)) := by
    rw [e_X7_ratio_j21, go0]
    exact if_neg (by decide)
  by_cases h1 : p0 = (1 : Int32)
  · have e6 : f_X6_ratio tc gs (nI a) p0 = (Sum.inr mr, (0 : Int32), nI a + (1 : Int32), (0 : Int32)) := by
      rw [e_X6_ratio, if_pos h1, e_X6_ratio_j25, hp, e2, h1]
      rfl
    have e7 : f_X7_ratio tc mr p0 = (mr, (0 : Int32), p0, (0 : Int32)) := by
      rw [e_X7_ratio, if_pos h1, e_X7_ratio_j16, y]
    have hm2 : mok gc p0 := ⟨Or.inl h1, hm.2⟩
    rw [e6, e7]
    exact ⟨fun E e => inr_ne e, rfl, fun _ => rfl, ⟨hm2, Or.inl ⟨rfl, h1⟩, hf, hb, hgv, htv⟩, rfl, rfl, mnb_0 hm2, hw, hr, hz, e_up1 ha, e_up hwn, R.g (by omega) hs⟩
  · by_cases h2 : p0 = (2 : Int32)
    · have e6 : f_X6_ratio tc gs (nI a) p0 = (Sum.inr mr, (1 : Int32), nI a + (1 : Int32), (0 : Int32)) := by
        rw [e_X6_ratio, if_neg h1, if_pos h2, e_X6_ratio_j25, hp, e2, h2]
        rfl
      have e7 : f_X7_ratio tc mr p0 = (mr, (0 : Int32), p0, (0 : Int32)) := by
        rw [e_X7_ratio, if_neg h1, if_pos h2, e_X7_ratio_j16, y]
      have hm2 : mok gc p0 := ⟨Or.inr (Or.inl h2), hm.2⟩
      rw [e6, e7]
      exact ⟨fun E e => inr_ne e, rfl, fun _ => rfl, ⟨hm2, Or.inr (Or.inl ⟨rfl, h2⟩), hf, hb, hgv, htv⟩, rfl, rfl, mnb_0 hm2, hw, hr, hz, e_up1 ha, e_up hwn, R.g (by omega) hs⟩
    · by_cases h4 : p0 = (4 : Int32)
      · have e6 : f_X6_ratio tc gs (nI a) p0 = (Sum.inr mr, (2 : Int32), nI a + (1 : Int32), (0 : Int32)) := by
          rw [e_X6_ratio, if_neg h1, if_neg h2, if_pos h4, e_X6_ratio_j25, hp, e2, h4]
          rfl
        have e7 : f_X7_ratio tc mr p0 = (mr, (0 : Int32), p0, (0 : Int32)) := by
          rw [e_X7_ratio, if_neg h1, if_neg h2, if_pos h4, e_X7_ratio_j16, y]
        have hm2 : mok gc p0 := ⟨Or.inr (Or.inr h4), hm.2⟩
        rw [e6, e7]
        exact ⟨fun E e => inr_ne e, rfl, fun _ => rfl, ⟨hm2, Or.inr (Or.inr ⟨rfl, h4⟩), hf, hb, hgv, htv⟩, rfl, rfl, mnb_0 hm2, hw, hr, hz, e_up1 ha, e_up hwn, R.g (by omega) hs⟩
      · have e6 : f_X6_ratio tc gs (nI a) p0 = (Sum.inl "java/lang/IllegalArgumentException", gs, nI a, tc) := by
          rw [e_X6_ratio, if_neg h1, if_neg h2, if_neg h4]
        have e7 : f_X7_ratio tc mr p0 = ((0 : Int32), (1 : Int32), mr, tc) := by
          rw [e_X7_ratio, if_neg h1, if_neg h2, if_neg h4, e_X7_ratio_j21, go1]
          exact if_pos rfl
        rw [e6, e7]
        exact ⟨fun E e => (Sum.inl.inj e).symm, kcd_0.symm, fun e => absurd e kc_ne, rb_up h0⟩
