/-! pitch, interval, range, canons, canon, faultAt, faultOf -/
theorem s_pitch {Rs : RsT} : St_pitch (RelB Rs) := by
  intro k tc tv gc gs gb gf gl gh gn gv wn wv mt mc mn mr mb mf mlo mhi mx mg ml mw me mo p0 w hk h
  have h0 := h
  obtain ⟨hl, hc, ht, hn, -⟩ := h
  subst hc ht
  have hm := hl.1
  have h53 := most_53 hm
  have he := has_eq (p := p0) hn.1 (Int.le_trans hn.2 h53)
  by_cases h1 : f_X3_has tc p0 = 0
  · have e6 : f_X6_pitch tc tv gc gs gf p0 = Sum.inl "java/lang/IndexOutOfBoundsException" := by
      rw [e_X6_pitch, e_X6_requireIndex, if_pos h1, sb_l rfl]
    have e7 : f_X7_pitch gc tc mr mf ml p0 = ((0 : Int32), (1 : Int32)) := by
      rw [e_X7_pitch, he, if_pos h1, e_X7_pitch_j14, go1]
      exact if_pos rfl
    rw [e6, e7]
    exact ⟨fun E e => (Sum.inl.inj e).symm, kcd_0.symm, fun e => absurd e kc_ne, rb_up h0⟩
  · have hp := has_r h1
    have h2 := hn.2
    have hi := lt_mix hm hp.1 (show p0.toInt < (f_X7_most gc mr).toInt by omega)
    have e6 : f_X6_pitch tc tv gc gs gf p0 = Sum.inr (f_X7_pitchAt gc mr mf ml p0 tc) := by
      rw [e_X6_pitch, e_X6_requireIndex, if_neg h1, sb_r rfl, ma_height hl hi]
    have e7 : f_X7_pitch gc tc mr mf ml p0 = (f_X7_pitchAt gc mr mf ml p0 tc, (0 : Int32)) := by
      rw [e_X7_pitch, he, if_neg h1, e_X7_pitch_j14, go0]
      exact if_neg (by decide)
    rw [e6, e7]
    exact ⟨fun E e => inr_ne e, rfl, fun _ => rfl, rb_up h0⟩
theorem s_interval {Rs : RsT} : St_interval (RelB Rs) := by
  intro k tc tv gc gs gb gf gl gh gn gv wn wv mt mc mn mr mb mf mlo mhi mx mg ml mw me mo p0 w hk h
  have h0 := h
  obtain ⟨hl, hc, ht, hn, -⟩ := h
  subst hc ht
  have hm := hl.1
  have h53 := most_53 hm
  have he := has_eq (p := p0) hn.1 (Int.le_trans hn.2 h53)
  by_cases h1 : f_X3_has tc p0 = 0
  · have e6 : f_X6_interval tc tv gc gs gf gv p0 = Sum.inl "java/lang/IndexOutOfBoundsException" := by
      rw [e_X6_interval, e_X6_requireIndex, if_pos h1, sb_l rfl]
    have e7 : f_X7_interval gc tc mr mf mg ml p0 = ((0 : Int32), (1 : Int32)) := by
      rw [e_X7_interval, he, if_pos h1, e_X7_interval_j14, go1]
      exact if_pos rfl
    rw [e6, e7]
    exact ⟨fun E e => (Sum.inl.inj e).symm, kcd_0.symm, fun e => absurd e kc_ne, rb_up h0⟩
  · have hp := has_r h1
    have h2 := hn.2
    have hG := ma_gap (tc := tc) hl hp.1 (show p0.toInt < (f_X7_most gc mr).toInt by omega)
    have hS := kg_sign hG
    have e6 : f_X6_interval tc tv gc gs gf gv p0 = Sum.inr (f_X5_signOf (f_X3_gapAt tc tv gc gs gf gv p0)) := by
      rw [e_X6_interval, e_X6_requireIndex, if_neg h1, sb_r rfl]
    have e7 : f_X7_interval gc tc mr mf mg ml p0 = (f_X5_signOf (f_X3_gapAt tc tv gc gs gf gv p0), (0 : Int32)) := by
      rw [e_X7_interval, he, if_neg h1, e_X7_interval_j14, go0, hS]
      refine (if_neg (by decide)).trans ?_
      generalize f_X7_kindAt gc mr mf mg ml p0 tc = d
      by_cases d0 : d = 0
      · rw [if_pos d0, if_pos d0]
      · rw [if_neg d0, if_neg d0]
        by_cases d1 : d = (1 : Int32)
        · rw [if_pos d1, if_pos d1]
        · rw [if_neg d1, if_neg d1]
          by_cases d2 : d = (2 : Int32)
          · rw [if_pos d2, if_pos d2]
          · rw [if_neg d2, if_neg d2]
    rw [e6, e7]
    exact ⟨fun E e => inr_ne e, rfl, fun _ => rfl, rb_up h0⟩
theorem s_range {Rs : RsT} (R : RsOk Rs) : St_range (RelB Rs) := by
  intro k tc tv gc gs gb gf gl gh gn gv wn wv mt mc mn mr mb mf mlo mhi mx mg ml mw me mo p0 p1 w hk h
  have h0 := h
  obtain ⟨⟨hm, hg, hf, hb, hgv, htv⟩, hc, ht, hn, hw, hr, hz, ⟨a, ha, rfl⟩, hwn, hs⟩ := h
  have y1 : f_X7_range_j31 mlo mhi p0 p1 = ((0 : Int32), (1 : Int32), mlo, mhi) := by
    rw [e_X7_range_j31, e_X7_range_j32, go1]
    exact if_pos rfl
  have y0 : f_X7_range_j32 mlo mhi p0 p1 (0 : Int32) = ((p1 - p0) + (1 : Int32), (0 : Int32), p0, p1) := by
    rw [e_X7_range_j32, go0]
    exact if_neg (by decide)
  have cls : (f_X6_range gl gh (nI a) p0 p1 = (Sum.inl "java/lang/IllegalArgumentException", gl, gh, nI a) ∧ f_X7_range mlo mhi p0 p1 = ((0 : Int32), (1 : Int32), mlo, mhi)) ∨ (f_X6_range gl gh (nI a) p0 p1 = (Sum.inr ((p1 - p0) + (1 : Int32)), p0, p1, nI a + (1 : Int32)) ∧ f_X7_range mlo mhi p0 p1 = ((p1 - p0) + (1 : Int32), (0 : Int32), p0, p1) ∧ mrg p0 p1) := by
    by_cases h1 : f_X5_isNote p0 = 0
    · exact Or.inl (And.intro (by rw [e_X6_range, e_X6_requireNote, if_pos h1, sb_l rfl]) (by rw [e_X7_range, isn, if_pos h1, y1]))
    · by_cases h2 : f_X5_isNote p1 = 0
      · exact Or.inl (And.intro (by rw [e_X6_range, e_X6_requireNote, if_neg h1, sb_r rfl, e_X6_requireNote, if_pos h2, sb_l rfl]) (by rw [e_X7_range, isn, if_neg h1, isn, if_pos h2, y1]))
      · have r0 := isn_r h1
        have r1 := isn_r h2
        have e10 : (10 : Int32).toInt = 10 := rfl
        have e9 : (9 : Int32).toInt = 9 := rfl
        have hd : (p1 - p0).toInt = p1.toInt - p0.toInt := t_sub (by omega) (by omega)
        by_cases h3 : p1 < p0
        · have h4 : f_X7_in (p1 - p0) (0 : Int32) (9 : Int32) = 0 := by
            rw [e_X7_in]
            exact if_pos (by rw [t_lt] at h3; rw [t_lt, hd, e0i]; omega)
          exact Or.inl (And.intro (by rw [e_X6_range, e_X6_requireNote, if_neg h1, sb_r rfl, e_X6_requireNote, if_neg h2, sb_r rfl, if_pos h3, e_X6_range_j23]) (by rw [e_X7_range, isn, if_neg h1, isn, if_neg h2, if_pos h4, y1]))
        · by_cases h5 : p1 - p0 < (10 : Int32)
          · have h4 : ¬ f_X7_in (p1 - p0) (0 : Int32) (9 : Int32) = 0 := by
              rw [t_lt] at h3
              rw [t_lt, hd, e10] at h5
              rw [e_X7_in, if_neg (by rw [t_lt, hd, e0i]; omega), if_neg (by rw [t_lt, hd, e9]; omega)]
              decide
            have e6 : f_X6_range gl gh (nI a) p0 p1 = (Sum.inr ((p1 - p0) + (1 : Int32)), p0, p1, nI a + (1 : Int32)) := by
              rw [e_X6_range, e_X6_requireNote, if_neg h1, sb_r rfl, e_X6_requireNote, if_neg h2, sb_r rfl, if_neg h3, if_pos h5]
              rfl
            have e7 : f_X7_range mlo mhi p0 p1 = ((p1 - p0) + (1 : Int32), (0 : Int32), p0, p1) := by
              rw [e_X7_range, isn, if_neg h1, isn, if_neg h2, if_neg h4, y0]
            rw [t_lt] at h3
            rw [t_lt, hd, e10] at h5
            exact Or.inr (And.intro e6 (And.intro e7 (show mrg p0 p1 from ⟨r0.1, r1.2, by omega, by omega⟩)))
          · have h4 : f_X7_in (p1 - p0) (0 : Int32) (9 : Int32) = 0 := by
              rw [t_lt] at h3
              rw [t_lt, hd, e10] at h5
              rw [e_X7_in, if_neg (by rw [t_lt, hd, e0i]; omega)]
              exact if_pos (by rw [t_lt, hd, e9]; omega)
            exact Or.inl (And.intro (by rw [e_X6_range, e_X6_requireNote, if_neg h1, sb_r rfl, e_X6_requireNote, if_neg h2, sb_r rfl, if_neg h3, if_neg h5, e_X6_range_j23]) (by rw [e_X7_range, isn, if_neg h1, isn, if_neg h2, if_pos h4, y1]))
  rcases cls with ⟨e6, e7⟩ | ⟨e6, e7, e8⟩
  · rw [e6, e7]
    exact ⟨fun E e => (Sum.inl.inj e).symm, kcd_0.symm, fun e => absurd e kc_ne, rb_up h0⟩
  · rw [e6, e7]
    exact ⟨fun E e => inr_ne e, rfl, fun _ => rfl, ⟨hm, hg, hf, hb, hgv, htv⟩, hc, ht, hn, hw, ⟨rfl, rfl, e8⟩, hz, e_up1 ha, e_up hwn, R.g (by omega) hs⟩
theorem lt_of {gs gf gb mc mr mf mb : Int32} {gv tv mg ml : Nat → Int32} (hl : lnr gs gf gb gv tv mc mr mf mb mg ml) : ltr tv ml := hl.2.2.2.2.2
theorem s_canons {Rs : RsT} : St_canons (RelB Rs) := by
  intro k tc tv gc gs gb gf gl gh gn gv wn wv mt mc mn mr mb mf mlo mhi mx mg ml mw me mo w hk h
  have h0 := h
  obtain ⟨hl, hc, ht, hn, -⟩ := h
  subst ht
  have h53 := Int.le_trans hn.2 (most_53 hl.1)
  by_cases h1 : (2 : Int32) ≤ tc
  · have e6 : f_X6_canons tc tv = Sum.inr (f_X7_canonsUpTo tc ml (-1 : Int32)) := by
      rw [e_X6_canons, e_X6_requireTwoNotes, if_pos (show (2 : Int32) ≤ f_X3_length tc from h1), sb_r rfl, canons_eq (lt_of hl) (t_le.mp h1) h53]
    have e7 : f_X7_canons tc ml = (f_X7_canonsUpTo tc ml (-1 : Int32), (0 : Int32)) := by
      rw [e_X7_canons, if_pos h1, e_X7_canons_j14, go0]
      exact if_neg (by decide)
    rw [e6, e7]
    exact ⟨fun E e => inr_ne e, rfl, fun _ => rfl, rb_up h0⟩
  · have e6 : f_X6_canons tc tv = Sum.inl "java/lang/IllegalStateException" := by
      rw [e_X6_canons, e_X6_requireTwoNotes, if_neg (show ¬ (2 : Int32) ≤ f_X3_length tc from h1), sb_l rfl]
    have e7 : f_X7_canons tc ml = ((0 : Int32), (1 : Int32)) := by
      rw [e_X7_canons, if_neg h1, e_X7_canons_j14, go1]
      exact if_pos rfl
    rw [e6, e7]
    exact ⟨fun E e => (Sum.inl.inj e).symm, kcd_0.symm, fun e => absurd e kc_ne, rb_up h0⟩
