/-! stepShare, meanPitch -/
theorem abs_size {x : Int32} : iabs x = f_X7_size x := by
  rw [iabs, e_X7_size]
  by_cases h : (0 : Int32) ≤ x
  · rw [if_pos h, if_pos h]
  · rw [if_neg h, if_neg h]
    exact Int32.zero_sub x
theorem share_l {gs gf gb mc mr mf mb tc : Int32} {gv tv mg ml : Nat → Int32} (hl : lnr gs gf gb gv tv mc mr mf mb mg ml) (hn : mnb mc mr tc) (h2 : 2 ≤ tc.toInt) : ∀ n fu fu' (v i : Int32), 1 ≤ i.toInt → i.toInt ≤ tc.toInt → (tc.toInt - i.toInt).toNat = n → n < fu → n < fu' → ∃ r, f_X6_stepShare_l30 tc tv fu v i = Sum.inr r ∧ f_X7_stepShare_l4 tc ml fu' v i = (r, (0 : Int32)) ∧ vf_n32 r := by
  have h53 := Int.le_trans hn.2 (most_53 hl.1)
  have e2 : (2 : Int32).toInt = 2 := rfl
  have hs : (tc - (1 : Int32)).toInt = tc.toInt - 1 := by
    rw [t_sub (by rw [e1i]; omega) (by rw [e1i]; omega), e1i]
  intro n
  induction n with
  | zero =>
    intro fu fu' v i h3 h4 h5 h6 h7
    obtain ⟨f, rfl⟩ : ∃ f, fu = f + 1 := ⟨fu - 1, by omega⟩
    obtain ⟨f', rfl⟩ : ∃ f, fu' = f + 1 := ⟨fu' - 1, by omega⟩
    have c1 : f_X3_length tc - (1 : Int32) < i := by
      show tc - (1 : Int32) < i
      rw [t_lt, hs]
      omega
    have c2 : tc ≤ i := by
      rw [t_le]
      omega
    refine ⟨FP.fdiv (FP.i2f v) (FP.i2f (tc - (1 : Int32))), ?_, ?_, fdiv_n ⟨by rw [hs]; omega, by rw [hs]; omega⟩⟩
    · rw [e_X6_stepShare_l30, if_pos c1]
      rfl
    · rw [e_X7_stepShare_l4, if_pos c2, e_X7_stepShare_j38, if_pos (by rw [t_le, e2]; exact h2), e_X7_stepShare_j52, go0]
      exact if_neg (by decide)
  | succ n ih =>
    intro fu fu' v i h3 h4 h5 h6 h7
    obtain ⟨f, rfl⟩ : ∃ f, fu = f + 1 := ⟨fu - 1, by omega⟩
    obtain ⟨f', rfl⟩ : ∃ f, fu' = f + 1 := ⟨fu' - 1, by omega⟩
    have c1 : ¬ f_X3_length tc - (1 : Int32) < i := by
      show ¬ tc - (1 : Int32) < i
      rw [t_lt, hs]
      omega
    have c2 : ¬ tc ≤ i := by
      rw [t_le]
      omega
    have hi : (i + (1 : Int32)).toInt = i.toInt + 1 := by
      rw [t_add (by rw [e1i]; omega) (by rw [e1i]; omega), e1i]
    have hx := lt_mix hl.1 (i := i) (by omega) (by have := hn.2; omega)
    have hmv := (ma_move hl (i := i) ⟨h3, hx.2⟩).1
    rw [e_X6_stepShare_l30, if_neg c1, e_X7_stepShare_l4, if_neg c2, hmv, abs_size]
    by_cases d : f_X7_size (f_X7_move ml i) = (1 : Int32)
    · rw [if_pos d, if_pos d, e_X6_stepShare_j53, e_X7_stepShare_j30]
      exact ih f f' _ _ (by omega) (by omega) (by omega) (by omega) (by omega)
    · rw [if_neg d, if_neg d, e_X6_stepShare_j53, e_X7_stepShare_j30, Int32.add_zero]
      exact ih f f' _ _ (by omega) (by omega) (by omega) (by omega) (by omega)
theorem s_stepShare {Rs : RsT} : St_stepShare (RelB Rs) := by
  intro k tc tv gc gs gb gf gl gh gn gv wn wv mt mc mn mr mb mf mlo mhi mx mg ml mw me mo w hk h
  have h0 := h
  obtain ⟨hl, hc, ht, hn, -⟩ := h
  subst hc ht
  have h53 := Int.le_trans hn.2 (most_53 hl.1)
  have hs : (tc - (1 : Int32)).toInt = tc.toInt - 1 := by
    have := hn.1
    rw [t_sub (by rw [e1i]; omega) (by rw [e1i]; omega), e1i]
  by_cases a : 2 ≤ tc.toInt
  · have a1 : (1 : Int32) ≤ f_X3_length tc - (1 : Int32) := by
      show (1 : Int32) ≤ tc - (1 : Int32)
      rw [t_le, hs, e1i]
      omega
    obtain ⟨r, r1, r2, r3⟩ := share_l hl hn a (tc.toInt - 1).toNat ((tc - (1 : Int32)).toInt + 1 - (1 : Int32).toInt).toNat.succ ((tc.toInt - (1 : Int32).toInt).toNat + 1) (0 : Int32) (1 : Int32) (by rw [e1i]; omega) (by rw [e1i]; omega) (by rw [e1i]) (by rw [hs, e1i]; omega) (by rw [e1i]; omega)
    have e6 : f_X6_stepShare tc tv = Sum.inr r := by
      rw [e_X6_stepShare, if_pos a1]
      exact r1
    have e7 : f_X7_stepShare tc ml = (r, (0 : Int32)) := r2
    rw [e6, e7]
    exact ⟨fun E e => inr_ne e, fun x e => by cases Sum.inr.inj e; exact r3, rfl, fun _ => rfl, rb_up h0⟩
  · have a1 : ¬ (1 : Int32) ≤ f_X3_length tc - (1 : Int32) := by
      show ¬ (1 : Int32) ≤ tc - (1 : Int32)
      rw [t_le, hs, e1i]
      omega
    have e6 : f_X6_stepShare tc tv = Sum.inl "java/lang/ArithmeticException" := by
      rw [e_X6_stepShare, if_neg a1]
    have a2 : tc ≤ (1 : Int32) := by
      rw [t_le, e1i]
      omega
    have a3 : ¬ (2 : Int32) ≤ tc := by
      rw [t_le]
      exact a
    have e7 : f_X7_stepShare tc ml = (FP.fconst0, (1 : Int32)) := by
      rw [e_X7_stepShare, e_X7_stepShare_l4, if_pos a2, e_X7_stepShare_j38, if_neg a3, e_X7_stepShare_j52, go1]
      exact if_pos rfl
    rw [e6, e7]
    exact ⟨fun E e => (Sum.inl.inj e).symm, fun x e => inr_ne e.symm, kcd_0.symm, fun e => absurd e kc_ne, rb_up h0⟩
theorem mean_l {gs gf gb mc mr mf mb tc : Int32} {gv tv mg ml : Nat → Int32} (hl : lnr gs gf gb gv tv mc mr mf mb mg ml) (hn : mnb mc mr tc) (h2 : 1 ≤ tc.toInt) : ∀ n fu fu' (v i : Int32), 0 ≤ i.toInt → i.toInt ≤ tc.toInt → (tc.toInt - i.toInt).toNat = n → n < fu → n < fu' → ∃ r, f_X6_meanPitch_l28 tc tv mc gs gf fu v i = Sum.inr r ∧ f_X7_meanPitch_l4 mc tc mr mf ml fu' v i = (r, (0 : Int32)) ∧ vf_n64 r := by
  have h53 := Int.le_trans hn.2 (most_53 hl.1)
  intro n
  induction n with
  | zero =>
    intro fu fu' v i h3 h4 h5 h6 h7
    obtain ⟨f, rfl⟩ : ∃ f, fu = f + 1 := ⟨fu - 1, by omega⟩
    obtain ⟨f', rfl⟩ : ∃ f, fu' = f + 1 := ⟨fu' - 1, by omega⟩
    have c2 : tc ≤ i := by
      rw [t_le]
      omega
    have c3 : ¬ tc = 0 := by
      intro e
      rw [e, e0i] at h2
      omega
    refine ⟨FP.ddiv (FP.i2d v) (FP.i2d tc), ?_, ?_, ddiv_n ⟨h2, h53⟩⟩
    · rw [e_X6_meanPitch_l28, if_pos (show f_X3_length tc ≤ i from c2)]
      rfl
    · rw [e_X7_meanPitch_l4, if_pos c2, e_X7_meanPitch_j30, if_neg c3, e_X7_meanPitch_j43, go0]
      exact if_neg (by decide)
  | succ n ih =>
    intro fu fu' v i h3 h4 h5 h6 h7
    obtain ⟨f, rfl⟩ : ∃ f, fu = f + 1 := ⟨fu - 1, by omega⟩
    obtain ⟨f', rfl⟩ : ∃ f, fu' = f + 1 := ⟨fu' - 1, by omega⟩
    have c2 : ¬ tc ≤ i := by
      rw [t_le]
      omega
    have hi : (i + (1 : Int32)).toInt = i.toInt + 1 := by
      rw [t_add (by rw [e1i]; omega) (by rw [e1i]; omega), e1i]
    have hx := lt_mix hl.1 (i := i) (by omega) (by have := hn.2; omega)
    rw [e_X6_meanPitch_l28, if_neg (show ¬ f_X3_length tc ≤ i from c2), e_X7_meanPitch_l4, if_neg c2, ma_height hl hx]
    exact ih f f' _ _ (by omega) (by omega) (by omega) (by omega) (by omega)
theorem s_meanPitch {Rs : RsT} : St_meanPitch (RelB Rs) := by
  intro k tc tv gc gs gb gf gl gh gn gv wn wv mt mc mn mr mb mf mlo mhi mx mg ml mw me mo w hk h
  have h0 := h
  obtain ⟨hl, hc, ht, hn, -⟩ := h
  subst hc ht
  have hn1 := hn.1
  by_cases a : 1 ≤ tc.toInt
  · have a1 : (1 : Int32) ≤ f_X3_length tc := by
      show (1 : Int32) ≤ tc
      rw [t_le, e1i]
      exact a
    obtain ⟨r, r1, r2, r3⟩ := mean_l hl hn a tc.toInt.toNat ((tc.toInt - (0 : Int32).toInt).toNat + 1) ((tc.toInt - (0 : Int32).toInt).toNat + 1) (0 : Int32) (0 : Int32) (by rw [e0i]; omega) (by rw [e0i]; omega) (by rw [e0i]; omega) (by rw [e0i]; omega) (by rw [e0i]; omega)
    have e6 : f_X6_meanPitch tc tv gc gs gf = Sum.inr r := by
      rw [e_X6_meanPitch, if_pos a1]
      exact r1
    have e7 : f_X7_meanPitch gc tc mr mf ml = (r, (0 : Int32)) := r2
    rw [e6, e7]
    exact ⟨fun E e => inr_ne e, fun x e => by cases Sum.inr.inj e; exact r3, rfl, fun _ => rfl, rb_up h0⟩
  · have a1 : ¬ (1 : Int32) ≤ f_X3_length tc := by
      show ¬ (1 : Int32) ≤ tc
      rw [t_le, e1i]
      exact a
    have e6 : f_X6_meanPitch tc tv gc gs gf = Sum.inl "java/lang/ArithmeticException" := by
      rw [e_X6_meanPitch, if_neg a1]
    have a3 : tc = 0 := Int32.toInt_inj.mp (by rw [e0i]; omega)
    have a2 : tc ≤ (0 : Int32) := by
      rw [t_le, e0i]
      omega
    have e7 : f_X7_meanPitch gc tc mr mf ml = (FP.dconst0, (1 : Int32)) := by
      rw [e_X7_meanPitch, e_X7_meanPitch_l4, if_pos a2, e_X7_meanPitch_j30, if_pos a3, e_X7_meanPitch_j43, go1]
      exact if_pos rfl
    rw [e6, e7]
    exact ⟨fun E e => (Sum.inl.inj e).symm, fun x e => inr_ne e.symm, kcd_0.symm, fun e => absurd e kc_ne, rb_up h0⟩
