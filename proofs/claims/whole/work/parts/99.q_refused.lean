/-! refused searches: goodLines, bars, and the check where it tries nothing -/
theorem sf_cls {gc gs mr : Int32} {E0 : String} (hg : gsr gs mr) (h : f_X6_requireSearchable gc gs = Sum.inl E0) : (E0 = "java/lang/IllegalStateException" ∧ f_X7_searchFault gc mr = (1 : Int32)) ∨ (E0 = "java/lang/UnsupportedOperationException" ∧ f_X7_searchFault gc mr = (2 : Int32)) := by
  rw [e_X6_requireSearchable, ma_per hg] at h
  by_cases a : (2 : Int32) ≤ gc
  · rw [if_pos (show (2 : Int32) ≤ f_X1_size gc from a)] at h
    by_cases b : mr = (4 : Int32)
    · rw [if_pos b] at h
      refine Or.inr (And.intro (Sum.inl.inj h).symm ?_)
      rw [e_X7_searchFault, if_pos a, if_pos b]
    · rw [if_neg b] at h
      exact inr_ne h
  · rw [if_neg (show ¬ (2 : Int32) ≤ f_X1_size gc from a)] at h
    refine Or.inl (And.intro (Sum.inl.inj h).symm ?_)
    rw [e_X7_searchFault, if_neg a]
theorem s_goodLinesN {Rs : RsT} : St_goodLinesN (RelB Rs) := by
  intro k tc tv gc gs gb gf gl gh gn gv wn wv mt mc mn mr mb mf mlo mhi mx mg ml mw me mo E0 w hk h hq
  have h0 := h
  obtain ⟨hl, hc, -⟩ := h
  subst hc
  rcases sf_cls hl.2.1 hq with ⟨e, hf⟩ | ⟨e, hf⟩
  · have e7 : f_X7_goodLines gc mr mb mf mlo mhi mg ml mw me mo = ((0 : Int64), (1 : Int32), ml, me, mo) := by
      rw [e_X7_goodLines, hf, go1]
      exact if_pos rfl
    subst e
    rw [e7]
    exact ⟨Or.inl rfl, kcd_0.symm, rb_up h0⟩
  · have e7 : f_X7_goodLines gc mr mb mf mlo mhi mg ml mw me mo = ((0 : Int64), (2 : Int32), ml, me, mo) := by
      rw [e_X7_goodLines, hf, go2]
      exact if_pos rfl
    subst e
    rw [e7]
    exact ⟨Or.inr rfl, (kcd_1 (by decide)).symm, rb_up h0⟩
theorem s_barsN {Rs : RsT} : St_barsN (RelB Rs) := by
  intro k tc tv gc gs gb gf gl gh gn gv wn wv mt mc mn mr mb mf mlo mhi mx mg ml mw me mo E0 w hk h hq
  have h0 := h
  obtain ⟨hl, hc, -⟩ := h
  subst hc
  rcases sf_cls hl.2.1 hq with ⟨e, hf⟩ | ⟨e, hf⟩
  · have e7 : f_X7_bars gc mr mb mf mlo mhi mx mg ml mw me mo = ((0 : Int32), (1 : Int32), ml, me, mo, mx) := by
      rw [e_X7_bars, hf, go1]
      exact if_pos rfl
    subst e
    rw [e7]
    exact ⟨Or.inl rfl, kcd_0.symm, rb_up h0⟩
  · have e7 : f_X7_bars gc mr mb mf mlo mhi mx mg ml mw me mo = ((0 : Int32), (2 : Int32), ml, me, mo, mx) := by
      rw [e_X7_bars, hf, go2]
      exact if_pos rfl
    subst e
    rw [e7]
    exact ⟨Or.inr rfl, (kcd_1 (by decide)).symm, rb_up h0⟩
theorem s_isConsistentN {Rs : RsT} : St_isConsistentN (RelB Rs) := by
  intro k tc tv gc gs gb gf gl gh gn gv wn wv mt mc mn mr mb mf mlo mhi mx mg ml mw me mo w hk h hN
  have h0 := h
  obtain ⟨hl, hc, ht, hn, hw, -⟩ := h
  subst hc ht
  have hn1 := hn.1
  have hn2 := hn.2
  have hS := sumof_1 hl hw (N := tc.toInt.toNat) (by omega)
  rw [nI_back hn1] at hS
  have e6 : f_X6N_isConsistent tc tv gc gs gb gf gv wv = 1 := by
    rw [e_X6N_isConsistent, hS]
    exact if_neg (by decide)
  exact ⟨e6, rb_up h0⟩
