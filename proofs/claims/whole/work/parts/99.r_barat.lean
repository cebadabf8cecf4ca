/-! barAt where the search is refused -/
theorem ba_ref {mc mr v1 t : Int32} {u2 u3 : Nat → Int32} {u4 : Nat → Int64} (hf : f_X7_searchFault mc mr = t) (ht : ¬ t = 0) (hg : f_X7_goesOn t = ((0 : Int32), t)) : ∀ (n fu i : Nat) (v5 v6 : Int32), i ≤ 12 → 12 - i = n → n < fu → f_X7_barAt_l29 mc mr v1 u2 u3 u4 fu v5 v6 (nI i) = ((0 : Int32), t, u2, u3, u4, v1) := by
  have e12 : (12 : Int32).toInt = 12 := rfl
  intro n
  induction n with
  | zero =>
    intro fu i v5 v6 h1 h2 h3
    obtain ⟨f, rfl⟩ : ∃ f, fu = f + 1 := ⟨fu - 1, by omega⟩
    rw [e_X7_barAt_l29, if_pos (by rw [t_le, e12, t_n (by omega)]; omega), e_X7_barAt_j71, hf, if_neg ht, e_X7_barAt_j91, hg]
    exact if_pos rfl
  | succ n ih =>
    intro fu i v5 v6 h1 h2 h3
    obtain ⟨f, rfl⟩ : ∃ f, fu = f + 1 := ⟨fu - 1, by omega⟩
    have hni : nI i + (1 : Int32) = nI (i + 1) := (nI_plus i 1).symm
    rw [e_X7_barAt_l29, if_neg (by rw [t_le, e12, t_n (by omega)]; omega)]
    by_cases d : (ishr v1 (nI i)) &&& (1 : Int32) = (1 : Int32)
    · rw [if_pos d]
      by_cases d2 : v5 = 0
      · rw [if_pos d2, e_X7_barAt_j60, e_X7_barAt_j65, hni]
        exact ih f (i + 1) _ _ (by omega) (by omega) (by omega)
      · rw [if_neg d2, e_X7_barAt_j60, e_X7_barAt_j65, hni]
        exact ih f (i + 1) _ _ (by omega) (by omega) (by omega)
    · rw [if_neg d, e_X7_barAt_j65, hni]
      exact ih f (i + 1) _ _ (by omega) (by omega) (by omega)
theorem s_barAtN {Rs : RsT} : St_barAtN (RelB Rs) := by
  intro k tc tv gc gs gb gf gl gh gn gv wn wv mt mc mn mr mb mf mlo mhi mx mg ml mw me mo p0 E0 w hk h hq
  have h0 := h
  obtain ⟨hl, hc, -⟩ := h
  subst hc
  rcases sf_cls hl.2.1 hq with ⟨e, hf⟩ | ⟨e, hf⟩
  · have e7 : f_X7_barAt gc mr mb mf mlo mhi mg ml mw me mo p0 = ((0 : Int32), (1 : Int32), ml, me, mo, (0 : Int32)) := by
      rw [e_X7_barAt, if_neg (by rw [hf]; decide), e_X7_barAt_j18]
      exact ba_ref hf (by decide) go1 12 13 0 _ _ (by omega) rfl (by omega)
    subst e
    rw [e7]
    exact ⟨Or.inl rfl, kcd_0.symm, rb_up h0⟩
  · have e7 : f_X7_barAt gc mr mb mf mlo mhi mg ml mw me mo p0 = ((0 : Int32), (2 : Int32), ml, me, mo, (0 : Int32)) := by
      rw [e_X7_barAt, if_neg (by rw [hf]; decide), e_X7_barAt_j18]
      exact ba_ref hf (by decide) go2 12 13 0 _ _ (by omega) rfl (by omega)
    subst e
    rw [e7]
    exact ⟨Or.inr (Or.inl rfl), (kcd_1 (by decide)).symm, rb_up h0⟩
