/-! the line kept and given back; find where the search is refused -/
theorem kp_l0 {ml : Nat → Int32} : ∀ (n fu i : Nat) (u : Nat → Int32), i ≤ 53 → 53 - i = n → n < fu → (∀ j, j < i → u j = ml j) → ∃ pv, f_X7_keepsLine_l2 (0 : Int32) fu (nI i) ml u = ((0 : Int32), ml, pv) ∧ ∀ j, j < 53 → pv j = ml j := by
  intro n
  induction n with
  | zero =>
    intro fu i u h1 h2 h3 h4
    obtain ⟨f, rfl⟩ : ∃ f, fu = f + 1 := ⟨fu - 1, by omega⟩
    refine ⟨u, ?_, fun j hj => h4 j (by omega)⟩
    rw [e_X7_keepsLine_l2, if_pos (by rw [t_le, e53i, t_n (by omega)]; omega)]
  | succ n ih =>
    intro fu i u h1 h2 h3 h4
    obtain ⟨f, rfl⟩ : ∃ f, fu = f + 1 := ⟨fu - 1, by omega⟩
    have hni : nI i + (1 : Int32) = nI (i + 1) := (nI_plus i 1).symm
    have hc : (nI i).toNatClampNeg = i := nI_clamp (by omega)
    rw [e_X7_keepsLine_l2, if_neg (by rw [t_le, e53i, t_n (by omega)]; omega), if_pos rfl, e_X7_keepsLine_j33, hni, hc]
    refine ih f (i + 1) _ (by omega) (by omega) (by omega) (fun j hj => ?_)
    by_cases e : j = i
    · rw [e]
      exact if_pos rfl
    · exact (if_neg e).trans (h4 j (by omega))
theorem kp_l1 {pv : Nat → Int32} : ∀ (n fu i : Nat) (u : Nat → Int32), i ≤ 53 → 53 - i = n → n < fu → (∀ j, j < i → u j = pv j) → ∃ ml', f_X7_keepsLine_l2 (1 : Int32) fu (nI i) u pv = ((1 : Int32), ml', pv) ∧ ∀ j, j < 53 → ml' j = pv j := by
  intro n
  induction n with
  | zero =>
    intro fu i u h1 h2 h3 h4
    obtain ⟨f, rfl⟩ : ∃ f, fu = f + 1 := ⟨fu - 1, by omega⟩
    refine ⟨u, ?_, fun j hj => h4 j (by omega)⟩
    rw [e_X7_keepsLine_l2, if_pos (by rw [t_le, e53i, t_n (by omega)]; omega)]
  | succ n ih =>
    intro fu i u h1 h2 h3 h4
    obtain ⟨f, rfl⟩ : ∃ f, fu = f + 1 := ⟨fu - 1, by omega⟩
    have hni : nI i + (1 : Int32) = nI (i + 1) := (nI_plus i 1).symm
    have hc : (nI i).toNatClampNeg = i := nI_clamp (by omega)
    rw [e_X7_keepsLine_l2, if_neg (by rw [t_le, e53i, t_n (by omega)]; omega), if_neg (by decide), e_X7_keepsLine_j33, hni, hc]
    refine ih f (i + 1) _ (by omega) (by omega) (by omega) (fun j hj => ?_)
    by_cases e : j = i
    · rw [e]
      exact if_pos rfl
    · exact (if_neg e).trans (h4 j (by omega))
theorem kp_0 {ml pv : Nat → Int32} : ∃ pv', f_X7_keepsLine ml pv (0 : Int32) = ((0 : Int32), ml, pv') ∧ ∀ j, j < 53 → pv' j = ml j :=
  kp_l0 53 54 0 pv (by omega) rfl (by omega) (fun j hj => absurd hj (by omega))
theorem kp_1 {ml pv : Nat → Int32} : ∃ ml', f_X7_keepsLine ml pv (1 : Int32) = ((1 : Int32), ml', pv) ∧ ∀ j, j < 53 → ml' j = pv j :=
  kp_l1 53 54 0 ml (by omega) rfl (by omega) (fun j hj => absurd hj (by omega))
theorem lnr_ml {gs gf gb mc mr mf mb : Int32} {gv tv mg ml ml' : Nat → Int32} (hl : lnr gs gf gb gv tv mc mr mf mb mg ml) (h : ∀ j, j < 53 → ml' j = ml j) : lnr gs gf gb gv tv mc mr mf mb mg ml' := by
  obtain ⟨h1, h2, h3, h4, h5, h6⟩ := hl
  refine ⟨h1, h2, h3, h4, h5, fun j hj => ?_⟩
  rw [h j hj]
  exact h6 j hj
theorem fi_ref {mc mn mr mb mf mlo mhi t : Int32} {mg ml mw me : Nat → Int32} {mo : Nat → Int64} (hf : f_X7_searchFault mc mr = t) (ht : ¬ t = 0) (hg : f_X7_goesOn t = ((0 : Int32), t)) : ∃ ml', f_X7_find mc mn mr mb mf mlo mhi mg ml mw me mo = ((0 : Int32), t, ml', mn, me, mo) ∧ ∀ j, j < 53 → ml' j = ml j := by
  obtain ⟨pv', k1, k2⟩ := kp_0 (ml := ml) (pv := zI)
  obtain ⟨ml', k3, k4⟩ := kp_1 (ml := ml) (pv := pv')
  refine ⟨ml', ?_, fun j hj => (k4 j hj).trans (k2 j hj)⟩
  rw [e_X7_find, hf, if_neg ht, e_X7_find_j31, hf, if_neg ht, e_X7_find_j54, hg, k1, k3]
  exact if_pos rfl
theorem s_findN {Rs : RsT} : St_findN (RelB Rs) := by
  intro k tc tv gc gs gb gf gl gh gn gv wn wv mt mc mn mr mb mf mlo mhi mx mg ml mw me mo E0 w hk h hq
  obtain ⟨hl, hc, ht, hn, hw, hr, hz, hgn, hwn, hs⟩ := h
  subst hc
  rcases sf_cls hl.2.1 hq with ⟨e, hf⟩ | ⟨e, hf⟩
  · obtain ⟨ml', e7, hm⟩ := fi_ref (mn := mn) (mb := mb) (mf := mf) (mlo := mlo) (mhi := mhi) (mg := mg) (ml := ml) (mw := mw) (me := me) (mo := mo) hf (by decide) go1
    subst e
    rw [e7]
    exact ⟨Or.inl rfl, kcd_0.symm, lnr_ml hl hm, rfl, ht, hn, hw, hr, hz, e_up hgn, e_up hwn, hs⟩
  · obtain ⟨ml', e7, hm⟩ := fi_ref (mn := mn) (mb := mb) (mf := mf) (mlo := mlo) (mhi := mhi) (mg := mg) (ml := ml) (mw := mw) (me := me) (mo := mo) hf (by decide) go2
    subst e
    rw [e7]
    exact ⟨Or.inr (Or.inl rfl), (kcd_1 (by decide)).symm, lnr_ml hl hm, rfl, ht, hn, hw, hr, hz, e_up hgn, e_up hwn, hs⟩
