/-! canon, faultAt, faultOf -/
theorem in_lo {p a b : Int32} (h : p < a) : f_X7_in p a b = 0 := by
  rw [e_X7_in]
  exact if_pos h
theorem in_hi {p a b : Int32} (h : ¬ p < a) (h2 : b < p) : f_X7_in p a b = 0 := by
  rw [e_X7_in, if_neg h]
  exact if_pos h2
theorem in_ok {p a b : Int32} (h : ¬ p < a) (h2 : ¬ b < p) : ¬ f_X7_in p a b = 0 := by
  rw [e_X7_in, if_neg h, if_neg h2]
  decide
theorem s_canon {Rs : RsT} : St_canon (RelB Rs) := by
  intro k tc tv gc gs gb gf gl gh gn gv wn wv mt mc mn mr mb mf mlo mhi mx mg ml mw me mo p0 p1 w hk h
  have h0 := h
  obtain ⟨hl, hc, ht, hn, -⟩ := h
  subst ht
  have h53 := Int.le_trans hn.2 (most_53 hl.1)
  have e12 : (12 : Int32).toInt = 12 := rfl
  have e7i : (7 : Int32).toInt = 7 := rfl
  have em7 : (-7 : Int32).toInt = -7 := by decide
  have y1 : f_X7_canon_j49 tc ml p0 p1 (1 : Int32) = ((0 : Int32), (1 : Int32)) := by
    rw [e_X7_canon_j49, go1]
    exact if_pos rfl
  have y2 : f_X7_canon_j49 tc ml p0 p1 (2 : Int32) = ((0 : Int32), (2 : Int32)) := by
    rw [e_X7_canon_j49, go2]
    exact if_pos rfl
  have y0 : f_X7_canon_j49 tc ml p0 p1 (0 : Int32) = (f_X7_canonFaults tc ml p0 p1, (0 : Int32)) := by
    rw [e_X7_canon_j49, go0]
    exact if_neg (by decide)
  have y25 : f_X7_canon_j25 tc ml p0 p1 = ((0 : Int32), (1 : Int32)) := by
    rw [e_X7_canon_j25, e_X7_canon_j26, if_pos rfl, y1]
  have cls : (f_X6_canon tc tv p0 p1 = Sum.inl "java/lang/IllegalArgumentException" ∧ f_X7_canon tc ml p0 p1 = ((0 : Int32), (1 : Int32))) ∨ (f_X6_canon tc tv p0 p1 = Sum.inl "java/lang/IllegalStateException" ∧ f_X7_canon tc ml p0 p1 = ((0 : Int32), (2 : Int32))) ∨ (f_X6_canon tc tv p0 p1 = Sum.inr (f_X7_canonFaults tc ml p0 p1) ∧ f_X7_canon tc ml p0 p1 = (f_X7_canonFaults tc ml p0 p1, (0 : Int32))) := by
    by_cases a1 : p0 < (1 : Int32)
    · exact Or.inl (And.intro (by rw [e_X6_canon, if_pos a1, e_X6_canon_j11]) (by rw [e_X7_canon, if_pos (in_lo a1), y25]))
    · by_cases a2 : p0 ≤ (12 : Int32)
      · have a3 : ¬ (12 : Int32) < p0 := by
          rw [t_le] at a2
          rw [t_lt]
          omega
        by_cases b1 : p1 < (-7 : Int32)
        · exact Or.inl (And.intro (by rw [e_X6_canon, if_neg a1, if_pos a2, if_pos b1, e_X6_canon_j33]) (by rw [e_X7_canon, if_neg (in_ok a1 a3), if_pos (in_lo b1), y25]))
        · by_cases b2 : p1 ≤ (7 : Int32)
          · have b3 : ¬ (7 : Int32) < p1 := by
              rw [t_le] at b2
              rw [t_lt]
              omega
            by_cases d : p0 < tc
            · refine Or.inr (Or.inr (And.intro ?_ (by rw [e_X7_canon, if_neg (in_ok a1 a3), if_neg (in_ok b1 b3), e_X7_canon_j26, if_neg (by decide), if_pos d, y0])))
              have d2 := t_lt.mp d
              rw [t_lt, e1i] at a1
              rw [t_le, e12] at a2
              rw [t_lt, em7] at b1
              rw [t_le, e7i] at b2
              have hf := canon_eq (tc := tc) (p0 := p0) (p1 := p1) (lt_of hl) ⟨by omega, by omega⟩ ⟨by omega, by omega⟩ h53 (by omega)
              rw [e_X6_canon, if_neg (by rw [t_lt, e1i]; omega), if_pos (by rw [t_le, e12]; omega), if_neg (by rw [t_lt, em7]; omega), if_pos (by rw [t_le, e7i]; omega), if_pos (show p0 < f_X3_length tc from d), hf]
            · exact Or.inr (Or.inl (And.intro (by rw [e_X6_canon, if_neg a1, if_pos a2, if_neg b1, if_pos b2, if_neg (show ¬ p0 < f_X3_length tc from d)]) (by rw [e_X7_canon, if_neg (in_ok a1 a3), if_neg (in_ok b1 b3), e_X7_canon_j26, if_neg (by decide), if_neg d, y2])))
          · have b3 : (7 : Int32) < p1 := by
              rw [t_le] at b2
              rw [t_lt]
              omega
            exact Or.inl (And.intro (by rw [e_X6_canon, if_neg a1, if_pos a2, if_neg b1, if_neg b2, e_X6_canon_j33]) (by rw [e_X7_canon, if_neg (in_ok a1 a3), if_pos (in_hi b1 b3), y25]))
      · have a3 : (12 : Int32) < p0 := by
          rw [t_le] at a2
          rw [t_lt]
          omega
        exact Or.inl (And.intro (by rw [e_X6_canon, if_neg a1, if_neg a2, e_X6_canon_j11]) (by rw [e_X7_canon, if_pos (in_hi a1 a3), y25]))
  rcases cls with ⟨e6, e7⟩ | ⟨e6, e7⟩ | ⟨e6, e7⟩
  · rw [e6, e7]
    exact ⟨fun E e => Or.inl (Sum.inl.inj e).symm, kcd_0.symm, fun e => absurd e kc_ne, rb_up h0⟩
  · rw [e6, e7]
    exact ⟨fun E e => Or.inr (Sum.inl.inj e).symm, (kcd_1 (by decide)).symm, fun e => absurd e kc_ne, rb_up h0⟩
  · rw [e6, e7]
    exact ⟨fun E e => inr_ne e, rfl, fun _ => rfl, rb_up h0⟩
theorem nI_back {x : Int32} (h : 0 ≤ x.toInt) : nI x.toInt.toNat = x := by
  have h1 := Int32.toInt_lt x
  exact Int32.toInt_inj.mp (by rw [t_n (by omega)]; omega)
theorem fdiv_12 : ∀ i, i < 53 → ∀ j, j < 12 → idiv (nI (12 * i + j)) (12 : Int32) = nI i ∧ idiv (nI (100 * i + j)) (100 : Int32) = nI i ∧ irem (nI (12 * i + j)) (12 : Int32) = nI j ∧ irem (nI (100 * i + j)) (100 : Int32) = nI j := by decide +kernel
theorem sign_law : ∀ j, j < 12 → f_X2_signOf (nI j) = f_X7_letterOf (nI j) := by decide +kernel
/-- which fault: the class's number and the model's, and what refuses -/
theorem fault_cls {gs gf gb gc tc mr mf mb p0 : Int32} {gv tv mg ml mw wv : Nat → Int32} (hl : lnr gs gf gb gv tv gc mr mf mb mg ml) (hw : wtr wv mw) (hn : mnb gc mr tc) : (f_X6_requiredFault tc tv gc gs gb gf gv wv p0 = Sum.inl "java/lang/IndexOutOfBoundsException" ∧ f_X7_faultWith gc tc mr mb mf mg ml mw p0 = ((-1 : Int32), (1 : Int32))) ∨ ∃ i j : Nat, i < 53 ∧ j < 12 ∧ f_X6_requiredFault tc tv gc gs gb gf gv wv p0 = Sum.inr (nI (12 * i + j)) ∧ f_X7_faultWith gc tc mr mb mf mg ml mw p0 = (nI (100 * i + j), (0 : Int32)) := by
  have m1 : ¬ (0 : Int32) ≤ (-1 : Int32) := by decide
  by_cases h1 : (0 : Int32) ≤ p0
  · have h2 : 0 ≤ p0.toInt := by
      rw [t_le, e0i] at h1
      exact h1
    have h3 := Int32.toInt_lt p0
    have hN := number_eq hl hw hn (P := p0.toInt.toNat) (by omega)
    rw [nI_back h2] at hN
    rcases hN with ⟨ha, hb⟩ | ⟨i, j, hi, hj, ha, hb⟩
    · refine Or.inl (And.intro ?_ ?_)
      · rw [e_X6_requiredFault, ha, if_neg m1]
      · rw [e_X7_faultWith, if_pos h1, hb, e_X7_faultWith_j13, if_pos rfl, e_X7_faultWith_j25]
    · refine Or.inr ⟨i, j, hi, hj, ?_, ?_⟩
      · have g0 : (0 : Int32) ≤ nI (12 * i + j) := by
          rw [t_le, e0i, t_n (by omega)]
          omega
        rw [e_X6_requiredFault, ha, if_pos g0]
      · have g1 : ¬ nI (100 * i + j) = (-1 : Int32) := by
          intro e
          have e2 := congrArg Int32.toInt e
          rw [t_n (by omega), show (-1 : Int32).toInt = -1 by decide] at e2
          omega
        rw [e_X7_faultWith, if_pos h1, hb, e_X7_faultWith_j13, if_neg g1, e_X7_faultWith_j25]
  · refine Or.inl (And.intro ?_ ?_)
    · rw [e_X6_requiredFault, e_X3_faultNumber, if_neg h1, if_neg m1]
    · rw [e_X7_faultWith, if_neg h1, e_X7_faultWith_j13, if_pos rfl, e_X7_faultWith_j25]
theorem nm1 {n : Nat} (h : n < 2147483648) : ¬ nI n = (-1 : Int32) := by
  intro e
  have e2 := congrArg Int32.toInt e
  rw [t_n h, show (-1 : Int32).toInt = -1 by decide] at e2
  omega
theorem s_faultAt {Rs : RsT} : St_faultAt (RelB Rs) := by
  intro k tc tv gc gs gb gf gl gh gn gv wn wv mt mc mn mr mb mf mlo mhi mx mg ml mw me mo p0 w hk h
  have h0 := h
  obtain ⟨hl, hc, ht, hn, hw, -⟩ := h
  subst hc ht
  rcases fault_cls (p0 := p0) hl hw hn with ⟨ha, hb⟩ | ⟨i, j, hi, hj, ha, hb⟩
  · have e6 : f_X6_faultAt tc tv gc gs gb gf gv wv p0 = Sum.inl "java/lang/IndexOutOfBoundsException" := by
      rw [e_X6_faultAt, ha, sb_l rfl]
    have e7 : f_X7_faultAt gc tc mr mb mf mg ml mw p0 = ((0 : Int32), (1 : Int32)) := by
      rw [e_X7_faultAt, hb]
      exact if_pos rfl
    rw [e6, e7]
    exact ⟨fun E e => (Sum.inl.inj e).symm, kcd_0.symm, fun e => absurd e kc_ne, rb_up h0⟩
  · obtain ⟨d1, d2, -⟩ := fdiv_12 i hi j hj
    have e6 : f_X6_faultAt tc tv gc gs gb gf gv wv p0 = Sum.inr (nI i) := by
      rw [e_X6_faultAt, ha, sb_r rfl, d1]
    have e7 : f_X7_faultAt gc tc mr mb mf mg ml mw p0 = (nI i, (0 : Int32)) := by
      rw [e_X7_faultAt, hb]
      refine (if_neg (nm1 (by omega))).trans ?_
      rw [d2]
    rw [e6, e7]
    exact ⟨fun E e => inr_ne e, rfl, fun _ => rfl, rb_up h0⟩
theorem s_faultOf {Rs : RsT} : St_faultOf (RelB Rs) := by
  intro k tc tv gc gs gb gf gl gh gn gv wn wv mt mc mn mr mb mf mlo mhi mx mg ml mw me mo p0 w hk h
  have h0 := h
  obtain ⟨hl, hc, ht, hn, hw, -⟩ := h
  subst hc ht
  rcases fault_cls (p0 := p0) hl hw hn with ⟨ha, hb⟩ | ⟨i, j, hi, hj, ha, hb⟩
  · have e6 : f_X6_faultOf tc tv gc gs gb gf gv wv p0 = Sum.inl "java/lang/IndexOutOfBoundsException" := by
      rw [e_X6_faultOf, ha, sb_l rfl]
    have e7 : f_X7_faultOf gc tc mr mb mf mg ml mw p0 = ((0 : Int32), (1 : Int32)) := by
      rw [e_X7_faultOf, hb]
      exact if_pos rfl
    rw [e6, e7]
    exact ⟨fun E e => (Sum.inl.inj e).symm, kcd_0.symm, fun e => absurd e kc_ne, rb_up h0⟩
  · obtain ⟨-, -, d3, d4⟩ := fdiv_12 i hi j hj
    have e6 : f_X6_faultOf tc tv gc gs gb gf gv wv p0 = Sum.inr (f_X7_letterOf (nI j)) := by
      rw [e_X6_faultOf, ha, sb_r rfl, d3, sign_law j hj]
    have e7 : f_X7_faultOf gc tc mr mb mf mg ml mw p0 = (f_X7_letterOf (nI j), (0 : Int32)) := by
      rw [e_X7_faultOf, hb]
      refine (if_neg (nm1 (by omega))).trans ?_
      rw [d4]
    rw [e6, e7]
    exact ⟨fun E e => inr_ne e, rfl, fun _ => rfl, rb_up h0⟩
