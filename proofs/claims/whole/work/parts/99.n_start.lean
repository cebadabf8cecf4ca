/-! canonAt, and the relation at the start -/
theorem fn_in {tc P : Int32} {tv : Nat → Int32} {b : Nat} (hb1 : 1 ≤ b) (hb2 : b ≤ 12) (K : Int32 → Int32) : ∀ n fu c (v4 : Int32), -7 ≤ v4.toInt → v4.toInt ≤ 8 → (8 - v4.toInt).toNat = n → n < fu → c + n < 3000 → (∃ c', c' ≤ c + n ∧ f_X0_faultlessNumber_l16 tc tv P (nI b) K fu (nI c) v4 = K (nI c')) ∨ (0 ≤ (f_X0_faultlessNumber_l16 tc tv P (nI b) K fu (nI c) v4).toInt ∧ 0 ≤ P.toInt) := by
  have e7i : (7 : Int32).toInt = 7 := rfl
  have e50 : (50 : Int32).toInt = 50 := rfl
  intro n
  induction n with
  | zero =>
    intro fu c v4 h1 h2 h3 h4 h5
    obtain ⟨f, rfl⟩ : ∃ f, fu = f + 1 := ⟨fu - 1, by omega⟩
    refine Or.inl ⟨c, by omega, ?_⟩
    rw [e_X0_faultlessNumber_l16, if_pos (by rw [t_lt, e7i]; omega)]
  | succ n ih =>
    intro fu c v4 h1 h2 h3 h4 h5
    obtain ⟨f, rfl⟩ : ∃ f, fu = f + 1 := ⟨fu - 1, by omega⟩
    have hv : (v4 + (1 : Int32)).toInt = v4.toInt + 1 := by
      rw [t_add (by rw [e1i]; omega) (by rw [e1i]; omega), e1i]
    have hc : nI c + (1 : Int32) = nI (c + 1) := (nI_plus c 1).symm
    rw [e_X0_faultlessNumber_l16, if_neg (by rw [t_lt, e7i]; omega)]
    by_cases d : f_X0_faultsOf tc tv (nI b) v4 = 0
    · rw [if_pos d]
      by_cases e : nI c = P
      · rw [if_pos e]
        refine Or.inr ⟨?_, ?_⟩
        · have m1 : (100 : Int32) * nI b = nI (100 * b) := (nI_times 100 b).symm
          have m2 : nI (100 * b) + (50 : Int32) = nI (100 * b + 50) := (nI_plus (100 * b) 50).symm
          rw [m1, m2, t_add (by rw [t_n (by omega)]; omega) (by rw [t_n (by omega)]; omega), t_n (by omega)]
          omega
        · rw [← e, t_n (by omega)]
          omega
      · rw [if_neg e, e_X0_faultlessNumber_j52, hc]
        rcases ih f (c + 1) (v4 + (1 : Int32)) (by omega) (by omega) (by omega) (by omega) (by omega) with ⟨c', q1, q2⟩ | q
        · exact Or.inl ⟨c', by omega, q2⟩
        · exact Or.inr q
    · rw [if_neg d, e_X0_faultlessNumber_j52]
      rcases ih f c (v4 + (1 : Int32)) (by omega) (by omega) (by omega) (by omega) (by omega) with ⟨c', q1, q2⟩ | q
      · exact Or.inl ⟨c', by omega, q2⟩
      · exact Or.inr q
theorem far_le {tc : Int32} : (f_X0_farthestOf tc).toInt ≤ 12 := by
  have h12 : (12 : Int32).toInt = 12 := rfl
  rw [e_X0_farthestOf, imin]
  split
  · rename_i h
    rw [t_lt, h12] at h
    omega
  · rw [h12]
    omega
theorem fn_cls {tc P : Int32} {tv : Nat → Int32} : f_X0_faultlessNumber tc tv P = (-1 : Int32) ∨ (0 ≤ (f_X0_faultlessNumber tc tv P).toInt ∧ 0 ≤ P.toInt) := by
  have hf := far_le (tc := tc)
  have em7 : (-7 : Int32).toInt = -7 := by decide
  have key : ∀ n fu c b : Nat, 1 ≤ b → b ≤ 13 → ((f_X0_farthestOf tc).toInt + 1 - (b : Int)).toNat = n → n < fu → c + 15 * n < 2000 → f_X0_faultlessNumber_l4 tc tv P fu (nI c) (nI b) = (-1 : Int32) ∨ (0 ≤ (f_X0_faultlessNumber_l4 tc tv P fu (nI c) (nI b)).toInt ∧ 0 ≤ P.toInt) := by
    intro n
    induction n with
    | zero =>
      intro fu c b h1 h2 h3 h4 h5
      obtain ⟨f, rfl⟩ : ∃ f, fu = f + 1 := ⟨fu - 1, by omega⟩
      left
      rw [e_X0_faultlessNumber_l4, if_pos (by rw [t_lt, t_n (by omega)]; omega)]
    | succ n ih =>
      intro fu c b h1 h2 h3 h4 h5
      obtain ⟨f, rfl⟩ : ∃ f, fu = f + 1 := ⟨fu - 1, by omega⟩
      rw [e_X0_faultlessNumber_l4, if_neg (by rw [t_lt, t_n (by omega)]; omega)]
      rcases fn_in (tc := tc) (P := P) (tv := tv) h1 (by omega) (f_X0_faultlessNumber_j58 (nI b) (f_X0_faultlessNumber_l4 tc tv P f)) 15 16 c (-7 : Int32) (by rw [em7]; omega) (by rw [em7]; omega) (by rw [em7]; rfl) (by omega) (by omega) with ⟨c', q1, q2⟩ | q
      · rw [q2, e_X0_faultlessNumber_j58, show nI b + (1 : Int32) = nI (b + 1) from (nI_plus b 1).symm]
        exact ih f c' (b + 1) (by omega) (by omega) (by omega) (by omega) (by omega)
      · exact Or.inr q
  rw [e_X0_faultlessNumber]
  exact key ((f_X0_farthestOf tc).toInt + 1 - ((1 : Nat) : Int)).toNat (((f_X0_farthestOf tc).toInt + 1 - (1 : Int32).toInt).toNat + 1) 0 1 (by omega) (by omega) rfl (by rw [e1i]; omega) (by omega)
theorem s_canonAt {Rs : RsT} : St_canonAt (RelB Rs) := by
  intro k tc tv gc gs gb gf gl gh gn gv wn wv mt mc mn mr mb mf mlo mhi mx mg ml mw me mo p0 w hk h
  have h0 := h
  obtain ⟨hl, hc, ht, hn, -⟩ := h
  subst ht
  have h53 := Int.le_trans hn.2 (most_53 hl.1)
  have m1 : ¬ (0 : Int32) ≤ (-1 : Int32) := by decide
  have y1 : ∀ v, f_X7_canonAt_j45 v (1 : Int32) = ((0 : Int32), (1 : Int32)) := fun v => by
    rw [e_X7_canonAt_j45, go1]
    exact if_pos rfl
  have y2 : ∀ v, f_X7_canonAt_j45 v (2 : Int32) = ((0 : Int32), (2 : Int32)) := fun v => by
    rw [e_X7_canonAt_j45, go2]
    exact if_pos rfl
  have y0 : ∀ v, f_X7_canonAt_j45 v (0 : Int32) = (v, (0 : Int32)) := fun v => by
    rw [e_X7_canonAt_j45, go0]
    exact if_neg (by decide)
  have cls : (f_X6_canonAt tc tv p0 = Sum.inl "java/lang/IllegalStateException" ∧ f_X7_canonAt tc ml p0 = ((0 : Int32), (1 : Int32))) ∨ (f_X6_canonAt tc tv p0 = Sum.inl "java/lang/IndexOutOfBoundsException" ∧ f_X7_canonAt tc ml p0 = ((0 : Int32), (2 : Int32))) ∨ ∃ v, f_X6_canonAt tc tv p0 = Sum.inr v ∧ f_X7_canonAt tc ml p0 = (v, (0 : Int32)) := by
    by_cases a : (2 : Int32) ≤ tc
    · have ha : (2 : Int32) ≤ f_X3_length tc := a
      have hF := fn_cls (tc := tc) (P := p0) (tv := tv)
      by_cases b : p0 < (0 : Int32)
      · have hN : f_X0_faultlessNumber tc tv p0 = (-1 : Int32) := by
          rcases hF with q | ⟨-, q⟩
          · exact q
          · rw [t_lt, e0i] at b
            omega
        refine Or.inr (Or.inl (And.intro ?_ ?_))
        · rw [e_X6_canonAt, e_X6_requireTwoNotes, if_pos ha, sb_r rfl, hN, if_neg m1]
        · rw [e_X7_canonAt, if_pos b, e_X7_canonAt_j12, e_X7_canonAt_j21, if_pos a, if_pos rfl, y2]
      · have hp : ¬ p0 = (-1 : Int32) := by
          intro e
          rw [e] at b
          exact b (by decide)
        have hE := canonNo_eq (P := p0) (lt_of hl) (t_le.mp a) h53 hp
        rcases hF with q | ⟨q, -⟩
        · refine Or.inr (Or.inl (And.intro ?_ ?_))
          · rw [e_X6_canonAt, e_X6_requireTwoNotes, if_pos ha, sb_r rfl, q, if_neg m1]
          · rw [e_X7_canonAt, if_neg b, if_pos a, ← hE, q, e_X7_canonAt_j21, if_pos a, if_pos rfl, y2]
        · have g0 : (0 : Int32) ≤ f_X0_faultlessNumber tc tv p0 := by
            rw [t_le, e0i]
            exact q
          have g1 : ¬ f_X0_faultlessNumber tc tv p0 = (-1 : Int32) := by
            intro e
            rw [e] at g0
            exact m1 g0
          refine Or.inr (Or.inr ⟨f_X0_faultlessNumber tc tv p0, ?_, ?_⟩)
          · rw [e_X6_canonAt, e_X6_requireTwoNotes, if_pos ha, sb_r rfl, if_pos g0]
          · rw [e_X7_canonAt, if_neg b, if_pos a, ← hE, e_X7_canonAt_j21, if_pos a, if_neg g1, y0]
    · have ha : ¬ (2 : Int32) ≤ f_X3_length tc := a
      refine Or.inl (And.intro ?_ ?_)
      · rw [e_X6_canonAt, e_X6_requireTwoNotes, if_neg ha, sb_l rfl]
      · rw [e_X7_canonAt]
        by_cases b : p0 < (0 : Int32)
        · rw [if_pos b, e_X7_canonAt_j12, e_X7_canonAt_j21, if_neg a, y1]
        · rw [if_neg b, if_neg a, e_X7_canonAt_j12, e_X7_canonAt_j21, if_neg a, y1]
  rcases cls with ⟨e6, e7⟩ | ⟨e6, e7⟩ | ⟨v, e6, e7⟩
  · rw [e6, e7]
    exact ⟨fun E e => Or.inl (Sum.inl.inj e).symm, kcd_0.symm, fun e => absurd e kc_ne, rb_up h0⟩
  · rw [e6, e7]
    exact ⟨fun E e => Or.inr (Sum.inl.inj e).symm, (kcd_1 (by decide)).symm, fun e => absurd e kc_ne, rb_up h0⟩
  · rw [e6, e7]
    exact ⟨fun E e => inr_ne e, rfl, fun _ => rfl, rb_up h0⟩
theorem wtr_0 : wtr (va_cpy styv zI (0 : Int32).toNatClampNeg (0 : Int32).toNatClampNeg (12 : Int32).toNatClampNeg) ((f_X7_style zI (0 : Int32)).2.2) := by
  have key : ∀ j, j < 12 → va_cpy styv zI (0 : Int32).toNatClampNeg (0 : Int32).toNatClampNeg (12 : Int32).toNatClampNeg j = (f_X7_style zI (0 : Int32)).2.2 j ∧ 0 ≤ ((f_X7_style zI (0 : Int32)).2.2 j).toInt ∧ ((f_X7_style zI (0 : Int32)).2.2 j).toInt ≤ 10 := by decide +kernel
  exact key
theorem rel_0 {Rs : RsT} (hs : Rs (0 : Int32) (0 : Int32) (0 : Int32) (0 : Int32) (0 : Int32) (0 : Int32) (7 : Int32) (16 : Int32) zI (va_cpy styv zI (0 : Int32).toNatClampNeg (0 : Int32).toNatClampNeg (12 : Int32).toNatClampNeg) none) : Rel0 (RelB Rs) := by
  have hm : mok (0 : Int32) (1 : Int32) := ⟨Or.inl rfl, by decide, by decide⟩
  exact ⟨⟨hm, Or.inl ⟨rfl, rfl⟩, rfl, rfl, fun j _ => ⟨rfl, by show 0 ≤ (0 : Int32).toInt; decide, by show (0 : Int32).toInt ≤ 27; decide⟩, fun j _ => ⟨rfl, by show 0 ≤ (0 : Int32).toInt; decide, by show (0 : Int32).toInt ≤ 27; decide⟩⟩, rfl, rfl, mnb_0 hm, wtr_0, ⟨rfl, rfl, by decide, by decide, by decide, by decide⟩, ⟨Or.inl rfl, Or.inl rfl⟩, ⟨0, by omega, rfl⟩, ⟨0, by omega, rfl⟩, hs⟩
