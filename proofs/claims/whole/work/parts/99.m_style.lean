/-! style -/
theorem sty_tab : ∀ g, g < 3 → ∀ i, i < 12 → styv (g * 12 + i) = f_X7_styled (nI g) (nI i) ∧ 0 ≤ (styv (g * 12 + i)).toInt ∧ (styv (g * 12 + i)).toInt ≤ 10 := by decide +kernel
theorem wtr_upd2 {wv mw : Nat → Int32} {j : Nat} {x : Int32} (h : wtr wv mw) (hx : 0 ≤ x.toInt ∧ x.toInt ≤ 10) (he : wv j = x) : wtr wv (upd mw j x) := by
  intro i hi
  by_cases e : i = j
  · have e2 : upd mw j x i = x := if_pos e
    rw [e2, e, he]
    exact ⟨rfl, hx⟩
  · have e2 : upd mw j x i = mw i := if_neg e
    rw [e2]
    exact h i hi
theorem style_l {Rs : RsT} (R : RsOk Rs) {gn gc gs gb gf gl gh : Int32} {gv : Nat → Int32} {w : SS} {g : Nat} (hg : g < 3) : ∀ n fu fu' i a (v : Int32) (wv mw : Nat → Int32), i ≤ 12 → 12 - i = n → n < fu → n < fu' → a + n < 7000 → wtr wv mw → Rs gn (nI a) gc gs gb gf gl gh gv wv w → ∃ (v' : Int32) (wv' mw' : Nat → Int32) (a' : Nat), f_X2_adopt_l4 (nI g) fu v (nI i) (nI a) wv = (v', wv', nI a') ∧ f_X7_style_l27 (nI g) (0 : Int32) fu' v (nI i) mw = (v', (0 : Int32), mw') ∧ wtr wv' mw' ∧ a' ≤ a + n ∧ Rs gn (nI a') gc gs gb gf gl gh gv wv' w := by
  have e12 : (12 : Int32).toInt = 12 := rfl
  have e36 : (36 : Int32).toInt = 36 := rfl
  intro n
  induction n with
  | zero =>
    intro fu fu' i a v wv mw h1 h2 h3 h4 h5 hw hs
    obtain ⟨f, rfl⟩ : ∃ f, fu = f + 1 := ⟨fu - 1, by omega⟩
    obtain ⟨f', rfl⟩ : ∃ f, fu' = f + 1 := ⟨fu' - 1, by omega⟩
    have hi : (12 : Int32) ≤ nI i := by
      rw [t_le, e12, t_n (by omega)]
      omega
    refine ⟨v, wv, mw, a, ?_, ?_, hw, by omega, hs⟩
    · rw [e_X2_adopt_l4, if_pos hi]
    · rw [e_X7_style_l27, if_pos hi, go0]
  | succ n ih =>
    intro fu fu' i a v wv mw h1 h2 h3 h4 h5 hw hs
    obtain ⟨f, rfl⟩ : ∃ f, fu = f + 1 := ⟨fu - 1, by omega⟩
    obtain ⟨f', rfl⟩ : ∃ f, fu' = f + 1 := ⟨fu' - 1, by omega⟩
    have hi : ¬ (12 : Int32) ≤ nI i := by
      rw [t_le, e12, t_n (by omega)]
      omega
    obtain ⟨s1, s2, s3⟩ := sty_tab g hg i (by omega)
    have ex : nI g * (12 : Int32) + nI i = nI (g * 12 + i) := by
      rw [nI_plus, nI_times]
      rfl
    have q0 : ¬ nI (g * 12 + i) < (0 : Int32) := by
      rw [t_lt, e0i, t_n (by omega)]
      omega
    have q1 : ¬ (36 : Int32) ≤ nI (g * 12 + i) := by
      rw [t_le, e36, t_n (by omega)]
      omega
    have hni : nI i + (1 : Int32) = nI (i + 1) := (nI_plus i 1).symm
    have hna : nI a + (1 : Int32) = nI (a + 1) := (nI_plus a 1).symm
    have hv := (hw i (by omega)).1
    have hc1 : (nI i).toNatClampNeg = i := nI_clamp (by omega)
    have hc2 : (nI (g * 12 + i)).toNatClampNeg = g * 12 + i := nI_clamp (by omega)
    rw [e_X2_adopt_l4, if_neg hi, ex, if_neg q0, if_neg q1, hc2, wOf_v (by omega), wSet_v (by omega), e_X7_style_l27, if_neg hi, hc1, ← s1, ← hv]
    by_cases d : wv i = styv (g * 12 + i)
    · rw [if_pos d, if_pos d, e_X2_adopt_j60, e_X7_style_j53, Int32.add_zero, hni, hc1, ← s1]
      obtain ⟨v', wv', mw', a', r1, r2, r3, r4, r5⟩ := ih f f' (i + 1) a v wv (upd mw i (styv (g * 12 + i))) (by omega) (by omega) (by omega) (by omega) (by omega) (wtr_upd2 hw ⟨s2, s3⟩ d) hs
      exact ⟨v', wv', mw', a', r1, r2, r3, by omega, r5⟩
    · rw [if_neg d, if_neg d, e_X2_adopt_j60, e_X7_style_j53, hni, hc1, ← s1, hna]
      obtain ⟨v', wv', mw', a', r1, r2, r3, r4, r5⟩ := ih f f' (i + 1) (a + 1) (v + (1 : Int32)) (upd wv i (styv (g * 12 + i))) (upd mw i (styv (g * 12 + i))) (by omega) (by omega) (by omega) (by omega) (by omega) (wtr_upd hw ⟨s2, s3⟩) (R.2 a gn gc gs gb gf gl gh gv wv _ w (by omega) hs)
      exact ⟨v', wv', mw', a', r1, r2, r3, by omega, r5⟩
theorem s_style {Rs : RsT} (R : RsOk Rs) : St_style (RelB Rs) := by
  intro k tc tv gc gs gb gf gl gh gn gv wn wv mt mc mn mr mb mf mlo mhi mx mg ml mw me mo p0 w hk h
  have h0 := h
  obtain ⟨hl, hc, ht, hn, hw, hr, hz, hgn, ⟨a, ha, rfl⟩, hs⟩ := h
  have e3 : (3 : Int32).toInt = 3 := rfl
  have e2 : (2 : Int32).toInt = 2 := rfl
  have y1 : f_X7_style_j15 mw p0 (1 : Int32) = ((0 : Int32), (1 : Int32), mw) := by
    rw [e_X7_style_j15, go1]
    exact if_pos rfl
  have cls : (f_X6_style (nI a) wv p0 = (Sum.inl "java/lang/IllegalArgumentException", wv, nI a) ∧ f_X7_style mw p0 = ((0 : Int32), (1 : Int32), mw)) ∨ ∃ (v' : Int32) (wv' mw' : Nat → Int32) (a' : Nat), f_X6_style (nI a) wv p0 = (Sum.inr v', wv', nI a') ∧ f_X7_style mw p0 = (v', (0 : Int32), mw') ∧ wtr wv' mw' ∧ a' ≤ a + 12 ∧ Rs gn (nI a') gc gs gb gf gl gh gv wv' w := by
    by_cases b1 : p0 < (0 : Int32)
    · exact Or.inl (And.intro (by rw [e_X6_style, if_pos b1, e_X6_style_j9]) (by rw [e_X7_style, if_pos (in_lo b1), y1]))
    · by_cases b2 : p0 < (3 : Int32)
      · have b3 : ¬ (2 : Int32) < p0 := by
          rw [t_lt, e3] at b2
          rw [t_lt, e2]
          omega
        have b4 := in_ok b1 b3
        rw [t_lt, e0i] at b1
        rw [t_lt, e3] at b2
        have e := nI_back (x := p0) (by omega)
        obtain ⟨v', wv', mw', a', r1, r2, r3, r4, r5⟩ := style_l R (g := p0.toInt.toNat) (by omega) 12 13 13 0 a (0 : Int32) wv mw (by omega) rfl (by omega) (by omega) (by omega) hw hs
        rw [e] at r1 r2
        refine Or.inr ⟨v', wv', mw', a', ?_, ?_, r3, r4, r5⟩
        · rw [e_X6_style, if_neg (by rw [t_lt, e0i]; omega), if_pos (by rw [t_lt, e3]; omega), show f_X2_adopt (nI a) wv p0 = (v', wv', nI a') from r1]
        · rw [e_X7_style, if_neg b4, e_X7_style_j15, go0]
          exact (if_neg (by decide)).trans r2
      · have b3 : (2 : Int32) < p0 := by
          rw [t_lt, e3] at b2
          rw [t_lt, e2]
          omega
        exact Or.inl (And.intro (by rw [e_X6_style, if_neg b1, if_neg b2, e_X6_style_j9]) (by rw [e_X7_style, if_pos (in_hi b1 b3), y1]))
  rcases cls with ⟨e6, e7⟩ | ⟨v', wv', mw', a', e6, e7, r3, r4, r5⟩
  · rw [e6, e7]
    exact ⟨fun E e => (Sum.inl.inj e).symm, kcd_0.symm, fun e => absurd e kc_ne, rb_up h0⟩
  · rw [e6, e7]
    exact ⟨fun E e => inr_ne e, rfl, fun _ => rfl, hl, hc, ht, hn, r3, hr, hz, e_up hgn, ⟨a', by omega, rfl⟩, r5⟩
