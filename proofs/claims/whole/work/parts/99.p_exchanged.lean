/-! exchanged -/
theorem ex_test {gs gf gb mc mr mf mb p0 i : Int32} {gv tv mg ml : Nat → Int32} (hl : lnr gs gf gb gv tv mc mr mf mb mg ml) (h0 : 0 ≤ i.toInt) (h1 : i.toInt < (f_X7_most mc mr).toInt) (hp : 7 ≤ p0.toInt ∧ p0.toInt ≤ 14) : KG (f_X7_kind ((ml i.toNatClampNeg - p0) - f_X7_givenOf mr mg i) (f_X7_pitchOf (ml i.toNatClampNeg - p0) - f_X7_pitchOf (f_X7_givenOf mr mg i))) (f_X5_plainGap (f_X3_toneAt tv i - p0) (f_X1_against mc gs gv i)) := by
  have hi := lt_mix hl.1 h0 h1
  have hin := mx_in hl.1 hi
  have ht := ln_tone hl hin
  have hg := gv_b hl hi
  have h2 := ht.2
  have hd : (ml i.toNatClampNeg - p0).toInt = (ml i.toNatClampNeg).toInt - p0.toInt := t_sub (by omega) (by omega)
  have hq := ma_pb (x := f_X7_givenOf mr mg i) (by omega) (by omega)
  have hp2 := ma_pb (x := ml i.toNatClampNeg - p0) (by omega) (by omega)
  rw [e_X5_plainGap, ht.1, ln_against hl h0 h1, ma_pitch (x := ml i.toNatClampNeg - p0) (by omega) (by omega), ma_pitch (x := f_X7_givenOf mr mg i) (by omega) (by omega)]
  apply ma_kg
  · rw [t_sub] <;> omega
  · rw [t_sub] <;> omega
theorem str_v {R a : Nat} (hR : R = 1 ∨ R = 2 ∨ R = 4) (ha : a < 53) : f_X7_isStrong (nI R) (nI a) = 0 ↔ ¬ a % R = 0 := by
  rcases hR with h | h | h
  · have key : ∀ a, a < 53 → (f_X7_isStrong (nI 1) (nI a) = 0 ↔ ¬ a % 1 = 0) := by decide +kernel
    rw [h]
    exact key a ha
  · have key : ∀ a, a < 53 → (f_X7_isStrong (nI 2) (nI a) = 0 ↔ ¬ a % 2 = 0) := by decide +kernel
    rw [h]
    exact key a ha
  · have key : ∀ a, a < 53 → (f_X7_isStrong (nI 4) (nI a) = 0 ↔ ¬ a % 4 = 0) := by decide +kernel
    rw [h]
    exact key a ha
theorem ce_0 {R a : Nat} (hR : R = 1 ∨ R = 2 ∨ R = 4) : a ≤ R * ((a + R - 1) / R) ∧ R * ((a + R - 1) / R) ≤ a + 4 := by
  rcases hR with h | h | h <;> subst h <;> omega
theorem ce_1 {R a : Nat} (hR : R = 1 ∨ R = 2 ∨ R = 4) (h : a % R = 0) : R * ((a + R - 1) / R) = a ∧ R * ((a + 1 + R - 1) / R) = a + R := by
  rcases hR with h | h | h <;> subst h <;> omega
theorem ce_2 {R a : Nat} (hR : R = 1 ∨ R = 2 ∨ R = 4) (h : ¬ a % R = 0) : R * ((a + 1 + R - 1) / R) = R * ((a + R - 1) / R) := by
  rcases hR with h | h | h <;> subst h <;> omega
theorem ex_l {gs gf gb tc mc mr mf mb p0 : Int32} {gv tv mg ml : Nat → Int32} (hl : lnr gs gf gb gv tv mc mr mf mb mg ml) (hn : mnb mc mr tc) (hp : 7 ≤ p0.toInt ∧ p0.toInt ≤ 14) {R : Nat} (hR : R = 1 ∨ R = 2 ∨ R = 4) (hmr : mr = nI R) : ∀ (n fu fu' a : Nat) (v : Int32), a + n = tc.toInt.toNat → n < fu → n < fu' → ∃ r, f_X6_exchanged_l30 tc tv mc gs gv p0 fu v (nI a) = Sum.inr r ∧ f_X7_exchanged_l40 tc mr mg ml p0 (0 : Int32) fu' v (nI (R * ((a + R - 1) / R))) = (r, (0 : Int32)) := by
  have h53 := Int.le_trans hn.2 (most_53 hl.1)
  have hn1 := hn.1
  have hn2 := hn.2
  intro n
  induction n with
  | zero =>
    intro fu fu' a v h3 h4 h5
    obtain ⟨f, rfl⟩ : ∃ f, fu = f + 1 := ⟨fu - 1, by omega⟩
    obtain ⟨f', rfl⟩ : ∃ f, fu' = f + 1 := ⟨fu' - 1, by omega⟩
    have hc := ce_0 (a := a) hR
    refine ⟨v, ?_, ?_⟩
    · rw [e_X6_exchanged_l30, if_pos (show f_X3_length tc ≤ nI a by show tc ≤ nI a; rw [t_le, t_n (by omega)]; omega)]
    · rw [e_X7_exchanged_l40, if_pos (show tc ≤ nI (R * ((a + R - 1) / R)) by rw [t_le, t_n (by omega)]; omega), go0]
  | succ n ih =>
    intro fu fu' a v h3 h4 h5
    obtain ⟨f, rfl⟩ : ∃ f, fu = f + 1 := ⟨fu - 1, by omega⟩
    have ea : (nI a).toInt = (a : Int) := t_n (by omega)
    have hb1 : (nI a).toInt < (f_X7_most mc mr).toInt := by
      rw [ea]
      omega
    have hb0 : 0 ≤ (nI a).toInt := by
      rw [ea]
      omega
    have hx := lt_mix hl.1 hb0 hb1
    have hst := ma_strong hl.1 hl.2.1 hx
    have hna : nI a + (1 : Int32) = nI (a + 1) := (nI_plus a 1).symm
    have c1 : ¬ f_X3_length tc ≤ nI a := by
      show ¬ tc ≤ nI a
      rw [t_le, ea]
      omega
    by_cases hs : a % R = 0
    · obtain ⟨f', rfl⟩ : ∃ f, fu' = f + 1 := ⟨fu' - 1, by omega⟩
      have c2 : ¬ tc ≤ nI a := c1
      have hz : ¬ f_X7_isStrong mr (nI a) = 0 := by
        rw [hmr, str_v hR (by omega)]
        exact fun h => h hs
      have hG := kg_diss (ex_test hl hb0 hb1 hp)
      have hra : nI a + mr = nI (a + R) := by
        rw [hmr]
        exact (nI_plus a R).symm
      rw [(ce_1 hR hs).1, e_X6_exchanged_l30, if_neg c1, hst, if_neg hz, e_X7_exchanged_l40, if_neg c2]
      by_cases d : f_X5_isDissonant (f_X5_plainGap (f_X3_toneAt tv (nI a) - p0) (f_X1_against mc gs gv (nI a))) = 0
      · rw [if_pos d, if_neg (hG.mp d), e_X6_exchanged_j86, e_X7_exchanged_j93, Int32.add_zero, hna, hra]
        obtain ⟨r, r1, r2⟩ := ih f f' (a + 1) v (by omega) (by omega) (by omega)
        rw [(ce_1 hR hs).2] at r2
        exact ⟨r, r1, r2⟩
      · have d2 := Decidable.byContradiction fun q => d (hG.mpr q)
        rw [if_neg d, if_pos d2, e_X6_exchanged_j86, e_X7_exchanged_j93, hna, hra]
        obtain ⟨r, r1, r2⟩ := ih f f' (a + 1) (v + (1 : Int32)) (by omega) (by omega) (by omega)
        rw [(ce_1 hR hs).2] at r2
        exact ⟨r, r1, r2⟩
    · have hz : f_X7_isStrong mr (nI a) = 0 := by
        rw [hmr, str_v hR (by omega)]
        exact hs
      rw [e_X6_exchanged_l30, if_neg c1, hst, if_pos hz, e_X6_exchanged_j86, hna]
      obtain ⟨r, r1, r2⟩ := ih f fu' (a + 1) v (by omega) (by omega) (by omega)
      rw [ce_2 hR hs] at r2
      exact ⟨r, r1, r2⟩
theorem s_exchanged {Rs : RsT} : St_exchanged (RelB Rs) := by
  intro k tc tv gc gs gb gf gl gh gn gv wn wv mt mc mn mr mb mf mlo mhi mx mg ml mw me mo p0 w hk h
  have h0 := h
  obtain ⟨hl, hc, ht, hn, -⟩ := h
  subst hc ht
  have e7i : (7 : Int32).toInt = 7 := rfl
  have e14 : (14 : Int32).toInt = 14 := rfl
  have y1 : f_X7_exchanged_j28 tc mr mg ml p0 (1 : Int32) = ((0 : Int32), (1 : Int32)) := by
    rw [e_X7_exchanged_j28, go1]
    exact if_pos rfl
  have y2 : f_X7_exchanged_j28 tc mr mg ml p0 (2 : Int32) = ((0 : Int32), (2 : Int32)) := by
    rw [e_X7_exchanged_j28, go2]
    exact if_pos rfl
  have hwh := whole_eq (tc := tc) hl.1 hl.2.1
  have cls : (f_X6_exchanged tc tv gc gs gv p0 = Sum.inl "java/lang/IllegalArgumentException" ∧ f_X7_exchanged gc tc mr mg ml p0 = ((0 : Int32), (1 : Int32))) ∨ (f_X6_exchanged tc tv gc gs gv p0 = Sum.inl "java/lang/IllegalStateException" ∧ f_X7_exchanged gc tc mr mg ml p0 = ((0 : Int32), (2 : Int32))) ∨ ∃ r, f_X6_exchanged tc tv gc gs gv p0 = Sum.inr r ∧ f_X7_exchanged gc tc mr mg ml p0 = (r, (0 : Int32)) := by
    by_cases a1 : p0 < (7 : Int32)
    · exact Or.inl (And.intro (by rw [e_X6_exchanged, if_pos a1, e_X6_exchanged_j12]) (by rw [e_X7_exchanged, if_pos (in_lo a1), y1]))
    · by_cases a2 : p0 ≤ (14 : Int32)
      · have a3 : ¬ (14 : Int32) < p0 := by
          rw [t_le] at a2
          rw [t_lt]
          omega
        by_cases b : f_X7_isWhole gc tc mr = 0
        · refine Or.inr (Or.inl (And.intro ?_ ?_))
          · rw [e_X6_exchanged, if_neg a1, if_pos a2, e_X6_requireWhole, hwh, if_pos b, sb_l rfl]
          · rw [e_X7_exchanged, if_neg (in_ok a1 a3), if_pos b, y2]
        · have q1 := a1
          have q2 := a2
          rw [t_lt, e7i] at q1
          rw [t_le, e14] at q2
          obtain ⟨R, hR, hmr⟩ : ∃ R : Nat, (R = 1 ∨ R = 2 ∨ R = 4) ∧ mr = nI R := by
            rcases hl.1.1 with q | q | q
            · exact ⟨1, Or.inl rfl, q⟩
            · exact ⟨2, Or.inr (Or.inl rfl), q⟩
            · exact ⟨4, Or.inr (Or.inr rfl), q⟩
          obtain ⟨r, r1, r2⟩ := ex_l hl hn (p0 := p0) ⟨by omega, q2⟩ hR hmr tc.toInt.toNat ((tc.toInt - (0 : Int32).toInt).toNat + 1) ((tc.toInt - (0 : Int32).toInt).toNat + 1) 0 (0 : Int32) (by omega) (by rw [e0i]; omega) (by rw [e0i]; omega)
          have hz : R * ((0 + R - 1) / R) = 0 := by
            rcases hR with h | h | h <;> subst h <;> omega
          rw [hz] at r2
          refine Or.inr (Or.inr ⟨r, ?_, ?_⟩)
          · rw [e_X6_exchanged, if_neg a1, if_pos a2, e_X6_requireWhole, hwh, if_neg b, sb_r rfl]
            exact r1
          · rw [e_X7_exchanged, if_neg (in_ok a1 a3), if_neg b, e_X7_exchanged_j28, go0]
            exact (if_neg (by decide)).trans r2
      · have a3 : (14 : Int32) < p0 := by
          rw [t_le] at a2
          rw [t_lt]
          omega
        exact Or.inl (And.intro (by rw [e_X6_exchanged, if_neg a1, if_neg a2, e_X6_exchanged_j12]) (by rw [e_X7_exchanged, if_pos (in_hi a1 a3), y1]))
  rcases cls with ⟨e6, e7⟩ | ⟨e6, e7⟩ | ⟨r, e6, e7⟩
  · rw [e6, e7]
    exact ⟨fun E e => Or.inl (Sum.inl.inj e).symm, kcd_0.symm, fun e => absurd e kc_ne, rb_up h0⟩
  · rw [e6, e7]
    exact ⟨fun E e => Or.inr (Sum.inl.inj e).symm, (kcd_1 (by decide)).symm, fun e => absurd e kc_ne, rb_up h0⟩
  · rw [e6, e7]
    exact ⟨fun E e => inr_ne e, rfl, fun _ => rfl, rb_up h0⟩
