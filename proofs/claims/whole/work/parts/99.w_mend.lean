/-! mend -/
theorem mend_out {gs gf gb mc mr mf mb : Int32} {gv mg ml mw wv : Nat → Int32} {N : Nat} (hw : wtr wv mw) (hN : N ≤ (f_X7_most mc mr).toInt.toNat) (hwh : ¬ f_X7_isWhole mc (nI N) mr = 0) : ∀ (n fu fu' i : Nat) (vn vt G M wt : Int32) (u : Nat → Int32), i ≤ N → N - i = n → n < fu → n < fu' → lnr gs gf gb gv u mc mr mf mb mg ml → M.toInt = (f_X7_costNow mc (nI N) mr mb mf mg ml mw).toInt - G.toInt → mV N vn vt wt → ∃ (vn2 vt2 wt2 : Int32) (u2 : Nat → Int32), f_X6_mend_l13 (nI N) mc gs gb gf gv wv fu vn vt G (nI i) u = f_X6_mend_j128 vn2 vt2 u2 ∧ f_X7_mend_l15 mc (nI N) mr mb mf mg mw fu' M vn wt (nI i) ml = f_X7_mend_j102 mc (nI N) mr vn2 wt2 ml ∧ lnr gs gf gb gv u2 mc mr mf mb mg ml ∧ mV N vn2 vt2 wt2 := by
  intro n
  induction n with
  | zero =>
    intro fu fu' i vn vt G M wt u h1 h2 h3 h4 h5 h6 h7
    obtain ⟨f, rfl⟩ : ∃ f, fu = f + 1 := ⟨fu - 1, by omega⟩
    obtain ⟨f', rfl⟩ : ∃ f, fu' = f + 1 := ⟨fu' - 1, by omega⟩
    have h53 := most_53 h5.1
    have hb : nI N ≤ nI i := by
      rw [t_le, t_n (by omega), t_n (by omega)]
      omega
    refine ⟨vn, vt, wt, u, ?_, ?_, h5, h7⟩
    · rw [e_X6_mend_l13, if_pos (show f_X3_length (nI N) ≤ nI i from hb)]
    · rw [e_X7_mend_l15, if_pos hb]
  | succ n ih =>
    intro fu fu' i vn vt G M wt u h1 h2 h3 h4 h5 h6 h7
    obtain ⟨f, rfl⟩ : ∃ f, fu = f + 1 := ⟨fu - 1, by omega⟩
    obtain ⟨f', rfl⟩ : ∃ f, fu' = f + 1 := ⟨fu' - 1, by omega⟩
    have h53 := most_53 h5.1
    have hb : ¬ nI N ≤ nI i := by
      rw [t_le, t_n (by omega), t_n (by omega)]
      omega
    have hic : (nI i).toNatClampNeg = i := nI_clamp (by omega)
    have hit : (nI i).toInt = (i : Int) := t_n (by omega)
    have hni : nI i + (1 : Int32) = nI (i + 1) := (nI_plus i 1).symm
    obtain ⟨vn2, vt2, G2, M2, wt2, u2, u2', r1, r2, r3, r4, r5, r6⟩ := mend_in h5 hw hN (p := i) (by omega) (f_X6_mend_j111 (nI i) u (f_X6_mend_l13 (nI N) mc gs gb gf gv wv f)) (f_X7_mend_j87 (nI i) ml (f_X7_mend_l15 mc (nI N) mr mb mf mg mw f')) 28 29 29 0 vn vt G M wt u ml (by omega) rfl (by omega) (by omega) h5 (fun c _ => rfl) h6 h7
    have hui := (h5.2.2.2.2.2 i (by omega))
    have hback : upd u2' i (ml i) = ml := by
      funext c
      by_cases e : c = i
      · rw [e]
        exact if_pos rfl
      · exact (if_neg e).trans (r4 c e).symm
    have hl3 : lnr gs gf gb gv (upd u2 i (ml i)) mc mr mf mb mg (upd u2' i (ml i)) := by
      obtain ⟨q1, q2, q3, q4, q5, q6⟩ := r3
      exact ⟨q1, q2, q3, q4, q5, upd_r q6 hui.2⟩
    rw [hback] at hl3
    rw [e_X6_mend_l13, if_neg (show ¬ f_X3_length (nI N) ≤ nI i from hb), e_X7_mend_l15, if_neg hb, if_neg hwh]
    obtain ⟨vn3, vt3, wt3, u3, s1, s2, s3, s4⟩ := ih f f' (i + 1) vn2 vt2 G2 M2 wt2 (upd u2 i (ml i)) (by omega) (by omega) (by omega) (by omega) hl3 r5 r6
    refine ⟨vn3, vt3, wt3, u3, ?_, ?_, s3, s4⟩
    · rw [show (0 : Int32) = nI 0 from rfl, r1, e_X6_mend_j111, hni, tone_v (by omega) (by omega), put_v (by omega) (by omega), hic, hui.1]
      exact s1
    · rw [show (0 : Int32) = nI 0 from rfl, r2, e_X7_mend_j87, hni, hic, hback]
      exact s2
theorem s_mend {Rs : RsT} : St_mend (RelB Rs) := by
  intro k tc tv gc gs gb gf gl gh gn gv wn wv mt mc mn mr mb mf mlo mhi mx mg ml mw me mo w hk h
  have h0 := h
  obtain ⟨hl, hc, ht, hn, hw, hr, hz, hgn, hwn, hs⟩ := h
  subst hc ht
  have h53 := Int.le_trans hn.2 (most_53 hl.1)
  have hn1 := hn.1
  have hn2 := hn.2
  have eN := nI_back hn1
  have hwh := whole_eq (tc := tc) hl.1 hl.2.1
  by_cases b : f_X7_isWhole gc tc mr = 0
  · have e6 : f_X6_mend tc tv gc gs gb gf gv wv = (Sum.inl "java/lang/IllegalStateException", tv) := by
      rw [e_X6_mend, e_X6_requireWhole, hwh, if_pos b, sb_l rfl]
    have e7 : f_X7_mend gc tc mr mb mf mg ml mw = ((0 : Int32), (1 : Int32), ml) := by
      have y : ∀ v v', f_X7_mend_j102 gc tc mr v v' ml = ((0 : Int32), (1 : Int32), ml) := fun v v' => by
        rw [e_X7_mend_j102, if_pos b, e_X7_mend_j124, go1]
        exact if_pos rfl
      rw [e_X7_mend, e_X7_mend_l15]
      by_cases d : tc ≤ (0 : Int32)
      · rw [if_pos d, y]
      · rw [if_neg d, if_pos b, y]
    rw [e6, e7]
    exact ⟨fun E e => Or.inl (Sum.inl.inj e).symm, kcd_0.symm, fun e => absurd e kc_ne, rb_up h0⟩
  · have hNm : tc.toInt.toNat ≤ (f_X7_most gc mr).toInt.toNat := by omega
    obtain ⟨vn, vt, wt, u2, r1, r2, r3, r4⟩ := mend_out (gs := gs) (gf := gf) (gb := gb) (mf := mf) (mb := mb) (gv := gv) (mg := mg) (ml := ml) (N := tc.toInt.toNat) hw hNm (by rw [eN]; exact b) tc.toInt.toNat ((tc.toInt - (0 : Int32).toInt).toNat + 1) ((tc.toInt - (0 : Int32).toInt).toNat + 1) 0 (-1 : Int32) (0 : Int32) (0 : Int32) (f_X7_costNow gc tc mr mb mf mg ml mw) (-1 : Int32) tv (by omega) rfl (by rw [e0i]; omega) (by rw [e0i]; omega) hl (by rw [eN, e0i]; omega) (Or.inl rfl)
    rw [eN] at r1 r2
    have e6 : f_X6_mend tc tv gc gs gb gf gv wv = f_X6_mend_j128 vn vt u2 := by
      rw [e_X6_mend, e_X6_requireWhole, hwh, if_neg b, sb_r rfl]
      exact r1
    have e7 : f_X7_mend gc tc mr mb mf mg ml mw = f_X7_mend_j102 gc tc mr vn wt ml := r2
    rw [e6, e7, e_X6_mend_j128, e_X7_mend_j102, if_neg b]
    rcases r4 with e | ⟨q, t, hq, ht, e1, e2, e3⟩
    · rw [if_neg (by rw [e]; decide), if_pos e, e_X7_mend_j124, go2, if_pos rfl]
      exact ⟨fun E e => Or.inr (Sum.inl.inj e).symm, (kcd_1 (by decide)).symm, fun e => absurd e kc_ne, r3, rfl, rfl, hn, hw, hr, hz, e_up hgn, e_up hwn, hs⟩
    · have g0 : (0 : Int32) ≤ vn := by
        rw [e1, t_le, e0i, t_n (by omega)]
        omega
      have g1 : ¬ vn = (-1 : Int32) := by
        rw [e1]
        exact nm1 (by omega)
      have hqt : (nI q).toInt = (q : Int) := t_n (by omega)
      have htt : (nI t).toInt = (t : Int) := t_n (by omega)
      have hl3 : lnr gs gf gb gv (upd u2 q (nI t)) gc mr mf mb mg (upd ml q (nI t)) := by
        obtain ⟨q1, q2, q3, q4, q5, q6⟩ := r3
        exact ⟨q1, q2, q3, q4, q5, upd_r q6 ⟨by omega, by omega⟩⟩
      rw [if_pos g0, if_neg g1, e_X7_mend_j124, go0, if_neg (by decide), e1, e2, e3, put_v (by omega) (by omega), nI_clamp (by omega)]
      exact ⟨fun E e => inr_ne e, rfl, fun _ => rfl, hl3, rfl, rfl, hn, hw, hr, hz, e_up hgn, e_up hwn, hs⟩
