/-! ===== find ===== -/
theorem th4 : f_X7_thrown (3 : Int32) = kcd ["java/lang/IllegalStateException", "java/lang/UnsupportedOperationException", nE] (Sum.inl nE : String ⊕ Int32) := by decide +kernel
theorem go3 : f_X7_goesOn (3 : Int32) = ((0 : Int32), (3 : Int32)) := if_neg (by decide)
theorem s_findB : St_findB (RelB Rst) := by
  intro k tc tv gc gs gb gf gl gh gn gv wn wv mt mc mn mr mb mf mlo mhi mx mg ml mw me mo sl sw so sm sbs sg sx mv uv yv kc kv rc rv hk h hq
  obtain ⟨hl, hc, ht, hn, hw, hr, hz, hgn, hwn, hs⟩ := h
  subst hc
  obtain ⟨r1, r2, r3⟩ := hr
  subst r1 r2
  obtain ⟨hsf, N, W, LO, R, C, eW, eL⟩ := ctx_of hl r3 hq
  obtain ⟨q1, q2, q3, q4, q5, q6, q7⟩ := hs
  have hgf : gf = mf := hl.2.2.1
  have hgb : gb = mb := hl.2.2.2.1
  obtain ⟨mv', kv', kc', k1, k2, k3, k4⟩ := ready_ok (kc := kc) (gb := gb) (gf := gf) C eW eL q1 q6
  obtain ⟨u', y', g1, g2⟩ := sw_ok (F := F10 mw) C hw k2 uv yv
  obtain ⟨V, l', u2, yy2, m1, m2, m3, m4⟩ := lc_ok (gs := gs) (gv := gv) (mb := gb) (mf := gf) (O := fun _ => false) C hw eW eL ml me mo
  rw [mk0] at m1
  obtain ⟨pv', b1, b2⟩ := kp_0 (ml := ml) (pv := zI)
  have hW := C.2.2.2.2.2.2.1
  have hN2 := C.2.2.2.2.1
  have hLO := C.2.2.2.2.2.2.2
  have hmo := C.2.2.2.1
  have PC := PD_c (F := F10 mw) (mf := gf) (mb := gb) C hw
  have PM := PD_m (mb := gb) (mf := gf) (mg := mg) (LO := LO) (O := fun _ => false) C.1 C.2.2.2.2.2.1 C.2.2.2.1 hN2 hw
  have hsV := (same_V (gb := gb) (gf := gf) C hw).1
  have hV := m2 _ (dg_0 hW.1)
  have hVc : (u' (tp 0 0 0)).toInt = VT W (pdc gc mr gb gf mg mw N LO (F10 mw)) N 0 (fun _ => 0) := by
    have h5 := (g2 0 (Nat.le_refl _) (by omega) (fun _ => 0) (dg_0 hW.1)).1
    rw [show d2 (fun _ => 0) 0 = 0 from rfl, show d1 (fun _ => 0) 0 = 0 from rfl, Nat.sub_zero] at h5
    exact h5
  have hVV : u' (tp 0 0 0) = V := ma_inj (by rw [hVc, hV, hsV])
  rw [hVV] at g1
  have e6 : f_X6_find tc tv gc gs gb gf gl gh gn gv wv sl sw so sm mv uv yv kc kv = f_X6_find_j8 tc tv wv uv yv (nI N) (nI W) (nI LO) gn mv' kc' kv' := by
    rw [e_X6_find, hq, k1]
    rfl
  have e7 : f_X7_find gc mn mr mb mf gl gh mg ml mw me mo = f_X7_find_j31 gc mn mr mb mf gl gh mg ml mw V l' u2 yy2 := by
    rw [← hgf, ← hgb, e_X7_find, if_pos hsf, b1, m1]
  obtain ⟨ag, ha, ea⟩ := hgn
  have hst : ∀ x1 x2 : Int32, Rst gn wn gc gs gb gf gl gh gv wv (some (nI N, nI W, nI LO, gn, sbs, sg, sx, mv', u', y', x1, kv', x2, rv)) := fun _ _ => ⟨k3, q2, by rw [ea]; exact old_r (by omega), q4, q5, fun _ => k4, q7⟩
  by_cases c : V < (1000000 : Int32)
  · have hz1 : VT W (pdc gc mr gb gf mg mw N LO (F10 mw)) N 0 (fun _ => 0) < ZZ := by
      rw [← hsV, ← hV]
      rw [t_lt, tZ] at c
      exact c
    have hz2 : VT W (pdm gc mr gb gf mg mw N LO (fun _ => false)) N 0 (fun _ => 0) < ZZ := by rw [hsV]; exact hz1
    have hrt : ∀ j, j < 53 → rg (tv j) := fun j hj => by
      have h := hl.2.2.2.2.2 j hj
      rw [rg, h.1]
      exact h.2
    obtain ⟨t', g, w1, w2, w3, w4⟩ := wb_ok (F := F10 mw) C hw k2 g2 hrt
    obtain ⟨w5, w6, w7⟩ := w4 hz1
    obtain ⟨lf, g', f1, f2, f3, f4⟩ := fm_two (v1 := V) (v5 := (0 : Int32)) (mb := gb) (mf := gf) (l0 := ml) C hw eW eL m4 hV hz2 (W * W) 0 (((nI W * nI W).toInt - (0 : Int32).toInt).toNat + 1) l' (Nat.zero_add _) (by
      have hWW : W * W ≤ 100 := Nat.mul_le_mul hW.2 hW.2
      rw [← nI_times, t_n (by omega), t_0]
      omega) (fun j hj => m3 j hj) (fun s hs => absurd hs (Nat.not_lt_zero _))
    have hG1 := GV_GR PC w6 (by rw [VT_c PC N 0 g (fun _ => 0) (Nat.zero_add _) (fun j hj => absurd hj (Nat.not_lt_zero j))]; exact hz1)
    have hG2 := GV_GR PM f2 (by rw [VT_c PM N 0 g' (fun _ => 0) (Nat.zero_add _) (fun j hj => absurd hj (Nat.not_lt_zero j))]; exact hz2)
    have etot : tot (pdm gc mr gb gf mg mw N LO (fun _ => false)) N = tot (pdc gc mr gb gf mg mw N LO (F10 mw)) N := funext (fun x => tot_eq hw hN2 (fun _ => rfl) (fun k _ => rfl) x)
    rw [etot] at hG2
    have hgg := GR_u (tot_c PC) hG1 hG2 N (Nat.le_refl _)
    have e6' : f_X6_find_j8 tc tv wv uv yv (nI N) (nI W) (nI LO) gn mv' kc' kv' = (Sum.inr V, t', nI N, nI N, nI W, nI LO, gn, mv', kv', kc', u', y') := by
      rw [e_X6_find_j8, w10 hw, g1]
      refine (if_pos c).trans ?_
      rw [w1]
    have e7' : f_X7_find_j31 gc mn mr mb mf gl gh mg ml mw V l' u2 yy2 = (V, (0 : Int32), lf, nI N, u2, yy2) := by
      rw [← hgf, ← hgb, e_X7_find_j31, if_pos hsf, if_pos c, e_X7_find_j54, go0, eW]
      refine (if_neg (by decide)).trans ?_
      rw [go0] at f1
      exact f1
    rw [e6, e7, e6', e7']
    refine ⟨fun E e => inr_ne e, rfl, fun _ => rfl, ⟨hl.1, hl.2.1, hl.2.2.1, hl.2.2.2.1, hl.2.2.2.2.1, fun j hj => ?_⟩, rfl, rfl, ⟨by rw [t_n (by omega)]; omega, by rw [hmo]; exact Int.le_refl _⟩, hw, ⟨rfl, rfl, r3⟩, hz, e_up ⟨ag, ha, ea⟩, e_up hwn, hst kc' rc⟩
    show t' j = lf j ∧ 0 ≤ (lf j).toInt ∧ (lf j).toInt ≤ 27
    by_cases e : j < N
    · rw [w7 j e, f3 j e, hgg j e]
      have h6 := (hG2 j e).1
      exact ⟨rfl, rg_n (by omega)⟩
    · rw [w2 j (by omega), f4 j (by omega)]
      exact hl.2.2.2.2.2 j hj
  · have e6' : f_X6_find_j8 tc tv wv uv yv (nI N) (nI W) (nI LO) gn mv' kc' kv' = (Sum.inl nE, tv, tc, nI N, nI W, nI LO, gn, mv', kv', kc', u', y') := by
      rw [e_X6_find_j8, w10 hw, g1]
      exact if_neg c
    obtain ⟨ml', b3, b4⟩ := kp_1 (ml := l') (pv := pv')
    have e7' : f_X7_find_j31 gc mn mr mb mf gl gh mg ml mw V l' u2 yy2 = ((0 : Int32), (3 : Int32), ml', mn, u2, yy2) := by
      rw [e_X7_find_j31, if_pos hsf, if_neg c, e_X7_find_j54, go3, b1, b3]
      exact if_pos rfl
    rw [e6, e7, e6', e7']
    exact ⟨fun E e => Or.inr (Or.inr (Sum.inl.inj e).symm), th4, fun e => absurd e kc_ne, lnr_ml hl (fun j hj => (b4 j hj).trans (b2 j hj)), rfl, ht, hn, hw, ⟨rfl, rfl, r3⟩, hz, e_up ⟨ag, ha, ea⟩, e_up hwn, hst kc' rc⟩
theorem s_findA : St_findA (RelB Rst) := by
  intro k tc tv gc gs gb gf gl gh gn gv wn wv mt mc mn mr mb mf mlo mhi mx mg ml mw me mo hk h hq
  obtain ⟨hl, hc, ht, hn, hw, hr, hz, ⟨ag, ha, ea⟩, ⟨aw, hb, eb⟩, -⟩ := h
  exact s_findB k tc tv gc gs gb gf gl gh gn gv wn wv mt mc mn mr mb mf mlo mhi mx mg ml mw me mo _ _ _ _ _ _ _ _ _ _ _ _ (0 : Int32) zI hk ⟨hl, hc, ht, hn, hw, hr, hz, ⟨ag, ha, ea⟩, ⟨aw, hb, eb⟩, rs_fr ⟨ag, by omega, ea⟩ ⟨aw, by omega, eb⟩⟩ hq
