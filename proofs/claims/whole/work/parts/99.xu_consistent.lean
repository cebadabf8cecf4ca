/-! ===== isConsistent ===== -/
theorem try_ctx {gc gs gl gh : Int32} (h : ¬ f_X6_canTryAll gc gs gl gh = 0) : f_X6_requireSearchable gc gs = Sum.inr () ∧ f_X1_perGiven gs = (1 : Int32) ∧ gc.toInt ≤ 4 ∧ ((gh - gl) + (1 : Int32)).toInt ≤ 8 := by
  have e4 : (4 : Int32).toInt = 4 := rfl
  have e8 : (8 : Int32).toInt = 8 := rfl
  rw [e_X6_canTryAll] at h
  by_cases c1 : f_X1_perGiven gs = (1 : Int32)
  · rw [if_pos c1] at h
    by_cases c2 : f_X1_size gc < (2 : Int32)
    · rw [if_pos c2] at h
      exact absurd rfl h
    · rw [if_neg c2] at h
      by_cases c3 : (4 : Int32) < f_X1_size gc
      · rw [if_pos c3] at h
        exact absurd rfl h
      · rw [if_neg c3] at h
        by_cases c4 : (8 : Int32) < f_X1_width gl gh
        · rw [if_pos c4] at h
          exact absurd rfl h
        · have d2 : ¬ gc < (2 : Int32) := c2
          have d3 : ¬ (4 : Int32) < gc := c3
          have d4 : ¬ (8 : Int32) < (gh - gl) + (1 : Int32) := c4
          rw [t_lt, t_2] at d2
          rw [t_lt, e4] at d3
          rw [t_lt, e8] at d4
          refine ⟨?_, c1, by omega, by omega⟩
          rw [e_X6_requireSearchable, if_pos (show (2 : Int32) ≤ f_X1_size gc by
            show (2 : Int32) ≤ gc
            rw [t_le, t_2]
            omega), if_neg (by rw [c1]; decide)]
  · rw [if_neg c1] at h
    exact absurd rfl h
section
variable {uv kv rv : Nat → Int32} {yv : Nat → Int64} {gs mc mr mf mb : Int32} {gv mg mv wv mw : Nat → Int32} {N W LO R : Nat} {F : Nat → Bool}
theorem aw_ok (C : cx gs gv mc mr mg N W LO R) (hw : wtr wv mw) (hTB : TB mc mr mb mf mg N W LO mv) (hN4 : N ≤ 4) (hW8 : W ≤ 8) (hk : ∀ j, j < 53 → rg (kv j)) (hr : ∀ j, j < 53 → rg (rv j)) : ∃ u' y' k2 r2, f_X4_agreesWithTryingAll (nI N) (nI W) (nI LO) mv uv yv wv kv rv mc gs mb mf gv = ((1 : Int32), u', y', k2, nI N, r2, nI N) ∧ (∀ j, j < 53 → rg (k2 j)) ∧ (∀ j, j < 53 → rg (r2 j)) := by
  obtain ⟨u', y', g1, g2⟩ := sw_ok (F := F10 mw) C hw hTB uv yv
  obtain ⟨k2, g, w1, w2, w3, w4⟩ := wb_ok (F := F10 mw) C hw hTB g2 hk
  have PC := PD_c (F := F10 mw) (mf := mf) (mb := mb) C hw
  have hW := C.2.2.2.2.2.2.1
  have hN2 := C.2.2.2.2.1
  have hLO := C.2.2.2.2.2.2.2
  have hZ := ZZ_e
  obtain ⟨r0, s1, s2⟩ := st_ok (N := N) (W := W) (LO := LO) (rv := rv) hN2.2 (by omega) hr
  have hTOT : W ^ N < 10000 := by
    have h1 : W ^ N ≤ 8 ^ N := Nat.pow_le_pow_left hW8 N
    have h2 : 8 ^ N ≤ 8 ^ 4 := Nat.pow_le_pow_right (by omega) hN4
    have h3 : 8 ^ 4 = 4096 := by decide
    omega
  have hVc := (g2 0 (Nat.le_refl _) (by omega) (fun _ => 0) (dg_0 hW.1))
  rw [show d2 (fun _ => 0) 0 = 0 from rfl, show d1 (fun _ => 0) 0 = 0 from rfl, Nat.sub_zero] at hVc
  have eF := w10 (wv := wv) (mw := mw) hw
  have eK : (f_X4_writeBest (nI N) (nI W) (nI LO) mv ((f_X4_sweep (nI N) (nI W) mv uv yv wv (f_X2_weighing wv (10 : Int32))).2.1) wv kv (f_X2_weighing wv (10 : Int32))).1 = k2 := by rw [eF, g1, w1]
  have hcnt : f_X4_goodCount y' = CT W (tot (pdc mc mr mb mf mg mw N LO (F10 mw)) N) N 0 (fun _ => 0) := by
    rw [e_X4_goodCount, show (0 : Int32) = nI 0 from rfl, wy_n (by omega) (by omega) (by omega), hVc.2, WT_CT PC hN2.2]
  have hVM : (u' (tp 0 0 0)).toInt = MT W (tot (pdc mc mr mb mf mg mw N LO (F10 mw)) N) N 0 (fun _ => 0) := by rw [hVc.1, VT_MT PC]
  have hT : ∀ x, tot (pdc mc mr mb mf mg mw N LO (F10 mw)) N x ≤ ZZ := fun x => by rw [tot]; omega
  have hrun : ∀ v1 : Int32, (u' (tp 0 0 0) < (1000000 : Int32) ∨ v1 = 1) → f_X4_agreesWithTryingAll_j42 (nI N) (nI W) (nI LO) mv uv yv wv kv rv mc gs mb mf gv v1 = ((1 : Int32), u', y', k2, nI N, r0, nI N) := by
    intro v1 hv1
    obtain ⟨fu', v2', v3', v4', a1, a2, a3⟩ := lp_n (mb := mb) (mf := mf) C hw hN4 s1 eK eF hTOT N 0 (fun _ => 0) r0 0 (((nI (W ^ N)).toInt - (0 : Int32).toInt).toNat + 1) (0 : Int64) (1000000 : Int32) v1 (Nat.zero_add _) s2 (dg_0 hW.1) (fun _ _ _ => rfl) (by omega) (by rw [t_n (by omega), t_0]; omega)
    rw [nx_0, Nat.zero_add, show nI 0 = (0 : Int32) from rfl] at a3
    have hb1 := TF_1 (W := W) (T := tot (pdc mc mr mb mf mg mw N LO (F10 mw)) N) (sk := skf N LO k2) N 0 (fun _ => 0) ((0 : Int64), (1000000 : Int32).toInt, v1)
    rw [← a2] at hb1
    have hb2 : v2' = f_X4_goodCount y' := by
      rw [hcnt]
      exact hb1.trans (Int64.zero_add _)
    have hb3 : v3' = u' (tp 0 0 0) ∧ v4' = 1 := by
      by_cases c : u' (tp 0 0 0) < (1000000 : Int32)
      · have hz1 : VT W (pdc mc mr mb mf mg mw N LO (F10 mw)) N 0 (fun _ => 0) < ZZ := by
          rw [← hVc.1]
          rw [t_lt, tZ] at c
          exact c
        obtain ⟨w5, w6, w7⟩ := w4 hz1
        have hG := GV_GR PC w6 (by rw [VT_c PC N 0 g (fun _ => 0) (Nat.zero_add _) (fun j hj => absurd hj (Nat.not_lt_zero j))]; exact hz1)
        have h4 := TF_4 (sk := skf N LO k2) hT (tot_c PC) hG (fun x hx => by
          show f_X4_isSketched (nI N) k2 (lx LO x) = 1
          rw [is_c (u' := k2) hN2.2 (fun j hj => by rw [lx, hx j hj, w7 j hj])]
          exact is_1 hN2.2) N 0 (fun _ => 0) ((0 : Int64), (1000000 : Int32).toInt, v1) (Nat.zero_add _) (fun j hj => absurd hj (Nat.not_lt_zero j)) (Int.le_refl _) (by
          rw [← hVM]
          rw [t_lt] at c
          exact c)
        rw [← a2, ← hVM] at h4
        exact ⟨ma_inj (congrArg Prod.fst h4), congrArg Prod.snd h4⟩
      · have hv2 := hv1.resolve_left c
        have hge : ZZ ≤ MT W (tot (pdc mc mr mb mf mg mw N LO (F10 mw)) N) N 0 (fun _ => 0) := by
          rw [← hVM]
          rw [t_lt, tZ] at c
          exact Int.not_lt.mp c
        have h3 := TF_3 (sk := skf N LO k2) hT N 0 (fun _ => 0) ((0 : Int64), (1000000 : Int32).toInt, v1) hge
        rw [← a2] at h3
        have h5 := MT_z (W := W) N 0 (fun _ => 0) hT
        have h6 : v3'.toInt = ZZ := congrArg Prod.fst h3
        have h7 : v4' = v1 := congrArg Prod.snd h3
        exact ⟨ma_inj (by rw [h6, hVM]; omega), h7.trans hv2⟩
    rw [e_X4_agreesWithTryingAll_j42, s1, a3]
    obtain ⟨fu', rfl⟩ : ∃ f, fu' = f + 1 := ⟨fu' - 1, by omega⟩
    rw [e_X4_agreesWithTryingAll_l53, s1, if_pos (nI_le (Nat.le_refl _) (by omega)), e_X4_agreesWithTryingAll_j122, eF, g1, w1, s1, if_pos ((lg_cmp_eq _ _).mpr hb2), if_pos hb3.1, hb3.2]
    exact if_neg (by decide)
  refine ⟨u', y', k2, r0, ?_, w3, s2.2⟩
  rw [e_X4_agreesWithTryingAll, eF, g1]
  by_cases c : u' (tp 0 0 0) < (1000000 : Int32)
  · exact (if_pos c).trans (hrun 0 (Or.inl c))
  · exact (if_neg c).trans (hrun 1 (Or.inr rfl))
end
theorem s_isConsistentB : St_isConsistentB (RelB Rst) := by
  intro k tc tv gc gs gb gf gl gh gn gv wn wv mt mc mn mr mb mf mlo mhi mx mg ml mw me mo sl sw so sm sbs sg sx mv uv yv kc kv rc rv hk h
  have h0 := h
  obtain ⟨hl, hc, ht, hn, hw, hr, hz, hgn, hwn, hs⟩ := h
  subst hc ht
  have hn1 := hn.1
  have hn2 := hn.2
  have hS := sumof_1 hl hw (N := tc.toInt.toNat) (by omega)
  rw [nI_back hn1] at hS
  by_cases ct : f_X6_canTryAll gc gs gl gh = 0
  · have e6 : f_X6_isConsistent tc tv gc gs gb gf gl gh gn gv wv sl sw so sm mv uv yv kc kv rc rv = ((1 : Int32), sl, sw, so, sm, mv, kv, kc, uv, yv, rv, rc) := by
      rw [e_X6_isConsistent, hS, if_neg (by decide), if_pos ct]
    rw [e6]
    exact ⟨rfl, rb_up h0⟩
  · obtain ⟨r1, r2, r3⟩ := hr
    subst r1 r2
    obtain ⟨hq, hper, hg4, hw8⟩ := try_ctx ct
    obtain ⟨hsf, N, W, LO, R, C, eW, eL⟩ := ctx_of hl r3 hq
    obtain ⟨q1, q2, q3, q4, q5, q6, q7⟩ := hs
    obtain ⟨mv', kv', kc', k1, k2, k3, k4⟩ := ready_ok (kc := kc) (gb := gb) (gf := gf) C eW eL q1 q6
    have hW := C.2.2.2.2.2.2.1
    have hN2 := C.2.2.2.2.1
    have hN4 : N ≤ 4 := by
      have hmr : mr = nI 1 := by
        rw [← ma_per C.2.1, hper]
        rfl
      obtain ⟨g, hg, eg⟩ := t_nI (i := gc) (n := 15) C.1.2.1 (by have := C.1.2.2; omega) (by omega)
      have hm := C.2.2.2.1
      rw [hmr, eg, most_nI 1 (by simp) g (by omega), nI_eq (by split <;> omega) (by omega)] at hm
      rw [eg, t_n (by omega)] at hg4
      split at hm <;> omega
    have hW8 : W ≤ 8 := by
      rw [eW, t_n (by omega)] at hw8
      omega
    obtain ⟨u', y', k5, r5, a1, a2, a3⟩ := aw_ok (uv := uv) (yv := yv) (mb := gb) (mf := gf) C hw k2 hN4 hW8 k3 q2
    have e6 : f_X6_isConsistent tc tv gc gs gb gf gl gh gn gv wv sl sw so sm mv uv yv kc kv rc rv = ((1 : Int32), nI N, nI W, nI LO, gn, mv', k5, nI N, u', y', r5, nI N) := by
      rw [e_X6_isConsistent, hS, if_neg (by decide), if_neg ct, k1]
      show f_X6_isConsistent_j18 gc gs gb gf gv wv uv yv rv (nI N) (nI W) (nI LO) gn mv' kc' kv' = _
      rw [e_X6_isConsistent_j18, a1]
      exact if_neg (show ¬ (1 : Int32) = 0 by decide)
    rw [e6]
    obtain ⟨ag, ha, ea⟩ := hgn
    refine ⟨rfl, hl, rfl, rfl, hn, hw, ⟨rfl, rfl, r3⟩, hz, e_up ⟨ag, ha, ea⟩, e_up hwn, a2, a3, ?_, q4, q5, fun _ => k4, q7⟩
    rw [ea]
    exact old_r (by omega)
theorem s_isConsistentA : St_isConsistentA (RelB Rst) := by
  intro k tc tv gc gs gb gf gl gh gn gv wn wv mt mc mn mr mb mf mlo mhi mx mg ml mw me mo hk h _ _
  obtain ⟨hl, hc, ht, hn, hw, hr, hz, ⟨ag, ha, ea⟩, ⟨aw, hb, eb⟩, -⟩ := h
  exact s_isConsistentB k tc tv gc gs gb gf gl gh gn gv wn wv mt mc mn mr mb mf mlo mhi mx mg ml mw me mo _ _ _ _ (0 : Int32) (-1 : Int32) (-1 : Int32) _ _ _ _ _ _ _ hk ⟨hl, hc, ht, hn, hw, hr, hz, ⟨ag, ha, ea⟩, ⟨aw, hb, eb⟩, rs_fr ⟨ag, by omega, ea⟩ ⟨aw, by omega, eb⟩⟩
