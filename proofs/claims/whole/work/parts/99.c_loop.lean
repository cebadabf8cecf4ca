/-! the law's loop -/
def StAll (Rel : RelT) : Prop := St_given Rel ∧ St_other Rel ∧ St_change Rel ∧ St_clear Rel ∧ St_ratio Rel ∧ St_lower Rel ∧ St_feign Rel ∧ St_notes Rel ∧ St_noteAt Rel ∧ St_pitch Rel ∧ St_interval Rel ∧ St_setLaw Rel ∧ St_weight Rel ∧ St_style Rel ∧ St_faults Rel ∧ St_faultAt Rel ∧ St_faultOf Rel ∧ St_cost Rel ∧ St_isGood Rel ∧ St_mend Rel ∧ St_range Rel ∧ St_findN Rel ∧ St_findA Rel ∧ St_findB Rel ∧ St_goodLinesN Rel ∧ St_goodLinesA Rel ∧ St_goodLinesB Rel ∧ St_barsN Rel ∧ St_barsA Rel ∧ St_barsB Rel ∧ St_barAtN Rel ∧ St_barAtA Rel ∧ St_barAtB Rel ∧ St_exchanged Rel ∧ St_canon Rel ∧ St_canons Rel ∧ St_canonAt Rel ∧ St_stepShare Rel ∧ St_meanPitch Rel ∧ St_isConsistentN Rel ∧ St_isConsistentA Rel ∧ St_isConsistentB Rel
theorem nI_bv (x : Int32) : x = nI x.toBitVec.toNat := by
  apply Int32.toBitVec_inj.mp
  show x.toBitVec = BitVec.ofNat 32 x.toBitVec.toNat
  rw [BitVec.ofNat_toNat, BitVec.setWidth_eq]
theorem and31 (x : Int32) : ∃ j : Nat, j < 32 ∧ x &&& (31 : Int32) = nI j := by
  refine ⟨x.toBitVec.toNat % 32, Nat.mod_lt _ (by decide), ?_⟩
  have h : x &&& (31 : Int32) = nI x.toBitVec.toNat &&& nI 31 := congrArg (fun z => z &&& (31 : Int32)) (nI_bv x)
  rw [h, nI_and]
  exact congrArg nI (Nat.and_two_pow_sub_one_eq_mod _ 5)
theorem lp3_in {k L j : Nat} (hL : L ≤ 1536) (hj : j < 3) (h : 3 * k + 3 ≤ L) : vp_in (nI (3 * k + j)) L := by
  rw [vp_in_iff, t_n (by omega)]
  exact ⟨by omega, by omega⟩
theorem lp3_c {k L : Nat} (hL : L ≤ 1536) (hk : 3 * k ≤ L) (h : ¬ Int32.ofNat L - (3 : Int32) < nI (3 * k)) : 3 * k + 3 ≤ L := by
  have e0 : (Int32.ofNat L).toInt = (L : Int) := t_n (j := L) (by omega)
  have e3 : (3 : Int32).toInt = 3 := rfl
  have e1 : (Int32.ofNat L - (3 : Int32)).toInt = (L : Int) - 3 := by
    rw [t_sub (by rw [e0, e3]; omega) (by rw [e0, e3]; omega), e0, e3]
  rw [t_lt, e1, t_n (by omega)] at h
  omega
section
variable {p : Program} {l : Launch} {e : Env} {s : State} {m : MethodId} {args : Array Value} {below : List Frame} {meth : Method} {c : Code} {Q : State → Prop} {H : Heap} {locs : List Loc} {dC : Nat → ClassId} {dI : Nat → Nat → Nat} {cI cJ cD : ClassId} {c0 : Cond} {A : Nat → Prop} {b L : Nat} {xs : Nat → Int32} {aY aQ6 aQV6 aQ2 aQV2 : Nat} {vF : Value}
set_option maxHeartbeats 4000000 in
set_option maxRecDepth 100000 in
theorem law_S {Rel : RelT} (st : StAll Rel) (RF : RelF Rel) {aC : Nat} {aG : Nat} {aL : Nat} {aW : Nat} {aT : Nat} {aV : Nat} {aX : Nat} {aM : Nat} {aMG : Nat} {aML : Nat} {aMW : Nat} {aME : Nat} {aMO : Nat} {aO : Nat} {aD : Nat} (hx : p.tables.exec = Jvm.exec) (hb : c.code = cL_law) (hml : c.maxLocals = 9) (hown : s.vm.findClass RL = some m.cls) (hts : ∀ w ∈ c0 :: WA, w.before args s = true) (hK3 : va_K (dC, dI) vwCl [(cI, .int), (cJ, .long), (cD, .double)] s) (hA : ∀ q, s.heap.size ≤ q → A q) (hnt : l.stackTraces = false) (hX : xfa s) (hXs : xst A s s.heap) (hN : xnc s) (hY : sty aY A s s.heap) (hJ6 : jpA aQ6 aQV6 vF A s s.heap) (hq : vk_R RX6 294 oTx aQ6 s) (hJ2 : jpA aQ2 aQV2 vF A s s.heap) (hq2 : vk_R RX2 22 oTx aQ2 s) (hXb : va_X b L xs s s.heap) (hbl : b < s.heap.size) (hbA : ¬ A b) (hL : L ≤ 1536) (kE : ∀ (ls : Array Slot) (H : Heap) (locs : List Loc), va_S A s.heap H locs → W p l e room_1 s m args below meth c H locs 603072 7198826 Q (F0 m 1736 ls [])) : ∀ (n k : Nat) (aS aK aR aSM aSU aSY aKT aRT : Nat) (tc : Int32) (tv : Nat → Int32) (gc : Int32) (gs : Int32) (gb : Int32) (gf : Int32) (gl : Int32) (gh : Int32) (gn : Int32) (gv : Nat → Int32) (wn : Int32) (wv : Nat → Int32) (sl : Int32) (sw : Int32) (so : Int32) (sm : Int32) (sbs : Int32) (sg : Int32) (sx : Int32) (mv : Nat → Int32) (uv : Nat → Int32) (yv : Nat → Int64) (kc : Int32) (kv : Nat → Int32) (rc : Int32) (rv : Nat → Int32) (mt : Int32) (mc : Int32) (mn : Int32) (mr : Int32) (mb : Int32) (mf : Int32) (mlo : Int32) (mhi : Int32) (mx : Int32) (mg : Nat → Int32) (ml : Nat → Int32) (mw : Nat → Int32) (me : Nat → Int32) (mo : Nat → Int64) (ov : Nat → Int64) (od : Nat → UInt64) (nc ns : Nat) (ls : Array Slot) (H : Heap) (locs : List Loc), k + n = 513 → 3 * k ≤ L → Rel k tc tv gc gs gb gf gl gh gn gv wn wv mt mc mn mr mb mf mlo mhi mx mg ml mw me mo (some (sl, sw, so, sm, sbs, sg, sx, mv, uv, yv, kc, kv, rc, rv)) → va_P (dC, dI) vwCl [(aC, .inr (6, [.ref aG, .ref aL, .ref aW, .ref aS])), (aL, .inr (4, [.ref aG, .ref aT, .int tc])), (aT, .inl (cI, 53, .inl tv)), (aG, .inr (2, [.ref aV, .int gc, .int gs, .int gb, .int gf, .int gl, .int gh, .int gn])), (aV, .inl (cI, 14, .inl gv)), (aW, .inr (3, [.ref aX, .int wn])), (aX, .inl (cI, 12, .inl wv)), (aS, .inr (5, [.ref aG, .ref aW, .ref aK, .ref aR, .ref aSM, .ref aSU, .ref aSY, .int sl, .int sw, .int so, .int sm, .int sbs, .int sg, .int sx])), (aSM, .inl (cI, 28000, .inl mv)), (aSU, .inl (cI, 2700, .inl uv)), (aSY, .inl (cJ, 2700, .inr (.inl yv))), (aK, .inr (4, [.ref aG, .ref aKT, .int kc])), (aKT, .inl (cI, 53, .inl kv)), (aR, .inr (4, [.ref aG, .ref aRT, .int rc])), (aRT, .inl (cI, 53, .inl rv)), (aM, .inr (7, [.int mt, .ref aMG, .int mc, .ref aML, .int mn, .int mr, .int mb, .int mf, .int mlo, .int mhi, .ref aMW, .ref aME, .ref aMO, .int mx])), (aMG, .inl (cI, 14, .inl mg)), (aML, .inl (cI, 53, .inl ml)), (aMW, .inl (cI, 12, .inl mw)), (aME, .inl (cI, 2700, .inl me)), (aMO, .inl (cJ, 2700, .inr (.inl mo))), (aO, .inl (cJ, 1, .inr (.inl ov))), (aD, .inl (cD, 1, .inr (.inr (.inr (.inl od)))))] H → va_D A [(aC, .inr (6, [.ref aG, .ref aL, .ref aW, .ref aS])), (aL, .inr (4, [.ref aG, .ref aT, .int tc])), (aT, .inl (cI, 53, .inl tv)), (aG, .inr (2, [.ref aV, .int gc, .int gs, .int gb, .int gf, .int gl, .int gh, .int gn])), (aV, .inl (cI, 14, .inl gv)), (aW, .inr (3, [.ref aX, .int wn])), (aX, .inl (cI, 12, .inl wv)), (aS, .inr (5, [.ref aG, .ref aW, .ref aK, .ref aR, .ref aSM, .ref aSU, .ref aSY, .int sl, .int sw, .int so, .int sm, .int sbs, .int sg, .int sx])), (aSM, .inl (cI, 28000, .inl mv)), (aSU, .inl (cI, 2700, .inl uv)), (aSY, .inl (cJ, 2700, .inr (.inl yv))), (aK, .inr (4, [.ref aG, .ref aKT, .int kc])), (aKT, .inl (cI, 53, .inl kv)), (aR, .inr (4, [.ref aG, .ref aRT, .int rc])), (aRT, .inl (cI, 53, .inl rv)), (aM, .inr (7, [.int mt, .ref aMG, .int mc, .ref aML, .int mn, .int mr, .int mb, .int mf, .int mlo, .int mhi, .ref aMW, .ref aME, .ref aMO, .int mx])), (aMG, .inl (cI, 14, .inl mg)), (aML, .inl (cI, 53, .inl ml)), (aMW, .inl (cI, 12, .inl mw)), (aME, .inl (cI, 2700, .inl me)), (aMO, .inl (cJ, 2700, .inr (.inl mo))), (aO, .inl (cJ, 1, .inr (.inl ov))), (aD, .inl (cD, 1, .inr (.inr (.inr (.inl od)))))] → va_S A s.heap H locs → lv_has ls 9 [(0, .ref b), (1, .ref aC), (2, .ref aM), (3, .ref aO), (4, .ref aD), (5, .int (nI (3 * k)))] → nc ≤ 12 * k + 100 → ns ≤ 200 * k + 50000 → W p l e room_1 s m args below meth c H locs nc ns Q (F0 m 28 ls []) := by
  intro n
  induction n with
  | zero =>
    intro k aS aK aR aSM aSU aSY aKT aRT tc tv gc gs gb gf gl gh gn gv wn wv sl sw so sm sbs sg sx mv uv yv kc kv rc rv mt mc mn mr mb mf mlo mhi mx mg ml mw me mo ov od nc ns ls H locs hn hk
    exact absurd hn (by omega)
  | succ n ih =>
    intro k aS aK aR aSM aSU aSY aKT aRT tc tv gc gs gb gf gl gh gn gv wn wv sl sw so sm sbs sg sx mv uv yv kc kv rc rv mt mc mn mr mb mf mlo mhi mx mg ml mw me mo ov od nc ns ls H locs hn hk hrel hP hD hS hl hnc hns
    have hk5 : k < 513 := by omega
    have hrc : nc + 22 ≤ 603072 := by omega
    have hrl : ns + 33740 ≤ 7198826 := by omega
    have hK := hK3.sub (tys' := [(cI, .int), (cJ, .long)]) [0, 1] rfl
    refine lv_iload hx hb dL_law_28 (lv_at hl 5 rfl) ?_
    refine lv_aload_n hx hb dL_law_30 rfl (lv_at hl 0 rfl) ?_
    refine va_slen hx hb hXb hbl hbA hS dL_law_31 ?_
    refine lv_iconst (v := (3 : Int32)) hx hb dL_law_32 (by decide) ?_
    refine lv_isub hx hb dL_law_33 ?_
    refine lv_icmp_gt (tgt := 1736) hx hb dL_law_34 (by decide) (fun c_1 => ?_) (fun c_1 => ?_)
    · exact W.widen (k := 603072) (n := 7198826) (by omega) (by omega) (kE _ _ _ hS)
    have hk3 := lp3_c hL hk c_1
    have hi0 : vp_in (nI (3 * k)) L := lp3_in (j := 0) hL (by decide) hk3
    have hi1 : vp_in (nI (3 * k) + (1 : Int32)) L := by
      have h := lp3_in (j := 1) hL (by decide) hk3
      rw [nI_plus] at h
      exact h
    have hi2 : vp_in (nI (3 * k) + (2 : Int32)) L := by
      have h := lp3_in (j := 2) hL (by decide) hk3
      rw [nI_plus] at h
      exact h
    refine lv_aload_n hx hb dL_law_37 rfl (lv_at hl 0 rfl) ?_
    refine lv_iload hx hb dL_law_38 (lv_at hl 5 rfl) ?_
    refine va_sld hx hb hXb hbl hbA hS hi0 dL_law_40 ?_
    refine lv_bipush (v := (31 : Int32)) hx hb dL_law_41 (by decide) ?_
    refine lv_iand hx hb dL_law_43 ?_
    have kS : ∀ (tc : Int32) (tv : Nat → Int32) (gc : Int32) (gs : Int32) (gb : Int32) (gf : Int32) (gl : Int32) (gh : Int32) (gn : Int32) (gv : Nat → Int32) (wn : Int32) (wv : Nat → Int32) (sl : Int32) (sw : Int32) (so : Int32) (sm : Int32) (sbs : Int32) (sg : Int32) (sx : Int32) (mv : Nat → Int32) (uv : Nat → Int32) (yv : Nat → Int64) (kc : Int32) (kv : Nat → Int32) (rc : Int32) (rv : Nat → Int32) (mt : Int32) (mc : Int32) (mn : Int32) (mr : Int32) (mb : Int32) (mf : Int32) (mlo : Int32) (mhi : Int32) (mx : Int32) (mg : Nat → Int32) (ml : Nat → Int32) (mw : Nat → Int32) (me : Nat → Int32) (mo : Nat → Int64) (ov : Nat → Int64) (od : Nat → UInt64) (ls : Array Slot) (H : Heap) (locs : List Loc), Rel (k + 1) tc tv gc gs gb gf gl gh gn gv wn wv mt mc mn mr mb mf mlo mhi mx mg ml mw me mo (some (sl, sw, so, sm, sbs, sg, sx, mv, uv, yv, kc, kv, rc, rv)) → va_P (dC, dI) vwCl [(aC, .inr (6, [.ref aG, .ref aL, .ref aW, .ref aS])), (aL, .inr (4, [.ref aG, .ref aT, .int tc])), (aT, .inl (cI, 53, .inl tv)), (aG, .inr (2, [.ref aV, .int gc, .int gs, .int gb, .int gf, .int gl, .int gh, .int gn])), (aV, .inl (cI, 14, .inl gv)), (aW, .inr (3, [.ref aX, .int wn])), (aX, .inl (cI, 12, .inl wv)), (aS, .inr (5, [.ref aG, .ref aW, .ref aK, .ref aR, .ref aSM, .ref aSU, .ref aSY, .int sl, .int sw, .int so, .int sm, .int sbs, .int sg, .int sx])), (aSM, .inl (cI, 28000, .inl mv)), (aSU, .inl (cI, 2700, .inl uv)), (aSY, .inl (cJ, 2700, .inr (.inl yv))), (aK, .inr (4, [.ref aG, .ref aKT, .int kc])), (aKT, .inl (cI, 53, .inl kv)), (aR, .inr (4, [.ref aG, .ref aRT, .int rc])), (aRT, .inl (cI, 53, .inl rv)), (aM, .inr (7, [.int mt, .ref aMG, .int mc, .ref aML, .int mn, .int mr, .int mb, .int mf, .int mlo, .int mhi, .ref aMW, .ref aME, .ref aMO, .int mx])), (aMG, .inl (cI, 14, .inl mg)), (aML, .inl (cI, 53, .inl ml)), (aMW, .inl (cI, 12, .inl mw)), (aME, .inl (cI, 2700, .inl me)), (aMO, .inl (cJ, 2700, .inr (.inl mo))), (aO, .inl (cJ, 1, .inr (.inl ov))), (aD, .inl (cD, 1, .inr (.inr (.inr (.inl od)))))] H → va_D A [(aC, .inr (6, [.ref aG, .ref aL, .ref aW, .ref aS])), (aL, .inr (4, [.ref aG, .ref aT, .int tc])), (aT, .inl (cI, 53, .inl tv)), (aG, .inr (2, [.ref aV, .int gc, .int gs, .int gb, .int gf, .int gl, .int gh, .int gn])), (aV, .inl (cI, 14, .inl gv)), (aW, .inr (3, [.ref aX, .int wn])), (aX, .inl (cI, 12, .inl wv)), (aS, .inr (5, [.ref aG, .ref aW, .ref aK, .ref aR, .ref aSM, .ref aSU, .ref aSY, .int sl, .int sw, .int so, .int sm, .int sbs, .int sg, .int sx])), (aSM, .inl (cI, 28000, .inl mv)), (aSU, .inl (cI, 2700, .inl uv)), (aSY, .inl (cJ, 2700, .inr (.inl yv))), (aK, .inr (4, [.ref aG, .ref aKT, .int kc])), (aKT, .inl (cI, 53, .inl kv)), (aR, .inr (4, [.ref aG, .ref aRT, .int rc])), (aRT, .inl (cI, 53, .inl rv)), (aM, .inr (7, [.int mt, .ref aMG, .int mc, .ref aML, .int mn, .int mr, .int mb, .int mf, .int mlo, .int mhi, .ref aMW, .ref aME, .ref aMO, .int mx])), (aMG, .inl (cI, 14, .inl mg)), (aML, .inl (cI, 53, .inl ml)), (aMW, .inl (cI, 12, .inl mw)), (aME, .inl (cI, 2700, .inl me)), (aMO, .inl (cJ, 2700, .inr (.inl mo))), (aO, .inl (cJ, 1, .inr (.inl ov))), (aD, .inl (cD, 1, .inr (.inr (.inr (.inl od)))))] → va_S A s.heap H locs → lv_has ls 9 [(0, .ref b), (1, .ref aC), (2, .ref aM), (3, .ref aO), (4, .ref aD), (5, .int (nI (3 * k)))] → W p l e room_1 s m args below meth c H locs (nc + 12) (ns + 200) Q (F0 m 1730 ls []) := by
      intro tc tv gc gs gb gf gl gh gn gv wn wv sl sw so sm sbs sg sx mv uv yv kc kv rc rv mt mc mn mr mb mf mlo mhi mx mg ml mw me mo ov od ls H locs hrel hP hD hS hl
      refine lv_iinc (v := nI (3 * (k + 1))) (lv' := [(5, .int (nI (3 * (k + 1)))), (0, .ref b), (1, .ref aC), (2, .ref aM), (3, .ref aO), (4, .ref aD)]) hx hb dL_law_1730 hl (k := 5) rfl (by rw [Nat.mul_add, nI_plus]; rfl) (by decide) rfl (fun ls hl => ?_)
      refine lv_goto (tgt := 28) hx hb dL_law_1733 (by decide) ?_
      exact ih (k + 1) aS aK aR aSM aSU aSY aKT aRT tc tv gc gs gb gf gl gh gn gv wn wv sl sw so sm sbs sg sx mv uv yv kc kv rc rv mt mc mn mr mb mf mlo mhi mx mg ml mw me mo ov od _ _ ls H locs (by omega) (by omega) hrel hP hD hS (lv_sub hl [1, 2, 3, 4, 5, 0] rfl) (by omega) (by omega)
    obtain ⟨j, hj, ej⟩ := and31 (xs (nI (3 * k)).toNatClampNeg)
    rw [ej]
    rcases (show j = 0 ∨ j = 1 ∨ j = 2 ∨ j = 3 ∨ j = 4 ∨ j = 5 ∨ j = 6 ∨ j = 7 ∨ j = 8 ∨ j = 9 ∨ j = 10 ∨ j = 11 ∨ j = 12 ∨ j = 13 ∨ j = 14 ∨ j = 15 ∨ j = 16 ∨ j = 17 ∨ j = 18 ∨ j = 19 ∨ j = 20 ∨ j = 21 ∨ j = 22 ∨ j = 23 ∨ j = 24 ∨ j = 25 ∨ j = 26 ∨ j = 27 ∨ j = 28 ∨ j = 29 ∨ j = 30 ∨ j = 31 by omega) with rfl | rfl | rfl | rfl | rfl | rfl | rfl | rfl | rfl | rfl | rfl | rfl | rfl | rfl | rfl | rfl | rfl | rfl | rfl | rfl | rfl | rfl | rfl | rfl | rfl | rfl | rfl | rfl | rfl | rfl | rfl | rfl
    · refine lv_tableIn (x := nI 0) (tgt := 188) hx hb dL_law_44 (by decide) (by decide) rfl (by decide) ?_
      exact lc_givenS st.1 RF hx hb hml hown hts hK3 hK hA hnt hX hXs hN hY hJ6 hq hJ2 hq2 hXb hbl hbA hi0 hi1 hi2 hk5 hrel hP hD hS hrc hrl kS ls hl
    · refine lv_tableIn (x := nI 1) (tgt := 244) hx hb dL_law_44 (by decide) (by decide) rfl (by decide) ?_
      exact lc_otherS st.2.1 RF hx hb hml hown hts hK3 hK hA hnt hX hXs hN hY hJ6 hq hJ2 hq2 hXb hbl hbA hi0 hi1 hi2 hk5 hrel hP hD hS hrc hrl kS ls hl
    · refine lv_tableIn (x := nI 2) (tgt := 300) hx hb dL_law_44 (by decide) (by decide) rfl (by decide) ?_
      exact lc_changeS st.2.2.1 RF hx hb hml hown hts hK3 hK hA hnt hX hXs hN hY hJ6 hq hJ2 hq2 hXb hbl hbA hi0 hi1 hi2 hk5 hrel hP hD hS hrc hrl kS ls hl
    · refine lv_tableIn (x := nI 3) (tgt := 368) hx hb dL_law_44 (by decide) (by decide) rfl (by decide) ?_
      exact lc_clearS st.2.2.2.1 RF hx hb hml hown hts hK3 hK hA hnt hX hXs hN hY hJ6 hq hJ2 hq2 hXb hbl hbA hi0 hi1 hi2 hk5 hrel hP hD hS hrc hrl kS ls hl
    · refine lv_tableIn (x := nI 4) (tgt := 409) hx hb dL_law_44 (by decide) (by decide) rfl (by decide) ?_
      exact lc_ratioS st.2.2.2.2.1 RF hx hb hml hown hts hK3 hK hA hnt hX hXs hN hY hJ6 hq hJ2 hq2 hXb hbl hbA hi0 hi1 hi2 hk5 hrel hP hD hS hrc hrl kS ls hl
    · refine lv_tableIn (x := nI 5) (tgt := 465) hx hb dL_law_44 (by decide) (by decide) rfl (by decide) ?_
      exact lc_lowerS st.2.2.2.2.2.1 RF hx hb hml hown hts hK3 hK hA hnt hX hXs hN hY hJ6 hq hJ2 hq2 hXb hbl hbA hi0 hi1 hi2 hk5 hrel hP hD hS hrc hrl kS ls hl
    · refine lv_tableIn (x := nI 6) (tgt := 506) hx hb dL_law_44 (by decide) (by decide) rfl (by decide) ?_
      exact lc_feignS st.2.2.2.2.2.2.1 RF hx hb hml hown hts hK3 hK hA hnt hX hXs hN hY hJ6 hq hJ2 hq2 hXb hbl hbA hi0 hi1 hi2 hk5 hrel hP hD hS hrc hrl kS ls hl
    · refine lv_tableIn (x := nI 7) (tgt := 547) hx hb dL_law_44 (by decide) (by decide) rfl (by decide) ?_
      exact lc_notesS st.2.2.2.2.2.2.2.1 RF hx hb hml hown hts hK3 hK hA hnt hX hXs hN hY hJ6 hq hJ2 hq2 hXb hbl hbA hi0 hi1 hi2 hk5 hrel hP hD hS hrc hrl kS ls hl
    · refine lv_tableIn (x := nI 8) (tgt := 560) hx hb dL_law_44 (by decide) (by decide) rfl (by decide) ?_
      exact lc_noteAtS st.2.2.2.2.2.2.2.2.1 RF hx hb hml hown hts hK3 hK hA hnt hX hXs hN hY hJ6 hq hJ2 hq2 hXb hbl hbA hi0 hi1 hi2 hk5 hrel hP hD hS hrc hrl kS ls hl
    · refine lv_tableIn (x := nI 9) (tgt := 616) hx hb dL_law_44 (by decide) (by decide) rfl (by decide) ?_
      exact lc_pitchS st.2.2.2.2.2.2.2.2.2.1 RF hx hb hml hown hts hK3 hK hA hnt hX hXs hN hY hJ6 hq hJ2 hq2 hXb hbl hbA hi0 hi1 hi2 hk5 hrel hP hD hS hrc hrl kS ls hl
    · refine lv_tableIn (x := nI 10) (tgt := 672) hx hb dL_law_44 (by decide) (by decide) rfl (by decide) ?_
      exact lc_intervalS st.2.2.2.2.2.2.2.2.2.2.1 RF hx hb hml hown hts hK3 hK hA hnt hX hXs hN hY hJ6 hq hJ2 hq2 hXb hbl hbA hi0 hi1 hi2 hk5 hrel hP hD hS hrc hrl kS ls hl
    · refine lv_tableIn (x := nI 11) (tgt := 728) hx hb dL_law_44 (by decide) (by decide) rfl (by decide) ?_
      exact lc_setLawS st.2.2.2.2.2.2.2.2.2.2.2.1 RF hx hb hml hown hts hK3 hK hA hnt hX hXs hN hY hJ6 hq hJ2 hq2 hXb hbl hbA hi0 hi1 hi2 hk5 hrel hP hD hS hrc hrl kS ls hl
    · refine lv_tableIn (x := nI 12) (tgt := 798) hx hb dL_law_44 (by decide) (by decide) rfl (by decide) ?_
      exact lc_weightS st.2.2.2.2.2.2.2.2.2.2.2.2.1 RF hx hb hml hown hts hK3 hK hA hnt hX hXs hN hY hJ6 hq hJ2 hq2 hXb hbl hbA hi0 hi1 hi2 hk5 hrel hP hD hS hrc hrl kS ls hl
    · refine lv_tableIn (x := nI 13) (tgt := 856) hx hb dL_law_44 (by decide) (by decide) rfl (by decide) ?_
      exact lc_styleS st.2.2.2.2.2.2.2.2.2.2.2.2.2.1 RF hx hb hml hown hts hK3 hK hA hnt hX hXs hN hY hJ6 hq hJ2 hq2 hXb hbl hbA hi0 hi1 hi2 hk5 hrel hP hD hS hrc hrl kS ls hl
    · refine lv_tableIn (x := nI 14) (tgt := 912) hx hb dL_law_44 (by decide) (by decide) rfl (by decide) ?_
      exact lc_faultsS st.2.2.2.2.2.2.2.2.2.2.2.2.2.2.1 RF hx hb hml hown hts hK3 hK hA hnt hX hXs hN hY hJ6 hq hJ2 hq2 hXb hbl hbA hi0 hi1 hi2 hk5 hrel hP hD hS hrc hrl kS ls hl
    · refine lv_tableIn (x := nI 15) (tgt := 925) hx hb dL_law_44 (by decide) (by decide) rfl (by decide) ?_
      exact lc_faultAtS st.2.2.2.2.2.2.2.2.2.2.2.2.2.2.2.1 RF hx hb hml hown hts hK3 hK hA hnt hX hXs hN hY hJ6 hq hJ2 hq2 hXb hbl hbA hi0 hi1 hi2 hk5 hrel hP hD hS hrc hrl kS ls hl
    · refine lv_tableIn (x := nI 16) (tgt := 981) hx hb dL_law_44 (by decide) (by decide) rfl (by decide) ?_
      exact lc_faultOfS st.2.2.2.2.2.2.2.2.2.2.2.2.2.2.2.2.1 RF hx hb hml hown hts hK3 hK hA hnt hX hXs hN hY hJ6 hq hJ2 hq2 hXb hbl hbA hi0 hi1 hi2 hk5 hrel hP hD hS hrc hrl kS ls hl
    · refine lv_tableIn (x := nI 17) (tgt := 1037) hx hb dL_law_44 (by decide) (by decide) rfl (by decide) ?_
      exact lc_costS st.2.2.2.2.2.2.2.2.2.2.2.2.2.2.2.2.2.1 RF hx hb hml hown hts hK3 hK hA hnt hX hXs hN hY hJ6 hq hJ2 hq2 hXb hbl hbA hi0 hi1 hi2 hk5 hrel hP hD hS hrc hrl kS ls hl
    · refine lv_tableIn (x := nI 18) (tgt := 1050) hx hb dL_law_44 (by decide) (by decide) rfl (by decide) ?_
      exact lc_isGoodS st.2.2.2.2.2.2.2.2.2.2.2.2.2.2.2.2.2.2.1 RF hx hb hml hown hts hK3 hK hA hnt hX hXs hN hY hJ6 hq hJ2 hq2 hXb hbl hbA hi0 hi1 hi2 hk5 hrel hP hD hS hrc hrl kS ls hl
    · refine lv_tableIn (x := nI 19) (tgt := 1063) hx hb dL_law_44 (by decide) (by decide) rfl (by decide) ?_
      exact lc_mendS st.2.2.2.2.2.2.2.2.2.2.2.2.2.2.2.2.2.2.2.1 RF hx hb hml hown hts hK3 hK hA hnt hX hXs hN hY hJ6 hq hJ2 hq2 hXb hbl hbA hi0 hi1 hi2 hk5 hrel hP hD hS hrc hrl kS ls hl
    · refine lv_tableIn (x := nI 20) (tgt := 1107) hx hb dL_law_44 (by decide) (by decide) rfl (by decide) ?_
      exact lc_rangeS st.2.2.2.2.2.2.2.2.2.2.2.2.2.2.2.2.2.2.2.2.1 RF hx hb hml hown hts hK3 hK hA hnt hX hXs hN hY hJ6 hq hJ2 hq2 hXb hbl hbA hi0 hi1 hi2 hk5 hrel hP hD hS hrc hrl kS ls hl
    · refine lv_tableIn (x := nI 21) (tgt := 1175) hx hb dL_law_44 (by decide) (by decide) rfl (by decide) ?_
      rcases hrs : f_X6_requireSearchable gc gs with E0 | ⟨⟩
      · exact lc_findSN st.2.2.2.2.2.2.2.2.2.2.2.2.2.2.2.2.2.2.2.2.2.1 RF hrs hx hb hml hown hts hK3 hK hA hnt hX hXs hN hY hJ6 hq hJ2 hq2 hXb hbl hbA hi0 hi1 hi2 hk5 hrel hP hD hS hrc hrl kS ls hl
      · exact lc_findSB st.2.2.2.2.2.2.2.2.2.2.2.2.2.2.2.2.2.2.2.2.2.2.2.1 RF hrs hx hb hml hown hts hK3 hK hA hnt hX hXs hN hY hJ6 hq hJ2 hq2 hXb hbl hbA hi0 hi1 hi2 hk5 hrel hP hD hS hrc hrl kS ls hl
    · refine lv_tableIn (x := nI 22) (tgt := 1219) hx hb dL_law_44 (by decide) (by decide) rfl (by decide) ?_
      rcases hrs : f_X6_requireSearchable gc gs with E0 | ⟨⟩
      · exact lc_goodLinesSN st.2.2.2.2.2.2.2.2.2.2.2.2.2.2.2.2.2.2.2.2.2.2.2.2.1 RF hrs hx hb hml hown hts hK3 hK hA hnt hX hXs hN hY hJ6 hq hJ2 hq2 hXb hbl hbA hi0 hi1 hi2 hk5 hrel hP hD hS hrc hrl kS ls hl
      · exact lc_goodLinesSB st.2.2.2.2.2.2.2.2.2.2.2.2.2.2.2.2.2.2.2.2.2.2.2.2.2.2.1 RF hrs hx hb hml hown hts hK3 hK hA hnt hX hXs hN hY hJ6 hq hJ2 hq2 hXb hbl hbA hi0 hi1 hi2 hk5 hrel hP hD hS hrc hrl kS ls hl
    · refine lv_tableIn (x := nI 23) (tgt := 1262) hx hb dL_law_44 (by decide) (by decide) rfl (by decide) ?_
      rcases hrs : f_X6_requireSearchable gc gs with E0 | ⟨⟩
      · exact lc_barsSN st.2.2.2.2.2.2.2.2.2.2.2.2.2.2.2.2.2.2.2.2.2.2.2.2.2.2.2.1 RF hrs hx hb hml hown hts hK3 hK hA hnt hX hXs hN hY hJ6 hq hJ2 hq2 hXb hbl hbA hi0 hi1 hi2 hk5 hrel hP hD hS hrc hrl kS ls hl
      · exact lc_barsSB st.2.2.2.2.2.2.2.2.2.2.2.2.2.2.2.2.2.2.2.2.2.2.2.2.2.2.2.2.2.1 RF hrs hx hb hml hown hts hK3 hK hA hnt hX hXs hN hY hJ6 hq hJ2 hq2 hXb hbl hbA hi0 hi1 hi2 hk5 hrel hP hD hS hrc hrl kS ls hl
    · refine lv_tableIn (x := nI 24) (tgt := 1306) hx hb dL_law_44 (by decide) (by decide) rfl (by decide) ?_
      rcases hrs : f_X6_requireSearchable gc gs with E0 | ⟨⟩
      · exact lc_barAtSN st.2.2.2.2.2.2.2.2.2.2.2.2.2.2.2.2.2.2.2.2.2.2.2.2.2.2.2.2.2.2.1 RF hrs hx hb hml hown hts hK3 hK hA hnt hX hXs hN hY hJ6 hq hJ2 hq2 hXb hbl hbA hi0 hi1 hi2 hk5 hrel hP hD hS hrc hrl kS ls hl
      · exact lc_barAtSB st.2.2.2.2.2.2.2.2.2.2.2.2.2.2.2.2.2.2.2.2.2.2.2.2.2.2.2.2.2.2.2.2.1 RF hrs hx hb hml hown hts hK3 hK hA hnt hX hXs hN hY hJ6 hq hJ2 hq2 hXb hbl hbA hi0 hi1 hi2 hk5 hrel hP hD hS hrc hrl kS ls hl
    · refine lv_tableIn (x := nI 25) (tgt := 1362) hx hb dL_law_44 (by decide) (by decide) rfl (by decide) ?_
      exact lc_exchangedS st.2.2.2.2.2.2.2.2.2.2.2.2.2.2.2.2.2.2.2.2.2.2.2.2.2.2.2.2.2.2.2.2.2.1 RF hx hb hml hown hts hK3 hK hA hnt hX hXs hN hY hJ6 hq hJ2 hq2 hXb hbl hbA hi0 hi1 hi2 hk5 hrel hP hD hS hrc hrl kS ls hl
    · refine lv_tableIn (x := nI 26) (tgt := 1418) hx hb dL_law_44 (by decide) (by decide) rfl (by decide) ?_
      exact lc_canonS st.2.2.2.2.2.2.2.2.2.2.2.2.2.2.2.2.2.2.2.2.2.2.2.2.2.2.2.2.2.2.2.2.2.2.1 RF hx hb hml hown hts hK3 hK hA hnt hX hXs hN hY hJ6 hq hJ2 hq2 hXb hbl hbA hi0 hi1 hi2 hk5 hrel hP hD hS hrc hrl kS ls hl
    · refine lv_tableIn (x := nI 27) (tgt := 1486) hx hb dL_law_44 (by decide) (by decide) rfl (by decide) ?_
      exact lc_canonsS st.2.2.2.2.2.2.2.2.2.2.2.2.2.2.2.2.2.2.2.2.2.2.2.2.2.2.2.2.2.2.2.2.2.2.2.1 RF hx hb hml hown hts hK3 hK hA hnt hX hXs hN hY hJ6 hq hJ2 hq2 hXb hbl hbA hi0 hi1 hi2 hk5 hrel hP hD hS hrc hrl kS ls hl
    · refine lv_tableIn (x := nI 28) (tgt := 1530) hx hb dL_law_44 (by decide) (by decide) rfl (by decide) ?_
      exact lc_canonAtS st.2.2.2.2.2.2.2.2.2.2.2.2.2.2.2.2.2.2.2.2.2.2.2.2.2.2.2.2.2.2.2.2.2.2.2.2.1 RF hx hb hml hown hts hK3 hK hA hnt hX hXs hN hY hJ6 hq hJ2 hq2 hXb hbl hbA hi0 hi1 hi2 hk5 hrel hP hD hS hrc hrl kS ls hl
    · refine lv_tableIn (x := nI 29) (tgt := 1586) hx hb dL_law_44 (by decide) (by decide) rfl (by decide) ?_
      exact lc_stepShareS st.2.2.2.2.2.2.2.2.2.2.2.2.2.2.2.2.2.2.2.2.2.2.2.2.2.2.2.2.2.2.2.2.2.2.2.2.2.1 RF hx hb hml hown hts hK3 hK hA hnt hX hXs hN hY hJ6 hq hJ2 hq2 hXb hbl hbA hi0 hi1 hi2 hk5 hrel hP hD hS hrc hrl kS ls hl
    · refine lv_tableIn (x := nI 30) (tgt := 1652) hx hb dL_law_44 (by decide) (by decide) rfl (by decide) ?_
      exact lc_meanPitchS st.2.2.2.2.2.2.2.2.2.2.2.2.2.2.2.2.2.2.2.2.2.2.2.2.2.2.2.2.2.2.2.2.2.2.2.2.2.2.1 RF hx hb hml hown hts hK3 hK hA hnt hX hXs hN hY hJ6 hq hJ2 hq2 hXb hbl hbA hi0 hi1 hi2 hk5 hrel hP hD hS hrc hrl kS ls hl
    · refine lv_tableIn (x := nI 31) (tgt := 1717) hx hb dL_law_44 (by decide) (by decide) rfl (by decide) ?_
      exact lc_isConsistentSB st.2.2.2.2.2.2.2.2.2.2.2.2.2.2.2.2.2.2.2.2.2.2.2.2.2.2.2.2.2.2.2.2.2.2.2.2.2.2.2.2.2 RF hx hb hml hown hts hK3 hK hA hnt hX hXs hN hY hJ6 hq hJ2 hq2 hXb hbl hbA hi0 hi1 hi2 hk5 hrel hP hD hS hrc hrl kS ls hl
set_option maxHeartbeats 4000000 in
set_option maxRecDepth 100000 in
theorem law_N {Rel : RelT} (st : StAll Rel) (RF : RelF Rel) {aC : Nat} {aG : Nat} {aL : Nat} {aW : Nat} {aT : Nat} {aV : Nat} {aX : Nat} {aM : Nat} {aMG : Nat} {aML : Nat} {aMW : Nat} {aME : Nat} {aMO : Nat} {aO : Nat} {aD : Nat} (hx : p.tables.exec = Jvm.exec) (hb : c.code = cL_law) (hml : c.maxLocals = 9) (hown : s.vm.findClass RL = some m.cls) (hts : ∀ w ∈ c0 :: WA, w.before args s = true) (hK3 : va_K (dC, dI) vwCl [(cI, .int), (cJ, .long), (cD, .double)] s) (hA : ∀ q, s.heap.size ≤ q → A q) (hnt : l.stackTraces = false) (hX : xfa s) (hXs : xst A s s.heap) (hN : xnc s) (hY : sty aY A s s.heap) (hJ6 : jpA aQ6 aQV6 vF A s s.heap) (hq : vk_R RX6 294 oTx aQ6 s) (hJ2 : jpA aQ2 aQV2 vF A s s.heap) (hq2 : vk_R RX2 22 oTx aQ2 s) (hXb : va_X b L xs s s.heap) (hbl : b < s.heap.size) (hbA : ¬ A b) (hL : L ≤ 1536) (kE : ∀ (ls : Array Slot) (H : Heap) (locs : List Loc), va_S A s.heap H locs → W p l e room_1 s m args below meth c H locs 603072 7198826 Q (F0 m 1736 ls [])) : ∀ (n k : Nat) (tc : Int32) (tv : Nat → Int32) (gc : Int32) (gs : Int32) (gb : Int32) (gf : Int32) (gl : Int32) (gh : Int32) (gn : Int32) (gv : Nat → Int32) (wn : Int32) (wv : Nat → Int32) (mt : Int32) (mc : Int32) (mn : Int32) (mr : Int32) (mb : Int32) (mf : Int32) (mlo : Int32) (mhi : Int32) (mx : Int32) (mg : Nat → Int32) (ml : Nat → Int32) (mw : Nat → Int32) (me : Nat → Int32) (mo : Nat → Int64) (ov : Nat → Int64) (od : Nat → UInt64) (nc ns : Nat) (ls : Array Slot) (H : Heap) (locs : List Loc), k + n = 513 → 3 * k ≤ L → Rel k tc tv gc gs gb gf gl gh gn gv wn wv mt mc mn mr mb mf mlo mhi mx mg ml mw me mo none → va_P (dC, dI) vwCl [(aC, .inr (6, [.ref aG, .ref aL, .ref aW, .null])), (aL, .inr (4, [.ref aG, .ref aT, .int tc])), (aT, .inl (cI, 53, .inl tv)), (aG, .inr (2, [.ref aV, .int gc, .int gs, .int gb, .int gf, .int gl, .int gh, .int gn])), (aV, .inl (cI, 14, .inl gv)), (aW, .inr (3, [.ref aX, .int wn])), (aX, .inl (cI, 12, .inl wv)), (aM, .inr (7, [.int mt, .ref aMG, .int mc, .ref aML, .int mn, .int mr, .int mb, .int mf, .int mlo, .int mhi, .ref aMW, .ref aME, .ref aMO, .int mx])), (aMG, .inl (cI, 14, .inl mg)), (aML, .inl (cI, 53, .inl ml)), (aMW, .inl (cI, 12, .inl mw)), (aME, .inl (cI, 2700, .inl me)), (aMO, .inl (cJ, 2700, .inr (.inl mo))), (aO, .inl (cJ, 1, .inr (.inl ov))), (aD, .inl (cD, 1, .inr (.inr (.inr (.inl od)))))] H → va_D A [(aC, .inr (6, [.ref aG, .ref aL, .ref aW, .null])), (aL, .inr (4, [.ref aG, .ref aT, .int tc])), (aT, .inl (cI, 53, .inl tv)), (aG, .inr (2, [.ref aV, .int gc, .int gs, .int gb, .int gf, .int gl, .int gh, .int gn])), (aV, .inl (cI, 14, .inl gv)), (aW, .inr (3, [.ref aX, .int wn])), (aX, .inl (cI, 12, .inl wv)), (aM, .inr (7, [.int mt, .ref aMG, .int mc, .ref aML, .int mn, .int mr, .int mb, .int mf, .int mlo, .int mhi, .ref aMW, .ref aME, .ref aMO, .int mx])), (aMG, .inl (cI, 14, .inl mg)), (aML, .inl (cI, 53, .inl ml)), (aMW, .inl (cI, 12, .inl mw)), (aME, .inl (cI, 2700, .inl me)), (aMO, .inl (cJ, 2700, .inr (.inl mo))), (aO, .inl (cJ, 1, .inr (.inl ov))), (aD, .inl (cD, 1, .inr (.inr (.inr (.inl od)))))] → va_S A s.heap H locs → lv_has ls 9 [(0, .ref b), (1, .ref aC), (2, .ref aM), (3, .ref aO), (4, .ref aD), (5, .int (nI (3 * k)))] → nc ≤ 12 * k + 78 → ns ≤ 200 * k + 16000 → W p l e room_1 s m args below meth c H locs nc ns Q (F0 m 28 ls []) := by
  intro n
  induction n with
  | zero =>
    intro k tc tv gc gs gb gf gl gh gn gv wn wv mt mc mn mr mb mf mlo mhi mx mg ml mw me mo ov od nc ns ls H locs hn hk
    exact absurd hn (by omega)
  | succ n ih =>
    intro k tc tv gc gs gb gf gl gh gn gv wn wv mt mc mn mr mb mf mlo mhi mx mg ml mw me mo ov od nc ns ls H locs hn hk hrel hP hD hS hl hnc hns
    have hk5 : k < 513 := by omega
    have hrc : nc + 22 ≤ 603072 := by omega
    have hrl : ns + 33740 ≤ 7198826 := by omega
    have hK := hK3.sub (tys' := [(cI, .int), (cJ, .long)]) [0, 1] rfl
    refine lv_iload hx hb dL_law_28 (lv_at hl 5 rfl) ?_
    refine lv_aload_n hx hb dL_law_30 rfl (lv_at hl 0 rfl) ?_
    refine va_slen hx hb hXb hbl hbA hS dL_law_31 ?_
    refine lv_iconst (v := (3 : Int32)) hx hb dL_law_32 (by decide) ?_
    refine lv_isub hx hb dL_law_33 ?_
    refine lv_icmp_gt (tgt := 1736) hx hb dL_law_34 (by decide) (fun c_1 => ?_) (fun c_1 => ?_)
    · exact W.widen (k := 603072) (n := 7198826) (by omega) (by omega) (kE _ _ _ hS)
    have hk3 := lp3_c hL hk c_1
    have hi0 : vp_in (nI (3 * k)) L := lp3_in (j := 0) hL (by decide) hk3
    have hi1 : vp_in (nI (3 * k) + (1 : Int32)) L := by
      have h := lp3_in (j := 1) hL (by decide) hk3
      rw [nI_plus] at h
      exact h
    have hi2 : vp_in (nI (3 * k) + (2 : Int32)) L := by
      have h := lp3_in (j := 2) hL (by decide) hk3
      rw [nI_plus] at h
      exact h
    refine lv_aload_n hx hb dL_law_37 rfl (lv_at hl 0 rfl) ?_
    refine lv_iload hx hb dL_law_38 (lv_at hl 5 rfl) ?_
    refine va_sld hx hb hXb hbl hbA hS hi0 dL_law_40 ?_
    refine lv_bipush (v := (31 : Int32)) hx hb dL_law_41 (by decide) ?_
    refine lv_iand hx hb dL_law_43 ?_
    have kN : ∀ (tc : Int32) (tv : Nat → Int32) (gc : Int32) (gs : Int32) (gb : Int32) (gf : Int32) (gl : Int32) (gh : Int32) (gn : Int32) (gv : Nat → Int32) (wn : Int32) (wv : Nat → Int32) (mt : Int32) (mc : Int32) (mn : Int32) (mr : Int32) (mb : Int32) (mf : Int32) (mlo : Int32) (mhi : Int32) (mx : Int32) (mg : Nat → Int32) (ml : Nat → Int32) (mw : Nat → Int32) (me : Nat → Int32) (mo : Nat → Int64) (ov : Nat → Int64) (od : Nat → UInt64) (ls : Array Slot) (H : Heap) (locs : List Loc), Rel (k + 1) tc tv gc gs gb gf gl gh gn gv wn wv mt mc mn mr mb mf mlo mhi mx mg ml mw me mo none → va_P (dC, dI) vwCl [(aC, .inr (6, [.ref aG, .ref aL, .ref aW, .null])), (aL, .inr (4, [.ref aG, .ref aT, .int tc])), (aT, .inl (cI, 53, .inl tv)), (aG, .inr (2, [.ref aV, .int gc, .int gs, .int gb, .int gf, .int gl, .int gh, .int gn])), (aV, .inl (cI, 14, .inl gv)), (aW, .inr (3, [.ref aX, .int wn])), (aX, .inl (cI, 12, .inl wv)), (aM, .inr (7, [.int mt, .ref aMG, .int mc, .ref aML, .int mn, .int mr, .int mb, .int mf, .int mlo, .int mhi, .ref aMW, .ref aME, .ref aMO, .int mx])), (aMG, .inl (cI, 14, .inl mg)), (aML, .inl (cI, 53, .inl ml)), (aMW, .inl (cI, 12, .inl mw)), (aME, .inl (cI, 2700, .inl me)), (aMO, .inl (cJ, 2700, .inr (.inl mo))), (aO, .inl (cJ, 1, .inr (.inl ov))), (aD, .inl (cD, 1, .inr (.inr (.inr (.inl od)))))] H → va_D A [(aC, .inr (6, [.ref aG, .ref aL, .ref aW, .null])), (aL, .inr (4, [.ref aG, .ref aT, .int tc])), (aT, .inl (cI, 53, .inl tv)), (aG, .inr (2, [.ref aV, .int gc, .int gs, .int gb, .int gf, .int gl, .int gh, .int gn])), (aV, .inl (cI, 14, .inl gv)), (aW, .inr (3, [.ref aX, .int wn])), (aX, .inl (cI, 12, .inl wv)), (aM, .inr (7, [.int mt, .ref aMG, .int mc, .ref aML, .int mn, .int mr, .int mb, .int mf, .int mlo, .int mhi, .ref aMW, .ref aME, .ref aMO, .int mx])), (aMG, .inl (cI, 14, .inl mg)), (aML, .inl (cI, 53, .inl ml)), (aMW, .inl (cI, 12, .inl mw)), (aME, .inl (cI, 2700, .inl me)), (aMO, .inl (cJ, 2700, .inr (.inl mo))), (aO, .inl (cJ, 1, .inr (.inl ov))), (aD, .inl (cD, 1, .inr (.inr (.inr (.inl od)))))] → va_S A s.heap H locs → lv_has ls 9 [(0, .ref b), (1, .ref aC), (2, .ref aM), (3, .ref aO), (4, .ref aD), (5, .int (nI (3 * k)))] → W p l e room_1 s m args below meth c H locs (nc + 12) (ns + 200) Q (F0 m 1730 ls []) := by
      intro tc tv gc gs gb gf gl gh gn gv wn wv mt mc mn mr mb mf mlo mhi mx mg ml mw me mo ov od ls H locs hrel hP hD hS hl
      refine lv_iinc (v := nI (3 * (k + 1))) (lv' := [(5, .int (nI (3 * (k + 1)))), (0, .ref b), (1, .ref aC), (2, .ref aM), (3, .ref aO), (4, .ref aD)]) hx hb dL_law_1730 hl (k := 5) rfl (by rw [Nat.mul_add, nI_plus]; rfl) (by decide) rfl (fun ls hl => ?_)
      refine lv_goto (tgt := 28) hx hb dL_law_1733 (by decide) ?_
      exact ih (k + 1) tc tv gc gs gb gf gl gh gn gv wn wv mt mc mn mr mb mf mlo mhi mx mg ml mw me mo ov od _ _ ls H locs (by omega) (by omega) hrel hP hD hS (lv_sub hl [1, 2, 3, 4, 5, 0] rfl) (by omega) (by omega)
    have kS : ∀ (aS aK aKT aR aRT aSM aSU aSY : Nat) (tc : Int32) (tv : Nat → Int32) (gc : Int32) (gs : Int32) (gb : Int32) (gf : Int32) (gl : Int32) (gh : Int32) (gn : Int32) (gv : Nat → Int32) (wn : Int32) (wv : Nat → Int32) (sl : Int32) (sw : Int32) (so : Int32) (sm : Int32) (sbs : Int32) (sg : Int32) (sx : Int32) (mv : Nat → Int32) (uv : Nat → Int32) (yv : Nat → Int64) (kc : Int32) (kv : Nat → Int32) (rc : Int32) (rv : Nat → Int32) (mt : Int32) (mc : Int32) (mn : Int32) (mr : Int32) (mb : Int32) (mf : Int32) (mlo : Int32) (mhi : Int32) (mx : Int32) (mg : Nat → Int32) (ml : Nat → Int32) (mw : Nat → Int32) (me : Nat → Int32) (mo : Nat → Int64) (ov : Nat → Int64) (od : Nat → UInt64) (ls : Array Slot) (H : Heap) (locs : List Loc), Rel (k + 1) tc tv gc gs gb gf gl gh gn gv wn wv mt mc mn mr mb mf mlo mhi mx mg ml mw me mo (some (sl, sw, so, sm, sbs, sg, sx, mv, uv, yv, kc, kv, rc, rv)) → va_P (dC, dI) vwCl [(aC, .inr (6, [.ref aG, .ref aL, .ref aW, .ref aS])), (aL, .inr (4, [.ref aG, .ref aT, .int tc])), (aT, .inl (cI, 53, .inl tv)), (aG, .inr (2, [.ref aV, .int gc, .int gs, .int gb, .int gf, .int gl, .int gh, .int gn])), (aV, .inl (cI, 14, .inl gv)), (aW, .inr (3, [.ref aX, .int wn])), (aX, .inl (cI, 12, .inl wv)), (aS, .inr (5, [.ref aG, .ref aW, .ref aK, .ref aR, .ref aSM, .ref aSU, .ref aSY, .int sl, .int sw, .int so, .int sm, .int sbs, .int sg, .int sx])), (aSM, .inl (cI, 28000, .inl mv)), (aSU, .inl (cI, 2700, .inl uv)), (aSY, .inl (cJ, 2700, .inr (.inl yv))), (aK, .inr (4, [.ref aG, .ref aKT, .int kc])), (aKT, .inl (cI, 53, .inl kv)), (aR, .inr (4, [.ref aG, .ref aRT, .int rc])), (aRT, .inl (cI, 53, .inl rv)), (aM, .inr (7, [.int mt, .ref aMG, .int mc, .ref aML, .int mn, .int mr, .int mb, .int mf, .int mlo, .int mhi, .ref aMW, .ref aME, .ref aMO, .int mx])), (aMG, .inl (cI, 14, .inl mg)), (aML, .inl (cI, 53, .inl ml)), (aMW, .inl (cI, 12, .inl mw)), (aME, .inl (cI, 2700, .inl me)), (aMO, .inl (cJ, 2700, .inr (.inl mo))), (aO, .inl (cJ, 1, .inr (.inl ov))), (aD, .inl (cD, 1, .inr (.inr (.inr (.inl od)))))] H → va_D A [(aC, .inr (6, [.ref aG, .ref aL, .ref aW, .ref aS])), (aL, .inr (4, [.ref aG, .ref aT, .int tc])), (aT, .inl (cI, 53, .inl tv)), (aG, .inr (2, [.ref aV, .int gc, .int gs, .int gb, .int gf, .int gl, .int gh, .int gn])), (aV, .inl (cI, 14, .inl gv)), (aW, .inr (3, [.ref aX, .int wn])), (aX, .inl (cI, 12, .inl wv)), (aS, .inr (5, [.ref aG, .ref aW, .ref aK, .ref aR, .ref aSM, .ref aSU, .ref aSY, .int sl, .int sw, .int so, .int sm, .int sbs, .int sg, .int sx])), (aSM, .inl (cI, 28000, .inl mv)), (aSU, .inl (cI, 2700, .inl uv)), (aSY, .inl (cJ, 2700, .inr (.inl yv))), (aK, .inr (4, [.ref aG, .ref aKT, .int kc])), (aKT, .inl (cI, 53, .inl kv)), (aR, .inr (4, [.ref aG, .ref aRT, .int rc])), (aRT, .inl (cI, 53, .inl rv)), (aM, .inr (7, [.int mt, .ref aMG, .int mc, .ref aML, .int mn, .int mr, .int mb, .int mf, .int mlo, .int mhi, .ref aMW, .ref aME, .ref aMO, .int mx])), (aMG, .inl (cI, 14, .inl mg)), (aML, .inl (cI, 53, .inl ml)), (aMW, .inl (cI, 12, .inl mw)), (aME, .inl (cI, 2700, .inl me)), (aMO, .inl (cJ, 2700, .inr (.inl mo))), (aO, .inl (cJ, 1, .inr (.inl ov))), (aD, .inl (cD, 1, .inr (.inr (.inr (.inl od)))))] → va_S A s.heap H locs → lv_has ls 9 [(0, .ref b), (1, .ref aC), (2, .ref aM), (3, .ref aO), (4, .ref aD), (5, .int (nI (3 * k)))] → W p l e room_1 s m args below meth c H locs (nc + 22) (ns + 33740) Q (F0 m 1730 ls []) := by
      intro aS aK aKT aR aRT aSM aSU aSY tc tv gc gs gb gf gl gh gn gv wn wv sl sw so sm sbs sg sx mv uv yv kc kv rc rv mt mc mn mr mb mf mlo mhi mx mg ml mw me mo ov od ls H locs hrel hP hD hS hl
      refine lv_iinc (v := nI (3 * (k + 1))) (lv' := [(5, .int (nI (3 * (k + 1)))), (0, .ref b), (1, .ref aC), (2, .ref aM), (3, .ref aO), (4, .ref aD)]) hx hb dL_law_1730 hl (k := 5) rfl (by rw [Nat.mul_add, nI_plus]; rfl) (by decide) rfl (fun ls hl => ?_)
      refine lv_goto (tgt := 28) hx hb dL_law_1733 (by decide) ?_
      exact law_S st RF hx hb hml hown hts hK3 hA hnt hX hXs hN hY hJ6 hq hJ2 hq2 hXb hbl hbA hL kE n (k + 1) aS aK aR aSM aSU aSY aKT aRT tc tv gc gs gb gf gl gh gn gv wn wv sl sw so sm sbs sg sx mv uv yv kc kv rc rv mt mc mn mr mb mf mlo mhi mx mg ml mw me mo ov od _ _ ls H locs (by omega) (by omega) hrel hP hD hS (lv_sub hl [1, 2, 3, 4, 5, 0] rfl) (by omega) (by omega)
    obtain ⟨j, hj, ej⟩ := and31 (xs (nI (3 * k)).toNatClampNeg)
    rw [ej]
    rcases (show j = 0 ∨ j = 1 ∨ j = 2 ∨ j = 3 ∨ j = 4 ∨ j = 5 ∨ j = 6 ∨ j = 7 ∨ j = 8 ∨ j = 9 ∨ j = 10 ∨ j = 11 ∨ j = 12 ∨ j = 13 ∨ j = 14 ∨ j = 15 ∨ j = 16 ∨ j = 17 ∨ j = 18 ∨ j = 19 ∨ j = 20 ∨ j = 21 ∨ j = 22 ∨ j = 23 ∨ j = 24 ∨ j = 25 ∨ j = 26 ∨ j = 27 ∨ j = 28 ∨ j = 29 ∨ j = 30 ∨ j = 31 by omega) with rfl | rfl | rfl | rfl | rfl | rfl | rfl | rfl | rfl | rfl | rfl | rfl | rfl | rfl | rfl | rfl | rfl | rfl | rfl | rfl | rfl | rfl | rfl | rfl | rfl | rfl | rfl | rfl | rfl | rfl | rfl | rfl
    · refine lv_tableIn (x := nI 0) (tgt := 188) hx hb dL_law_44 (by decide) (by decide) rfl (by decide) ?_
      exact lc_givenN st.1 RF hx hb hml hown hts hK3 hK hA hnt hX hXs hN hY hJ6 hq hJ2 hq2 hXb hbl hbA hi0 hi1 hi2 hk5 hrel hP hD hS hrc hrl kN ls hl
    · refine lv_tableIn (x := nI 1) (tgt := 244) hx hb dL_law_44 (by decide) (by decide) rfl (by decide) ?_
      exact lc_otherN st.2.1 RF hx hb hml hown hts hK3 hK hA hnt hX hXs hN hY hJ6 hq hJ2 hq2 hXb hbl hbA hi0 hi1 hi2 hk5 hrel hP hD hS hrc hrl kN ls hl
    · refine lv_tableIn (x := nI 2) (tgt := 300) hx hb dL_law_44 (by decide) (by decide) rfl (by decide) ?_
      exact lc_changeN st.2.2.1 RF hx hb hml hown hts hK3 hK hA hnt hX hXs hN hY hJ6 hq hJ2 hq2 hXb hbl hbA hi0 hi1 hi2 hk5 hrel hP hD hS hrc hrl kN ls hl
    · refine lv_tableIn (x := nI 3) (tgt := 368) hx hb dL_law_44 (by decide) (by decide) rfl (by decide) ?_
      exact lc_clearN st.2.2.2.1 RF hx hb hml hown hts hK3 hK hA hnt hX hXs hN hY hJ6 hq hJ2 hq2 hXb hbl hbA hi0 hi1 hi2 hk5 hrel hP hD hS hrc hrl kN ls hl
    · refine lv_tableIn (x := nI 4) (tgt := 409) hx hb dL_law_44 (by decide) (by decide) rfl (by decide) ?_
      exact lc_ratioN st.2.2.2.2.1 RF hx hb hml hown hts hK3 hK hA hnt hX hXs hN hY hJ6 hq hJ2 hq2 hXb hbl hbA hi0 hi1 hi2 hk5 hrel hP hD hS hrc hrl kN ls hl
    · refine lv_tableIn (x := nI 5) (tgt := 465) hx hb dL_law_44 (by decide) (by decide) rfl (by decide) ?_
      exact lc_lowerN st.2.2.2.2.2.1 RF hx hb hml hown hts hK3 hK hA hnt hX hXs hN hY hJ6 hq hJ2 hq2 hXb hbl hbA hi0 hi1 hi2 hk5 hrel hP hD hS hrc hrl kN ls hl
    · refine lv_tableIn (x := nI 6) (tgt := 506) hx hb dL_law_44 (by decide) (by decide) rfl (by decide) ?_
      exact lc_feignN st.2.2.2.2.2.2.1 RF hx hb hml hown hts hK3 hK hA hnt hX hXs hN hY hJ6 hq hJ2 hq2 hXb hbl hbA hi0 hi1 hi2 hk5 hrel hP hD hS hrc hrl kN ls hl
    · refine lv_tableIn (x := nI 7) (tgt := 547) hx hb dL_law_44 (by decide) (by decide) rfl (by decide) ?_
      exact lc_notesN st.2.2.2.2.2.2.2.1 RF hx hb hml hown hts hK3 hK hA hnt hX hXs hN hY hJ6 hq hJ2 hq2 hXb hbl hbA hi0 hi1 hi2 hk5 hrel hP hD hS hrc hrl kN ls hl
    · refine lv_tableIn (x := nI 8) (tgt := 560) hx hb dL_law_44 (by decide) (by decide) rfl (by decide) ?_
      exact lc_noteAtN st.2.2.2.2.2.2.2.2.1 RF hx hb hml hown hts hK3 hK hA hnt hX hXs hN hY hJ6 hq hJ2 hq2 hXb hbl hbA hi0 hi1 hi2 hk5 hrel hP hD hS hrc hrl kN ls hl
    · refine lv_tableIn (x := nI 9) (tgt := 616) hx hb dL_law_44 (by decide) (by decide) rfl (by decide) ?_
      exact lc_pitchN st.2.2.2.2.2.2.2.2.2.1 RF hx hb hml hown hts hK3 hK hA hnt hX hXs hN hY hJ6 hq hJ2 hq2 hXb hbl hbA hi0 hi1 hi2 hk5 hrel hP hD hS hrc hrl kN ls hl
    · refine lv_tableIn (x := nI 10) (tgt := 672) hx hb dL_law_44 (by decide) (by decide) rfl (by decide) ?_
      exact lc_intervalN st.2.2.2.2.2.2.2.2.2.2.1 RF hx hb hml hown hts hK3 hK hA hnt hX hXs hN hY hJ6 hq hJ2 hq2 hXb hbl hbA hi0 hi1 hi2 hk5 hrel hP hD hS hrc hrl kN ls hl
    · refine lv_tableIn (x := nI 11) (tgt := 728) hx hb dL_law_44 (by decide) (by decide) rfl (by decide) ?_
      exact lc_setLawN st.2.2.2.2.2.2.2.2.2.2.2.1 RF hx hb hml hown hts hK3 hK hA hnt hX hXs hN hY hJ6 hq hJ2 hq2 hXb hbl hbA hi0 hi1 hi2 hk5 hrel hP hD hS hrc hrl kN ls hl
    · refine lv_tableIn (x := nI 12) (tgt := 798) hx hb dL_law_44 (by decide) (by decide) rfl (by decide) ?_
      exact lc_weightN st.2.2.2.2.2.2.2.2.2.2.2.2.1 RF hx hb hml hown hts hK3 hK hA hnt hX hXs hN hY hJ6 hq hJ2 hq2 hXb hbl hbA hi0 hi1 hi2 hk5 hrel hP hD hS hrc hrl kN ls hl
    · refine lv_tableIn (x := nI 13) (tgt := 856) hx hb dL_law_44 (by decide) (by decide) rfl (by decide) ?_
      exact lc_styleN st.2.2.2.2.2.2.2.2.2.2.2.2.2.1 RF hx hb hml hown hts hK3 hK hA hnt hX hXs hN hY hJ6 hq hJ2 hq2 hXb hbl hbA hi0 hi1 hi2 hk5 hrel hP hD hS hrc hrl kN ls hl
    · refine lv_tableIn (x := nI 14) (tgt := 912) hx hb dL_law_44 (by decide) (by decide) rfl (by decide) ?_
      exact lc_faultsN st.2.2.2.2.2.2.2.2.2.2.2.2.2.2.1 RF hx hb hml hown hts hK3 hK hA hnt hX hXs hN hY hJ6 hq hJ2 hq2 hXb hbl hbA hi0 hi1 hi2 hk5 hrel hP hD hS hrc hrl kN ls hl
    · refine lv_tableIn (x := nI 15) (tgt := 925) hx hb dL_law_44 (by decide) (by decide) rfl (by decide) ?_
      exact lc_faultAtN st.2.2.2.2.2.2.2.2.2.2.2.2.2.2.2.1 RF hx hb hml hown hts hK3 hK hA hnt hX hXs hN hY hJ6 hq hJ2 hq2 hXb hbl hbA hi0 hi1 hi2 hk5 hrel hP hD hS hrc hrl kN ls hl
    · refine lv_tableIn (x := nI 16) (tgt := 981) hx hb dL_law_44 (by decide) (by decide) rfl (by decide) ?_
      exact lc_faultOfN st.2.2.2.2.2.2.2.2.2.2.2.2.2.2.2.2.1 RF hx hb hml hown hts hK3 hK hA hnt hX hXs hN hY hJ6 hq hJ2 hq2 hXb hbl hbA hi0 hi1 hi2 hk5 hrel hP hD hS hrc hrl kN ls hl
    · refine lv_tableIn (x := nI 17) (tgt := 1037) hx hb dL_law_44 (by decide) (by decide) rfl (by decide) ?_
      exact lc_costN st.2.2.2.2.2.2.2.2.2.2.2.2.2.2.2.2.2.1 RF hx hb hml hown hts hK3 hK hA hnt hX hXs hN hY hJ6 hq hJ2 hq2 hXb hbl hbA hi0 hi1 hi2 hk5 hrel hP hD hS hrc hrl kN ls hl
    · refine lv_tableIn (x := nI 18) (tgt := 1050) hx hb dL_law_44 (by decide) (by decide) rfl (by decide) ?_
      exact lc_isGoodN st.2.2.2.2.2.2.2.2.2.2.2.2.2.2.2.2.2.2.1 RF hx hb hml hown hts hK3 hK hA hnt hX hXs hN hY hJ6 hq hJ2 hq2 hXb hbl hbA hi0 hi1 hi2 hk5 hrel hP hD hS hrc hrl kN ls hl
    · refine lv_tableIn (x := nI 19) (tgt := 1063) hx hb dL_law_44 (by decide) (by decide) rfl (by decide) ?_
      exact lc_mendN st.2.2.2.2.2.2.2.2.2.2.2.2.2.2.2.2.2.2.2.1 RF hx hb hml hown hts hK3 hK hA hnt hX hXs hN hY hJ6 hq hJ2 hq2 hXb hbl hbA hi0 hi1 hi2 hk5 hrel hP hD hS hrc hrl kN ls hl
    · refine lv_tableIn (x := nI 20) (tgt := 1107) hx hb dL_law_44 (by decide) (by decide) rfl (by decide) ?_
      exact lc_rangeN st.2.2.2.2.2.2.2.2.2.2.2.2.2.2.2.2.2.2.2.2.1 RF hx hb hml hown hts hK3 hK hA hnt hX hXs hN hY hJ6 hq hJ2 hq2 hXb hbl hbA hi0 hi1 hi2 hk5 hrel hP hD hS hrc hrl kN ls hl
    · refine lv_tableIn (x := nI 21) (tgt := 1175) hx hb dL_law_44 (by decide) (by decide) rfl (by decide) ?_
      rcases hrs : f_X6_requireSearchable gc gs with E0 | ⟨⟩
      · exact lc_findNN st.2.2.2.2.2.2.2.2.2.2.2.2.2.2.2.2.2.2.2.2.2.1 RF hrs hx hb hml hown hts hK3 hK hA hnt hX hXs hN hY hJ6 hq hJ2 hq2 hXb hbl hbA hi0 hi1 hi2 hk5 hrel hP hD hS hrc hrl kN ls hl
      · exact lc_findNA st.2.2.2.2.2.2.2.2.2.2.2.2.2.2.2.2.2.2.2.2.2.2.1 RF hrs hx hb hml hown hts hK3 hK hA hnt hX hXs hN hY hJ6 hq hJ2 hq2 hXb hbl hbA hi0 hi1 hi2 hk5 hrel hP hD hS hrc hrl kS ls hl
    · refine lv_tableIn (x := nI 22) (tgt := 1219) hx hb dL_law_44 (by decide) (by decide) rfl (by decide) ?_
      rcases hrs : f_X6_requireSearchable gc gs with E0 | ⟨⟩
      · exact lc_goodLinesNN st.2.2.2.2.2.2.2.2.2.2.2.2.2.2.2.2.2.2.2.2.2.2.2.2.1 RF hrs hx hb hml hown hts hK3 hK hA hnt hX hXs hN hY hJ6 hq hJ2 hq2 hXb hbl hbA hi0 hi1 hi2 hk5 hrel hP hD hS hrc hrl kN ls hl
      · exact lc_goodLinesNA st.2.2.2.2.2.2.2.2.2.2.2.2.2.2.2.2.2.2.2.2.2.2.2.2.2.1 RF hrs hx hb hml hown hts hK3 hK hA hnt hX hXs hN hY hJ6 hq hJ2 hq2 hXb hbl hbA hi0 hi1 hi2 hk5 hrel hP hD hS hrc hrl kS ls hl
    · refine lv_tableIn (x := nI 23) (tgt := 1262) hx hb dL_law_44 (by decide) (by decide) rfl (by decide) ?_
      rcases hrs : f_X6_requireSearchable gc gs with E0 | ⟨⟩
      · exact lc_barsNN st.2.2.2.2.2.2.2.2.2.2.2.2.2.2.2.2.2.2.2.2.2.2.2.2.2.2.2.1 RF hrs hx hb hml hown hts hK3 hK hA hnt hX hXs hN hY hJ6 hq hJ2 hq2 hXb hbl hbA hi0 hi1 hi2 hk5 hrel hP hD hS hrc hrl kN ls hl
      · exact lc_barsNA st.2.2.2.2.2.2.2.2.2.2.2.2.2.2.2.2.2.2.2.2.2.2.2.2.2.2.2.2.1 RF hrs hx hb hml hown hts hK3 hK hA hnt hX hXs hN hY hJ6 hq hJ2 hq2 hXb hbl hbA hi0 hi1 hi2 hk5 hrel hP hD hS hrc hrl kS ls hl
    · refine lv_tableIn (x := nI 24) (tgt := 1306) hx hb dL_law_44 (by decide) (by decide) rfl (by decide) ?_
      rcases hrs : f_X6_requireSearchable gc gs with E0 | ⟨⟩
      · exact lc_barAtNN st.2.2.2.2.2.2.2.2.2.2.2.2.2.2.2.2.2.2.2.2.2.2.2.2.2.2.2.2.2.2.1 RF hrs hx hb hml hown hts hK3 hK hA hnt hX hXs hN hY hJ6 hq hJ2 hq2 hXb hbl hbA hi0 hi1 hi2 hk5 hrel hP hD hS hrc hrl kN ls hl
      · exact lc_barAtNA st.2.2.2.2.2.2.2.2.2.2.2.2.2.2.2.2.2.2.2.2.2.2.2.2.2.2.2.2.2.2.2.1 RF hrs hx hb hml hown hts hK3 hK hA hnt hX hXs hN hY hJ6 hq hJ2 hq2 hXb hbl hbA hi0 hi1 hi2 hk5 hrel hP hD hS hrc hrl kS ls hl
    · refine lv_tableIn (x := nI 25) (tgt := 1362) hx hb dL_law_44 (by decide) (by decide) rfl (by decide) ?_
      exact lc_exchangedN st.2.2.2.2.2.2.2.2.2.2.2.2.2.2.2.2.2.2.2.2.2.2.2.2.2.2.2.2.2.2.2.2.2.1 RF hx hb hml hown hts hK3 hK hA hnt hX hXs hN hY hJ6 hq hJ2 hq2 hXb hbl hbA hi0 hi1 hi2 hk5 hrel hP hD hS hrc hrl kN ls hl
    · refine lv_tableIn (x := nI 26) (tgt := 1418) hx hb dL_law_44 (by decide) (by decide) rfl (by decide) ?_
      exact lc_canonN st.2.2.2.2.2.2.2.2.2.2.2.2.2.2.2.2.2.2.2.2.2.2.2.2.2.2.2.2.2.2.2.2.2.2.1 RF hx hb hml hown hts hK3 hK hA hnt hX hXs hN hY hJ6 hq hJ2 hq2 hXb hbl hbA hi0 hi1 hi2 hk5 hrel hP hD hS hrc hrl kN ls hl
    · refine lv_tableIn (x := nI 27) (tgt := 1486) hx hb dL_law_44 (by decide) (by decide) rfl (by decide) ?_
      exact lc_canonsN st.2.2.2.2.2.2.2.2.2.2.2.2.2.2.2.2.2.2.2.2.2.2.2.2.2.2.2.2.2.2.2.2.2.2.2.1 RF hx hb hml hown hts hK3 hK hA hnt hX hXs hN hY hJ6 hq hJ2 hq2 hXb hbl hbA hi0 hi1 hi2 hk5 hrel hP hD hS hrc hrl kN ls hl
    · refine lv_tableIn (x := nI 28) (tgt := 1530) hx hb dL_law_44 (by decide) (by decide) rfl (by decide) ?_
      exact lc_canonAtN st.2.2.2.2.2.2.2.2.2.2.2.2.2.2.2.2.2.2.2.2.2.2.2.2.2.2.2.2.2.2.2.2.2.2.2.2.1 RF hx hb hml hown hts hK3 hK hA hnt hX hXs hN hY hJ6 hq hJ2 hq2 hXb hbl hbA hi0 hi1 hi2 hk5 hrel hP hD hS hrc hrl kN ls hl
    · refine lv_tableIn (x := nI 29) (tgt := 1586) hx hb dL_law_44 (by decide) (by decide) rfl (by decide) ?_
      exact lc_stepShareN st.2.2.2.2.2.2.2.2.2.2.2.2.2.2.2.2.2.2.2.2.2.2.2.2.2.2.2.2.2.2.2.2.2.2.2.2.2.1 RF hx hb hml hown hts hK3 hK hA hnt hX hXs hN hY hJ6 hq hJ2 hq2 hXb hbl hbA hi0 hi1 hi2 hk5 hrel hP hD hS hrc hrl kN ls hl
    · refine lv_tableIn (x := nI 30) (tgt := 1652) hx hb dL_law_44 (by decide) (by decide) rfl (by decide) ?_
      exact lc_meanPitchN st.2.2.2.2.2.2.2.2.2.2.2.2.2.2.2.2.2.2.2.2.2.2.2.2.2.2.2.2.2.2.2.2.2.2.2.2.2.2.1 RF hx hb hml hown hts hK3 hK hA hnt hX hXs hN hY hJ6 hq hJ2 hq2 hXb hbl hbA hi0 hi1 hi2 hk5 hrel hP hD hS hrc hrl kN ls hl
    · refine lv_tableIn (x := nI 31) (tgt := 1717) hx hb dL_law_44 (by decide) (by decide) rfl (by decide) ?_
      by_cases hcs : (f_X6_costIsSumOfFaults tc tv gc gs gb gf gv wv) = 0
      · exact lc_isConsistentNN st.2.2.2.2.2.2.2.2.2.2.2.2.2.2.2.2.2.2.2.2.2.2.2.2.2.2.2.2.2.2.2.2.2.2.2.2.2.2.2.1 RF (Or.inl hcs) hx hb hml hown hts hK3 hK hA hnt hX hXs hN hY hJ6 hq hJ2 hq2 hXb hbl hbA hi0 hi1 hi2 hk5 hrel hP hD hS hrc hrl kN ls hl
      · by_cases hct : (f_X6_canTryAll gc gs gl gh) = 0
        · exact lc_isConsistentNN st.2.2.2.2.2.2.2.2.2.2.2.2.2.2.2.2.2.2.2.2.2.2.2.2.2.2.2.2.2.2.2.2.2.2.2.2.2.2.2.1 RF (Or.inr hct) hx hb hml hown hts hK3 hK hA hnt hX hXs hN hY hJ6 hq hJ2 hq2 hXb hbl hbA hi0 hi1 hi2 hk5 hrel hP hD hS hrc hrl kN ls hl
        · exact lc_isConsistentNA st.2.2.2.2.2.2.2.2.2.2.2.2.2.2.2.2.2.2.2.2.2.2.2.2.2.2.2.2.2.2.2.2.2.2.2.2.2.2.2.2.1 RF hcs hct hx hb hml hown hts hK3 hK hA hnt hX hXs hN hY hJ6 hq hJ2 hq2 hXb hbl hbA hi0 hi1 hi2 hk5 hrel hP hD hS hrc hrl kS ls hl
end
