/-! ===== what is said of a search; goodLines ===== -/
/-- the class's stamp x is of a number not above the present one -/
def old (x y : Int32) : Prop := x = (-1 : Int32) ∨ ∃ a b : Nat, b ≤ a ∧ a < 8000 ∧ x = nI b ∧ y = nI a
theorem old_n {x : Int32} {a : Nat} (ha : a < 7000) (h : old x (nI a)) : old x (nI (a + 1)) ∧ ¬ x = nI (a + 1) := by
  rcases h with h | ⟨c, b, h1, h2, h3, h4⟩
  · refine ⟨Or.inl h, fun e => ?_⟩
    rw [h] at e
    have e2 := congrArg Int32.toInt e
    rw [t_n (by omega), t_m1] at e2
    omega
  · rw [nI_eq (by omega) (by omega)] at h4
    refine ⟨Or.inr ⟨a + 1, b, by omega, by omega, h3, rfl⟩, fun e => ?_⟩
    rw [h3, nI_eq (by omega) (by omega)] at e
    omega
theorem old_r {a : Nat} (ha : a < 8000) : old (nI a) (nI a) := Or.inr ⟨a, a, Nat.le_refl _, ha, rfl, rfl⟩
def F10 (mw : Nat → Int32) (k : Nat) : Bool := decide (mw k = (10 : Int32))
/-- whether some line has no fault of a law of F -/
def fea (mc mr mb mf : Int32) (mg mw : Nat → Int32) (N W LO : Nat) (F : Nat → Bool) : Bool := decide (MT W (tot (pdc mc mr mb mf mg mw N LO F) N) N 0 (fun _ => 0) < ZZ)
def cut (F : Nat → Bool) (k : Nat) : Nat → Bool := fun j => F j && !decide (j = k)
/-- the laws that are left of B when those ahead of k are looked at -/
def brs (mc mr mb mf : Int32) (mg mw : Nat → Int32) (N W LO : Nat) (B : Nat → Bool) : Nat → (Nat → Bool)
  | 0 => B
  | k + 1 => if brs mc mr mb mf mg mw N W LO B k k = true ∧ fea mc mr mb mf mg mw N W LO (cut (brs mc mr mb mf mg mw N W LO B k) k) = false then cut (brs mc mr mb mf mg mw N W LO B k) k else brs mc mr mb mf mg mw N W LO B k
def BR (mc mr mb mf : Int32) (mg mw : Nat → Int32) (N W LO : Nat) : Nat → Bool := brs mc mr mb mf mg mw N W LO (if fea mc mr mb mf mg mw N W LO (F10 mw) = true then (fun _ => false) else F10 mw) 12
def TBU (gc gs gb gf gl gh : Int32) (gv : Nat → Int32) (sl sw so : Int32) (mv : Nat → Int32) : Prop := ∀ mr mg N W LO R, cx gs gv gc mr mg N W LO R → (gh - gl) + (1 : Int32) = nI W → gl = nI LO → sl = nI N ∧ sw = nI W ∧ so = nI LO ∧ TB gc mr gb gf mg N W LO mv
def BRU (gc gs gb gf gl gh : Int32) (gv wv : Nat → Int32) (sbs : Int32) : Prop := ∀ mr mg N W LO R mw, cx gs gv gc mr mg N W LO R → (gh - gl) + (1 : Int32) = nI W → gl = nI LO → wtr wv mw → sbs = nI (mkn (BR gc mr gb gf mg mw N W LO) 12)
def Rst : RsT := fun gn wn gc gs gb gf gl gh gv wv w =>
  match w with
  | none => True
  | some (sl, sw, so, sm, sbs, sg, sx, mv, _, _, _, kv, _, rv) => (∀ j, j < 53 → rg (kv j)) ∧ (∀ j, j < 53 → rg (rv j)) ∧ old sm gn ∧ old sg gn ∧ old sx wn ∧ (sm = gn → TBU gc gs gb gf gl gh gv sl sw so mv) ∧ (sg = gn → sx = wn → BRU gc gs gb gf gl gh gv wv sbs)
theorem rs_ok : RsOk Rst := by
  refine ⟨fun a wn gc gs gb gf gl gh gc' gs' gb' gf' gl' gh' gv wv gv' w ha h => ?_, fun a gn gc gs gb gf gl gh gv wv wv' w ha h => ?_⟩
  · rcases w with _ | ⟨sl, sw, so, sm, sbs, sg, sx, mv, uv, yv, kc, kv, rc, rv⟩
    · exact trivial
    · obtain ⟨h1, h2, h3, h4, h5, h6, h7⟩ := h
      exact ⟨h1, h2, (old_n ha h3).1, (old_n ha h4).1, h5, fun e => absurd e (old_n ha h3).2, fun e => absurd e (old_n ha h4).2⟩
  · rcases w with _ | ⟨sl, sw, so, sm, sbs, sg, sx, mv, uv, yv, kc, kv, rc, rv⟩
    · exact trivial
    · obtain ⟨h1, h2, h3, h4, h5, h6, h7⟩ := h
      exact ⟨h1, h2, h3, h4, (old_n ha h5).1, h6, fun _ e => absurd e (old_n ha h5).2⟩
theorem rg_0 : rg (0 : Int32) := by
  rw [rg]
  decide
/-- a fresh search -/
theorem rs_fr {gn wn gc gs gb gf gl gh : Int32} {gv wv : Nat → Int32} (hg : ∃ a : Nat, a < 8000 ∧ gn = nI a) (hw : ∃ a : Nat, a < 8000 ∧ wn = nI a) : Rst gn wn gc gs gb gf gl gh gv wv (some ((0 : Int32), (0 : Int32), (0 : Int32), (-1 : Int32), (0 : Int32), (-1 : Int32), (-1 : Int32), zI, zI, zJ, (0 : Int32), zI, (0 : Int32), zI)) := by
  obtain ⟨a, ha, rfl⟩ := hg
  have hne : ¬ (-1 : Int32) = nI a := fun e => by
    have e2 := congrArg Int32.toInt e
    rw [t_n (by omega), t_m1] at e2
    omega
  exact ⟨fun _ _ => rg_0, fun _ _ => rg_0, Or.inl rfl, Or.inl rfl, Or.inl rfl, fun e => absurd e hne, fun e => absurd e hne⟩
/-- where a search is allowed -/
theorem ctx_of {gs gf gb gc mr mf mb gl gh : Int32} {gv tv mg ml : Nat → Int32} (hl : lnr gs gf gb gv tv gc mr mf mb mg ml) (hr : mrg gl gh) (hq : f_X6_requireSearchable gc gs = Sum.inr ()) : f_X7_searchFault gc mr = 0 ∧ ∃ N W LO R, cx gs gv gc mr mg N W LO R ∧ (gh - gl) + (1 : Int32) = nI W ∧ gl = nI LO := by
  obtain ⟨hm, hg, hf, hb, hgv, htv⟩ := hl
  rw [e_X6_requireSearchable, ma_per hg] at hq
  have h2 : (2 : Int32) ≤ gc := by
    by_cases a : (2 : Int32) ≤ gc
    · exact a
    · rw [if_neg (show ¬ (2 : Int32) ≤ f_X1_size gc from a)] at hq
      exact nomatch hq
  have h4 : ¬ mr = (4 : Int32) := by
    intro e
    rw [if_pos (show (2 : Int32) ≤ f_X1_size gc from h2), if_pos e] at hq
    exact nomatch hq
  refine ⟨by rw [e_X7_searchFault, if_pos h2, if_neg h4], ?_⟩
  obtain ⟨R, hR, hR2⟩ : ∃ R, mr = nI R ∧ (R = 1 ∨ R = 2) := by
    rcases hm.1 with e | e | e
    · exact ⟨1, e, Or.inl rfl⟩
    · exact ⟨2, e, Or.inr rfl⟩
    · exact absurd e h4
  rw [t_le, t_2] at h2
  have hgc := hm.2.2
  obtain ⟨g, hg15, rfl⟩ := t_nI (i := gc) (n := 15) hm.2.1 (by omega) (by omega)
  rw [t_n (by omega)] at h2
  obtain ⟨r1, r2, r3, r4⟩ := hr
  obtain ⟨LO, hLO, rfl⟩ := t_nI (i := gl) (n := 28) r1 (by omega) (by omega)
  rw [t_n (by omega)] at r1 r3 r4
  have ew : ((gh - nI LO) + (1 : Int32)).toInt = gh.toInt - LO + 1 := by
    rw [t_add (by rw [t_sub (by rw [t_n (by omega)]; omega) (by rw [t_n (by omega)]; omega), t_n (by omega), t_1]; omega) (by rw [t_sub (by rw [t_n (by omega)]; omega) (by rw [t_n (by omega)]; omega), t_n (by omega), t_1]; omega), t_sub (by rw [t_n (by omega)]; omega) (by rw [t_n (by omega)]; omega), t_n (by omega), t_1]
  obtain ⟨W, hW, eW⟩ := t_nI (i := (gh - nI LO) + (1 : Int32)) (n := 11) (by omega) (by omega) (by omega)
  have eW2 : gh.toInt - LO + 1 = (W : Int) := by
    rw [← ew, eW, t_n (by omega)]
  have hN : f_X7_most (nI g) mr = nI (R * (g - 1) + 1) := by
    rw [hR, most_nI R (by rcases hR2 with e | e <;> rw [e] <;> simp) g (by omega), if_neg (by omega)]
  refine ⟨R * (g - 1) + 1, W, LO, R, ⟨hm, hg, hgv, hN, ?_, ⟨hR, hR2⟩, by omega, by omega⟩, eW, rfl⟩
  rcases hR2 with e | e <;> rw [e] <;> omega
theorem str_n : ∀ n, n < 28 → f_X3_stretch (nI n) = nI n := by decide +kernel
theorem im_n {a b : Nat} (h : a ≤ b) (hb : b < 1000) : imin (nI a) (nI b) = nI a := by
  rw [imin, if_neg (nI_nlt h (by omega))]
section
variable {gs gc gb gf gl gh gn wn sl sw so sm kc mr : Int32} {gv mv kv mg wv mw : Nat → Int32} {N W LO R : Nat}
/-- prepare where the table is old -/
theorem prep_n (C : cx gs gv gc mr mg N W LO R) (eW : (gh - gl) + (1 : Int32) = nI W) (eL : gl = nI LO) (hr : ∀ j, j < 53 → rg (kv j)) (hs : ¬ sm = gn) : ∃ mv' kv', f_X4_prepare sl sw so sm mv kc kv gc gs gb gf gl gh gn gv = (nI N, nI W, nI LO, gn, mv', kv', nI N) ∧ TB gc mr gb gf mg N W LO mv' ∧ (∀ j, j < 53 → rg (kv' j)) := by
  have C0 := C
  obtain ⟨hm, hg, hgv, hN, hN2, hR, hW, hLO⟩ := C
  have e1 : imin (f_X1_room gc gs) (27 : Int32) = nI N := by
    rw [ma_room hm hg, hN, show (27 : Int32) = nI 27 from rfl, im_n hN2.2 (by omega)]
  have e2 : imin (f_X1_width gl gh) (10 : Int32) = nI W := by
    rw [e_X1_width, eW, show (10 : Int32) = nI 10 from rfl, im_n hW.2 (by omega)]
  obtain ⟨mv', kv', h1, h2, h3⟩ := pr_ok (gn := gn) (mb := gb) (mf := gf) (fu := (((nI N - (1 : Int32)).toInt - (0 : Int32).toInt).toNat + 1)) (mv := mv) (u := kv) C0 e1 e2 eL (str_n N (by omega)) (by rw [show nI N - (1 : Int32) = nI (N - 1) from nI_minus (b := 1) (by omega), t_n (by omega), t_0]; omega) hr
  refine ⟨mv', kv', ?_, h2, h3⟩
  rw [e_X4_prepare, if_neg (show ¬ sm = f_X1_changes gn from hs), e1]
  exact h1
/-- the search made ready -/
theorem ready_ok (C : cx gs gv gc mr mg N W LO R) (eW : (gh - gl) + (1 : Int32) = nI W) (eL : gl = nI LO) (hr : ∀ j, j < 53 → rg (kv j)) (hT : sm = gn → TBU gc gs gb gf gl gh gv sl sw so mv) : ∃ mv' kv' kc', f_X6_readySearch gc gs gb gf gl gh gn gv sl sw so sm mv kc kv = (nI N, nI W, nI LO, gn, mv', kv', kc') ∧ TB gc mr gb gf mg N W LO mv' ∧ (∀ j, j < 53 → rg (kv' j)) ∧ TBU gc gs gb gf gl gh gv (nI N) (nI W) (nI LO) mv' := by
  have e0 : f_X6_readySearch gc gs gb gf gl gh gn gv sl sw so sm mv kc kv = f_X4_prepare sl sw so sm mv kc kv gc gs gb gf gl gh gn gv := by
    rw [e_X6_readySearch, e_X6_readySearch_j26]
  by_cases hs : sm = gn
  · have h := hT hs
    obtain ⟨h1, h2, h3, h4⟩ := h mr mg N W LO R C eW eL
    refine ⟨mv, kv, kc, ?_, h4, hr, by rw [← h1, ← h2, ← h3]; exact h⟩
    rw [e0, e_X4_prepare, if_pos (show sm = f_X1_changes gn from hs), h1, h2, h3, hs]
  · obtain ⟨mv', kv', h1, h2, h3⟩ := prep_n (sl := sl) (sw := sw) (so := so) (mv := mv) (kc := kc) (gb := gb) (gf := gf) C eW eL hr hs
    refine ⟨mv', kv', nI N, by rw [e0, h1], h2, h3, ?_⟩
    intro mr' mg' N' W' LO' R' C' eW' eL'
    obtain ⟨mv2, kv2, k1, k2, k3⟩ := prep_n (sl := sl) (sw := sw) (so := so) (mv := mv) (kc := kc) (gb := gb) (gf := gf) C' eW' eL' hr hs
    rw [h1] at k1
    injection k1 with a1 a2
    injection a2 with a2 a3
    injection a3 with a3 a4
    injection a4 with a4 a5
    injection a5 with a5 a6
    exact ⟨a1, a2, a3, by rw [a5]; exact k2⟩
/-- the set of the forbidding laws -/
theorem w10 (hw : wtr wv mw) : f_X2_weighing wv (10 : Int32) = nI (mkn (F10 mw) 12) := by
  rw [weigh_mk, mkn_congr 12 (fun k hk => ?_)]
  have h := hw k hk
  have e10 : (10 : Int32).toInt = 10 := rfl
  rw [F10]
  by_cases e : mw k = (10 : Int32)
  · rw [decide_eq_true e, decide_eq_true (by rw [h.1, e]; decide)]
  · rw [decide_eq_false e, decide_eq_false_iff_not, Classical.not_not, h.1, t_lt, e10]
    have := ti_ne e
    rw [e10] at this
    omega
theorem dg_0 (hW : 1 ≤ W) : dg W (fun _ => 0) := fun _ => show 0 < W by omega
theorem mk0 : nI (mkn (fun _ => false) 12) = (0 : Int32) := by decide
/-- the model and the class find the same least cost, and count the same -/
theorem same_V (C : cx gs gv gc mr mg N W LO R) (hw : wtr wv mw) : VT W (pdm gc mr gb gf mg mw N LO (fun _ => false)) N 0 (fun _ => 0) = VT W (pdc gc mr gb gf mg mw N LO (F10 mw)) N 0 (fun _ => 0) ∧ WT W (pdm gc mr gb gf mg mw N LO (fun _ => false)) N 0 (fun _ => 0) = WT W (pdc gc mr gb gf mg mw N LO (F10 mw)) N 0 (fun _ => 0) := by
  have PC := PD_c (F := F10 mw) (mf := gf) (mb := gb) C hw
  obtain ⟨hm, hg, hgv, hN, hN2, hR, hW, hLO⟩ := C
  have PM := PD_m (mb := gb) (mf := gf) (mg := mg) (LO := LO) (O := fun _ => false) hm hR hN hN2 hw
  have e : tot (pdm gc mr gb gf mg mw N LO (fun _ => false)) N = tot (pdc gc mr gb gf mg mw N LO (F10 mw)) N := funext (fun x => tot_eq hw hN2 (fun _ => rfl) (fun k _ => rfl) x)
  exact ⟨by rw [VT_MT PM, VT_MT PC, e], by rw [WT_CT PM hN2.2, WT_CT PC hN2.2, e]⟩
end
/-! goodLines -/
theorem s_goodLinesB : St_goodLinesB (RelB Rst) := by
  intro k tc tv gc gs gb gf gl gh gn gv wn wv mt mc mn mr mb mf mlo mhi mx mg ml mw me mo sl sw so sm sbs sg sx mv uv yv kc kv rc rv hk h hq
  have h0 := h
  obtain ⟨hl, hc, ht, hn, hw, hr, hz, hgn, hwn, hs⟩ := h
  subst hc
  obtain ⟨r1, r2, r3⟩ := hr
  subst r1 r2
  obtain ⟨hsf, N, W, LO, R, C, eW, eL⟩ := ctx_of hl r3 hq
  obtain ⟨q1, q2, q3, q4, q5, q6, q7⟩ := hs
  have hgf : gf = mf := hl.2.2.1
  have hgb : gb = mb := hl.2.2.2.1
  obtain ⟨mv', kv', kc', k1, k2, k3, k4⟩ := ready_ok (kc := kc) (gb := gb) (gf := gf) C eW eL q1 q6
  obtain ⟨u', y', g1, g2⟩ := sw_ok (F := F10 mw) C hw k2 uv yv
  obtain ⟨V, l', u2, yy2, m1, m2⟩ := gw_ok (gs := gs) (gv := gv) (mb := gb) (mf := gf) (O := fun _ => false) C hw eW eL ml me mo
  obtain ⟨pv', b1, b2⟩ := kp_0 (ml := ml) (pv := zI)
  obtain ⟨ml', b3, b4⟩ := kp_1 (ml := l') (pv := pv')
  have hW := C.2.2.2.2.2.2.1
  have hN2 := C.2.2.2.2.1
  have hcnt : f_X4_goodCount y' = V := by
    have h5 := (g2 0 (Nat.le_refl _) (by omega) (fun _ => 0) (dg_0 hW.1)).2
    rw [show d2 (fun _ => 0) 0 = 0 from rfl, show d1 (fun _ => 0) 0 = 0 from rfl, Nat.sub_zero] at h5
    rw [e_X4_goodCount, show (0 : Int32) = nI 0 from rfl, wy_n (by omega) (by omega) (by omega), h5, m2 _ (dg_0 hW.1), (same_V C hw).2]
  have e6 : f_X6_goodLines gc gs gb gf gl gh gn gv wv sl sw so sm mv uv yv kc kv = (Sum.inr V, nI N, nI W, nI LO, gn, mv', kv', kc', u', y') := by
    rw [e_X6_goodLines, hq, k1]
    show f_X6_goodLines_j8 wv uv yv (nI N) (nI W) (nI LO) gn mv' kc' kv' = _
    rw [e_X6_goodLines_j8, w10 hw, g1, hcnt]
  have e7 : f_X7_goodLines gc mr mb mf gl gh mg ml mw me mo = (V, (0 : Int32), ml', u2, yy2) := by
    rw [e_X7_goodLines, hsf, go0, b1, ← mk0, ← hgf, ← hgb, m1, b3]
    exact if_neg (by decide)
  rw [e6, e7]
  obtain ⟨ag, ha, ea⟩ := hgn
  refine ⟨fun E e => inr_ne e, rfl, fun _ => rfl, lnr_ml hl (fun j hj => (b4 j hj).trans (b2 j hj)), rfl, ht, hn, hw, ⟨rfl, rfl, r3⟩, hz, e_up ⟨ag, ha, ea⟩, e_up hwn, k3, q2, ?_, q4, q5, fun _ => k4, q7⟩
  rw [ea]
  exact old_r (by omega)
theorem s_goodLinesA : St_goodLinesA (RelB Rst) := by
  intro k tc tv gc gs gb gf gl gh gn gv wn wv mt mc mn mr mb mf mlo mhi mx mg ml mw me mo hk h hq
  obtain ⟨hl, hc, ht, hn, hw, hr, hz, ⟨ag, ha, ea⟩, ⟨aw, hb, eb⟩, -⟩ := h
  exact s_goodLinesB k tc tv gc gs gb gf gl gh gn gv wn wv mt mc mn mr mb mf mlo mhi mx mg ml mw me mo _ _ _ _ _ _ _ _ _ _ _ _ (0 : Int32) zI hk ⟨hl, hc, ht, hn, hw, hr, hz, ⟨ag, ha, ea⟩, ⟨aw, hb, eb⟩, rs_fr ⟨ag, by omega, ea⟩ ⟨aw, by omega, eb⟩⟩ hq
