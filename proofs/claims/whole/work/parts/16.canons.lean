def f_X0_faultsOf_j99 (tv : Nat → Int32) (p0 : Int32) (p1 : Int32) (v3 : Int32) (r_8 : Int32 → Int32 → Int32 → Int32) (v6 : Int32) : Int32 :=
  r_8 v6 (f_X5_plainGap (f_X3_toneAt tv v3) ((f_X3_toneAt tv (v3 - p0)) + p1)) (v3 + (1 : Int32))
theorem e_X0_faultsOf_j99 {tv : Nat → Int32} {p0 : Int32} {p1 : Int32} {v3 : Int32} {r_8 : Int32 → Int32 → Int32 → Int32} {v6 : Int32} : f_X0_faultsOf_j99 tv p0 p1 v3 r_8 v6 = r_8 v6 (f_X5_plainGap (f_X3_toneAt tv v3) ((f_X3_toneAt tv (v3 - p0)) + p1)) (v3 + (1 : Int32)) := rfl
def f_X0_faultsOf_j74 (tv : Nat → Int32) (p0 : Int32) (p1 : Int32) (v2 : Int32) (v3 : Int32) (v4 : Int32) (r_8 : Int32 → Int32 → Int32 → Int32) (v5 : Int32) : Int32 :=
  (if (f_X5_plainGap (f_X3_toneAt tv v3) ((f_X3_toneAt tv (v3 - p0)) + p1)) = v2 then (if v5 = 0 then f_X0_faultsOf_j99 tv p0 p1 v3 r_8 v4 else (if (f_X5_isPerfect (f_X5_plainGap (f_X3_toneAt tv v3) ((f_X3_toneAt tv (v3 - p0)) + p1))) = 0 then f_X0_faultsOf_j99 tv p0 p1 v3 r_8 v4 else f_X0_faultsOf_j99 tv p0 p1 v3 r_8 (v4 + (1 : Int32)))) else f_X0_faultsOf_j99 tv p0 p1 v3 r_8 v4)
theorem e_X0_faultsOf_j74 {tv : Nat → Int32} {p0 : Int32} {p1 : Int32} {v2 : Int32} {v3 : Int32} {v4 : Int32} {r_8 : Int32 → Int32 → Int32 → Int32} {v5 : Int32} : f_X0_faultsOf_j74 tv p0 p1 v2 v3 v4 r_8 v5 = (if (f_X5_plainGap (f_X3_toneAt tv v3) ((f_X3_toneAt tv (v3 - p0)) + p1)) = v2 then (if v5 = 0 then f_X0_faultsOf_j99 tv p0 p1 v3 r_8 v4 else (if (f_X5_isPerfect (f_X5_plainGap (f_X3_toneAt tv v3) ((f_X3_toneAt tv (v3 - p0)) + p1))) = 0 then f_X0_faultsOf_j99 tv p0 p1 v3 r_8 v4 else f_X0_faultsOf_j99 tv p0 p1 v3 r_8 (v4 + (1 : Int32)))) else f_X0_faultsOf_j99 tv p0 p1 v3 r_8 v4) := rfl
def f_X0_faultsOf_j73 (tv : Nat → Int32) (p0 : Int32) (p1 : Int32) (v2 : Int32) (v3 : Int32) (v4 : Int32) (r_8 : Int32 → Int32 → Int32 → Int32) : Int32 :=
  f_X0_faultsOf_j74 tv p0 p1 v2 v3 v4 r_8 (0 : Int32)
theorem e_X0_faultsOf_j73 {tv : Nat → Int32} {p0 : Int32} {p1 : Int32} {v2 : Int32} {v3 : Int32} {v4 : Int32} {r_8 : Int32 → Int32 → Int32 → Int32} : f_X0_faultsOf_j73 tv p0 p1 v2 v3 v4 r_8 = f_X0_faultsOf_j74 tv p0 p1 v2 v3 v4 r_8 (0 : Int32) := rfl
def f_X0_faultsOf_j49 (tv : Nat → Int32) (p0 : Int32) (p1 : Int32) (v2 : Int32) (v3 : Int32) (r_8 : Int32 → Int32 → Int32 → Int32) (v4 : Int32) : Int32 :=
  (if (f_X3_stepTo tv v3) = 0 then f_X0_faultsOf_j73 tv p0 p1 v2 v3 v4 r_8 else (if (f_X3_stepTo tv (v3 - p0)) = 0 then f_X0_faultsOf_j73 tv p0 p1 v2 v3 v4 r_8 else f_X0_faultsOf_j74 tv p0 p1 v2 v3 v4 r_8 (1 : Int32)))
theorem e_X0_faultsOf_j49 {tv : Nat → Int32} {p0 : Int32} {p1 : Int32} {v2 : Int32} {v3 : Int32} {r_8 : Int32 → Int32 → Int32 → Int32} {v4 : Int32} : f_X0_faultsOf_j49 tv p0 p1 v2 v3 r_8 v4 = (if (f_X3_stepTo tv v3) = 0 then f_X0_faultsOf_j73 tv p0 p1 v2 v3 v4 r_8 else (if (f_X3_stepTo tv (v3 - p0)) = 0 then f_X0_faultsOf_j73 tv p0 p1 v2 v3 v4 r_8 else f_X0_faultsOf_j74 tv p0 p1 v2 v3 v4 r_8 (1 : Int32))) := rfl
def f_X0_faultsOf_l8 (tc : Int32) (tv : Nat → Int32) (p0 : Int32) (p1 : Int32) : Nat → Int32 → Int32 → Int32 → Int32
  | 0, _, _, _ => default
  | fu + 1, v1, v2, v3 =>
    (if (f_X3_length tc) ≤ v3 then v1 else (if (f_X5_isDissonant (f_X5_plainGap (f_X3_toneAt tv v3) ((f_X3_toneAt tv (v3 - p0)) + p1))) = 0 then f_X0_faultsOf_j49 tv p0 p1 v2 v3 (f_X0_faultsOf_l8 tc tv p0 p1 fu) v1 else f_X0_faultsOf_j49 tv p0 p1 v2 v3 (f_X0_faultsOf_l8 tc tv p0 p1 fu) (v1 + (1 : Int32))))
theorem e_X0_faultsOf_l8 {fu : Nat} {tc : Int32} {tv : Nat → Int32} {p0 : Int32} {p1 : Int32} {v1 : Int32} {v2 : Int32} {v3 : Int32} : f_X0_faultsOf_l8 tc tv p0 p1 (fu + 1) v1 v2 v3 = (if (f_X3_length tc) ≤ v3 then v1 else (if (f_X5_isDissonant (f_X5_plainGap (f_X3_toneAt tv v3) ((f_X3_toneAt tv (v3 - p0)) + p1))) = 0 then f_X0_faultsOf_j49 tv p0 p1 v2 v3 (f_X0_faultsOf_l8 tc tv p0 p1 fu) v1 else f_X0_faultsOf_j49 tv p0 p1 v2 v3 (f_X0_faultsOf_l8 tc tv p0 p1 fu) (v1 + (1 : Int32)))) := rfl
def f_X0_faultsOf (tc : Int32) (tv : Nat → Int32) (p0 : Int32) (p1 : Int32) : Int32 :=
  f_X0_faultsOf_l8 tc tv p0 p1 (((f_X3_length tc).toInt - p0.toInt).toNat + 1) (0 : Int32) (-1 : Int32) p0
theorem e_X0_faultsOf {tc : Int32} {tv : Nat → Int32} {p0 : Int32} {p1 : Int32} : f_X0_faultsOf tc tv p0 p1 = f_X0_faultsOf_l8 tc tv p0 p1 (((f_X3_length tc).toInt - p0.toInt).toNat + 1) (0 : Int32) (-1 : Int32) p0 := rfl
section
variable {p : Program} {l : Launch} {e : Env} {s : State} {m : MethodId} {args : Array Value} {below : List Frame} {meth : Method} {c : Code} {Q : State → Prop} {H : Heap} {locs : List Loc} {dC : Nat → ClassId} {dI : Nat → Nat → Nat} {cI cJ : ClassId}
abbrev rm_X0_faultsOf : Room := { frames := 3, cells := 0, slots := 0, locals := 63 }
theorem hd_X0_faultsOf : yX0_faultsOf.cls ≠ "java/lang/invoke/MethodHandle" ∧ yX0_faultsOf.cls ≠ "java/lang/invoke/VarHandle" ∧ (parseMethodDescriptor yX0_faultsOf.desc).map (fun d => d.parameters.length) = some 3 := by decide +kernel
set_option maxHeartbeats 4000000 in
set_option maxRecDepth 100000 in
theorem w_X0_faultsOf {aL : Nat} {aG : Nat} {aT : Nat} {aV : Nat} {tc : Int32} {tv : Nat → Int32} {gc : Int32} {gs : Int32} {gb : Int32} {gf : Int32} {gl : Int32} {gh : Int32} {gn : Int32} {gv : Nat → Int32} {p0 : Int32} {p1 : Int32} {F : Int32} (hx : p.tables.exec = Jvm.exec) (hb : c.code = cX0_faultsOf) (hml : c.maxLocals = 8) (hown : s.vm.findClass RX0 = some m.cls) (hts : ∀ w ∈ wsX0_faultsOf, w.before args s = true) (hK : va_K (dC, dI) vwCl [(cI, .int), (cJ, .long)] s) (hP : va_P (dC, dI) vwCl [(aL, .inr (4, [.ref aG, .ref aT, .int tc])), (aT, .inl (cI, 53, .inl tv)), (aG, .inr (2, [.ref aV, .int gc, .int gs, .int gb, .int gf, .int gl, .int gh, .int gn])), (aV, .inl (cI, 14, .inl gv))] H) (hR : F = f_X0_faultsOf tc tv p0 p1) (kR : ∀ (r : Int32) (pc : Nat) (ls : Array Slot), r = F → decode cX0_faultsOf pc = .ok (.ireturn, 1) → W p l e rm_X0_faultsOf s m args below meth c H locs 0 0 Q (F0 m pc ls [.int r])) (ls : Array Slot) (hl : lv_has ls 8 [(0, .ref aL), (1, .int p0), (2, .int p1)]) : W p l e rm_X0_faultsOf s m args below meth c H locs 0 0 Q (F0 m 0 ls []) := by
  have hR := hR.trans e_X0_faultsOf
  refine lv_iconst (v := (0 : Int32)) hx hb dX0_faultsOf_0 (by decide) ?_
  refine lv_istore_n (lv' := [(3, .int (0 : Int32)), (0, .ref aL), (1, .int p0), (2, .int p1)]) hx hb dX0_faultsOf_1 rfl hl (by decide) rfl (fun ls hl => ?_)
  refine lv_iconst (v := (-1 : Int32)) hx hb dX0_faultsOf_2 (by decide +kernel) ?_
  refine lv_istore (lv' := [(4, .int (-1 : Int32)), (3, .int (0 : Int32)), (0, .ref aL), (1, .int p0), (2, .int p1)]) hx hb dX0_faultsOf_3 hl (by decide) rfl (fun ls hl => ?_)
  refine lv_iload_n hx hb dX0_faultsOf_5 rfl (lv_at hl 3 rfl) ?_
  refine lv_istore (lv' := [(5, .int p0), (4, .int (-1 : Int32)), (3, .int (0 : Int32)), (0, .ref aL), (1, .int p0), (2, .int p1)]) hx hb dX0_faultsOf_6 hl (by decide) rfl (fun ls hl => ?_)
  have L8 : ∀ (fu8 : Nat) (v1 : Int32) (v2 : Int32) (v3 : Int32), ∀ (ls : Array Slot), lv_has ls 8 [(0, .ref aL), (1, .int p0), (2, .int p1), (3, .int v1), (4, .int v2), (5, .int v3)] → ((f_X3_length tc).toInt - v3.toInt).toNat < fu8 → F = f_X0_faultsOf_l8 tc tv p0 p1 fu8 v1 v2 v3 → W p l e rm_X0_faultsOf s m args below meth c H locs 0 0 Q (F0 m 8 ls []) := by
    intro fu8
    induction fu8 with
    | zero => intro v1 v2 v3 ls hl hm; exact absurd hm (Nat.not_lt_zero _)
    | succ fu8 ih8 =>
      intro v1 v2 v3 ls hl hm8 hR
      have hR := hR.trans e_X0_faultsOf_l8
      refine lv_iload hx hb dX0_faultsOf_8 (lv_at hl 5 rfl) ?_
      refine lv_aload_n hx hb dX0_faultsOf_10 rfl (lv_at hl 0 rfl) ?_
      refine rV_i (q0 := 0) (As := []) (rest := [.int v3]) ⟨hx, hb, hml, hown, hts⟩ (m_X3_length l dC dI cI cJ aL aG aT aV tc tv gc gs gb gf gl gh gn gv) (cwV 0 hts (gi_V wm_0 wm_1 wm_2 wm_3 wm_4) rfl rfl rfl hd_X3_length ⟨Nat.le_of_ble_eq_true rfl, Nat.le_of_ble_eq_true rfl⟩) hK (hP.sub [0, 1, 2, 3] rfl) rfl rfl rfl hl.1 rfl (Nat.le_of_ble_eq_true rfl) dX0_faultsOf_11 ⟨Nat.zero_le _, Nat.zero_le _⟩ ?_
      refine lv_icmp_ge (tgt := 109) hx hb dX0_faultsOf_14 (by decide) (fun c_1 => ?_) (fun c_1 => ?_)
      · have hR := hR.trans (if_pos c_1)
        refine lv_iload_n hx hb dX0_faultsOf_109 rfl (lv_at hl 3 rfl) ?_
        exact kR v1 110 ls hR.symm dX0_faultsOf_110
      · have hR := hR.trans (if_neg c_1)
        refine lv_aload_n hx hb dX0_faultsOf_17 rfl (lv_at hl 0 rfl) ?_
        refine lv_iload hx hb dX0_faultsOf_18 (lv_at hl 5 rfl) ?_
        refine rV_i (q0 := 0) (As := [.int v3]) (rest := []) ⟨hx, hb, hml, hown, hts⟩ (m_X3_toneAt l dC dI cI cJ aL aG aT aV tc tv gc gs gb gf gl gh gn gv v3) (cwV 1 hts (gi_V wm_6 wm_7 wm_8 wm_3 wm_9) rfl rfl rfl hd_X3_toneAt ⟨Nat.le_of_ble_eq_true rfl, Nat.le_of_ble_eq_true rfl⟩) hK (hP.sub [0, 1, 2, 3] rfl) rfl rfl rfl hl.1 rfl (Nat.le_of_ble_eq_true rfl) dX0_faultsOf_20 ⟨Nat.zero_le _, Nat.zero_le _⟩ ?_
        refine lv_aload_n hx hb dX0_faultsOf_23 rfl (lv_at hl 0 rfl) ?_
        refine lv_iload hx hb dX0_faultsOf_24 (lv_at hl 5 rfl) ?_
        refine lv_iload_n hx hb dX0_faultsOf_26 rfl (lv_at hl 1 rfl) ?_
        refine lv_isub hx hb dX0_faultsOf_27 ?_
        refine rV_i (q0 := 0) (As := [.int (v3 - p0)]) (rest := [.int (f_X3_toneAt tv v3)]) ⟨hx, hb, hml, hown, hts⟩ (m_X3_toneAt l dC dI cI cJ aL aG aT aV tc tv gc gs gb gf gl gh gn gv (v3 - p0)) (cwV 1 hts (gi_V wm_6 wm_7 wm_8 wm_3 wm_9) rfl rfl rfl hd_X3_toneAt ⟨Nat.le_of_ble_eq_true rfl, Nat.le_of_ble_eq_true rfl⟩) hK (hP.sub [0, 1, 2, 3] rfl) rfl rfl rfl hl.1 rfl (Nat.le_of_ble_eq_true rfl) dX0_faultsOf_28 ⟨Nat.zero_le _, Nat.zero_le _⟩ ?_
        refine lv_iload_n hx hb dX0_faultsOf_31 rfl (lv_at hl 2 rfl) ?_
        refine lv_iadd hx hb dX0_faultsOf_32 ?_
        refine rS_i (As := [.int (f_X3_toneAt tv v3), .int ((f_X3_toneAt tv (v3 - p0)) + p1)]) (rest := []) ⟨hx, hb, hml, hown, hts⟩ (m_X5_plainGap l dC dI cI cJ (f_X3_toneAt tv v3) ((f_X3_toneAt tv (v3 - p0)) + p1)) (va_cwS 2 hts (gi_S wm_11 wm_12 wm_13 wm_14) rfl rfl rfl hd_X5_plainGap ⟨Nat.le_of_ble_eq_true rfl, Nat.le_of_ble_eq_true rfl⟩) hK (hP.sub [] rfl) rfl hl.1 rfl (Nat.le_of_ble_eq_true rfl) dX0_faultsOf_33 ⟨Nat.zero_le _, Nat.zero_le _⟩ ?_
        refine lv_istore (lv' := [(6, .int (f_X5_plainGap (f_X3_toneAt tv v3) ((f_X3_toneAt tv (v3 - p0)) + p1))), (0, .ref aL), (1, .int p0), (2, .int p1), (3, .int v1), (4, .int v2), (5, .int v3)]) hx hb dX0_faultsOf_36 hl (by decide) rfl (fun ls hl => ?_)
        refine lv_iload hx hb dX0_faultsOf_38 (lv_at hl 0 rfl) ?_
        refine rS_i (As := [.int (f_X5_plainGap (f_X3_toneAt tv v3) ((f_X3_toneAt tv (v3 - p0)) + p1))]) (rest := []) ⟨hx, hb, hml, hown, hts⟩ (m_X5_isDissonant l dC dI cI cJ (f_X5_plainGap (f_X3_toneAt tv v3) ((f_X3_toneAt tv (v3 - p0)) + p1))) (va_cwS 1 hts (gi_S wm_25 wm_26 wm_13 wm_27) rfl rfl rfl hd_X5_isDissonant ⟨Nat.le_of_ble_eq_true rfl, Nat.le_of_ble_eq_true rfl⟩) hK (hP.sub [] rfl) rfl hl.1 rfl (Nat.le_of_ble_eq_true rfl) dX0_faultsOf_40 ⟨Nat.zero_le _, Nat.zero_le _⟩ ?_
        have J49 : ∀ (v4 : Int32) (ls : Array Slot), lv_has ls 8 [(0, .ref aL), (1, .int p0), (2, .int p1), (3, .int v4), (4, .int v2), (5, .int v3), (6, .int (f_X5_plainGap (f_X3_toneAt tv v3) ((f_X3_toneAt tv (v3 - p0)) + p1)))] → F = f_X0_faultsOf_j49 tv p0 p1 v2 v3 (f_X0_faultsOf_l8 tc tv p0 p1 fu8) v4 → W p l e rm_X0_faultsOf s m args below meth c H locs 0 0 Q (F0 m 49 ls []) := by
          intro v4 ls hl hR
          have hR := hR.trans e_X0_faultsOf_j49
          refine lv_aload_n hx hb dX0_faultsOf_49 rfl (lv_at hl 0 rfl) ?_
          refine lv_iload hx hb dX0_faultsOf_50 (lv_at hl 5 rfl) ?_
          refine rV_i (q0 := 0) (As := [.int v3]) (rest := []) ⟨hx, hb, hml, hown, hts⟩ (m_X3_stepTo l dC dI cI cJ aL aG aT aV tc tv gc gs gb gf gl gh gn gv v3) (cwV 1 hts (gi_V wm_34 wm_35 wm_36 wm_3 wm_37) rfl rfl rfl hd_X3_stepTo ⟨Nat.le_of_ble_eq_true rfl, Nat.le_of_ble_eq_true rfl⟩) hK (hP.sub [0, 1, 2, 3] rfl) rfl rfl rfl hl.1 rfl (Nat.le_of_ble_eq_true rfl) dX0_faultsOf_52 ⟨Nat.zero_le _, Nat.zero_le _⟩ ?_
          have J74 : ∀ (v5 : Int32) (ls : Array Slot), lv_has ls 8 [(0, .ref aL), (1, .int p0), (2, .int p1), (3, .int v4), (4, .int v2), (5, .int v3), (6, .int (f_X5_plainGap (f_X3_toneAt tv v3) ((f_X3_toneAt tv (v3 - p0)) + p1)))] → zb v5 → F = f_X0_faultsOf_j74 tv p0 p1 v2 v3 v4 (f_X0_faultsOf_l8 tc tv p0 p1 fu8) v5 → W p l e rm_X0_faultsOf s m args below meth c H locs 0 0 Q (F0 m 74 ls [.int v5]) := by
            intro v5 ls hl hz_v5 hR
            have hR := hR.trans e_X0_faultsOf_j74
            refine lv_istore (lv' := [(7, .int v5), (0, .ref aL), (1, .int p0), (2, .int p1), (3, .int v4), (4, .int v2), (5, .int v3), (6, .int (f_X5_plainGap (f_X3_toneAt tv v3) ((f_X3_toneAt tv (v3 - p0)) + p1)))]) hx hb dX0_faultsOf_74 hl (by decide) rfl (fun ls hl => ?_)
            refine lv_iload hx hb dX0_faultsOf_76 (lv_at hl 7 rfl) ?_
            refine lv_iload hx hb dX0_faultsOf_78 (lv_at hl 5 rfl) ?_
            have J99 : ∀ (v6 : Int32) (ls : Array Slot), lv_has ls 8 [(0, .ref aL), (1, .int p0), (2, .int p1), (3, .int v6), (5, .int v3), (6, .int (f_X5_plainGap (f_X3_toneAt tv v3) ((f_X3_toneAt tv (v3 - p0)) + p1)))] → F = f_X0_faultsOf_j99 tv p0 p1 v3 (f_X0_faultsOf_l8 tc tv p0 p1 fu8) v6 → W p l e rm_X0_faultsOf s m args below meth c H locs 0 0 Q (F0 m 99 ls []) := by
              intro v6 ls hl hR
              have hR := hR.trans e_X0_faultsOf_j99
              refine lv_iload hx hb dX0_faultsOf_99 (lv_at hl 5 rfl) ?_
              refine lv_istore (lv' := [(4, .int (f_X5_plainGap (f_X3_toneAt tv v3) ((f_X3_toneAt tv (v3 - p0)) + p1))), (0, .ref aL), (1, .int p0), (2, .int p1), (3, .int v6), (5, .int v3), (6, .int (f_X5_plainGap (f_X3_toneAt tv v3) ((f_X3_toneAt tv (v3 - p0)) + p1)))]) hx hb dX0_faultsOf_101 hl (by decide) rfl (fun ls hl => ?_)
              refine lv_iinc (v := (v3 + (1 : Int32))) (lv' := [(5, .int (v3 + (1 : Int32))), (4, .int (f_X5_plainGap (f_X3_toneAt tv v3) ((f_X3_toneAt tv (v3 - p0)) + p1))), (0, .ref aL), (1, .int p0), (2, .int p1), (3, .int v6), (6, .int (f_X5_plainGap (f_X3_toneAt tv v3) ((f_X3_toneAt tv (v3 - p0)) + p1)))]) hx hb dX0_faultsOf_103 hl (k := 5) rfl rfl (by decide) rfl (fun ls hl => ?_)
              refine lv_goto (tgt := 8) hx hb dX0_faultsOf_106 (by decide) ?_
              exact ih8 v6 (f_X5_plainGap (f_X3_toneAt tv v3) ((f_X3_toneAt tv (v3 - p0)) + p1)) (v3 + (1 : Int32)) ls (lv_sub hl [2, 3, 4, 5, 1, 0] rfl) (Nat.lt_of_lt_of_le (lp_up (by assumption)) (Nat.le_of_lt_succ hm8)) hR
            refine lv_icmp_ne (tgt := 99) hx hb dX0_faultsOf_80 (by decide) (fun c_2 => ?_) (fun c_2 => ?_)
            · have hR := hR.trans (if_neg c_2)
              exact J99 v4 ls (lv_sub hl [1, 2, 3, 4, 6, 7] rfl) hR
            · have hR := hR.trans (if_pos c_2)
              refine lv_iload hx hb dX0_faultsOf_83 (lv_at hl 0 rfl) ?_
              refine lv_if_eq (tgt := 99) hx hb dX0_faultsOf_85 (by decide) (fun c_3 => ?_) (fun c_3 => ?_)
              · have hR := hR.trans (if_pos c_3)
                exact J99 v4 ls (lv_sub hl [1, 2, 3, 4, 6, 7] rfl) hR
              · have hR := hR.trans (if_neg c_3)
                refine lv_iload hx hb dX0_faultsOf_88 (lv_at hl 7 rfl) ?_
                refine rS_i (As := [.int (f_X5_plainGap (f_X3_toneAt tv v3) ((f_X3_toneAt tv (v3 - p0)) + p1))]) (rest := []) ⟨hx, hb, hml, hown, hts⟩ (m_X5_isPerfect l dC dI cI cJ (f_X5_plainGap (f_X3_toneAt tv v3) ((f_X3_toneAt tv (v3 - p0)) + p1))) (va_cwS 1 hts (gi_S wm_39 wm_29 wm_13 wm_30) rfl rfl rfl hd_X5_isPerfect ⟨Nat.le_of_ble_eq_true rfl, Nat.le_of_ble_eq_true rfl⟩) hK (hP.sub [] rfl) rfl hl.1 rfl (Nat.le_of_ble_eq_true rfl) dX0_faultsOf_90 ⟨Nat.zero_le _, Nat.zero_le _⟩ ?_
                refine lv_if_eq (tgt := 99) hx hb dX0_faultsOf_93 (by decide) (fun c_4 => ?_) (fun c_4 => ?_)
                · have hR := hR.trans (if_pos c_4)
                  exact J99 v4 ls (lv_sub hl [1, 2, 3, 4, 6, 7] rfl) hR
                · have hR := hR.trans (if_neg c_4)
                  refine lv_iinc (v := (v4 + (1 : Int32))) (lv' := [(3, .int (v4 + (1 : Int32))), (7, .int v5), (0, .ref aL), (1, .int p0), (2, .int p1), (4, .int v2), (5, .int v3), (6, .int (f_X5_plainGap (f_X3_toneAt tv v3) ((f_X3_toneAt tv (v3 - p0)) + p1)))]) hx hb dX0_faultsOf_96 hl (k := 4) rfl rfl (by decide) rfl (fun ls hl => ?_)
                  exact J99 (v4 + (1 : Int32)) ls (lv_sub hl [2, 3, 4, 0, 6, 7] rfl) hR
          have J73 : ∀ (ls : Array Slot), lv_has ls 8 [(0, .ref aL), (1, .int p0), (2, .int p1), (3, .int v4), (4, .int v2), (5, .int v3), (6, .int (f_X5_plainGap (f_X3_toneAt tv v3) ((f_X3_toneAt tv (v3 - p0)) + p1)))] → F = f_X0_faultsOf_j73 tv p0 p1 v2 v3 v4 (f_X0_faultsOf_l8 tc tv p0 p1 fu8) → W p l e rm_X0_faultsOf s m args below meth c H locs 0 0 Q (F0 m 73 ls []) := by
            intro ls hl hR
            have hR := hR.trans e_X0_faultsOf_j73
            refine lv_iconst (v := (0 : Int32)) hx hb dX0_faultsOf_73 (by decide) ?_
            exact J74 (0 : Int32) ls (lv_sub hl [0, 1, 2, 3, 4, 5, 6] rfl) (by first | exact Or.inl rfl | exact Or.inr rfl) hR
          refine lv_if_eq (tgt := 73) hx hb dX0_faultsOf_55 (by decide) (fun c_5 => ?_) (fun c_5 => ?_)
          · have hR := hR.trans (if_pos c_5)
            exact J73 ls (lv_sub hl [0, 1, 2, 3, 4, 5, 6] rfl) hR
          · have hR := hR.trans (if_neg c_5)
            refine lv_aload_n hx hb dX0_faultsOf_58 rfl (lv_at hl 0 rfl) ?_
            refine lv_iload hx hb dX0_faultsOf_59 (lv_at hl 5 rfl) ?_
            refine lv_iload_n hx hb dX0_faultsOf_61 rfl (lv_at hl 1 rfl) ?_
            refine lv_isub hx hb dX0_faultsOf_62 ?_
            refine rV_i (q0 := 0) (As := [.int (v3 - p0)]) (rest := []) ⟨hx, hb, hml, hown, hts⟩ (m_X3_stepTo l dC dI cI cJ aL aG aT aV tc tv gc gs gb gf gl gh gn gv (v3 - p0)) (cwV 1 hts (gi_V wm_34 wm_35 wm_36 wm_3 wm_37) rfl rfl rfl hd_X3_stepTo ⟨Nat.le_of_ble_eq_true rfl, Nat.le_of_ble_eq_true rfl⟩) hK (hP.sub [0, 1, 2, 3] rfl) rfl rfl rfl hl.1 rfl (Nat.le_of_ble_eq_true rfl) dX0_faultsOf_63 ⟨Nat.zero_le _, Nat.zero_le _⟩ ?_
            refine lv_if_eq (tgt := 73) hx hb dX0_faultsOf_66 (by decide) (fun c_6 => ?_) (fun c_6 => ?_)
            · have hR := hR.trans (if_pos c_6)
              exact J73 ls (lv_sub hl [0, 1, 2, 3, 4, 5, 6] rfl) hR
            · have hR := hR.trans (if_neg c_6)
              refine lv_iconst (v := (1 : Int32)) hx hb dX0_faultsOf_69 (by decide) ?_
              refine lv_goto (tgt := 74) hx hb dX0_faultsOf_70 (by decide) ?_
              exact J74 (1 : Int32) ls (lv_sub hl [0, 1, 2, 3, 4, 5, 6] rfl) (by first | exact Or.inl rfl | exact Or.inr rfl) hR
        refine lv_if_eq (tgt := 49) hx hb dX0_faultsOf_43 (by decide) (fun c_7 => ?_) (fun c_7 => ?_)
        · have hR := hR.trans (if_pos c_7)
          exact J49 v1 ls (lv_sub hl [1, 2, 3, 4, 5, 6, 0] rfl) hR
        · have hR := hR.trans (if_neg c_7)
          refine lv_iinc (v := (v1 + (1 : Int32))) (lv' := [(3, .int (v1 + (1 : Int32))), (6, .int (f_X5_plainGap (f_X3_toneAt tv v3) ((f_X3_toneAt tv (v3 - p0)) + p1))), (0, .ref aL), (1, .int p0), (2, .int p1), (4, .int v2), (5, .int v3)]) hx hb dX0_faultsOf_46 hl (k := 4) rfl rfl (by decide) rfl (fun ls hl => ?_)
          exact J49 (v1 + (1 : Int32)) ls (lv_sub hl [2, 3, 4, 0, 5, 6, 1] rfl) hR
  exact L8 (((f_X3_length tc).toInt - p0.toInt).toNat + 1) (0 : Int32) (-1 : Int32) p0 ls (lv_sub hl [3, 4, 5, 2, 1, 0] rfl) (Nat.lt_succ_self _) hR
set_option maxHeartbeats 4000000 in
set_option maxRecDepth 100000 in
theorem m_X0_faultsOf (l : Launch) (dC : Nat → ClassId) (dI : Nat → Nat → Nat) (cI cJ : ClassId) (aL : Nat) (aG : Nat) (aT : Nat) (aV : Nat) (tc : Int32) (tv : Nat → Int32) (gc : Int32) (gs : Int32) (gb : Int32) (gf : Int32) (gl : Int32) (gh : Int32) (gn : Int32) (gv : Nat → Int32) (p0 : Int32) (p1 : Int32) : Met l yX0_faultsOf wsX0_faultsOf rm_X0_faultsOf (va_Pc [.ref aL, .int p0, .int p1] (fun U => va_P (dC, dI) vwCl [(aL, .inr (4, [.ref aG, .ref aT, .int tc])), (aT, .inl (cI, 53, .inl tv)), (aG, .inr (2, [.ref aV, .int gc, .int gs, .int gb, .int gf, .int gl, .int gh, .int gn])), (aV, .inl (cI, 14, .inl gv))] U.heap ∧ va_K (dC, dI) vwCl [(cI, .int), (cJ, .long)] U)) (vp_Si (fun r => r = f_X0_faultsOf tc tv p0 p1)) 0 0 (fun _ => False) := by
  refine Met.ofW (cc := cX0_faultsOf) (maxL := 8) (ret := (some .int)) (by decide) rfl ?_
  intro p e s m args below meth c s₁ B hml hv
  obtain ⟨rfl, hP, hK⟩ := hv
  have hl := lv_entry ([.ref aL, .int p0, .int p1]) (n := 8) (Nat.le_of_ble_eq_true rfl)
  rw [lg_entry_eq]
  refine w_X0_faultsOf B.exec B.bytes hml (findClass_of_methodNamed B.named) (atoms_spec (ws := wsX0_faultsOf) B.pre) hK hP rfl (fun r pc ls er hd => ?_) _ hl
  exact W.iret B.exec B.bytes B.returns (fun t ht hW => ⟨r, rfl, er, ht⟩) (fun _ h => by cases h) hd B.notSynchronized
end
def f_X0_farthestOf (tc : Int32) : Int32 :=
  (imin (12 : Int32) ((f_X3_length tc) - (1 : Int32)))
theorem e_X0_farthestOf {tc : Int32} : f_X0_farthestOf tc = (imin (12 : Int32) ((f_X3_length tc) - (1 : Int32))) := rfl
theorem far_b {tc : Int32} : (f_X0_farthestOf tc).toInt < 2147483647 := by
  rw [e_X0_farthestOf, imin]
  split
  · rename_i h
    rw [Int32.lt_iff_toInt_lt] at h
    have e : (12 : Int32).toInt = 12 := rfl
    omega
  · decide +kernel
section
variable {p : Program} {l : Launch} {e : Env} {s : State} {m : MethodId} {args : Array Value} {below : List Frame} {meth : Method} {c : Code} {Q : State → Prop} {H : Heap} {locs : List Loc} {dC : Nat → ClassId} {dI : Nat → Nat → Nat} {cI cJ : ClassId}
abbrev rm_X0_farthestOf : Room := { frames := 1, cells := 0, slots := 0, locals := 21 }
theorem hd_X0_farthestOf : yX0_farthestOf.cls ≠ "java/lang/invoke/MethodHandle" ∧ yX0_farthestOf.cls ≠ "java/lang/invoke/VarHandle" ∧ (parseMethodDescriptor yX0_farthestOf.desc).map (fun d => d.parameters.length) = some 1 := by decide +kernel
set_option maxHeartbeats 4000000 in
set_option maxRecDepth 100000 in
theorem w_X0_farthestOf {aL : Nat} {aG : Nat} {aT : Nat} {aV : Nat} {tc : Int32} {tv : Nat → Int32} {gc : Int32} {gs : Int32} {gb : Int32} {gf : Int32} {gl : Int32} {gh : Int32} {gn : Int32} {gv : Nat → Int32} {F : Int32} (hx : p.tables.exec = Jvm.exec) (hb : c.code = cX0_farthestOf) (hml : c.maxLocals = 1) (hown : s.vm.findClass RX0 = some m.cls) (hts : ∀ w ∈ wsX0_farthestOf, w.before args s = true) (hK : va_K (dC, dI) vwCl [(cI, .int), (cJ, .long)] s) (hP : va_P (dC, dI) vwCl [(aL, .inr (4, [.ref aG, .ref aT, .int tc])), (aT, .inl (cI, 53, .inl tv)), (aG, .inr (2, [.ref aV, .int gc, .int gs, .int gb, .int gf, .int gl, .int gh, .int gn])), (aV, .inl (cI, 14, .inl gv))] H) (hR : F = f_X0_farthestOf tc) (kR : ∀ (r : Int32) (pc : Nat) (ls : Array Slot), r = F → decode cX0_farthestOf pc = .ok (.ireturn, 1) → W p l e rm_X0_farthestOf s m args below meth c H locs 0 0 Q (F0 m pc ls [.int r])) (ls : Array Slot) (hl : lv_has ls 1 [(0, .ref aL)]) : W p l e rm_X0_farthestOf s m args below meth c H locs 0 0 Q (F0 m 0 ls []) := by
  have hR := hR.trans e_X0_farthestOf
  refine lv_bipush (v := (12 : Int32)) hx hb dX0_farthestOf_0 (by decide) ?_
  refine lv_aload_n hx hb dX0_farthestOf_2 rfl (lv_at hl 0 rfl) ?_
  refine rV_i (q0 := 0) (As := []) (rest := [.int (12 : Int32)]) ⟨hx, hb, hml, hown, hts⟩ (m_X3_length l dC dI cI cJ aL aG aT aV tc tv gc gs gb gf gl gh gn gv) (cwV 0 hts (gi_V wm_0 wm_1 wm_2 wm_3 wm_4) rfl rfl rfl hd_X3_length ⟨Nat.le_of_ble_eq_true rfl, Nat.le_of_ble_eq_true rfl⟩) hK (hP.sub [0, 1, 2, 3] rfl) rfl rfl rfl hl.1 rfl (Nat.le_of_ble_eq_true rfl) dX0_farthestOf_3 ⟨Nat.zero_le _, Nat.zero_le _⟩ ?_
  refine lv_iconst (v := (1 : Int32)) hx hb dX0_farthestOf_6 (by decide) ?_
  refine lv_isub hx hb dX0_farthestOf_7 ?_
  refine w_min hx hb (hml.trans hl.1.symm) hown (hts (.methodLink RX0 35 Lib.Math.min.name) (List.mem_cons_of_mem _ wm_40)) (hts (.static Lib.Math.min.name) (List.mem_cons_of_mem _ wm_41)) (hts (.initialized "java/lang/Math") (List.mem_cons_of_mem _ wm_23)) (hts (.code Lib.Math.min.name Lib.Math.min.code 2 (some .int)) (List.mem_cons_of_mem _ wm_42)) (Nat.le_of_ble_eq_true rfl) (Nat.le_of_ble_eq_true rfl) (Nat.zero_le _) (Nat.zero_le _) dX0_farthestOf_8 ?_
  exact kR (imin (12 : Int32) ((f_X3_length tc) - (1 : Int32))) 11 ls hR.symm dX0_farthestOf_11
set_option maxHeartbeats 4000000 in
set_option maxRecDepth 100000 in
theorem m_X0_farthestOf (l : Launch) (dC : Nat → ClassId) (dI : Nat → Nat → Nat) (cI cJ : ClassId) (aL : Nat) (aG : Nat) (aT : Nat) (aV : Nat) (tc : Int32) (tv : Nat → Int32) (gc : Int32) (gs : Int32) (gb : Int32) (gf : Int32) (gl : Int32) (gh : Int32) (gn : Int32) (gv : Nat → Int32) : Met l yX0_farthestOf wsX0_farthestOf rm_X0_farthestOf (va_Pc [.ref aL] (fun U => va_P (dC, dI) vwCl [(aL, .inr (4, [.ref aG, .ref aT, .int tc])), (aT, .inl (cI, 53, .inl tv)), (aG, .inr (2, [.ref aV, .int gc, .int gs, .int gb, .int gf, .int gl, .int gh, .int gn])), (aV, .inl (cI, 14, .inl gv))] U.heap ∧ va_K (dC, dI) vwCl [(cI, .int), (cJ, .long)] U)) (vp_Si (fun r => r = f_X0_farthestOf tc)) 0 0 (fun _ => False) := by
  refine Met.ofW (cc := cX0_farthestOf) (maxL := 1) (ret := (some .int)) (by decide) rfl ?_
  intro p e s m args below meth c s₁ B hml hv
  obtain ⟨rfl, hP, hK⟩ := hv
  have hl := lv_entry ([.ref aL]) (n := 1) (Nat.le_of_ble_eq_true rfl)
  rw [lg_entry_eq]
  refine w_X0_farthestOf B.exec B.bytes hml (findClass_of_methodNamed B.named) (atoms_spec (ws := wsX0_farthestOf) B.pre) hK hP rfl (fun r pc ls er hd => ?_) _ hl
  exact W.iret B.exec B.bytes B.returns (fun t ht hW => ⟨r, rfl, er, ht⟩) (fun _ h => by cases h) hd B.notSynchronized
end
def f_X0_faultlessCount_j39 (v2 : Int32) (r_4 : Int32 → Int32 → Int32) (v6 : Int32) : Int32 :=
  r_4 v6 (v2 + (1 : Int32))
theorem e_X0_faultlessCount_j39 {v2 : Int32} {r_4 : Int32 → Int32 → Int32} {v6 : Int32} : f_X0_faultlessCount_j39 v2 r_4 v6 = r_4 v6 (v2 + (1 : Int32)) := rfl
def f_X0_faultlessCount_j33 (v4 : Int32) (r_15 : Int32 → Int32 → Int32) (v5 : Int32) : Int32 :=
  r_15 v5 (v4 + (1 : Int32))
theorem e_X0_faultlessCount_j33 {v4 : Int32} {r_15 : Int32 → Int32 → Int32} {v5 : Int32} : f_X0_faultlessCount_j33 v4 r_15 v5 = r_15 v5 (v4 + (1 : Int32)) := rfl
def f_X0_faultlessCount_l15 (tc : Int32) (tv : Nat → Int32) (v2 : Int32) (k_39 : Int32 → Int32) : Nat → Int32 → Int32 → Int32
  | 0, _, _ => default
  | fu + 1, v3, v4 =>
    (if (7 : Int32) < v4 then k_39 v3 else (if (f_X0_faultsOf tc tv v2 v4) = 0 then f_X0_faultlessCount_j33 v4 (f_X0_faultlessCount_l15 tc tv v2 k_39 fu) (v3 + (1 : Int32)) else f_X0_faultlessCount_j33 v4 (f_X0_faultlessCount_l15 tc tv v2 k_39 fu) v3))
theorem e_X0_faultlessCount_l15 {fu : Nat} {tc : Int32} {tv : Nat → Int32} {v2 : Int32} {k_39 : Int32 → Int32} {v3 : Int32} {v4 : Int32} : f_X0_faultlessCount_l15 tc tv v2 k_39 (fu + 1) v3 v4 = (if (7 : Int32) < v4 then k_39 v3 else (if (f_X0_faultsOf tc tv v2 v4) = 0 then f_X0_faultlessCount_j33 v4 (f_X0_faultlessCount_l15 tc tv v2 k_39 fu) (v3 + (1 : Int32)) else f_X0_faultlessCount_j33 v4 (f_X0_faultlessCount_l15 tc tv v2 k_39 fu) v3)) := rfl
def f_X0_faultlessCount_l4 (tc : Int32) (tv : Nat → Int32) : Nat → Int32 → Int32 → Int32
  | 0, _, _ => default
  | fu + 1, v1, v2 =>
    (if (f_X0_farthestOf tc) < v2 then v1 else f_X0_faultlessCount_l15 tc tv v2 (f_X0_faultlessCount_j39 v2 (f_X0_faultlessCount_l4 tc tv fu)) (16) v1 (-7 : Int32))
theorem e_X0_faultlessCount_l4 {fu : Nat} {tc : Int32} {tv : Nat → Int32} {v1 : Int32} {v2 : Int32} : f_X0_faultlessCount_l4 tc tv (fu + 1) v1 v2 = (if (f_X0_farthestOf tc) < v2 then v1 else f_X0_faultlessCount_l15 tc tv v2 (f_X0_faultlessCount_j39 v2 (f_X0_faultlessCount_l4 tc tv fu)) (16) v1 (-7 : Int32)) := rfl
def f_X0_faultlessCount (tc : Int32) (tv : Nat → Int32) : Int32 :=
  f_X0_faultlessCount_l4 tc tv (((f_X0_farthestOf tc).toInt + 1 - (1 : Int32).toInt).toNat + 1) (0 : Int32) (1 : Int32)
theorem e_X0_faultlessCount {tc : Int32} {tv : Nat → Int32} : f_X0_faultlessCount tc tv = f_X0_faultlessCount_l4 tc tv (((f_X0_farthestOf tc).toInt + 1 - (1 : Int32).toInt).toNat + 1) (0 : Int32) (1 : Int32) := rfl
section
variable {p : Program} {l : Launch} {e : Env} {s : State} {m : MethodId} {args : Array Value} {below : List Frame} {meth : Method} {c : Code} {Q : State → Prop} {H : Heap} {locs : List Loc} {dC : Nat → ClassId} {dI : Nat → Nat → Nat} {cI cJ : ClassId}
abbrev rm_X0_faultlessCount : Room := { frames := 4, cells := 0, slots := 0, locals := 90 }
theorem hd_X0_faultlessCount : yX0_faultlessCount.cls ≠ "java/lang/invoke/MethodHandle" ∧ yX0_faultlessCount.cls ≠ "java/lang/invoke/VarHandle" ∧ (parseMethodDescriptor yX0_faultlessCount.desc).map (fun d => d.parameters.length) = some 1 := by decide +kernel
set_option maxHeartbeats 4000000 in
set_option maxRecDepth 100000 in
theorem w_X0_faultlessCount {aL : Nat} {aG : Nat} {aT : Nat} {aV : Nat} {tc : Int32} {tv : Nat → Int32} {gc : Int32} {gs : Int32} {gb : Int32} {gf : Int32} {gl : Int32} {gh : Int32} {gn : Int32} {gv : Nat → Int32} {F : Int32} (hx : p.tables.exec = Jvm.exec) (hb : c.code = cX0_faultlessCount) (hml : c.maxLocals = 4) (hown : s.vm.findClass RX0 = some m.cls) (hts : ∀ w ∈ wsX0_faultlessCount, w.before args s = true) (hK : va_K (dC, dI) vwCl [(cI, .int), (cJ, .long)] s) (hP : va_P (dC, dI) vwCl [(aL, .inr (4, [.ref aG, .ref aT, .int tc])), (aT, .inl (cI, 53, .inl tv)), (aG, .inr (2, [.ref aV, .int gc, .int gs, .int gb, .int gf, .int gl, .int gh, .int gn])), (aV, .inl (cI, 14, .inl gv))] H) (hR : F = f_X0_faultlessCount tc tv) (kR : ∀ (r : Int32) (pc : Nat) (ls : Array Slot), r = F → decode cX0_faultlessCount pc = .ok (.ireturn, 1) → W p l e rm_X0_faultlessCount s m args below meth c H locs 0 0 Q (F0 m pc ls [.int r])) (ls : Array Slot) (hl : lv_has ls 4 [(0, .ref aL)]) : W p l e rm_X0_faultlessCount s m args below meth c H locs 0 0 Q (F0 m 0 ls []) := by
  have hR := hR.trans e_X0_faultlessCount
  refine lv_iconst (v := (0 : Int32)) hx hb dX0_faultlessCount_0 (by decide) ?_
  refine lv_istore_n (lv' := [(1, .int (0 : Int32)), (0, .ref aL)]) hx hb dX0_faultlessCount_1 rfl hl (by decide) rfl (fun ls hl => ?_)
  refine lv_iconst (v := (1 : Int32)) hx hb dX0_faultlessCount_2 (by decide) ?_
  refine lv_istore_n (lv' := [(2, .int (1 : Int32)), (1, .int (0 : Int32)), (0, .ref aL)]) hx hb dX0_faultlessCount_3 rfl hl (by decide) rfl (fun ls hl => ?_)
  have L4 : ∀ (fu4 : Nat) (v1 : Int32) (v2 : Int32), ∀ (ls : Array Slot), lv_has ls 4 [(0, .ref aL), (1, .int v1), (2, .int v2)] → ((f_X0_farthestOf tc).toInt + 1 - v2.toInt).toNat < fu4 → F = f_X0_faultlessCount_l4 tc tv fu4 v1 v2 → W p l e rm_X0_faultlessCount s m args below meth c H locs 0 0 Q (F0 m 4 ls []) := by
    intro fu4
    induction fu4 with
    | zero => intro v1 v2 ls hl hm; exact absurd hm (Nat.not_lt_zero _)
    | succ fu4 ih4 =>
      intro v1 v2 ls hl hm4 hR
      have hR := hR.trans e_X0_faultlessCount_l4
      refine lv_iload_n hx hb dX0_faultlessCount_4 rfl (lv_at hl 2 rfl) ?_
      refine lv_aload_n hx hb dX0_faultlessCount_5 rfl (lv_at hl 0 rfl) ?_
      refine rS_i (As := [.ref aL]) (rest := [.int v2]) ⟨hx, hb, hml, hown, hts⟩ (m_X0_farthestOf l dC dI cI cJ aL aG aT aV tc tv gc gs gb gf gl gh gn gv) (va_cwS 1 hts (gi_S wm_43 wm_44 wm_45 wm_46) rfl rfl rfl hd_X0_farthestOf ⟨Nat.le_of_ble_eq_true rfl, Nat.le_of_ble_eq_true rfl⟩) hK (hP.sub [0, 1, 2, 3] rfl) rfl hl.1 rfl (Nat.le_of_ble_eq_true rfl) dX0_faultlessCount_6 ⟨Nat.zero_le _, Nat.zero_le _⟩ ?_
      refine lv_icmp_gt (tgt := 45) hx hb dX0_faultlessCount_9 (by decide) (fun c_1 => ?_) (fun c_1 => ?_)
      · have hR := hR.trans (if_pos c_1)
        refine lv_iload_n hx hb dX0_faultlessCount_45 rfl (lv_at hl 1 rfl) ?_
        exact kR v1 46 ls hR.symm dX0_faultlessCount_46
      · have hR := hR.trans (if_neg c_1)
        refine lv_bipush (v := (-7 : Int32)) hx hb dX0_faultlessCount_12 (by decide +kernel) ?_
        refine lv_istore_n (lv' := [(3, .int (-7 : Int32)), (0, .ref aL), (1, .int v1), (2, .int v2)]) hx hb dX0_faultlessCount_14 rfl hl (by decide) rfl (fun ls hl => ?_)
        have L15 : ∀ (fu15 : Nat) (v3 : Int32) (v4 : Int32), ∀ (ls : Array Slot), lv_has ls 4 [(0, .ref aL), (1, .int v3), (2, .int v2), (3, .int v4)] → ((7 : Int32).toInt + 1 - v4.toInt).toNat < fu15 → F = f_X0_faultlessCount_l15 tc tv v2 (f_X0_faultlessCount_j39 v2 (f_X0_faultlessCount_l4 tc tv fu4)) fu15 v3 v4 → W p l e rm_X0_faultlessCount s m args below meth c H locs 0 0 Q (F0 m 15 ls []) := by
          intro fu15
          induction fu15 with
          | zero => intro v3 v4 ls hl hm; exact absurd hm (Nat.not_lt_zero _)
          | succ fu15 ih15 =>
            intro v3 v4 ls hl hm15 hR
            have hR := hR.trans e_X0_faultlessCount_l15
            refine lv_iload_n hx hb dX0_faultlessCount_15 rfl (lv_at hl 3 rfl) ?_
            refine lv_bipush (v := (7 : Int32)) hx hb dX0_faultlessCount_16 (by decide) ?_
            have J39 : ∀ (v6 : Int32) (ls : Array Slot), lv_has ls 4 [(0, .ref aL), (1, .int v6), (2, .int v2)] → F = f_X0_faultlessCount_j39 v2 (f_X0_faultlessCount_l4 tc tv fu4) v6 → W p l e rm_X0_faultlessCount s m args below meth c H locs 0 0 Q (F0 m 39 ls []) := by
              intro v6 ls hl hR
              have hR := hR.trans e_X0_faultlessCount_j39
              refine lv_iinc (v := (v2 + (1 : Int32))) (lv' := [(2, .int (v2 + (1 : Int32))), (0, .ref aL), (1, .int v6)]) hx hb dX0_faultlessCount_39 hl (k := 2) rfl rfl (by decide) rfl (fun ls hl => ?_)
              refine lv_goto (tgt := 4) hx hb dX0_faultlessCount_42 (by decide) ?_
              exact ih4 v6 (v2 + (1 : Int32)) ls (lv_sub hl [1, 2, 0] rfl) (Nat.lt_of_lt_of_le (lp_upe (by assumption) far_b) (Nat.le_of_lt_succ hm4)) hR
            refine lv_icmp_gt (tgt := 39) hx hb dX0_faultlessCount_18 (by decide) (fun c_2 => ?_) (fun c_2 => ?_)
            · have hR := hR.trans (if_pos c_2)
              exact J39 v3 ls (lv_sub hl [0, 1, 2] rfl) hR
            · have hR := hR.trans (if_neg c_2)
              refine lv_aload_n hx hb dX0_faultlessCount_21 rfl (lv_at hl 0 rfl) ?_
              refine lv_iload_n hx hb dX0_faultlessCount_22 rfl (lv_at hl 2 rfl) ?_
              refine lv_iload_n hx hb dX0_faultlessCount_23 rfl (lv_at hl 3 rfl) ?_
              refine rS_i (As := [.ref aL, .int v2, .int v4]) (rest := []) ⟨hx, hb, hml, hown, hts⟩ (m_X0_faultsOf l dC dI cI cJ aL aG aT aV tc tv gc gs gb gf gl gh gn gv v2 v4) (va_cwS 3 hts (gi_S wm_47 wm_48 wm_45 wm_49) rfl rfl rfl hd_X0_faultsOf ⟨Nat.le_of_ble_eq_true rfl, Nat.le_of_ble_eq_true rfl⟩) hK (hP.sub [0, 1, 2, 3] rfl) rfl hl.1 rfl (Nat.le_of_ble_eq_true rfl) dX0_faultlessCount_24 ⟨Nat.zero_le _, Nat.zero_le _⟩ ?_
              have J33 : ∀ (v5 : Int32) (ls : Array Slot), lv_has ls 4 [(0, .ref aL), (1, .int v5), (2, .int v2), (3, .int v4)] → F = f_X0_faultlessCount_j33 v4 (f_X0_faultlessCount_l15 tc tv v2 (f_X0_faultlessCount_j39 v2 (f_X0_faultlessCount_l4 tc tv fu4)) fu15) v5 → W p l e rm_X0_faultlessCount s m args below meth c H locs 0 0 Q (F0 m 33 ls []) := by
                intro v5 ls hl hR
                have hR := hR.trans e_X0_faultlessCount_j33
                refine lv_iinc (v := (v4 + (1 : Int32))) (lv' := [(3, .int (v4 + (1 : Int32))), (0, .ref aL), (1, .int v5), (2, .int v2)]) hx hb dX0_faultlessCount_33 hl (k := 3) rfl rfl (by decide) rfl (fun ls hl => ?_)
                refine lv_goto (tgt := 15) hx hb dX0_faultlessCount_36 (by decide) ?_
                exact ih15 v5 (v4 + (1 : Int32)) ls (lv_sub hl [1, 2, 3, 0] rfl) (Nat.lt_of_lt_of_le (lp_upe (by assumption) (by decide +kernel)) (Nat.le_of_lt_succ hm15)) hR
              refine lv_if_ne (tgt := 33) hx hb dX0_faultlessCount_27 (by decide) (fun c_3 => ?_) (fun c_3 => ?_)
              · have hR := hR.trans (if_neg c_3)
                exact J33 v3 ls (lv_sub hl [0, 1, 2, 3] rfl) hR
              · have hR := hR.trans (if_pos c_3)
                refine lv_iinc (v := (v3 + (1 : Int32))) (lv' := [(1, .int (v3 + (1 : Int32))), (0, .ref aL), (2, .int v2), (3, .int v4)]) hx hb dX0_faultlessCount_30 hl (k := 1) rfl rfl (by decide) rfl (fun ls hl => ?_)
                exact J33 (v3 + (1 : Int32)) ls (lv_sub hl [1, 0, 2, 3] rfl) hR
        exact L15 (16) v1 (-7 : Int32) ls (lv_sub hl [1, 2, 3, 0] rfl) (by decide +kernel) hR
  exact L4 (((f_X0_farthestOf tc).toInt + 1 - (1 : Int32).toInt).toNat + 1) (0 : Int32) (1 : Int32) ls (lv_sub hl [2, 1, 0] rfl) (Nat.lt_succ_self _) hR
set_option maxHeartbeats 4000000 in
set_option maxRecDepth 100000 in
theorem m_X0_faultlessCount (l : Launch) (dC : Nat → ClassId) (dI : Nat → Nat → Nat) (cI cJ : ClassId) (aL : Nat) (aG : Nat) (aT : Nat) (aV : Nat) (tc : Int32) (tv : Nat → Int32) (gc : Int32) (gs : Int32) (gb : Int32) (gf : Int32) (gl : Int32) (gh : Int32) (gn : Int32) (gv : Nat → Int32) : Met l yX0_faultlessCount wsX0_faultlessCount rm_X0_faultlessCount (va_Pc [.ref aL] (fun U => va_P (dC, dI) vwCl [(aL, .inr (4, [.ref aG, .ref aT, .int tc])), (aT, .inl (cI, 53, .inl tv)), (aG, .inr (2, [.ref aV, .int gc, .int gs, .int gb, .int gf, .int gl, .int gh, .int gn])), (aV, .inl (cI, 14, .inl gv))] U.heap ∧ va_K (dC, dI) vwCl [(cI, .int), (cJ, .long)] U)) (vp_Si (fun r => r = f_X0_faultlessCount tc tv)) 0 0 (fun _ => False) := by
  refine Met.ofW (cc := cX0_faultlessCount) (maxL := 4) (ret := (some .int)) (by decide) rfl ?_
  intro p e s m args below meth c s₁ B hml hv
  obtain ⟨rfl, hP, hK⟩ := hv
  have hl := lv_entry ([.ref aL]) (n := 4) (Nat.le_of_ble_eq_true rfl)
  rw [lg_entry_eq]
  refine w_X0_faultlessCount B.exec B.bytes hml (findClass_of_methodNamed B.named) (atoms_spec (ws := wsX0_faultlessCount) B.pre) hK hP rfl (fun r pc ls er hd => ?_) _ hl
  exact W.iret B.exec B.bytes B.returns (fun t ht hW => ⟨r, rfl, er, ht⟩) (fun _ h => by cases h) hd B.notSynchronized
end
def f_X0_faultlessNumber_j58 (v2 : Int32) (r_4 : Int32 → Int32 → Int32) (v6 : Int32) : Int32 :=
  r_4 v6 (v2 + (1 : Int32))
theorem e_X0_faultlessNumber_j58 {v2 : Int32} {r_4 : Int32 → Int32 → Int32} {v6 : Int32} : f_X0_faultlessNumber_j58 v2 r_4 v6 = r_4 v6 (v2 + (1 : Int32)) := rfl
def f_X0_faultlessNumber_j52 (v4 : Int32) (r_16 : Int32 → Int32 → Int32) (v5 : Int32) : Int32 :=
  r_16 v5 (v4 + (1 : Int32))
theorem e_X0_faultlessNumber_j52 {v4 : Int32} {r_16 : Int32 → Int32 → Int32} {v5 : Int32} : f_X0_faultlessNumber_j52 v4 r_16 v5 = r_16 v5 (v4 + (1 : Int32)) := rfl
def f_X0_faultlessNumber_l16 (tc : Int32) (tv : Nat → Int32) (p0 : Int32) (v2 : Int32) (k_58 : Int32 → Int32) : Nat → Int32 → Int32 → Int32
  | 0, _, _ => default
  | fu + 1, v3, v4 =>
    (if (7 : Int32) < v4 then k_58 v3 else (if (f_X0_faultsOf tc tv v2 v4) = 0 then (if v3 = p0 then ((((100 : Int32) * v2) + (50 : Int32)) + v4) else f_X0_faultlessNumber_j52 v4 (f_X0_faultlessNumber_l16 tc tv p0 v2 k_58 fu) (v3 + (1 : Int32))) else f_X0_faultlessNumber_j52 v4 (f_X0_faultlessNumber_l16 tc tv p0 v2 k_58 fu) v3))
theorem e_X0_faultlessNumber_l16 {fu : Nat} {tc : Int32} {tv : Nat → Int32} {p0 : Int32} {v2 : Int32} {k_58 : Int32 → Int32} {v3 : Int32} {v4 : Int32} : f_X0_faultlessNumber_l16 tc tv p0 v2 k_58 (fu + 1) v3 v4 = (if (7 : Int32) < v4 then k_58 v3 else (if (f_X0_faultsOf tc tv v2 v4) = 0 then (if v3 = p0 then ((((100 : Int32) * v2) + (50 : Int32)) + v4) else f_X0_faultlessNumber_j52 v4 (f_X0_faultlessNumber_l16 tc tv p0 v2 k_58 fu) (v3 + (1 : Int32))) else f_X0_faultlessNumber_j52 v4 (f_X0_faultlessNumber_l16 tc tv p0 v2 k_58 fu) v3)) := rfl
def f_X0_faultlessNumber_l4 (tc : Int32) (tv : Nat → Int32) (p0 : Int32) : Nat → Int32 → Int32 → Int32
  | 0, _, _ => default
  | fu + 1, v1, v2 =>
    (if (f_X0_farthestOf tc) < v2 then (-1 : Int32) else f_X0_faultlessNumber_l16 tc tv p0 v2 (f_X0_faultlessNumber_j58 v2 (f_X0_faultlessNumber_l4 tc tv p0 fu)) (16) v1 (-7 : Int32))
theorem e_X0_faultlessNumber_l4 {fu : Nat} {tc : Int32} {tv : Nat → Int32} {p0 : Int32} {v1 : Int32} {v2 : Int32} : f_X0_faultlessNumber_l4 tc tv p0 (fu + 1) v1 v2 = (if (f_X0_farthestOf tc) < v2 then (-1 : Int32) else f_X0_faultlessNumber_l16 tc tv p0 v2 (f_X0_faultlessNumber_j58 v2 (f_X0_faultlessNumber_l4 tc tv p0 fu)) (16) v1 (-7 : Int32)) := rfl
def f_X0_faultlessNumber (tc : Int32) (tv : Nat → Int32) (p0 : Int32) : Int32 :=
  f_X0_faultlessNumber_l4 tc tv p0 (((f_X0_farthestOf tc).toInt + 1 - (1 : Int32).toInt).toNat + 1) (0 : Int32) (1 : Int32)
theorem e_X0_faultlessNumber {tc : Int32} {tv : Nat → Int32} {p0 : Int32} : f_X0_faultlessNumber tc tv p0 = f_X0_faultlessNumber_l4 tc tv p0 (((f_X0_farthestOf tc).toInt + 1 - (1 : Int32).toInt).toNat + 1) (0 : Int32) (1 : Int32) := rfl
section
variable {p : Program} {l : Launch} {e : Env} {s : State} {m : MethodId} {args : Array Value} {below : List Frame} {meth : Method} {c : Code} {Q : State → Prop} {H : Heap} {locs : List Loc} {dC : Nat → ClassId} {dI : Nat → Nat → Nat} {cI cJ : ClassId}
abbrev rm_X0_faultlessNumber : Room := { frames := 4, cells := 0, slots := 0, locals := 90 }
theorem hd_X0_faultlessNumber : yX0_faultlessNumber.cls ≠ "java/lang/invoke/MethodHandle" ∧ yX0_faultlessNumber.cls ≠ "java/lang/invoke/VarHandle" ∧ (parseMethodDescriptor yX0_faultlessNumber.desc).map (fun d => d.parameters.length) = some 2 := by decide +kernel
set_option maxHeartbeats 4000000 in
set_option maxRecDepth 100000 in
theorem w_X0_faultlessNumber {aL : Nat} {aG : Nat} {aT : Nat} {aV : Nat} {tc : Int32} {tv : Nat → Int32} {gc : Int32} {gs : Int32} {gb : Int32} {gf : Int32} {gl : Int32} {gh : Int32} {gn : Int32} {gv : Nat → Int32} {p0 : Int32} {F : Int32} (hx : p.tables.exec = Jvm.exec) (hb : c.code = cX0_faultlessNumber) (hml : c.maxLocals = 5) (hown : s.vm.findClass RX0 = some m.cls) (hts : ∀ w ∈ wsX0_faultlessNumber, w.before args s = true) (hK : va_K (dC, dI) vwCl [(cI, .int), (cJ, .long)] s) (hP : va_P (dC, dI) vwCl [(aL, .inr (4, [.ref aG, .ref aT, .int tc])), (aT, .inl (cI, 53, .inl tv)), (aG, .inr (2, [.ref aV, .int gc, .int gs, .int gb, .int gf, .int gl, .int gh, .int gn])), (aV, .inl (cI, 14, .inl gv))] H) (hR : F = f_X0_faultlessNumber tc tv p0) (kR : ∀ (r : Int32) (pc : Nat) (ls : Array Slot), r = F → decode cX0_faultlessNumber pc = .ok (.ireturn, 1) → W p l e rm_X0_faultlessNumber s m args below meth c H locs 0 0 Q (F0 m pc ls [.int r])) (ls : Array Slot) (hl : lv_has ls 5 [(0, .ref aL), (1, .int p0)]) : W p l e rm_X0_faultlessNumber s m args below meth c H locs 0 0 Q (F0 m 0 ls []) := by
  have hR := hR.trans e_X0_faultlessNumber
  refine lv_iconst (v := (0 : Int32)) hx hb dX0_faultlessNumber_0 (by decide) ?_
  refine lv_istore_n (lv' := [(2, .int (0 : Int32)), (0, .ref aL), (1, .int p0)]) hx hb dX0_faultlessNumber_1 rfl hl (by decide) rfl (fun ls hl => ?_)
  refine lv_iconst (v := (1 : Int32)) hx hb dX0_faultlessNumber_2 (by decide) ?_
  refine lv_istore_n (lv' := [(3, .int (1 : Int32)), (2, .int (0 : Int32)), (0, .ref aL), (1, .int p0)]) hx hb dX0_faultlessNumber_3 rfl hl (by decide) rfl (fun ls hl => ?_)
  have L4 : ∀ (fu4 : Nat) (v1 : Int32) (v2 : Int32), ∀ (ls : Array Slot), lv_has ls 5 [(0, .ref aL), (1, .int p0), (2, .int v1), (3, .int v2)] → ((f_X0_farthestOf tc).toInt + 1 - v2.toInt).toNat < fu4 → F = f_X0_faultlessNumber_l4 tc tv p0 fu4 v1 v2 → W p l e rm_X0_faultlessNumber s m args below meth c H locs 0 0 Q (F0 m 4 ls []) := by
    intro fu4
    induction fu4 with
    | zero => intro v1 v2 ls hl hm; exact absurd hm (Nat.not_lt_zero _)
    | succ fu4 ih4 =>
      intro v1 v2 ls hl hm4 hR
      have hR := hR.trans e_X0_faultlessNumber_l4
      refine lv_iload_n hx hb dX0_faultlessNumber_4 rfl (lv_at hl 3 rfl) ?_
      refine lv_aload_n hx hb dX0_faultlessNumber_5 rfl (lv_at hl 0 rfl) ?_
      refine rS_i (As := [.ref aL]) (rest := [.int v2]) ⟨hx, hb, hml, hown, hts⟩ (m_X0_farthestOf l dC dI cI cJ aL aG aT aV tc tv gc gs gb gf gl gh gn gv) (va_cwS 1 hts (gi_S wm_43 wm_44 wm_45 wm_46) rfl rfl rfl hd_X0_farthestOf ⟨Nat.le_of_ble_eq_true rfl, Nat.le_of_ble_eq_true rfl⟩) hK (hP.sub [0, 1, 2, 3] rfl) rfl hl.1 rfl (Nat.le_of_ble_eq_true rfl) dX0_faultlessNumber_6 ⟨Nat.zero_le _, Nat.zero_le _⟩ ?_
      refine lv_icmp_gt (tgt := 64) hx hb dX0_faultlessNumber_9 (by decide) (fun c_1 => ?_) (fun c_1 => ?_)
      · have hR := hR.trans (if_pos c_1)
        refine lv_iconst (v := (-1 : Int32)) hx hb dX0_faultlessNumber_64 (by decide +kernel) ?_
        exact kR (-1 : Int32) 65 ls hR.symm dX0_faultlessNumber_65
      · have hR := hR.trans (if_neg c_1)
        refine lv_bipush (v := (-7 : Int32)) hx hb dX0_faultlessNumber_12 (by decide +kernel) ?_
        refine lv_istore (lv' := [(4, .int (-7 : Int32)), (0, .ref aL), (1, .int p0), (2, .int v1), (3, .int v2)]) hx hb dX0_faultlessNumber_14 hl (by decide) rfl (fun ls hl => ?_)
        have L16 : ∀ (fu16 : Nat) (v3 : Int32) (v4 : Int32), ∀ (ls : Array Slot), lv_has ls 5 [(0, .ref aL), (1, .int p0), (2, .int v3), (3, .int v2), (4, .int v4)] → ((7 : Int32).toInt + 1 - v4.toInt).toNat < fu16 → F = f_X0_faultlessNumber_l16 tc tv p0 v2 (f_X0_faultlessNumber_j58 v2 (f_X0_faultlessNumber_l4 tc tv p0 fu4)) fu16 v3 v4 → W p l e rm_X0_faultlessNumber s m args below meth c H locs 0 0 Q (F0 m 16 ls []) := by
          intro fu16
          induction fu16 with
          | zero => intro v3 v4 ls hl hm; exact absurd hm (Nat.not_lt_zero _)
          | succ fu16 ih16 =>
            intro v3 v4 ls hl hm16 hR
            have hR := hR.trans e_X0_faultlessNumber_l16
            refine lv_iload hx hb dX0_faultlessNumber_16 (lv_at hl 4 rfl) ?_
            refine lv_bipush (v := (7 : Int32)) hx hb dX0_faultlessNumber_18 (by decide) ?_
            have J58 : ∀ (v6 : Int32) (ls : Array Slot), lv_has ls 5 [(0, .ref aL), (1, .int p0), (2, .int v6), (3, .int v2)] → F = f_X0_faultlessNumber_j58 v2 (f_X0_faultlessNumber_l4 tc tv p0 fu4) v6 → W p l e rm_X0_faultlessNumber s m args below meth c H locs 0 0 Q (F0 m 58 ls []) := by
              intro v6 ls hl hR
              have hR := hR.trans e_X0_faultlessNumber_j58
              refine lv_iinc (v := (v2 + (1 : Int32))) (lv' := [(3, .int (v2 + (1 : Int32))), (0, .ref aL), (1, .int p0), (2, .int v6)]) hx hb dX0_faultlessNumber_58 hl (k := 3) rfl rfl (by decide) rfl (fun ls hl => ?_)
              refine lv_goto (tgt := 4) hx hb dX0_faultlessNumber_61 (by decide) ?_
              exact ih4 v6 (v2 + (1 : Int32)) ls (lv_sub hl [1, 2, 3, 0] rfl) (Nat.lt_of_lt_of_le (lp_upe (by assumption) far_b) (Nat.le_of_lt_succ hm4)) hR
            refine lv_icmp_gt (tgt := 58) hx hb dX0_faultlessNumber_20 (by decide) (fun c_2 => ?_) (fun c_2 => ?_)
            · have hR := hR.trans (if_pos c_2)
              exact J58 v3 ls (lv_sub hl [0, 1, 2, 3] rfl) hR
            · have hR := hR.trans (if_neg c_2)
              refine lv_aload_n hx hb dX0_faultlessNumber_23 rfl (lv_at hl 0 rfl) ?_
              refine lv_iload_n hx hb dX0_faultlessNumber_24 rfl (lv_at hl 3 rfl) ?_
              refine lv_iload hx hb dX0_faultlessNumber_25 (lv_at hl 4 rfl) ?_
              refine rS_i (As := [.ref aL, .int v2, .int v4]) (rest := []) ⟨hx, hb, hml, hown, hts⟩ (m_X0_faultsOf l dC dI cI cJ aL aG aT aV tc tv gc gs gb gf gl gh gn gv v2 v4) (va_cwS 3 hts (gi_S wm_47 wm_48 wm_45 wm_49) rfl rfl rfl hd_X0_faultsOf ⟨Nat.le_of_ble_eq_true rfl, Nat.le_of_ble_eq_true rfl⟩) hK (hP.sub [0, 1, 2, 3] rfl) rfl hl.1 rfl (Nat.le_of_ble_eq_true rfl) dX0_faultlessNumber_27 ⟨Nat.zero_le _, Nat.zero_le _⟩ ?_
              have J52 : ∀ (v5 : Int32) (ls : Array Slot), lv_has ls 5 [(0, .ref aL), (1, .int p0), (2, .int v5), (3, .int v2), (4, .int v4)] → F = f_X0_faultlessNumber_j52 v4 (f_X0_faultlessNumber_l16 tc tv p0 v2 (f_X0_faultlessNumber_j58 v2 (f_X0_faultlessNumber_l4 tc tv p0 fu4)) fu16) v5 → W p l e rm_X0_faultlessNumber s m args below meth c H locs 0 0 Q (F0 m 52 ls []) := by
                intro v5 ls hl hR
                have hR := hR.trans e_X0_faultlessNumber_j52
                refine lv_iinc (v := (v4 + (1 : Int32))) (lv' := [(4, .int (v4 + (1 : Int32))), (0, .ref aL), (1, .int p0), (2, .int v5), (3, .int v2)]) hx hb dX0_faultlessNumber_52 hl (k := 4) rfl rfl (by decide) rfl (fun ls hl => ?_)
                refine lv_goto (tgt := 16) hx hb dX0_faultlessNumber_55 (by decide) ?_
                exact ih16 v5 (v4 + (1 : Int32)) ls (lv_sub hl [1, 2, 3, 4, 0] rfl) (Nat.lt_of_lt_of_le (lp_upe (by assumption) (by decide +kernel)) (Nat.le_of_lt_succ hm16)) hR
              refine lv_if_ne (tgt := 52) hx hb dX0_faultlessNumber_30 (by decide) (fun c_3 => ?_) (fun c_3 => ?_)
              · have hR := hR.trans (if_neg c_3)
                exact J52 v3 ls (lv_sub hl [0, 1, 2, 3, 4] rfl) hR
              · have hR := hR.trans (if_pos c_3)
                refine lv_iload_n hx hb dX0_faultlessNumber_33 rfl (lv_at hl 2 rfl) ?_
                refine lv_iload_n hx hb dX0_faultlessNumber_34 rfl (lv_at hl 1 rfl) ?_
                refine lv_icmp_ne (tgt := 49) hx hb dX0_faultlessNumber_35 (by decide) (fun c_4 => ?_) (fun c_4 => ?_)
                · have hR := hR.trans (if_neg c_4)
                  refine lv_iinc (v := (v3 + (1 : Int32))) (lv' := [(2, .int (v3 + (1 : Int32))), (0, .ref aL), (1, .int p0), (3, .int v2), (4, .int v4)]) hx hb dX0_faultlessNumber_49 hl (k := 2) rfl rfl (by decide) rfl (fun ls hl => ?_)
                  exact J52 (v3 + (1 : Int32)) ls (lv_sub hl [1, 2, 0, 3, 4] rfl) hR
                · have hR := hR.trans (if_pos c_4)
                  refine lv_bipush (v := (100 : Int32)) hx hb dX0_faultlessNumber_38 (by decide) ?_
                  refine lv_iload_n hx hb dX0_faultlessNumber_40 rfl (lv_at hl 3 rfl) ?_
                  refine lv_imul hx hb dX0_faultlessNumber_41 ?_
                  refine lv_bipush (v := (50 : Int32)) hx hb dX0_faultlessNumber_42 (by decide) ?_
                  refine lv_iadd hx hb dX0_faultlessNumber_44 ?_
                  refine lv_iload hx hb dX0_faultlessNumber_45 (lv_at hl 4 rfl) ?_
                  refine lv_iadd hx hb dX0_faultlessNumber_47 ?_
                  exact kR ((((100 : Int32) * v2) + (50 : Int32)) + v4) 48 ls hR.symm dX0_faultlessNumber_48
        exact L16 (16) v1 (-7 : Int32) ls (lv_sub hl [1, 2, 3, 4, 0] rfl) (by decide +kernel) hR
  exact L4 (((f_X0_farthestOf tc).toInt + 1 - (1 : Int32).toInt).toNat + 1) (0 : Int32) (1 : Int32) ls (lv_sub hl [2, 3, 1, 0] rfl) (Nat.lt_succ_self _) hR
set_option maxHeartbeats 4000000 in
set_option maxRecDepth 100000 in
theorem m_X0_faultlessNumber (l : Launch) (dC : Nat → ClassId) (dI : Nat → Nat → Nat) (cI cJ : ClassId) (aL : Nat) (aG : Nat) (aT : Nat) (aV : Nat) (tc : Int32) (tv : Nat → Int32) (gc : Int32) (gs : Int32) (gb : Int32) (gf : Int32) (gl : Int32) (gh : Int32) (gn : Int32) (gv : Nat → Int32) (p0 : Int32) : Met l yX0_faultlessNumber wsX0_faultlessNumber rm_X0_faultlessNumber (va_Pc [.ref aL, .int p0] (fun U => va_P (dC, dI) vwCl [(aL, .inr (4, [.ref aG, .ref aT, .int tc])), (aT, .inl (cI, 53, .inl tv)), (aG, .inr (2, [.ref aV, .int gc, .int gs, .int gb, .int gf, .int gl, .int gh, .int gn])), (aV, .inl (cI, 14, .inl gv))] U.heap ∧ va_K (dC, dI) vwCl [(cI, .int), (cJ, .long)] U)) (vp_Si (fun r => r = f_X0_faultlessNumber tc tv p0)) 0 0 (fun _ => False) := by
  refine Met.ofW (cc := cX0_faultlessNumber) (maxL := 5) (ret := (some .int)) (by decide) rfl ?_
  intro p e s m args below meth c s₁ B hml hv
  obtain ⟨rfl, hP, hK⟩ := hv
  have hl := lv_entry ([.ref aL, .int p0]) (n := 5) (Nat.le_of_ble_eq_true rfl)
  rw [lg_entry_eq]
  refine w_X0_faultlessNumber B.exec B.bytes hml (findClass_of_methodNamed B.named) (atoms_spec (ws := wsX0_faultlessNumber) B.pre) hK hP rfl (fun r pc ls er hd => ?_) _ hl
  exact W.iret B.exec B.bytes B.returns (fun t ht hW => ⟨r, rfl, er, ht⟩) (fun _ h => by cases h) hd B.notSynchronized
end
