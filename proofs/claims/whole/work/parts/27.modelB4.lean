def f_X7_exchanged_j93 (mr : Int32) (v2 : Int32) (v3 : Int32) (r_40 : Int32 → Int32 → (Int32 × Int32)) (v4 : Int32) : Int32 × Int32 :=
  r_40 (v2 + v4) (v3 + mr)
theorem e_X7_exchanged_j93 {mr : Int32} {v2 : Int32} {v3 : Int32} {r_40 : Int32 → Int32 → (Int32 × Int32)} {v4 : Int32} : f_X7_exchanged_j93 mr v2 v3 r_40 v4 = r_40 (v2 + v4) (v3 + mr) := rfl
def f_X7_exchanged_l40 (mn : Int32) (mr : Int32) (mg : Nat → Int32) (ml : Nat → Int32) (p0 : Int32) (v1 : Int32) : Nat → Int32 → Int32 → (Int32 × Int32)
  | 0, _, _ => default
  | fu + 1, v2, v3 =>
    (if mn ≤ v3 then (v2, ((f_X7_goesOn v1).2)) else (if (f_X7_kind (((ml v3.toNatClampNeg) - p0) - (f_X7_givenOf mr mg v3)) ((f_X7_pitchOf ((ml v3.toNatClampNeg) - p0)) - (f_X7_pitchOf (f_X7_givenOf mr mg v3)))) = (3 : Int32) then f_X7_exchanged_j93 mr v2 v3 (f_X7_exchanged_l40 mn mr mg ml p0 v1 fu) (1 : Int32) else f_X7_exchanged_j93 mr v2 v3 (f_X7_exchanged_l40 mn mr mg ml p0 v1 fu) (0 : Int32)))
theorem e_X7_exchanged_l40 {fu : Nat} {mn : Int32} {mr : Int32} {mg : Nat → Int32} {ml : Nat → Int32} {p0 : Int32} {v1 : Int32} {v2 : Int32} {v3 : Int32} : f_X7_exchanged_l40 mn mr mg ml p0 v1 (fu + 1) v2 v3 = (if mn ≤ v3 then (v2, ((f_X7_goesOn v1).2)) else (if (f_X7_kind (((ml v3.toNatClampNeg) - p0) - (f_X7_givenOf mr mg v3)) ((f_X7_pitchOf ((ml v3.toNatClampNeg) - p0)) - (f_X7_pitchOf (f_X7_givenOf mr mg v3)))) = (3 : Int32) then f_X7_exchanged_j93 mr v2 v3 (f_X7_exchanged_l40 mn mr mg ml p0 v1 fu) (1 : Int32) else f_X7_exchanged_j93 mr v2 v3 (f_X7_exchanged_l40 mn mr mg ml p0 v1 fu) (0 : Int32))) := rfl
def f_X7_exchanged_j28 (mn : Int32) (mr : Int32) (mg : Nat → Int32) (ml : Nat → Int32) (p0 : Int32) (v1 : Int32) : Int32 × Int32 :=
  (if ((f_X7_goesOn v1).1) = 0 then ((0 : Int32), ((f_X7_goesOn v1).2)) else f_X7_exchanged_l40 mn mr mg ml p0 v1 ((mn.toInt - (0 : Int32).toInt).toNat + 1) (0 : Int32) (0 : Int32))
theorem e_X7_exchanged_j28 {mn : Int32} {mr : Int32} {mg : Nat → Int32} {ml : Nat → Int32} {p0 : Int32} {v1 : Int32} : f_X7_exchanged_j28 mn mr mg ml p0 v1 = (if ((f_X7_goesOn v1).1) = 0 then ((0 : Int32), ((f_X7_goesOn v1).2)) else f_X7_exchanged_l40 mn mr mg ml p0 v1 ((mn.toInt - (0 : Int32).toInt).toNat + 1) (0 : Int32) (0 : Int32)) := rfl
def f_X7_exchanged (mc : Int32) (mn : Int32) (mr : Int32) (mg : Nat → Int32) (ml : Nat → Int32) (p0 : Int32) : Int32 × Int32 :=
  (if (f_X7_in p0 (7 : Int32) (14 : Int32)) = 0 then f_X7_exchanged_j28 mn mr mg ml p0 (1 : Int32) else (if (f_X7_isWhole mc mn mr) = 0 then f_X7_exchanged_j28 mn mr mg ml p0 (2 : Int32) else f_X7_exchanged_j28 mn mr mg ml p0 (0 : Int32)))
theorem e_X7_exchanged {mc : Int32} {mn : Int32} {mr : Int32} {mg : Nat → Int32} {ml : Nat → Int32} {p0 : Int32} : f_X7_exchanged mc mn mr mg ml p0 = (if (f_X7_in p0 (7 : Int32) (14 : Int32)) = 0 then f_X7_exchanged_j28 mn mr mg ml p0 (1 : Int32) else (if (f_X7_isWhole mc mn mr) = 0 then f_X7_exchanged_j28 mn mr mg ml p0 (2 : Int32) else f_X7_exchanged_j28 mn mr mg ml p0 (0 : Int32))) := rfl
section
variable {p : Program} {l : Launch} {e : Env} {s : State} {m : MethodId} {args : Array Value} {below : List Frame} {meth : Method} {c : Code} {Q : State → Prop} {H : Heap} {locs : List Loc} {dC : Nat → ClassId} {dI : Nat → Nat → Nat} {cI cJ : ClassId}
abbrev rm_X7_exchanged : Room := { frames := 2, cells := 0, slots := 0, locals := 47 }
theorem hd_X7_exchanged : yX7_exchanged.cls = RX7 ∧ yX7_exchanged.cls ≠ "java/lang/invoke/MethodHandle" ∧ yX7_exchanged.cls ≠ "java/lang/invoke/VarHandle" ∧ (parseMethodDescriptor yX7_exchanged.desc).map (fun d => d.parameters.length) = some 1 := by decide +kernel
set_option maxHeartbeats 4000000 in
set_option maxRecDepth 100000 in
theorem w_X7_exchanged {aM : Nat} {aMG : Nat} {aML : Nat} {aMW : Nat} {aME : Nat} {aMO : Nat} {mt : Int32} {mc : Int32} {mn : Int32} {mr : Int32} {mb : Int32} {mf : Int32} {mlo : Int32} {mhi : Int32} {mx : Int32} {mg : Nat → Int32} {ml : Nat → Int32} {mw : Nat → Int32} {me : Nat → Int32} {mo : Nat → Int64} {p0 : Int32} (hm : mok mc mr) (hn : mnb mc mr mn) {F : Int32 × Int32} (hx : p.tables.exec = Jvm.exec) (hb : c.code = cX7_exchanged) (hml : c.maxLocals = 5) (hown : s.vm.findClass RX7 = some m.cls) (hts : ∀ w ∈ wsX7_exchanged, w.before args s = true) (hK : va_K (dC, dI) vwCl [(cI, .int), (cJ, .long)] s) {A : Nat → Prop} {H0 : Heap} (hP : va_P (dC, dI) vwCl [(aM, .inr (7, [.int mt, .ref aMG, .int mc, .ref aML, .int mn, .int mr, .int mb, .int mf, .int mlo, .int mhi, .ref aMW, .ref aME, .ref aMO, .int mx])), (aMG, .inl (cI, 14, .inl mg)), (aML, .inl (cI, 53, .inl ml)), (aMW, .inl (cI, 12, .inl mw)), (aME, .inl (cI, 2700, .inl me)), (aMO, .inl (cJ, 2700, .inr (.inl mo)))] H) (hD : va_D A [(aM, .inr (7, [.int mt, .ref aMG, .int mc, .ref aML, .int mn, .int mr, .int mb, .int mf, .int mlo, .int mhi, .ref aMW, .ref aME, .ref aMO, .int mx])), (aMG, .inl (cI, 14, .inl mg)), (aML, .inl (cI, 53, .inl ml)), (aMW, .inl (cI, 12, .inl mw)), (aME, .inl (cI, 2700, .inl me)), (aMO, .inl (cJ, 2700, .inr (.inl mo)))]) (hS : va_S A H0 H locs) (hA : ∀ q, H0.size ≤ q → A q) (hR : F = f_X7_exchanged mc mn mr mg ml p0) (kR : ∀ (r : Int32) (pc : Nat) (ls : Array Slot) (H : Heap) (locs : List Loc) (mt' : Int32), va_P (dC, dI) vwCl [(aM, .inr (7, [.int mt', .ref aMG, .int mc, .ref aML, .int mn, .int mr, .int mb, .int mf, .int mlo, .int mhi, .ref aMW, .ref aME, .ref aMO, .int mx])), (aMG, .inl (cI, 14, .inl mg)), (aML, .inl (cI, 53, .inl ml)), (aMW, .inl (cI, 12, .inl mw)), (aME, .inl (cI, 2700, .inl me)), (aMO, .inl (cJ, 2700, .inr (.inl mo)))] H → va_D A [(aM, .inr (7, [.int mt', .ref aMG, .int mc, .ref aML, .int mn, .int mr, .int mb, .int mf, .int mlo, .int mhi, .ref aMW, .ref aME, .ref aMO, .int mx])), (aMG, .inl (cI, 14, .inl mg)), (aML, .inl (cI, 53, .inl ml)), (aMW, .inl (cI, 12, .inl mw)), (aME, .inl (cI, 2700, .inl me)), (aMO, .inl (cJ, 2700, .inr (.inl mo)))] → va_S A H0 H locs → (r, mt') = F → decode cX7_exchanged pc = .ok (.ireturn, 1) → W p l e rm_X7_exchanged s m args below meth c H locs 0 0 Q (F0 m pc ls [.int r])) (ls : Array Slot) (hl : lv_has ls 5 [(0, .ref aM), (1, .int p0)]) : W p l e rm_X7_exchanged s m args below meth c H locs 0 0 Q (F0 m 0 ls []) := by
  have hR := hR.trans e_X7_exchanged
  refine lv_aload_n hx hb dX7_exchanged_0 rfl (lv_at hl 0 rfl) ?_
  refine lv_iload_n hx hb dX7_exchanged_1 rfl (lv_at hl 1 rfl) ?_
  refine lv_bipush (v := (7 : Int32)) hx hb dX7_exchanged_2 (by decide) ?_
  refine lv_bipush (v := (14 : Int32)) hx hb dX7_exchanged_4 (by decide) ?_
  refine rS_i (As := [.int p0, .int (7 : Int32), .int (14 : Int32)]) (rest := [.ref aM]) ⟨hx, hb, hml, hown, hts⟩ (m_X7_in l dC dI cI cJ p0 (7 : Int32) (14 : Int32)) (va_cwS 3 hts (gi_S wm_635 wm_636 wm_633 wm_637) rfl rfl rfl hd_X7_in ⟨Nat.le_of_ble_eq_true rfl, Nat.le_of_ble_eq_true rfl⟩) hK (hP.sub [] rfl) rfl hl.1 rfl (Nat.le_of_ble_eq_true rfl) dX7_exchanged_6 ⟨Nat.zero_le _, Nat.zero_le _⟩ ?_
  have J28 : ∀ (v1 : Int32) (H : Heap) (locs : List Loc), va_P (dC, dI) vwCl [(aM, .inr (7, [.int mt, .ref aMG, .int mc, .ref aML, .int mn, .int mr, .int mb, .int mf, .int mlo, .int mhi, .ref aMW, .ref aME, .ref aMO, .int mx])), (aMG, .inl (cI, 14, .inl mg)), (aML, .inl (cI, 53, .inl ml)), (aMW, .inl (cI, 12, .inl mw)), (aME, .inl (cI, 2700, .inl me)), (aMO, .inl (cJ, 2700, .inr (.inl mo)))] H → va_D A [(aM, .inr (7, [.int mt, .ref aMG, .int mc, .ref aML, .int mn, .int mr, .int mb, .int mf, .int mlo, .int mhi, .ref aMW, .ref aME, .ref aMO, .int mx])), (aMG, .inl (cI, 14, .inl mg)), (aML, .inl (cI, 53, .inl ml)), (aMW, .inl (cI, 12, .inl mw)), (aME, .inl (cI, 2700, .inl me)), (aMO, .inl (cJ, 2700, .inr (.inl mo)))] → va_S A H0 H locs → ∀ (ls : Array Slot), lv_has ls 5 [(0, .ref aM), (1, .int p0)] → F = f_X7_exchanged_j28 mn mr mg ml p0 v1 → W p l e rm_X7_exchanged s m args below meth c H locs 0 0 Q (F0 m 28 ls [.int v1, .ref aM]) := by
    intro v1 H locs hP hD hS ls hl hR
    have hR := hR.trans e_X7_exchanged_j28
    refine wV_i (q0 := 0) (As := [.int v1]) (rest := []) (wc := [(aM, .inr (7, [.int mt, .ref aMG, .int mc, .ref aML, .int mn, .int mr, .int mb, .int mf, .int mlo, .int mhi, .ref aMW, .ref aME, .ref aMO, .int mx])), (aMG, .inl (cI, 14, .inl mg)), (aML, .inl (cI, 53, .inl ml)), (aMW, .inl (cI, 12, .inl mw)), (aME, .inl (cI, 2700, .inl me)), (aMO, .inl (cJ, 2700, .inr (.inl mo)))]) (w1 := [(aM, .inr (7, [.int ((f_X7_goesOn v1).2), .ref aMG, .int mc, .ref aML, .int mn, .int mr, .int mb, .int mf, .int mlo, .int mhi, .ref aMW, .ref aME, .ref aMO, .int mx])), (aMG, .inl (cI, 14, .inl mg)), (aML, .inl (cI, 53, .inl ml)), (aMW, .inl (cI, 12, .inl mw)), (aME, .inl (cI, 2700, .inl me)), (aMO, .inl (cJ, 2700, .inr (.inl mo)))]) (wr := []) (wn := [(aM, .inr (7, [.int ((f_X7_goesOn v1).2), .ref aMG, .int mc, .ref aML, .int mn, .int mr, .int mb, .int mf, .int mlo, .int mhi, .ref aMW, .ref aME, .ref aMO, .int mx])), (aMG, .inl (cI, 14, .inl mg)), (aML, .inl (cI, 53, .inl ml)), (aMW, .inl (cI, 12, .inl mw)), (aME, .inl (cI, 2700, .inl me)), (aMO, .inl (cJ, 2700, .inr (.inl mo)))]) ⟨hx, hb, hml, hown, hts⟩ (m_X7_goesOn l dC dI cI cJ aM aMG aML aMW aME aMO mt mc mn mr mb mf mlo mhi mx mg ml mw me mo v1 H.size) (cwV 1 hts (gi_V wm_638 wm_639 wm_640 wm_633 wm_641) rfl rfl rfl hd_X7_goesOn ⟨Nat.le_of_ble_eq_true rfl, Nat.le_of_ble_eq_true rfl⟩) hK hP hD hS hA [0, 1, 2, 3, 4, 5] [] [0, 1, 2, 3, 4, 5] rfl rfl rfl (by decide) (by decide) (by decide) (by decide) rfl rfl rfl hl.1 rfl (Nat.le_of_ble_eq_true rfl) dX7_exchanged_28 ⟨Nat.zero_le _, Nat.zero_le _⟩ (fun H locs hP hD hS => ?_)
    refine lv_if_ne (tgt := 36) hx hb dX7_exchanged_31 (by decide) (fun c_1 => ?_) (fun c_1 => ?_)
    · have hR := hR.trans (if_neg c_1)
      refine lv_iconst (v := (0 : Int32)) hx hb dX7_exchanged_36 (by decide) ?_
      refine lv_istore_n (lv' := [(2, .int (0 : Int32)), (0, .ref aM), (1, .int p0)]) hx hb dX7_exchanged_37 rfl hl (by decide) rfl (fun ls hl => ?_)
      refine lv_iconst (v := (0 : Int32)) hx hb dX7_exchanged_38 (by decide) ?_
      refine lv_istore_n (lv' := [(3, .int (0 : Int32)), (2, .int (0 : Int32)), (0, .ref aM), (1, .int p0)]) hx hb dX7_exchanged_39 rfl hl (by decide) rfl (fun ls hl => ?_)
      have L40 : ∀ (fu40 : Nat) (v2 : Int32) (v3 : Int32), ∀ (H : Heap) (locs : List Loc), va_P (dC, dI) vwCl [(aM, .inr (7, [.int ((f_X7_goesOn v1).2), .ref aMG, .int mc, .ref aML, .int mn, .int mr, .int mb, .int mf, .int mlo, .int mhi, .ref aMW, .ref aME, .ref aMO, .int mx])), (aMG, .inl (cI, 14, .inl mg)), (aML, .inl (cI, 53, .inl ml)), (aMW, .inl (cI, 12, .inl mw)), (aME, .inl (cI, 2700, .inl me)), (aMO, .inl (cJ, 2700, .inr (.inl mo)))] H → va_D A [(aM, .inr (7, [.int ((f_X7_goesOn v1).2), .ref aMG, .int mc, .ref aML, .int mn, .int mr, .int mb, .int mf, .int mlo, .int mhi, .ref aMW, .ref aME, .ref aMO, .int mx])), (aMG, .inl (cI, 14, .inl mg)), (aML, .inl (cI, 53, .inl ml)), (aMW, .inl (cI, 12, .inl mw)), (aME, .inl (cI, 2700, .inl me)), (aMO, .inl (cJ, 2700, .inr (.inl mo)))] → va_S A H0 H locs → ∀ (ls : Array Slot), lv_has ls 5 [(0, .ref aM), (1, .int p0), (2, .int v2), (3, .int v3)] → (mn.toInt - v3.toInt).toNat < fu40 → (0 ≤ v3.toInt) → F = f_X7_exchanged_l40 mn mr mg ml p0 v1 fu40 v2 v3 → W p l e rm_X7_exchanged s m args below meth c H locs 0 0 Q (F0 m 40 ls []) := by
        intro fu40
        induction fu40 with
        | zero => intro v2 v3 H locs hP hD hS ls hl hm; exact absurd hm (Nat.not_lt_zero _)
        | succ fu40 ih40 =>
          intro v2 v3 H locs hP hD hS ls hl hm40 hk hR
          have hR := hR.trans e_X7_exchanged_l40
          refine lv_iload_n hx hb dX7_exchanged_40 rfl (lv_at hl 3 rfl) ?_
          refine lv_aload_n hx hb dX7_exchanged_41 rfl (lv_at hl 0 rfl) ?_
          refine va_get (D := (dC, dI)) (ci := 7) (v := .int mn) (C := RX7) (T := TX7) (N := 14) hx hb hts inC_X7 hown hK hP 0 rfl rfl 4 (by decide) (hts (.fieldLink RX7 49 "CounterpointeryModel" "notes" "I") (List.mem_cons_of_mem _ wm_650)) (fun _ h9 => h9) rfl dX7_exchanged_42 ?_
          refine lv_icmp_ge (tgt := 105) hx hb dX7_exchanged_45 (by decide) (fun c_2 => ?_) (fun c_2 => ?_)
          · have hR := hR.trans (if_pos c_2)
            refine lv_iload_n hx hb dX7_exchanged_105 rfl (lv_at hl 2 rfl) ?_
            exact kR v2 106 ls H locs ((f_X7_goesOn v1).2) hP hD hS hR.symm dX7_exchanged_106
          · have hR := hR.trans (if_neg c_2)
            refine lv_aload_n hx hb dX7_exchanged_48 rfl (lv_at hl 0 rfl) ?_
            refine va_get (D := (dC, dI)) (ci := 7) (v := .ref aML) (C := RX7) (T := TX7) (N := 14) hx hb hts inC_X7 hown hK hP 0 rfl rfl 3 (by decide) (hts (.fieldLink RX7 13 "CounterpointeryModel" "line" "[I") (List.mem_cons_of_mem _ wm_623)) (fun _ h9 => h9) rfl dX7_exchanged_49 ?_
            refine lv_iload_n hx hb dX7_exchanged_52 rfl (lv_at hl 3 rfl) ?_
            refine va_iald (D := (dC, dI)) hx hb hK hP 2 0 rfl rfl (mx_kin hm hn hk (by assumption)) dX7_exchanged_53 ?_
            refine lv_iload_n hx hb dX7_exchanged_54 rfl (lv_at hl 1 rfl) ?_
            refine lv_isub hx hb dX7_exchanged_55 ?_
            refine lv_istore (lv' := [(4, .int ((ml v3.toNatClampNeg) - p0)), (0, .ref aM), (1, .int p0), (2, .int v2), (3, .int v3)]) hx hb dX7_exchanged_56 hl (by decide) rfl (fun ls hl => ?_)
            refine lv_iload_n hx hb dX7_exchanged_58 rfl (lv_at hl 3 rfl) ?_
            refine lv_iload hx hb dX7_exchanged_59 (lv_at hl 0 rfl) ?_
            refine lv_aload_n hx hb dX7_exchanged_61 rfl (lv_at hl 1 rfl) ?_
            refine lv_iload_n hx hb dX7_exchanged_62 rfl (lv_at hl 4 rfl) ?_
            refine rV_i (q0 := 0) (As := [.int v3]) (rest := [.int ((ml v3.toNatClampNeg) - p0), .int v2]) ⟨hx, hb, hml, hown, hts⟩ (m_X7_givenOf l dC dI cI cJ aM aMG aML aMW aME aMO ((f_X7_goesOn v1).2) mc mn mr mb mf mlo mhi mx mg ml mw me mo v3 (show mok mc mr from hm) (show mix mr v3 from (mx_k hm hn (by assumption) (by assumption)))) (cwV 1 hts (gi_V wm_662 wm_663 wm_664 wm_633 wm_665) rfl rfl rfl hd_X7_givenOf ⟨Nat.le_of_ble_eq_true rfl, Nat.le_of_ble_eq_true rfl⟩) hK (hP.sub [0, 1, 2, 3, 4, 5] rfl) rfl rfl rfl hl.1 rfl (Nat.le_of_ble_eq_true rfl) dX7_exchanged_63 ⟨Nat.zero_le _, Nat.zero_le _⟩ ?_
            refine lv_isub hx hb dX7_exchanged_66 ?_
            refine lv_iload hx hb dX7_exchanged_67 (lv_at hl 0 rfl) ?_
            refine rS_i (As := [.int ((ml v3.toNatClampNeg) - p0)]) (rest := [.int (((ml v3.toNatClampNeg) - p0) - (f_X7_givenOf mr mg v3)), .int v2]) ⟨hx, hb, hml, hown, hts⟩ (m_X7_pitchOf l dC dI cI cJ ((ml v3.toNatClampNeg) - p0)) (va_cwS 1 hts (gi_S wm_656 wm_657 wm_633 wm_658) rfl rfl rfl hd_X7_pitchOf ⟨Nat.le_of_ble_eq_true rfl, Nat.le_of_ble_eq_true rfl⟩) hK (hP.sub [] rfl) rfl hl.1 rfl (Nat.le_of_ble_eq_true rfl) dX7_exchanged_69 ⟨Nat.zero_le _, Nat.zero_le _⟩ ?_
            refine lv_aload_n hx hb dX7_exchanged_72 rfl (lv_at hl 1 rfl) ?_
            refine lv_iload_n hx hb dX7_exchanged_73 rfl (lv_at hl 4 rfl) ?_
            refine rV_i (q0 := 0) (As := [.int v3]) (rest := [.int (f_X7_pitchOf ((ml v3.toNatClampNeg) - p0)), .int (((ml v3.toNatClampNeg) - p0) - (f_X7_givenOf mr mg v3)), .int v2]) ⟨hx, hb, hml, hown, hts⟩ (m_X7_givenOf l dC dI cI cJ aM aMG aML aMW aME aMO ((f_X7_goesOn v1).2) mc mn mr mb mf mlo mhi mx mg ml mw me mo v3 (show mok mc mr from hm) (show mix mr v3 from (mx_k hm hn (by assumption) (by assumption)))) (cwV 1 hts (gi_V wm_662 wm_663 wm_664 wm_633 wm_665) rfl rfl rfl hd_X7_givenOf ⟨Nat.le_of_ble_eq_true rfl, Nat.le_of_ble_eq_true rfl⟩) hK (hP.sub [0, 1, 2, 3, 4, 5] rfl) rfl rfl rfl hl.1 rfl (Nat.le_of_ble_eq_true rfl) dX7_exchanged_74 ⟨Nat.zero_le _, Nat.zero_le _⟩ ?_
            refine rS_i (As := [.int (f_X7_givenOf mr mg v3)]) (rest := [.int (f_X7_pitchOf ((ml v3.toNatClampNeg) - p0)), .int (((ml v3.toNatClampNeg) - p0) - (f_X7_givenOf mr mg v3)), .int v2]) ⟨hx, hb, hml, hown, hts⟩ (m_X7_pitchOf l dC dI cI cJ (f_X7_givenOf mr mg v3)) (va_cwS 1 hts (gi_S wm_656 wm_657 wm_633 wm_658) rfl rfl rfl hd_X7_pitchOf ⟨Nat.le_of_ble_eq_true rfl, Nat.le_of_ble_eq_true rfl⟩) hK (hP.sub [] rfl) rfl hl.1 rfl (Nat.le_of_ble_eq_true rfl) dX7_exchanged_77 ⟨Nat.zero_le _, Nat.zero_le _⟩ ?_
            refine lv_isub hx hb dX7_exchanged_80 ?_
            refine rS_i (As := [.int (((ml v3.toNatClampNeg) - p0) - (f_X7_givenOf mr mg v3)), .int ((f_X7_pitchOf ((ml v3.toNatClampNeg) - p0)) - (f_X7_pitchOf (f_X7_givenOf mr mg v3)))]) (rest := [.int v2]) ⟨hx, hb, hml, hown, hts⟩ (m_X7_kind l dC dI cI cJ (((ml v3.toNatClampNeg) - p0) - (f_X7_givenOf mr mg v3)) ((f_X7_pitchOf ((ml v3.toNatClampNeg) - p0)) - (f_X7_pitchOf (f_X7_givenOf mr mg v3)))) (va_cwS 2 hts (gi_S wm_670 wm_671 wm_633 wm_672) rfl rfl rfl hd_X7_kind ⟨Nat.le_of_ble_eq_true rfl, Nat.le_of_ble_eq_true rfl⟩) hK (hP.sub [] rfl) rfl hl.1 rfl (Nat.le_of_ble_eq_true rfl) dX7_exchanged_81 ⟨Nat.zero_le _, Nat.zero_le _⟩ ?_
            refine lv_iconst (v := (3 : Int32)) hx hb dX7_exchanged_84 (by decide) ?_
            have J93 : ∀ (v4 : Int32) (H : Heap) (locs : List Loc), va_P (dC, dI) vwCl [(aM, .inr (7, [.int ((f_X7_goesOn v1).2), .ref aMG, .int mc, .ref aML, .int mn, .int mr, .int mb, .int mf, .int mlo, .int mhi, .ref aMW, .ref aME, .ref aMO, .int mx])), (aMG, .inl (cI, 14, .inl mg)), (aML, .inl (cI, 53, .inl ml)), (aMW, .inl (cI, 12, .inl mw)), (aME, .inl (cI, 2700, .inl me)), (aMO, .inl (cJ, 2700, .inr (.inl mo)))] H → va_D A [(aM, .inr (7, [.int ((f_X7_goesOn v1).2), .ref aMG, .int mc, .ref aML, .int mn, .int mr, .int mb, .int mf, .int mlo, .int mhi, .ref aMW, .ref aME, .ref aMO, .int mx])), (aMG, .inl (cI, 14, .inl mg)), (aML, .inl (cI, 53, .inl ml)), (aMW, .inl (cI, 12, .inl mw)), (aME, .inl (cI, 2700, .inl me)), (aMO, .inl (cJ, 2700, .inr (.inl mo)))] → va_S A H0 H locs → ∀ (ls : Array Slot), lv_has ls 5 [(0, .ref aM), (1, .int p0), (3, .int v3)] → zb v4 → F = f_X7_exchanged_j93 mr v2 v3 (f_X7_exchanged_l40 mn mr mg ml p0 v1 fu40) v4 → W p l e rm_X7_exchanged s m args below meth c H locs 0 0 Q (F0 m 93 ls [.int v4, .int v2]) := by
              intro v4 H locs hP hD hS ls hl hz_v4 hR
              have hR := hR.trans e_X7_exchanged_j93
              refine lv_iadd hx hb dX7_exchanged_93 ?_
              refine lv_istore_n (lv' := [(2, .int (v2 + v4)), (0, .ref aM), (1, .int p0), (3, .int v3)]) hx hb dX7_exchanged_94 rfl hl (by decide) rfl (fun ls hl => ?_)
              refine lv_iload_n hx hb dX7_exchanged_95 rfl (lv_at hl 3 rfl) ?_
              refine lv_aload_n hx hb dX7_exchanged_96 rfl (lv_at hl 1 rfl) ?_
              refine va_get (D := (dC, dI)) (ci := 7) (v := .int mr) (C := RX7) (T := TX7) (N := 14) hx hb hts inC_X7 hown hK hP 0 rfl rfl 5 (by decide) (hts (.fieldLink RX7 16 "CounterpointeryModel" "ratio" "I") (List.mem_cons_of_mem _ wm_624)) (fun _ h9 => h9) rfl dX7_exchanged_97 ?_
              refine lv_iadd hx hb dX7_exchanged_100 ?_
              refine lv_istore_n (lv' := [(3, .int (v3 + mr)), (2, .int (v2 + v4)), (0, .ref aM), (1, .int p0)]) hx hb dX7_exchanged_101 rfl hl (by decide) rfl (fun ls hl => ?_)
              refine lv_goto (tgt := 40) hx hb dX7_exchanged_102 (by decide) ?_
              exact ih40 (v2 + v4) (v3 + mr) H locs hP hD hS ls (lv_sub hl [2, 3, 1, 0] rfl) (Nat.lt_of_lt_of_le (mx_dec hm hn hk (by assumption)) (Nat.le_of_lt_succ hm40)) (show 0 ≤ (v3 + mr).toInt from mx_sr hm hn hk (by assumption)) hR
            refine lv_icmp_ne (tgt := 92) hx hb dX7_exchanged_85 (by decide) (fun c_3 => ?_) (fun c_3 => ?_)
            · have hR := hR.trans (if_neg c_3)
              refine lv_iconst (v := (0 : Int32)) hx hb dX7_exchanged_92 (by decide) ?_
              exact J93 (0 : Int32) H locs hP hD hS ls (lv_sub hl [1, 2, 4] rfl) (by first | exact Or.inl rfl | exact Or.inr rfl) hR
            · have hR := hR.trans (if_pos c_3)
              refine lv_iconst (v := (1 : Int32)) hx hb dX7_exchanged_88 (by decide) ?_
              refine lv_goto (tgt := 93) hx hb dX7_exchanged_89 (by decide) ?_
              exact J93 (1 : Int32) H locs hP hD hS ls (lv_sub hl [1, 2, 4] rfl) (by first | exact Or.inl rfl | exact Or.inr rfl) hR
      exact L40 ((mn.toInt - (0 : Int32).toInt).toNat + 1) (0 : Int32) (0 : Int32) H locs hP hD hS ls (lv_sub hl [2, 3, 1, 0] rfl) (Nat.lt_succ_self _) (show 0 ≤ (0 : Int32).toInt from (by decide)) hR
    · have hR := hR.trans (if_pos c_1)
      refine lv_iconst (v := (0 : Int32)) hx hb dX7_exchanged_34 (by decide) ?_
      exact kR (0 : Int32) 35 ls H locs ((f_X7_goesOn v1).2) hP hD hS hR.symm dX7_exchanged_35
  refine lv_if_ne (tgt := 16) hx hb dX7_exchanged_9 (by decide) (fun c_4 => ?_) (fun c_4 => ?_)
  · have hR := hR.trans (if_neg c_4)
    refine lv_aload_n hx hb dX7_exchanged_16 rfl (lv_at hl 0 rfl) ?_
    refine rV_i (q0 := 0) (As := []) (rest := [.ref aM]) ⟨hx, hb, hml, hown, hts⟩ (m_X7_isWhole l dC dI cI cJ aM aMG aML aMW aME aMO mt mc mn mr mb mf mlo mhi mx mg ml mw me mo) (cwV 0 hts (gi_V wm_746 wm_747 wm_748 wm_633 wm_749) rfl rfl rfl hd_X7_isWhole ⟨Nat.le_of_ble_eq_true rfl, Nat.le_of_ble_eq_true rfl⟩) hK (hP.sub [0, 1, 2, 3, 4, 5] rfl) rfl rfl rfl hl.1 rfl (Nat.le_of_ble_eq_true rfl) dX7_exchanged_17 ⟨Nat.zero_le _, Nat.zero_le _⟩ ?_
    refine lv_if_ne (tgt := 27) hx hb dX7_exchanged_20 (by decide) (fun c_5 => ?_) (fun c_5 => ?_)
    · have hR := hR.trans (if_neg c_5)
      refine lv_iconst (v := (0 : Int32)) hx hb dX7_exchanged_27 (by decide) ?_
      exact J28 (0 : Int32) H locs hP hD hS ls (lv_sub hl [0, 1] rfl) hR
    · have hR := hR.trans (if_pos c_5)
      refine lv_iconst (v := (2 : Int32)) hx hb dX7_exchanged_23 (by decide) ?_
      refine lv_goto (tgt := 28) hx hb dX7_exchanged_24 (by decide) ?_
      exact J28 (2 : Int32) H locs hP hD hS ls (lv_sub hl [0, 1] rfl) hR
  · have hR := hR.trans (if_pos c_4)
    refine lv_iconst (v := (1 : Int32)) hx hb dX7_exchanged_12 (by decide) ?_
    refine lv_goto (tgt := 28) hx hb dX7_exchanged_13 (by decide) ?_
    exact J28 (1 : Int32) H locs hP hD hS ls (lv_sub hl [0, 1] rfl) hR
set_option maxHeartbeats 4000000 in
set_option maxRecDepth 100000 in
theorem m_X7_exchanged (l : Launch) (dC : Nat → ClassId) (dI : Nat → Nat → Nat) (cI cJ : ClassId) (aM : Nat) (aMG : Nat) (aML : Nat) (aMW : Nat) (aME : Nat) (aMO : Nat) (mt : Int32) (mc : Int32) (mn : Int32) (mr : Int32) (mb : Int32) (mf : Int32) (mlo : Int32) (mhi : Int32) (mx : Int32) (mg : Nat → Int32) (ml : Nat → Int32) (mw : Nat → Int32) (me : Nat → Int32) (mo : Nat → Int64) (p0 : Int32) (hm : mok mc mr) (hn : mnb mc mr mn) (sz : Nat) : Met l yX7_exchanged wsX7_exchanged rm_X7_exchanged (va_Pc [.ref aM, .int p0] (fun U => U.heap.size = sz ∧ va_P (dC, dI) vwCl [(aM, .inr (7, [.int mt, .ref aMG, .int mc, .ref aML, .int mn, .int mr, .int mb, .int mf, .int mlo, .int mhi, .ref aMW, .ref aME, .ref aMO, .int mx])), (aMG, .inl (cI, 14, .inl mg)), (aML, .inl (cI, 53, .inl ml)), (aMW, .inl (cI, 12, .inl mw)), (aME, .inl (cI, 2700, .inl me)), (aMO, .inl (cJ, 2700, .inr (.inl mo)))] U.heap ∧ va_K (dC, dI) vwCl [(cI, .int), (cJ, .long)] U ∧ va_D (fun _ => True) [(aM, .inr (7, [.int mt, .ref aMG, .int mc, .ref aML, .int mn, .int mr, .int mb, .int mf, .int mlo, .int mhi, .ref aMW, .ref aME, .ref aMO, .int mx])), (aMG, .inl (cI, 14, .inl mg)), (aML, .inl (cI, 53, .inl ml)), (aMW, .inl (cI, 12, .inl mw)), (aME, .inl (cI, 2700, .inl me)), (aMO, .inl (cJ, 2700, .inr (.inl mo)))])) (va_Qi (fun (r : Int32) (_ : Unit) => r = (f_X7_exchanged mc mn mr mg ml p0).1) (fun _ t => va_P (dC, dI) vwCl [(aM, .inr (7, [.int ((f_X7_exchanged mc mn mr mg ml p0).2), .ref aMG, .int mc, .ref aML, .int mn, .int mr, .int mb, .int mf, .int mlo, .int mhi, .ref aMW, .ref aME, .ref aMO, .int mx])), (aMG, .inl (cI, 14, .inl mg)), (aML, .inl (cI, 53, .inl ml)), (aMW, .inl (cI, 12, .inl mw)), (aME, .inl (cI, 2700, .inl me)), (aMO, .inl (cJ, 2700, .inr (.inl mo)))] t.heap ∧ va_K (dC, dI) vwCl [(cI, .int), (cJ, .long)] t ∧ va_D (va_A [(aM, .inr (7, [.int mt, .ref aMG, .int mc, .ref aML, .int mn, .int mr, .int mb, .int mf, .int mlo, .int mhi, .ref aMW, .ref aME, .ref aMO, .int mx])), (aMG, .inl (cI, 14, .inl mg)), (aML, .inl (cI, 53, .inl ml)), (aMW, .inl (cI, 12, .inl mw)), (aME, .inl (cI, 2700, .inl me)), (aMO, .inl (cJ, 2700, .inr (.inl mo)))] sz) [(aM, .inr (7, [.int ((f_X7_exchanged mc mn mr mg ml p0).2), .ref aMG, .int mc, .ref aML, .int mn, .int mr, .int mb, .int mf, .int mlo, .int mhi, .ref aMW, .ref aME, .ref aMO, .int mx])), (aMG, .inl (cI, 14, .inl mg)), (aML, .inl (cI, 53, .inl ml)), (aMW, .inl (cI, 12, .inl mw)), (aME, .inl (cI, 2700, .inl me)), (aMO, .inl (cJ, 2700, .inr (.inl mo)))]) (va_A [(aM, .inr (7, [.int mt, .ref aMG, .int mc, .ref aML, .int mn, .int mr, .int mb, .int mf, .int mlo, .int mhi, .ref aMW, .ref aME, .ref aMO, .int mx])), (aMG, .inl (cI, 14, .inl mg)), (aML, .inl (cI, 53, .inl ml)), (aMW, .inl (cI, 12, .inl mw)), (aME, .inl (cI, 2700, .inl me)), (aMO, .inl (cJ, 2700, .inr (.inl mo)))] sz)) 0 0 (va_A [(aM, .inr (7, [.int mt, .ref aMG, .int mc, .ref aML, .int mn, .int mr, .int mb, .int mf, .int mlo, .int mhi, .ref aMW, .ref aME, .ref aMO, .int mx])), (aMG, .inl (cI, 14, .inl mg)), (aML, .inl (cI, 53, .inl ml)), (aMW, .inl (cI, 12, .inl mw)), (aME, .inl (cI, 2700, .inl me)), (aMO, .inl (cJ, 2700, .inr (.inl mo)))] sz) := by
  refine Met.ofW (cc := cX7_exchanged) (maxL := 5) (ret := (some .int)) (by decide) rfl ?_
  intro p e s m args below meth c s₁ B hml hv
  obtain ⟨rfl, hsz, hP, hK, hD0⟩ := hv
  subst hsz
  have hl := lv_entry ([.ref aM, .int p0]) (n := 5) (Nat.le_of_ble_eq_true rfl)
  rw [lg_entry_eq]
  refine w_X7_exchanged hm hn B.exec B.bytes hml (findClass_of_methodNamed B.named) (atoms_spec (ws := wsX7_exchanged) B.pre) hK hP (hD0.self (sz := s.heap.size)) va_S.rf (fun q h => Or.inr h) rfl (fun r pc ls H locs mt' hP hD hS er hd => ?_) _ hl
  simp only [Prod.ext_iff] at er
  obtain ⟨e0, e1⟩ := er
  subst e0
  subst e1
  exact W.iret B.exec B.bytes B.returns (fun t ht hW => ⟨⟨_, (), rfl, rfl, by rw [ht]; exact hP, va_K.moved hW.alike hK, hD⟩, hS.F ht⟩) hS.2.2 hd B.notSynchronized
end
def f_X7_together (ml : Nat → Int32) (p0 : Int32) (p1 : Int32) (p2 : Int32) : Int32 :=
  (f_X7_kind ((ml p0.toNatClampNeg) - ((ml (p0 - p1).toNatClampNeg) + p2)) ((f_X7_pitchOf (ml p0.toNatClampNeg)) - (f_X7_pitchOf ((ml (p0 - p1).toNatClampNeg) + p2))))
theorem e_X7_together {ml : Nat → Int32} {p0 : Int32} {p1 : Int32} {p2 : Int32} : f_X7_together ml p0 p1 p2 = (f_X7_kind ((ml p0.toNatClampNeg) - ((ml (p0 - p1).toNatClampNeg) + p2)) ((f_X7_pitchOf (ml p0.toNatClampNeg)) - (f_X7_pitchOf ((ml (p0 - p1).toNatClampNeg) + p2)))) := rfl
section
variable {p : Program} {l : Launch} {e : Env} {s : State} {m : MethodId} {args : Array Value} {below : List Frame} {meth : Method} {c : Code} {Q : State → Prop} {H : Heap} {locs : List Loc} {dC : Nat → ClassId} {dI : Nat → Nat → Nat} {cI cJ : ClassId}
abbrev rm_X7_together : Room := { frames := 2, cells := 0, slots := 0, locals := 47 }
theorem hd_X7_together : yX7_together.cls = RX7 ∧ yX7_together.cls ≠ "java/lang/invoke/MethodHandle" ∧ yX7_together.cls ≠ "java/lang/invoke/VarHandle" ∧ (parseMethodDescriptor yX7_together.desc).map (fun d => d.parameters.length) = some 3 := by decide +kernel
set_option maxHeartbeats 4000000 in
set_option maxRecDepth 100000 in
theorem w_X7_together {aM : Nat} {aMG : Nat} {aML : Nat} {aMW : Nat} {aME : Nat} {aMO : Nat} {mt : Int32} {mc : Int32} {mn : Int32} {mr : Int32} {mb : Int32} {mf : Int32} {mlo : Int32} {mhi : Int32} {mx : Int32} {mg : Nat → Int32} {ml : Nat → Int32} {mw : Nat → Int32} {me : Nat → Int32} {mo : Nat → Int64} {p0 : Int32} {p1 : Int32} {p2 : Int32} (ha : 0 ≤ p0.toInt ∧ p0.toInt ≤ 52) (hb2 : 1 ≤ p1.toInt ∧ p1.toInt ≤ p0.toInt) {F : Int32} (hx : p.tables.exec = Jvm.exec) (hb : c.code = cX7_together) (hml : c.maxLocals = 5) (hown : s.vm.findClass RX7 = some m.cls) (hts : ∀ w ∈ wsX7_together, w.before args s = true) (hK : va_K (dC, dI) vwCl [(cI, .int), (cJ, .long)] s) (hP : va_P (dC, dI) vwCl [(aM, .inr (7, [.int mt, .ref aMG, .int mc, .ref aML, .int mn, .int mr, .int mb, .int mf, .int mlo, .int mhi, .ref aMW, .ref aME, .ref aMO, .int mx])), (aMG, .inl (cI, 14, .inl mg)), (aML, .inl (cI, 53, .inl ml)), (aMW, .inl (cI, 12, .inl mw)), (aME, .inl (cI, 2700, .inl me)), (aMO, .inl (cJ, 2700, .inr (.inl mo)))] H) (hR : F = f_X7_together ml p0 p1 p2) (kR : ∀ (r : Int32) (pc : Nat) (ls : Array Slot), r = F → decode cX7_together pc = .ok (.ireturn, 1) → W p l e rm_X7_together s m args below meth c H locs 0 0 Q (F0 m pc ls [.int r])) (ls : Array Slot) (hl : lv_has ls 5 [(0, .ref aM), (1, .int p0), (2, .int p1), (3, .int p2)]) : W p l e rm_X7_together s m args below meth c H locs 0 0 Q (F0 m 0 ls []) := by
  have hR := hR.trans e_X7_together
  refine lv_aload_n hx hb dX7_together_0 rfl (lv_at hl 0 rfl) ?_
  refine va_get (D := (dC, dI)) (ci := 7) (v := .ref aML) (C := RX7) (T := TX7) (N := 14) hx hb hts inC_X7 hown hK hP 0 rfl rfl 3 (by decide) (hts (.fieldLink RX7 13 "CounterpointeryModel" "line" "[I") (List.mem_cons_of_mem _ wm_623)) (fun _ h9 => h9) rfl dX7_together_1 ?_
  refine lv_iload_n hx hb dX7_together_4 rfl (lv_at hl 1 rfl) ?_
  refine lv_iload_n hx hb dX7_together_5 rfl (lv_at hl 2 rfl) ?_
  refine lv_isub hx hb dX7_together_6 ?_
  refine va_iald (D := (dC, dI)) hx hb hK hP 2 0 rfl rfl (mx_t1 ha hb2) dX7_together_7 ?_
  refine lv_iload_n hx hb dX7_together_8 rfl (lv_at hl 3 rfl) ?_
  refine lv_iadd hx hb dX7_together_9 ?_
  refine lv_istore (lv' := [(4, .int ((ml (p0 - p1).toNatClampNeg) + p2)), (0, .ref aM), (1, .int p0), (2, .int p1), (3, .int p2)]) hx hb dX7_together_10 hl (by decide) rfl (fun ls hl => ?_)
  refine lv_aload_n hx hb dX7_together_12 rfl (lv_at hl 1 rfl) ?_
  refine va_get (D := (dC, dI)) (ci := 7) (v := .ref aML) (C := RX7) (T := TX7) (N := 14) hx hb hts inC_X7 hown hK hP 0 rfl rfl 3 (by decide) (hts (.fieldLink RX7 13 "CounterpointeryModel" "line" "[I") (List.mem_cons_of_mem _ wm_623)) (fun _ h9 => h9) rfl dX7_together_13 ?_
  refine lv_iload_n hx hb dX7_together_16 rfl (lv_at hl 2 rfl) ?_
  refine va_iald (D := (dC, dI)) hx hb hK hP 2 0 rfl rfl (mx_t2 ha) dX7_together_17 ?_
  refine lv_iload hx hb dX7_together_18 (lv_at hl 0 rfl) ?_
  refine lv_isub hx hb dX7_together_20 ?_
  refine lv_aload_n hx hb dX7_together_21 rfl (lv_at hl 1 rfl) ?_
  refine va_get (D := (dC, dI)) (ci := 7) (v := .ref aML) (C := RX7) (T := TX7) (N := 14) hx hb hts inC_X7 hown hK hP 0 rfl rfl 3 (by decide) (hts (.fieldLink RX7 13 "CounterpointeryModel" "line" "[I") (List.mem_cons_of_mem _ wm_623)) (fun _ h9 => h9) rfl dX7_together_22 ?_
  refine lv_iload_n hx hb dX7_together_25 rfl (lv_at hl 2 rfl) ?_
  refine va_iald (D := (dC, dI)) hx hb hK hP 2 0 rfl rfl (mx_t2 ha) dX7_together_26 ?_
  refine rS_i (As := [.int (ml p0.toNatClampNeg)]) (rest := [.int ((ml p0.toNatClampNeg) - ((ml (p0 - p1).toNatClampNeg) + p2))]) ⟨hx, hb, hml, hown, hts⟩ (m_X7_pitchOf l dC dI cI cJ (ml p0.toNatClampNeg)) (va_cwS 1 hts (gi_S wm_656 wm_657 wm_633 wm_658) rfl rfl rfl hd_X7_pitchOf ⟨Nat.le_of_ble_eq_true rfl, Nat.le_of_ble_eq_true rfl⟩) hK (hP.sub [] rfl) rfl hl.1 rfl (Nat.le_of_ble_eq_true rfl) dX7_together_27 ⟨Nat.zero_le _, Nat.zero_le _⟩ ?_
  refine lv_iload hx hb dX7_together_30 (lv_at hl 0 rfl) ?_
  refine rS_i (As := [.int ((ml (p0 - p1).toNatClampNeg) + p2)]) (rest := [.int (f_X7_pitchOf (ml p0.toNatClampNeg)), .int ((ml p0.toNatClampNeg) - ((ml (p0 - p1).toNatClampNeg) + p2))]) ⟨hx, hb, hml, hown, hts⟩ (m_X7_pitchOf l dC dI cI cJ ((ml (p0 - p1).toNatClampNeg) + p2)) (va_cwS 1 hts (gi_S wm_656 wm_657 wm_633 wm_658) rfl rfl rfl hd_X7_pitchOf ⟨Nat.le_of_ble_eq_true rfl, Nat.le_of_ble_eq_true rfl⟩) hK (hP.sub [] rfl) rfl hl.1 rfl (Nat.le_of_ble_eq_true rfl) dX7_together_32 ⟨Nat.zero_le _, Nat.zero_le _⟩ ?_
  refine lv_isub hx hb dX7_together_35 ?_
  refine rS_i (As := [.int ((ml p0.toNatClampNeg) - ((ml (p0 - p1).toNatClampNeg) + p2)), .int ((f_X7_pitchOf (ml p0.toNatClampNeg)) - (f_X7_pitchOf ((ml (p0 - p1).toNatClampNeg) + p2)))]) (rest := []) ⟨hx, hb, hml, hown, hts⟩ (m_X7_kind l dC dI cI cJ ((ml p0.toNatClampNeg) - ((ml (p0 - p1).toNatClampNeg) + p2)) ((f_X7_pitchOf (ml p0.toNatClampNeg)) - (f_X7_pitchOf ((ml (p0 - p1).toNatClampNeg) + p2)))) (va_cwS 2 hts (gi_S wm_670 wm_671 wm_633 wm_672) rfl rfl rfl hd_X7_kind ⟨Nat.le_of_ble_eq_true rfl, Nat.le_of_ble_eq_true rfl⟩) hK (hP.sub [] rfl) rfl hl.1 rfl (Nat.le_of_ble_eq_true rfl) dX7_together_36 ⟨Nat.zero_le _, Nat.zero_le _⟩ ?_
  exact kR (f_X7_kind ((ml p0.toNatClampNeg) - ((ml (p0 - p1).toNatClampNeg) + p2)) ((f_X7_pitchOf (ml p0.toNatClampNeg)) - (f_X7_pitchOf ((ml (p0 - p1).toNatClampNeg) + p2)))) 39 ls hR.symm dX7_together_39
set_option maxHeartbeats 4000000 in
set_option maxRecDepth 100000 in
theorem m_X7_together (l : Launch) (dC : Nat → ClassId) (dI : Nat → Nat → Nat) (cI cJ : ClassId) (aM : Nat) (aMG : Nat) (aML : Nat) (aMW : Nat) (aME : Nat) (aMO : Nat) (mt : Int32) (mc : Int32) (mn : Int32) (mr : Int32) (mb : Int32) (mf : Int32) (mlo : Int32) (mhi : Int32) (mx : Int32) (mg : Nat → Int32) (ml : Nat → Int32) (mw : Nat → Int32) (me : Nat → Int32) (mo : Nat → Int64) (p0 : Int32) (p1 : Int32) (p2 : Int32) (ha : 0 ≤ p0.toInt ∧ p0.toInt ≤ 52) (hb2 : 1 ≤ p1.toInt ∧ p1.toInt ≤ p0.toInt) : Met l yX7_together wsX7_together rm_X7_together (va_Pc [.ref aM, .int p0, .int p1, .int p2] (fun U => va_P (dC, dI) vwCl [(aM, .inr (7, [.int mt, .ref aMG, .int mc, .ref aML, .int mn, .int mr, .int mb, .int mf, .int mlo, .int mhi, .ref aMW, .ref aME, .ref aMO, .int mx])), (aMG, .inl (cI, 14, .inl mg)), (aML, .inl (cI, 53, .inl ml)), (aMW, .inl (cI, 12, .inl mw)), (aME, .inl (cI, 2700, .inl me)), (aMO, .inl (cJ, 2700, .inr (.inl mo)))] U.heap ∧ va_K (dC, dI) vwCl [(cI, .int), (cJ, .long)] U)) (vp_Si (fun r => r = f_X7_together ml p0 p1 p2)) 0 0 (fun _ => False) := by
  refine Met.ofW (cc := cX7_together) (maxL := 5) (ret := (some .int)) (by decide) rfl ?_
  intro p e s m args below meth c s₁ B hml hv
  obtain ⟨rfl, hP, hK⟩ := hv
  have hl := lv_entry ([.ref aM, .int p0, .int p1, .int p2]) (n := 5) (Nat.le_of_ble_eq_true rfl)
  rw [lg_entry_eq]
  refine w_X7_together ha hb2 B.exec B.bytes hml (findClass_of_methodNamed B.named) (atoms_spec (ws := wsX7_together) B.pre) hK hP rfl (fun r pc ls er hd => ?_) _ hl
  exact W.iret B.exec B.bytes B.returns (fun t ht hW => ⟨r, rfl, er, ht⟩) (fun _ h => by cases h) hd B.notSynchronized
end
def f_X7_canonFaults_j115 (v2 : Int32) (r_5 : Int32 → Int32 → Int32) (v5 : Int32) : Int32 :=
  r_5 v5 (v2 + (1 : Int32))
theorem e_X7_canonFaults_j115 {v2 : Int32} {r_5 : Int32 → Int32 → Int32} {v5 : Int32} : f_X7_canonFaults_j115 v2 r_5 v5 = r_5 v5 (v2 + (1 : Int32)) := rfl
def f_X7_canonFaults_j113 (v1 : Int32) (v2 : Int32) (v3 : Int32) (r_5 : Int32 → Int32 → Int32) (v4 : Int32) : Int32 :=
  f_X7_canonFaults_j115 v2 r_5 ((v1 + v3) + v4)
theorem e_X7_canonFaults_j113 {v1 : Int32} {v2 : Int32} {v3 : Int32} {r_5 : Int32 → Int32 → Int32} {v4 : Int32} : f_X7_canonFaults_j113 v1 v2 v3 r_5 v4 = f_X7_canonFaults_j115 v2 r_5 ((v1 + v3) + v4) := rfl
def f_X7_canonFaults_j112 (v1 : Int32) (v2 : Int32) (v3 : Int32) (r_5 : Int32 → Int32 → Int32) : Int32 :=
  f_X7_canonFaults_j113 v1 v2 v3 r_5 (0 : Int32)
theorem e_X7_canonFaults_j112 {v1 : Int32} {v2 : Int32} {v3 : Int32} {r_5 : Int32 → Int32 → Int32} : f_X7_canonFaults_j112 v1 v2 v3 r_5 = f_X7_canonFaults_j113 v1 v2 v3 r_5 (0 : Int32) := rfl
def f_X7_canonFaults_j36 (ml : Nat → Int32) (p0 : Int32) (p1 : Int32) (v1 : Int32) (v2 : Int32) (r_5 : Int32 → Int32 → Int32) (v3 : Int32) : Int32 :=
  (if v2 ≤ p0 then f_X7_canonFaults_j115 v2 r_5 (v1 + v3) else (if (2 : Int32) ≤ (f_X7_together ml v2 p0 p1) then f_X7_canonFaults_j115 v2 r_5 (v1 + v3) else (if (f_X7_together ml (v2 - (1 : Int32)) p0 p1) = (f_X7_together ml v2 p0 p1) then (if (ml v2.toNatClampNeg) = (ml (v2 - (1 : Int32)).toNatClampNeg) then f_X7_canonFaults_j112 v1 v2 v3 r_5 else (if (ml (v2 - p0).toNatClampNeg) = (ml ((v2 - p0) - (1 : Int32)).toNatClampNeg) then f_X7_canonFaults_j112 v1 v2 v3 r_5 else f_X7_canonFaults_j113 v1 v2 v3 r_5 (1 : Int32))) else f_X7_canonFaults_j115 v2 r_5 (v1 + v3))))
theorem e_X7_canonFaults_j36 {ml : Nat → Int32} {p0 : Int32} {p1 : Int32} {v1 : Int32} {v2 : Int32} {r_5 : Int32 → Int32 → Int32} {v3 : Int32} : f_X7_canonFaults_j36 ml p0 p1 v1 v2 r_5 v3 = (if v2 ≤ p0 then f_X7_canonFaults_j115 v2 r_5 (v1 + v3) else (if (2 : Int32) ≤ (f_X7_together ml v2 p0 p1) then f_X7_canonFaults_j115 v2 r_5 (v1 + v3) else (if (f_X7_together ml (v2 - (1 : Int32)) p0 p1) = (f_X7_together ml v2 p0 p1) then (if (ml v2.toNatClampNeg) = (ml (v2 - (1 : Int32)).toNatClampNeg) then f_X7_canonFaults_j112 v1 v2 v3 r_5 else (if (ml (v2 - p0).toNatClampNeg) = (ml ((v2 - p0) - (1 : Int32)).toNatClampNeg) then f_X7_canonFaults_j112 v1 v2 v3 r_5 else f_X7_canonFaults_j113 v1 v2 v3 r_5 (1 : Int32))) else f_X7_canonFaults_j115 v2 r_5 (v1 + v3)))) := rfl
def f_X7_canonFaults_l5 (mn : Int32) (ml : Nat → Int32) (p0 : Int32) (p1 : Int32) : Nat → Int32 → Int32 → Int32
  | 0, _, _ => default
  | fu + 1, v1, v2 =>
    (if mn ≤ v2 then v1 else (if (f_X7_together ml v2 p0 p1) = (3 : Int32) then f_X7_canonFaults_j36 ml p0 p1 v1 v2 (f_X7_canonFaults_l5 mn ml p0 p1 fu) (1 : Int32) else f_X7_canonFaults_j36 ml p0 p1 v1 v2 (f_X7_canonFaults_l5 mn ml p0 p1 fu) (0 : Int32)))
theorem e_X7_canonFaults_l5 {fu : Nat} {mn : Int32} {ml : Nat → Int32} {p0 : Int32} {p1 : Int32} {v1 : Int32} {v2 : Int32} : f_X7_canonFaults_l5 mn ml p0 p1 (fu + 1) v1 v2 = (if mn ≤ v2 then v1 else (if (f_X7_together ml v2 p0 p1) = (3 : Int32) then f_X7_canonFaults_j36 ml p0 p1 v1 v2 (f_X7_canonFaults_l5 mn ml p0 p1 fu) (1 : Int32) else f_X7_canonFaults_j36 ml p0 p1 v1 v2 (f_X7_canonFaults_l5 mn ml p0 p1 fu) (0 : Int32))) := rfl
def f_X7_canonFaults (mn : Int32) (ml : Nat → Int32) (p0 : Int32) (p1 : Int32) : Int32 :=
  f_X7_canonFaults_l5 mn ml p0 p1 ((mn.toInt - p0.toInt).toNat + 1) (0 : Int32) p0
theorem e_X7_canonFaults {mn : Int32} {ml : Nat → Int32} {p0 : Int32} {p1 : Int32} : f_X7_canonFaults mn ml p0 p1 = f_X7_canonFaults_l5 mn ml p0 p1 ((mn.toInt - p0.toInt).toNat + 1) (0 : Int32) p0 := rfl
section
variable {p : Program} {l : Launch} {e : Env} {s : State} {m : MethodId} {args : Array Value} {below : List Frame} {meth : Method} {c : Code} {Q : State → Prop} {H : Heap} {locs : List Loc} {dC : Nat → ClassId} {dI : Nat → Nat → Nat} {cI cJ : ClassId}
abbrev rm_X7_canonFaults : Room := { frames := 3, cells := 0, slots := 0, locals := 71 }
theorem hd_X7_canonFaults : yX7_canonFaults.cls = RX7 ∧ yX7_canonFaults.cls ≠ "java/lang/invoke/MethodHandle" ∧ yX7_canonFaults.cls ≠ "java/lang/invoke/VarHandle" ∧ (parseMethodDescriptor yX7_canonFaults.desc).map (fun d => d.parameters.length) = some 2 := by decide +kernel
set_option maxHeartbeats 4000000 in
set_option maxRecDepth 100000 in
theorem w_X7_canonFaults {aM : Nat} {aMG : Nat} {aML : Nat} {aMW : Nat} {aME : Nat} {aMO : Nat} {mt : Int32} {mc : Int32} {mn : Int32} {mr : Int32} {mb : Int32} {mf : Int32} {mlo : Int32} {mhi : Int32} {mx : Int32} {mg : Nat → Int32} {ml : Nat → Int32} {mw : Nat → Int32} {me : Nat → Int32} {mo : Nat → Int64} {p0 : Int32} {p1 : Int32} (hm : mok mc mr) (hn : mnb mc mr mn) (hd : 1 ≤ p0.toInt) {F : Int32} (hx : p.tables.exec = Jvm.exec) (hb : c.code = cX7_canonFaults) (hml : c.maxLocals = 6) (hown : s.vm.findClass RX7 = some m.cls) (hts : ∀ w ∈ wsX7_canonFaults, w.before args s = true) (hK : va_K (dC, dI) vwCl [(cI, .int), (cJ, .long)] s) (hP : va_P (dC, dI) vwCl [(aM, .inr (7, [.int mt, .ref aMG, .int mc, .ref aML, .int mn, .int mr, .int mb, .int mf, .int mlo, .int mhi, .ref aMW, .ref aME, .ref aMO, .int mx])), (aMG, .inl (cI, 14, .inl mg)), (aML, .inl (cI, 53, .inl ml)), (aMW, .inl (cI, 12, .inl mw)), (aME, .inl (cI, 2700, .inl me)), (aMO, .inl (cJ, 2700, .inr (.inl mo)))] H) (hR : F = f_X7_canonFaults mn ml p0 p1) (kR : ∀ (r : Int32) (pc : Nat) (ls : Array Slot), r = F → decode cX7_canonFaults pc = .ok (.ireturn, 1) → W p l e rm_X7_canonFaults s m args below meth c H locs 0 0 Q (F0 m pc ls [.int r])) (ls : Array Slot) (hl : lv_has ls 6 [(0, .ref aM), (1, .int p0), (2, .int p1)]) : W p l e rm_X7_canonFaults s m args below meth c H locs 0 0 Q (F0 m 0 ls []) := by
  have hR := hR.trans e_X7_canonFaults
  refine lv_iconst (v := (0 : Int32)) hx hb dX7_canonFaults_0 (by decide) ?_
  refine lv_istore_n (lv' := [(3, .int (0 : Int32)), (0, .ref aM), (1, .int p0), (2, .int p1)]) hx hb dX7_canonFaults_1 rfl hl (by decide) rfl (fun ls hl => ?_)
  refine lv_iload_n hx hb dX7_canonFaults_2 rfl (lv_at hl 2 rfl) ?_
  refine lv_istore (lv' := [(4, .int p0), (3, .int (0 : Int32)), (0, .ref aM), (1, .int p0), (2, .int p1)]) hx hb dX7_canonFaults_3 hl (by decide) rfl (fun ls hl => ?_)
  have L5 : ∀ (fu5 : Nat) (v1 : Int32) (v2 : Int32), ∀ (ls : Array Slot), lv_has ls 6 [(0, .ref aM), (1, .int p0), (2, .int p1), (3, .int v1), (4, .int v2)] → (mn.toInt - v2.toInt).toNat < fu5 → (p0.toInt ≤ v2.toInt) → F = f_X7_canonFaults_l5 mn ml p0 p1 fu5 v1 v2 → W p l e rm_X7_canonFaults s m args below meth c H locs 0 0 Q (F0 m 5 ls []) := by
    intro fu5
    induction fu5 with
    | zero => intro v1 v2 ls hl hm; exact absurd hm (Nat.not_lt_zero _)
    | succ fu5 ih5 =>
      intro v1 v2 ls hl hm5 hk hR
      have hR := hR.trans e_X7_canonFaults_l5
      refine lv_iload hx hb dX7_canonFaults_5 (lv_at hl 4 rfl) ?_
      refine lv_aload_n hx hb dX7_canonFaults_7 rfl (lv_at hl 0 rfl) ?_
      refine va_get (D := (dC, dI)) (ci := 7) (v := .int mn) (C := RX7) (T := TX7) (N := 14) hx hb hts inC_X7 hown hK hP 0 rfl rfl 4 (by decide) (hts (.fieldLink RX7 49 "CounterpointeryModel" "notes" "I") (List.mem_cons_of_mem _ wm_650)) (fun _ h9 => h9) rfl dX7_canonFaults_8 ?_
      refine lv_icmp_ge (tgt := 121) hx hb dX7_canonFaults_11 (by decide) (fun c_1 => ?_) (fun c_1 => ?_)
      · have hR := hR.trans (if_pos c_1)
        refine lv_iload_n hx hb dX7_canonFaults_121 rfl (lv_at hl 3 rfl) ?_
        exact kR v1 122 ls hR.symm dX7_canonFaults_122
      · have hR := hR.trans (if_neg c_1)
        refine lv_aload_n hx hb dX7_canonFaults_14 rfl (lv_at hl 0 rfl) ?_
        refine lv_iload hx hb dX7_canonFaults_15 (lv_at hl 4 rfl) ?_
        refine lv_iload_n hx hb dX7_canonFaults_17 rfl (lv_at hl 1 rfl) ?_
        refine lv_iload_n hx hb dX7_canonFaults_18 rfl (lv_at hl 2 rfl) ?_
        refine rV_i (q0 := 0) (As := [.int v2, .int p0, .int p1]) (rest := []) ⟨hx, hb, hml, hown, hts⟩ (m_X7_together l dC dI cI cJ aM aMG aML aMW aME aMO mt mc mn mr mb mf mlo mhi mx mg ml mw me mo v2 p0 p1 (mx_c1 hm hn hd hk (by assumption)) (⟨hd, hk⟩)) (cwV 3 hts (gi_V wm_788 wm_789 wm_790 wm_633 wm_791) rfl rfl rfl hd_X7_together ⟨Nat.le_of_ble_eq_true rfl, Nat.le_of_ble_eq_true rfl⟩) hK (hP.sub [0, 1, 2, 3, 4, 5] rfl) rfl rfl rfl hl.1 rfl (Nat.le_of_ble_eq_true rfl) dX7_canonFaults_19 ⟨Nat.zero_le _, Nat.zero_le _⟩ ?_
        refine lv_istore (lv' := [(5, .int (f_X7_together ml v2 p0 p1)), (0, .ref aM), (1, .int p0), (2, .int p1), (3, .int v1), (4, .int v2)]) hx hb dX7_canonFaults_22 hl (by decide) rfl (fun ls hl => ?_)
        refine lv_iload_n hx hb dX7_canonFaults_24 rfl (lv_at hl 4 rfl) ?_
        refine lv_iload hx hb dX7_canonFaults_25 (lv_at hl 0 rfl) ?_
        refine lv_iconst (v := (3 : Int32)) hx hb dX7_canonFaults_27 (by decide) ?_
        have J36 : ∀ (v3 : Int32) (ls : Array Slot), lv_has ls 6 [(0, .ref aM), (1, .int p0), (2, .int p1), (4, .int v2), (5, .int (f_X7_together ml v2 p0 p1))] → zb v3 → F = f_X7_canonFaults_j36 ml p0 p1 v1 v2 (f_X7_canonFaults_l5 mn ml p0 p1 fu5) v3 → W p l e rm_X7_canonFaults s m args below meth c H locs 0 0 Q (F0 m 36 ls [.int v3, .int v1]) := by
          intro v3 ls hl hz_v3 hR
          have hR := hR.trans e_X7_canonFaults_j36
          refine lv_iadd hx hb dX7_canonFaults_36 ?_
          refine lv_istore_n (lv' := [(3, .int (v1 + v3)), (0, .ref aM), (1, .int p0), (2, .int p1), (4, .int v2), (5, .int (f_X7_together ml v2 p0 p1))]) hx hb dX7_canonFaults_37 rfl hl (by decide) rfl (fun ls hl => ?_)
          refine lv_iload hx hb dX7_canonFaults_38 (lv_at hl 4 rfl) ?_
          refine lv_iload_n hx hb dX7_canonFaults_40 rfl (lv_at hl 2 rfl) ?_
          have J115 : ∀ (v5 : Int32) (ls : Array Slot), lv_has ls 6 [(0, .ref aM), (1, .int p0), (2, .int p1), (3, .int v5), (4, .int v2)] → F = f_X7_canonFaults_j115 v2 (f_X7_canonFaults_l5 mn ml p0 p1 fu5) v5 → W p l e rm_X7_canonFaults s m args below meth c H locs 0 0 Q (F0 m 115 ls []) := by
            intro v5 ls hl hR
            have hR := hR.trans e_X7_canonFaults_j115
            refine lv_iinc (v := (v2 + (1 : Int32))) (lv' := [(4, .int (v2 + (1 : Int32))), (0, .ref aM), (1, .int p0), (2, .int p1), (3, .int v5)]) hx hb dX7_canonFaults_115 hl (k := 4) rfl rfl (by decide) rfl (fun ls hl => ?_)
            refine lv_goto (tgt := 5) hx hb dX7_canonFaults_118 (by decide) ?_
            exact ih5 v5 (v2 + (1 : Int32)) ls (lv_sub hl [1, 2, 3, 4, 0] rfl) (Nat.lt_of_lt_of_le (lp_up (by assumption)) (Nat.le_of_lt_succ hm5)) (show p0.toInt ≤ (v2 + (1 : Int32)).toInt from mx_cs hd hk (by assumption)) hR
          refine lv_icmp_le (tgt := 115) hx hb dX7_canonFaults_41 (by decide) (fun c_2 => ?_) (fun c_2 => ?_)
          · have hR := hR.trans (if_pos c_2)
            exact J115 (v1 + v3) ls (lv_sub hl [1, 2, 3, 0, 4] rfl) hR
          · have hR := hR.trans (if_neg c_2)
            refine lv_iload hx hb dX7_canonFaults_44 (lv_at hl 5 rfl) ?_
            refine lv_iconst (v := (2 : Int32)) hx hb dX7_canonFaults_46 (by decide) ?_
            refine lv_icmp_ge (tgt := 115) hx hb dX7_canonFaults_47 (by decide) (fun c_3 => ?_) (fun c_3 => ?_)
            · have hR := hR.trans (if_pos c_3)
              exact J115 (v1 + v3) ls (lv_sub hl [1, 2, 3, 0, 4] rfl) hR
            · have hR := hR.trans (if_neg c_3)
              refine lv_aload_n hx hb dX7_canonFaults_50 rfl (lv_at hl 1 rfl) ?_
              refine lv_iload hx hb dX7_canonFaults_51 (lv_at hl 4 rfl) ?_
              refine lv_iconst (v := (1 : Int32)) hx hb dX7_canonFaults_53 (by decide) ?_
              refine lv_isub hx hb dX7_canonFaults_54 ?_
              refine lv_iload_n hx hb dX7_canonFaults_55 rfl (lv_at hl 2 rfl) ?_
              refine lv_iload_n hx hb dX7_canonFaults_56 rfl (lv_at hl 3 rfl) ?_
              refine rV_i (q0 := 0) (As := [.int (v2 - (1 : Int32)), .int p0, .int p1]) (rest := []) ⟨hx, hb, hml, hown, hts⟩ (m_X7_together l dC dI cI cJ aM aMG aML aMW aME aMO mt mc mn mr mb mf mlo mhi mx mg ml mw me mo (v2 - (1 : Int32)) p0 p1 (mx_c2 hm hn hd hk (by assumption)) (mx_c3 hd hk (by assumption))) (cwV 3 hts (gi_V wm_788 wm_789 wm_790 wm_633 wm_791) rfl rfl rfl hd_X7_together ⟨Nat.le_of_ble_eq_true rfl, Nat.le_of_ble_eq_true rfl⟩) hK (hP.sub [0, 1, 2, 3, 4, 5] rfl) rfl rfl rfl hl.1 rfl (Nat.le_of_ble_eq_true rfl) dX7_canonFaults_57 ⟨Nat.zero_le _, Nat.zero_le _⟩ ?_
              refine lv_iload hx hb dX7_canonFaults_60 (lv_at hl 5 rfl) ?_
              refine lv_icmp_ne (tgt := 115) hx hb dX7_canonFaults_62 (by decide) (fun c_4 => ?_) (fun c_4 => ?_)
              · have hR := hR.trans (if_neg c_4)
                exact J115 (v1 + v3) ls (lv_sub hl [1, 2, 3, 0, 4] rfl) hR
              · have hR := hR.trans (if_pos c_4)
                refine lv_iload_n hx hb dX7_canonFaults_65 rfl (lv_at hl 0 rfl) ?_
                refine lv_aload_n hx hb dX7_canonFaults_66 rfl (lv_at hl 1 rfl) ?_
                refine va_get (D := (dC, dI)) (ci := 7) (v := .ref aML) (C := RX7) (T := TX7) (N := 14) hx hb hts inC_X7 hown hK hP 0 rfl rfl 3 (by decide) (hts (.fieldLink RX7 13 "CounterpointeryModel" "line" "[I") (List.mem_cons_of_mem _ wm_623)) (fun _ h9 => h9) rfl dX7_canonFaults_67 ?_
                refine lv_iload hx hb dX7_canonFaults_70 (lv_at hl 4 rfl) ?_
                refine va_iald (D := (dC, dI)) hx hb hK hP 2 0 rfl rfl (mx_t2 (mx_c1 hm hn hd hk (by assumption))) dX7_canonFaults_72 ?_
                refine lv_aload_n hx hb dX7_canonFaults_73 rfl (lv_at hl 1 rfl) ?_
                refine va_get (D := (dC, dI)) (ci := 7) (v := .ref aML) (C := RX7) (T := TX7) (N := 14) hx hb hts inC_X7 hown hK hP 0 rfl rfl 3 (by decide) (hts (.fieldLink RX7 13 "CounterpointeryModel" "line" "[I") (List.mem_cons_of_mem _ wm_623)) (fun _ h9 => h9) rfl dX7_canonFaults_74 ?_
                refine lv_iload hx hb dX7_canonFaults_77 (lv_at hl 4 rfl) ?_
                refine lv_iconst (v := (1 : Int32)) hx hb dX7_canonFaults_79 (by decide) ?_
                refine lv_isub hx hb dX7_canonFaults_80 ?_
                refine va_iald (D := (dC, dI)) hx hb hK hP 2 0 rfl rfl (mx_t2 (mx_c2 hm hn hd hk (by assumption))) dX7_canonFaults_81 ?_
                have J113 : ∀ (v4 : Int32) (ls : Array Slot), lv_has ls 6 [(0, .ref aM), (1, .int p0), (2, .int p1), (4, .int v2)] → zb v4 → F = f_X7_canonFaults_j113 v1 v2 v3 (f_X7_canonFaults_l5 mn ml p0 p1 fu5) v4 → W p l e rm_X7_canonFaults s m args below meth c H locs 0 0 Q (F0 m 113 ls [.int v4, .int (v1 + v3)]) := by
                  intro v4 ls hl hz_v4 hR
                  have hR := hR.trans e_X7_canonFaults_j113
                  refine lv_iadd hx hb dX7_canonFaults_113 ?_
                  refine lv_istore_n (lv' := [(3, .int ((v1 + v3) + v4)), (0, .ref aM), (1, .int p0), (2, .int p1), (4, .int v2)]) hx hb dX7_canonFaults_114 rfl hl (by decide) rfl (fun ls hl => ?_)
                  exact J115 ((v1 + v3) + v4) ls (lv_sub hl [1, 2, 3, 0, 4] rfl) hR
                have J112 : ∀ (ls : Array Slot), lv_has ls 6 [(0, .ref aM), (1, .int p0), (2, .int p1), (4, .int v2)] → F = f_X7_canonFaults_j112 v1 v2 v3 (f_X7_canonFaults_l5 mn ml p0 p1 fu5) → W p l e rm_X7_canonFaults s m args below meth c H locs 0 0 Q (F0 m 112 ls [.int (v1 + v3)]) := by
                  intro ls hl hR
                  have hR := hR.trans e_X7_canonFaults_j112
                  refine lv_iconst (v := (0 : Int32)) hx hb dX7_canonFaults_112 (by decide) ?_
                  exact J113 (0 : Int32) ls (lv_sub hl [0, 1, 2, 3] rfl) (by first | exact Or.inl rfl | exact Or.inr rfl) hR
                refine lv_icmp_eq (tgt := 112) hx hb dX7_canonFaults_82 (by decide) (fun c_5 => ?_) (fun c_5 => ?_)
                · have hR := hR.trans (if_pos c_5)
                  exact J112 ls (lv_sub hl [1, 2, 3, 4] rfl) hR
                · have hR := hR.trans (if_neg c_5)
                  refine lv_aload_n hx hb dX7_canonFaults_85 rfl (lv_at hl 1 rfl) ?_
                  refine va_get (D := (dC, dI)) (ci := 7) (v := .ref aML) (C := RX7) (T := TX7) (N := 14) hx hb hts inC_X7 hown hK hP 0 rfl rfl 3 (by decide) (hts (.fieldLink RX7 13 "CounterpointeryModel" "line" "[I") (List.mem_cons_of_mem _ wm_623)) (fun _ h9 => h9) rfl dX7_canonFaults_86 ?_
                  refine lv_iload hx hb dX7_canonFaults_89 (lv_at hl 4 rfl) ?_
                  refine lv_iload_n hx hb dX7_canonFaults_91 rfl (lv_at hl 2 rfl) ?_
                  refine lv_isub hx hb dX7_canonFaults_92 ?_
                  refine va_iald (D := (dC, dI)) hx hb hK hP 2 0 rfl rfl (mx_t1 (mx_c1 hm hn hd hk (by assumption)) ⟨hd, hk⟩) dX7_canonFaults_93 ?_
                  refine lv_aload_n hx hb dX7_canonFaults_94 rfl (lv_at hl 1 rfl) ?_
                  refine va_get (D := (dC, dI)) (ci := 7) (v := .ref aML) (C := RX7) (T := TX7) (N := 14) hx hb hts inC_X7 hown hK hP 0 rfl rfl 3 (by decide) (hts (.fieldLink RX7 13 "CounterpointeryModel" "line" "[I") (List.mem_cons_of_mem _ wm_623)) (fun _ h9 => h9) rfl dX7_canonFaults_95 ?_
                  refine lv_iload hx hb dX7_canonFaults_98 (lv_at hl 4 rfl) ?_
                  refine lv_iload_n hx hb dX7_canonFaults_100 rfl (lv_at hl 2 rfl) ?_
                  refine lv_isub hx hb dX7_canonFaults_101 ?_
                  refine lv_iconst (v := (1 : Int32)) hx hb dX7_canonFaults_102 (by decide) ?_
                  refine lv_isub hx hb dX7_canonFaults_103 ?_
                  refine va_iald (D := (dC, dI)) hx hb hK hP 2 0 rfl rfl (mx_c4 hm hn hd hk (by assumption) (by assumption)) dX7_canonFaults_104 ?_
                  refine lv_icmp_eq (tgt := 112) hx hb dX7_canonFaults_105 (by decide) (fun c_6 => ?_) (fun c_6 => ?_)
                  · have hR := hR.trans (if_pos c_6)
                    exact J112 ls (lv_sub hl [1, 2, 3, 4] rfl) hR
                  · have hR := hR.trans (if_neg c_6)
                    refine lv_iconst (v := (1 : Int32)) hx hb dX7_canonFaults_108 (by decide) ?_
                    refine lv_goto (tgt := 113) hx hb dX7_canonFaults_109 (by decide) ?_
                    exact J113 (1 : Int32) ls (lv_sub hl [1, 2, 3, 4] rfl) (by first | exact Or.inl rfl | exact Or.inr rfl) hR
        refine lv_icmp_ne (tgt := 35) hx hb dX7_canonFaults_28 (by decide) (fun c_7 => ?_) (fun c_7 => ?_)
        · have hR := hR.trans (if_neg c_7)
          refine lv_iconst (v := (0 : Int32)) hx hb dX7_canonFaults_35 (by decide) ?_
          exact J36 (0 : Int32) ls (lv_sub hl [1, 2, 3, 5, 0] rfl) (by first | exact Or.inl rfl | exact Or.inr rfl) hR
        · have hR := hR.trans (if_pos c_7)
          refine lv_iconst (v := (1 : Int32)) hx hb dX7_canonFaults_31 (by decide) ?_
          refine lv_goto (tgt := 36) hx hb dX7_canonFaults_32 (by decide) ?_
          exact J36 (1 : Int32) ls (lv_sub hl [1, 2, 3, 5, 0] rfl) (by first | exact Or.inl rfl | exact Or.inr rfl) hR
  exact L5 ((mn.toInt - p0.toInt).toNat + 1) (0 : Int32) p0 ls (lv_sub hl [2, 3, 4, 1, 0] rfl) (Nat.lt_succ_self _) (show p0.toInt ≤ p0.toInt from Int.le_refl _) hR
set_option maxHeartbeats 4000000 in
set_option maxRecDepth 100000 in
theorem m_X7_canonFaults (l : Launch) (dC : Nat → ClassId) (dI : Nat → Nat → Nat) (cI cJ : ClassId) (aM : Nat) (aMG : Nat) (aML : Nat) (aMW : Nat) (aME : Nat) (aMO : Nat) (mt : Int32) (mc : Int32) (mn : Int32) (mr : Int32) (mb : Int32) (mf : Int32) (mlo : Int32) (mhi : Int32) (mx : Int32) (mg : Nat → Int32) (ml : Nat → Int32) (mw : Nat → Int32) (me : Nat → Int32) (mo : Nat → Int64) (p0 : Int32) (p1 : Int32) (hm : mok mc mr) (hn : mnb mc mr mn) (hd : 1 ≤ p0.toInt) : Met l yX7_canonFaults wsX7_canonFaults rm_X7_canonFaults (va_Pc [.ref aM, .int p0, .int p1] (fun U => va_P (dC, dI) vwCl [(aM, .inr (7, [.int mt, .ref aMG, .int mc, .ref aML, .int mn, .int mr, .int mb, .int mf, .int mlo, .int mhi, .ref aMW, .ref aME, .ref aMO, .int mx])), (aMG, .inl (cI, 14, .inl mg)), (aML, .inl (cI, 53, .inl ml)), (aMW, .inl (cI, 12, .inl mw)), (aME, .inl (cI, 2700, .inl me)), (aMO, .inl (cJ, 2700, .inr (.inl mo)))] U.heap ∧ va_K (dC, dI) vwCl [(cI, .int), (cJ, .long)] U)) (vp_Si (fun r => r = f_X7_canonFaults mn ml p0 p1)) 0 0 (fun _ => False) := by
  refine Met.ofW (cc := cX7_canonFaults) (maxL := 6) (ret := (some .int)) (by decide) rfl ?_
  intro p e s m args below meth c s₁ B hml hv
  obtain ⟨rfl, hP, hK⟩ := hv
  have hl := lv_entry ([.ref aM, .int p0, .int p1]) (n := 6) (Nat.le_of_ble_eq_true rfl)
  rw [lg_entry_eq]
  refine w_X7_canonFaults hm hn hd B.exec B.bytes hml (findClass_of_methodNamed B.named) (atoms_spec (ws := wsX7_canonFaults) B.pre) hK hP rfl (fun r pc ls er hd => ?_) _ hl
  exact W.iret B.exec B.bytes B.returns (fun t ht hW => ⟨r, rfl, er, ht⟩) (fun _ h => by cases h) hd B.notSynchronized
end
def f_X7_canon_j49 (mn : Int32) (ml : Nat → Int32) (p0 : Int32) (p1 : Int32) (v2 : Int32) : Int32 × Int32 :=
  (if ((f_X7_goesOn v2).1) = 0 then ((0 : Int32), ((f_X7_goesOn v2).2)) else ((f_X7_canonFaults mn ml p0 p1), ((f_X7_goesOn v2).2)))
theorem e_X7_canon_j49 {mn : Int32} {ml : Nat → Int32} {p0 : Int32} {p1 : Int32} {v2 : Int32} : f_X7_canon_j49 mn ml p0 p1 v2 = (if ((f_X7_goesOn v2).1) = 0 then ((0 : Int32), ((f_X7_goesOn v2).2)) else ((f_X7_canonFaults mn ml p0 p1), ((f_X7_goesOn v2).2))) := rfl
def f_X7_canon_j26 (mn : Int32) (ml : Nat → Int32) (p0 : Int32) (p1 : Int32) (v1 : Int32) : Int32 × Int32 :=
  (if v1 = 0 then f_X7_canon_j49 mn ml p0 p1 (1 : Int32) else (if p0 < mn then f_X7_canon_j49 mn ml p0 p1 (0 : Int32) else f_X7_canon_j49 mn ml p0 p1 (2 : Int32)))
theorem e_X7_canon_j26 {mn : Int32} {ml : Nat → Int32} {p0 : Int32} {p1 : Int32} {v1 : Int32} : f_X7_canon_j26 mn ml p0 p1 v1 = (if v1 = 0 then f_X7_canon_j49 mn ml p0 p1 (1 : Int32) else (if p0 < mn then f_X7_canon_j49 mn ml p0 p1 (0 : Int32) else f_X7_canon_j49 mn ml p0 p1 (2 : Int32))) := rfl
def f_X7_canon_j25 (mn : Int32) (ml : Nat → Int32) (p0 : Int32) (p1 : Int32) : Int32 × Int32 :=
  f_X7_canon_j26 mn ml p0 p1 (0 : Int32)
theorem e_X7_canon_j25 {mn : Int32} {ml : Nat → Int32} {p0 : Int32} {p1 : Int32} : f_X7_canon_j25 mn ml p0 p1 = f_X7_canon_j26 mn ml p0 p1 (0 : Int32) := rfl
def f_X7_canon (mn : Int32) (ml : Nat → Int32) (p0 : Int32) (p1 : Int32) : Int32 × Int32 :=
  (if (f_X7_in p0 (1 : Int32) (12 : Int32)) = 0 then f_X7_canon_j25 mn ml p0 p1 else (if (f_X7_in p1 (-7 : Int32) (7 : Int32)) = 0 then f_X7_canon_j25 mn ml p0 p1 else f_X7_canon_j26 mn ml p0 p1 (1 : Int32)))
theorem e_X7_canon {mn : Int32} {ml : Nat → Int32} {p0 : Int32} {p1 : Int32} : f_X7_canon mn ml p0 p1 = (if (f_X7_in p0 (1 : Int32) (12 : Int32)) = 0 then f_X7_canon_j25 mn ml p0 p1 else (if (f_X7_in p1 (-7 : Int32) (7 : Int32)) = 0 then f_X7_canon_j25 mn ml p0 p1 else f_X7_canon_j26 mn ml p0 p1 (1 : Int32))) := rfl
section
variable {p : Program} {l : Launch} {e : Env} {s : State} {m : MethodId} {args : Array Value} {below : List Frame} {meth : Method} {c : Code} {Q : State → Prop} {H : Heap} {locs : List Loc} {dC : Nat → ClassId} {dI : Nat → Nat → Nat} {cI cJ : ClassId}
abbrev rm_X7_canon : Room := { frames := 4, cells := 0, slots := 0, locals := 96 }
theorem hd_X7_canon : yX7_canon.cls = RX7 ∧ yX7_canon.cls ≠ "java/lang/invoke/MethodHandle" ∧ yX7_canon.cls ≠ "java/lang/invoke/VarHandle" ∧ (parseMethodDescriptor yX7_canon.desc).map (fun d => d.parameters.length) = some 2 := by decide +kernel
set_option maxHeartbeats 4000000 in
set_option maxRecDepth 100000 in
theorem w_X7_canon {aM : Nat} {aMG : Nat} {aML : Nat} {aMW : Nat} {aME : Nat} {aMO : Nat} {mt : Int32} {mc : Int32} {mn : Int32} {mr : Int32} {mb : Int32} {mf : Int32} {mlo : Int32} {mhi : Int32} {mx : Int32} {mg : Nat → Int32} {ml : Nat → Int32} {mw : Nat → Int32} {me : Nat → Int32} {mo : Nat → Int64} {p0 : Int32} {p1 : Int32} (hm : mok mc mr) (hn : mnb mc mr mn) {F : Int32 × Int32} (hx : p.tables.exec = Jvm.exec) (hb : c.code = cX7_canon) (hml : c.maxLocals = 4) (hown : s.vm.findClass RX7 = some m.cls) (hts : ∀ w ∈ wsX7_canon, w.before args s = true) (hK : va_K (dC, dI) vwCl [(cI, .int), (cJ, .long)] s) {A : Nat → Prop} {H0 : Heap} (hP : va_P (dC, dI) vwCl [(aM, .inr (7, [.int mt, .ref aMG, .int mc, .ref aML, .int mn, .int mr, .int mb, .int mf, .int mlo, .int mhi, .ref aMW, .ref aME, .ref aMO, .int mx])), (aMG, .inl (cI, 14, .inl mg)), (aML, .inl (cI, 53, .inl ml)), (aMW, .inl (cI, 12, .inl mw)), (aME, .inl (cI, 2700, .inl me)), (aMO, .inl (cJ, 2700, .inr (.inl mo)))] H) (hD : va_D A [(aM, .inr (7, [.int mt, .ref aMG, .int mc, .ref aML, .int mn, .int mr, .int mb, .int mf, .int mlo, .int mhi, .ref aMW, .ref aME, .ref aMO, .int mx])), (aMG, .inl (cI, 14, .inl mg)), (aML, .inl (cI, 53, .inl ml)), (aMW, .inl (cI, 12, .inl mw)), (aME, .inl (cI, 2700, .inl me)), (aMO, .inl (cJ, 2700, .inr (.inl mo)))]) (hS : va_S A H0 H locs) (hA : ∀ q, H0.size ≤ q → A q) (hR : F = f_X7_canon mn ml p0 p1) (kR : ∀ (r : Int32) (pc : Nat) (ls : Array Slot) (H : Heap) (locs : List Loc) (mt' : Int32), va_P (dC, dI) vwCl [(aM, .inr (7, [.int mt', .ref aMG, .int mc, .ref aML, .int mn, .int mr, .int mb, .int mf, .int mlo, .int mhi, .ref aMW, .ref aME, .ref aMO, .int mx])), (aMG, .inl (cI, 14, .inl mg)), (aML, .inl (cI, 53, .inl ml)), (aMW, .inl (cI, 12, .inl mw)), (aME, .inl (cI, 2700, .inl me)), (aMO, .inl (cJ, 2700, .inr (.inl mo)))] H → va_D A [(aM, .inr (7, [.int mt', .ref aMG, .int mc, .ref aML, .int mn, .int mr, .int mb, .int mf, .int mlo, .int mhi, .ref aMW, .ref aME, .ref aMO, .int mx])), (aMG, .inl (cI, 14, .inl mg)), (aML, .inl (cI, 53, .inl ml)), (aMW, .inl (cI, 12, .inl mw)), (aME, .inl (cI, 2700, .inl me)), (aMO, .inl (cJ, 2700, .inr (.inl mo)))] → va_S A H0 H locs → (r, mt') = F → decode cX7_canon pc = .ok (.ireturn, 1) → W p l e rm_X7_canon s m args below meth c H locs 0 0 Q (F0 m pc ls [.int r])) (ls : Array Slot) (hl : lv_has ls 4 [(0, .ref aM), (1, .int p0), (2, .int p1)]) : W p l e rm_X7_canon s m args below meth c H locs 0 0 Q (F0 m 0 ls []) := by
  have hR := hR.trans e_X7_canon
  refine lv_iload_n hx hb dX7_canon_0 rfl (lv_at hl 1 rfl) ?_
  refine lv_iconst (v := (1 : Int32)) hx hb dX7_canon_1 (by decide) ?_
  refine lv_bipush (v := (12 : Int32)) hx hb dX7_canon_2 (by decide) ?_
  refine rS_i (As := [.int p0, .int (1 : Int32), .int (12 : Int32)]) (rest := []) ⟨hx, hb, hml, hown, hts⟩ (m_X7_in l dC dI cI cJ p0 (1 : Int32) (12 : Int32)) (va_cwS 3 hts (gi_S wm_635 wm_636 wm_633 wm_637) rfl rfl rfl hd_X7_in ⟨Nat.le_of_ble_eq_true rfl, Nat.le_of_ble_eq_true rfl⟩) hK (hP.sub [] rfl) rfl hl.1 rfl (Nat.le_of_ble_eq_true rfl) dX7_canon_4 ⟨Nat.zero_le _, Nat.zero_le _⟩ ?_
  have J26 : ∀ (v1 : Int32) (H : Heap) (locs : List Loc), va_P (dC, dI) vwCl [(aM, .inr (7, [.int mt, .ref aMG, .int mc, .ref aML, .int mn, .int mr, .int mb, .int mf, .int mlo, .int mhi, .ref aMW, .ref aME, .ref aMO, .int mx])), (aMG, .inl (cI, 14, .inl mg)), (aML, .inl (cI, 53, .inl ml)), (aMW, .inl (cI, 12, .inl mw)), (aME, .inl (cI, 2700, .inl me)), (aMO, .inl (cJ, 2700, .inr (.inl mo)))] H → va_D A [(aM, .inr (7, [.int mt, .ref aMG, .int mc, .ref aML, .int mn, .int mr, .int mb, .int mf, .int mlo, .int mhi, .ref aMW, .ref aME, .ref aMO, .int mx])), (aMG, .inl (cI, 14, .inl mg)), (aML, .inl (cI, 53, .inl ml)), (aMW, .inl (cI, 12, .inl mw)), (aME, .inl (cI, 2700, .inl me)), (aMO, .inl (cJ, 2700, .inr (.inl mo)))] → va_S A H0 H locs → ∀ (ls : Array Slot), lv_has ls 4 [(0, .ref aM), (1, .int p0), (2, .int p1)] → zb v1 → (¬ v1 = 0 → ¬ f_X7_in p0 (1 : Int32) (12 : Int32) = 0) → F = f_X7_canon_j26 mn ml p0 p1 v1 → W p l e rm_X7_canon s m args below meth c H locs 0 0 Q (F0 m 26 ls [.int v1]) := by
    intro v1 H locs hP hD hS ls hl hz_v1 hw hR
    have hR := hR.trans e_X7_canon_j26
    refine lv_istore_n (lv' := [(3, .int v1), (0, .ref aM), (1, .int p0), (2, .int p1)]) hx hb dX7_canon_26 rfl hl (by decide) rfl (fun ls hl => ?_)
    refine lv_aload_n hx hb dX7_canon_27 rfl (lv_at hl 1 rfl) ?_
    refine lv_iload_n hx hb dX7_canon_28 rfl (lv_at hl 0 rfl) ?_
    have J49 : ∀ (v2 : Int32) (H : Heap) (locs : List Loc), va_P (dC, dI) vwCl [(aM, .inr (7, [.int mt, .ref aMG, .int mc, .ref aML, .int mn, .int mr, .int mb, .int mf, .int mlo, .int mhi, .ref aMW, .ref aME, .ref aMO, .int mx])), (aMG, .inl (cI, 14, .inl mg)), (aML, .inl (cI, 53, .inl ml)), (aMW, .inl (cI, 12, .inl mw)), (aME, .inl (cI, 2700, .inl me)), (aMO, .inl (cJ, 2700, .inr (.inl mo)))] H → va_D A [(aM, .inr (7, [.int mt, .ref aMG, .int mc, .ref aML, .int mn, .int mr, .int mb, .int mf, .int mlo, .int mhi, .ref aMW, .ref aME, .ref aMO, .int mx])), (aMG, .inl (cI, 14, .inl mg)), (aML, .inl (cI, 53, .inl ml)), (aMW, .inl (cI, 12, .inl mw)), (aME, .inl (cI, 2700, .inl me)), (aMO, .inl (cJ, 2700, .inr (.inl mo)))] → va_S A H0 H locs → ∀ (ls : Array Slot), lv_has ls 4 [(0, .ref aM), (1, .int p0), (2, .int p1)] → (v2 = 0 → ¬ v1 = 0) → F = f_X7_canon_j49 mn ml p0 p1 v2 → W p l e rm_X7_canon s m args below meth c H locs 0 0 Q (F0 m 49 ls [.int v2, .ref aM]) := by
      intro v2 H locs hP hD hS ls hl hv hR
      have hR := hR.trans e_X7_canon_j49
      refine wV_i (q0 := 0) (As := [.int v2]) (rest := []) (wc := [(aM, .inr (7, [.int mt, .ref aMG, .int mc, .ref aML, .int mn, .int mr, .int mb, .int mf, .int mlo, .int mhi, .ref aMW, .ref aME, .ref aMO, .int mx])), (aMG, .inl (cI, 14, .inl mg)), (aML, .inl (cI, 53, .inl ml)), (aMW, .inl (cI, 12, .inl mw)), (aME, .inl (cI, 2700, .inl me)), (aMO, .inl (cJ, 2700, .inr (.inl mo)))]) (w1 := [(aM, .inr (7, [.int ((f_X7_goesOn v2).2), .ref aMG, .int mc, .ref aML, .int mn, .int mr, .int mb, .int mf, .int mlo, .int mhi, .ref aMW, .ref aME, .ref aMO, .int mx])), (aMG, .inl (cI, 14, .inl mg)), (aML, .inl (cI, 53, .inl ml)), (aMW, .inl (cI, 12, .inl mw)), (aME, .inl (cI, 2700, .inl me)), (aMO, .inl (cJ, 2700, .inr (.inl mo)))]) (wr := []) (wn := [(aM, .inr (7, [.int ((f_X7_goesOn v2).2), .ref aMG, .int mc, .ref aML, .int mn, .int mr, .int mb, .int mf, .int mlo, .int mhi, .ref aMW, .ref aME, .ref aMO, .int mx])), (aMG, .inl (cI, 14, .inl mg)), (aML, .inl (cI, 53, .inl ml)), (aMW, .inl (cI, 12, .inl mw)), (aME, .inl (cI, 2700, .inl me)), (aMO, .inl (cJ, 2700, .inr (.inl mo)))]) ⟨hx, hb, hml, hown, hts⟩ (m_X7_goesOn l dC dI cI cJ aM aMG aML aMW aME aMO mt mc mn mr mb mf mlo mhi mx mg ml mw me mo v2 H.size) (cwV 1 hts (gi_V wm_638 wm_639 wm_640 wm_633 wm_641) rfl rfl rfl hd_X7_goesOn ⟨Nat.le_of_ble_eq_true rfl, Nat.le_of_ble_eq_true rfl⟩) hK hP hD hS hA [0, 1, 2, 3, 4, 5] [] [0, 1, 2, 3, 4, 5] rfl rfl rfl (by decide) (by decide) (by decide) (by decide) rfl rfl rfl hl.1 rfl (Nat.le_of_ble_eq_true rfl) dX7_canon_49 ⟨Nat.zero_le _, Nat.zero_le _⟩ (fun H locs hP hD hS => ?_)
      refine lv_if_eq (tgt := 64) hx hb dX7_canon_52 (by decide) (fun c_1 => ?_) (fun c_1 => ?_)
      · have hR := hR.trans (if_pos c_1)
        refine lv_iconst (v := (0 : Int32)) hx hb dX7_canon_64 (by decide) ?_
        exact kR (0 : Int32) 65 ls H locs ((f_X7_goesOn v2).2) hP hD hS hR.symm dX7_canon_65
      · have hR := hR.trans (if_neg c_1)
        refine lv_aload_n hx hb dX7_canon_55 rfl (lv_at hl 0 rfl) ?_
        refine lv_iload_n hx hb dX7_canon_56 rfl (lv_at hl 1 rfl) ?_
        refine lv_iload_n hx hb dX7_canon_57 rfl (lv_at hl 2 rfl) ?_
        refine rV_i (q0 := 0) (As := [.int p0, .int p1]) (rest := []) ⟨hx, hb, hml, hown, hts⟩ (m_X7_canonFaults l dC dI cI cJ aM aMG aML aMW aME aMO ((f_X7_goesOn v2).2) mc mn mr mb mf mlo mhi mx mg ml mw me mo p0 p1 (show mok mc mr from hm) (show mnb mc mr mn from hn) (mx_cn (hw (hv (goes_0 (by assumption)))))) (cwV 2 hts (gi_V wm_792 wm_793 wm_794 wm_633 wm_795) rfl rfl rfl hd_X7_canonFaults ⟨Nat.le_of_ble_eq_true rfl, Nat.le_of_ble_eq_true rfl⟩) hK (hP.sub [0, 1, 2, 3, 4, 5] rfl) rfl rfl rfl hl.1 rfl (Nat.le_of_ble_eq_true rfl) dX7_canon_58 ⟨Nat.zero_le _, Nat.zero_le _⟩ ?_
        refine lv_goto (tgt := 65) hx hb dX7_canon_61 (by decide) ?_
        exact kR (f_X7_canonFaults mn ml p0 p1) 65 ls H locs ((f_X7_goesOn v2).2) hP hD hS hR.symm dX7_canon_65
    refine lv_if_ne (tgt := 36) hx hb dX7_canon_29 (by decide) (fun c_2 => ?_) (fun c_2 => ?_)
    · have hR := hR.trans (if_neg c_2)
      refine lv_aload_n hx hb dX7_canon_36 rfl (lv_at hl 1 rfl) ?_
      refine va_get (D := (dC, dI)) (ci := 7) (v := .int mn) (C := RX7) (T := TX7) (N := 14) hx hb hts inC_X7 hown hK hP 0 rfl rfl 4 (by decide) (hts (.fieldLink RX7 49 "CounterpointeryModel" "notes" "I") (List.mem_cons_of_mem _ wm_650)) (fun _ h9 => h9) rfl dX7_canon_37 ?_
      refine lv_iload_n hx hb dX7_canon_40 rfl (lv_at hl 2 rfl) ?_
      refine lv_icmp_gt (tgt := 48) hx hb dX7_canon_41 (by decide) (fun c_3 => ?_) (fun c_3 => ?_)
      · have hR := hR.trans (if_pos c_3)
        refine lv_iconst (v := (0 : Int32)) hx hb dX7_canon_48 (by decide) ?_
        exact J49 (0 : Int32) H locs hP hD hS ls (lv_sub hl [1, 2, 3] rfl) (show (0 : Int32) = 0 → ¬ v1 = 0 from (by first | exact fun h => absurd rfl h | exact fun h => absurd h (by decide) | exact fun _ => ⟨by assumption, by assumption⟩ | exact fun _ => by assumption)) hR
      · have hR := hR.trans (if_neg c_3)
        refine lv_iconst (v := (2 : Int32)) hx hb dX7_canon_44 (by decide) ?_
        refine lv_goto (tgt := 49) hx hb dX7_canon_45 (by decide) ?_
        exact J49 (2 : Int32) H locs hP hD hS ls (lv_sub hl [1, 2, 3] rfl) (show (2 : Int32) = 0 → ¬ v1 = 0 from (by first | exact fun h => absurd rfl h | exact fun h => absurd h (by decide) | exact fun _ => ⟨by assumption, by assumption⟩ | exact fun _ => by assumption)) hR
    · have hR := hR.trans (if_pos c_2)
      refine lv_iconst (v := (1 : Int32)) hx hb dX7_canon_32 (by decide) ?_
      refine lv_goto (tgt := 49) hx hb dX7_canon_33 (by decide) ?_
      exact J49 (1 : Int32) H locs hP hD hS ls (lv_sub hl [1, 2, 3] rfl) (show (1 : Int32) = 0 → ¬ v1 = 0 from (by first | exact fun h => absurd rfl h | exact fun h => absurd h (by decide) | exact fun _ => ⟨by assumption, by assumption⟩ | exact fun _ => by assumption)) hR
  have J25 : ∀ (H : Heap) (locs : List Loc), va_P (dC, dI) vwCl [(aM, .inr (7, [.int mt, .ref aMG, .int mc, .ref aML, .int mn, .int mr, .int mb, .int mf, .int mlo, .int mhi, .ref aMW, .ref aME, .ref aMO, .int mx])), (aMG, .inl (cI, 14, .inl mg)), (aML, .inl (cI, 53, .inl ml)), (aMW, .inl (cI, 12, .inl mw)), (aME, .inl (cI, 2700, .inl me)), (aMO, .inl (cJ, 2700, .inr (.inl mo)))] H → va_D A [(aM, .inr (7, [.int mt, .ref aMG, .int mc, .ref aML, .int mn, .int mr, .int mb, .int mf, .int mlo, .int mhi, .ref aMW, .ref aME, .ref aMO, .int mx])), (aMG, .inl (cI, 14, .inl mg)), (aML, .inl (cI, 53, .inl ml)), (aMW, .inl (cI, 12, .inl mw)), (aME, .inl (cI, 2700, .inl me)), (aMO, .inl (cJ, 2700, .inr (.inl mo)))] → va_S A H0 H locs → ∀ (ls : Array Slot), lv_has ls 4 [(0, .ref aM), (1, .int p0), (2, .int p1)] → F = f_X7_canon_j25 mn ml p0 p1 → W p l e rm_X7_canon s m args below meth c H locs 0 0 Q (F0 m 25 ls []) := by
    intro H locs hP hD hS ls hl hR
    have hR := hR.trans e_X7_canon_j25
    refine lv_iconst (v := (0 : Int32)) hx hb dX7_canon_25 (by decide) ?_
    exact J26 (0 : Int32) H locs hP hD hS ls (lv_sub hl [0, 1, 2] rfl) (by first | exact Or.inl rfl | exact Or.inr rfl) (show ¬ (0 : Int32) = 0 → ¬ f_X7_in p0 (1 : Int32) (12 : Int32) = 0 from (by first | exact fun h => absurd rfl h | exact fun h => absurd h (by decide) | exact fun _ => ⟨by assumption, by assumption⟩ | exact fun _ => by assumption)) hR
  refine lv_if_eq (tgt := 25) hx hb dX7_canon_7 (by decide) (fun c_4 => ?_) (fun c_4 => ?_)
  · have hR := hR.trans (if_pos c_4)
    exact J25 H locs hP hD hS ls (lv_sub hl [0, 1, 2] rfl) hR
  · have hR := hR.trans (if_neg c_4)
    refine lv_iload_n hx hb dX7_canon_10 rfl (lv_at hl 2 rfl) ?_
    refine lv_bipush (v := (-7 : Int32)) hx hb dX7_canon_11 (by decide +kernel) ?_
    refine lv_bipush (v := (7 : Int32)) hx hb dX7_canon_13 (by decide) ?_
    refine rS_i (As := [.int p1, .int (-7 : Int32), .int (7 : Int32)]) (rest := []) ⟨hx, hb, hml, hown, hts⟩ (m_X7_in l dC dI cI cJ p1 (-7 : Int32) (7 : Int32)) (va_cwS 3 hts (gi_S wm_635 wm_636 wm_633 wm_637) rfl rfl rfl hd_X7_in ⟨Nat.le_of_ble_eq_true rfl, Nat.le_of_ble_eq_true rfl⟩) hK (hP.sub [] rfl) rfl hl.1 rfl (Nat.le_of_ble_eq_true rfl) dX7_canon_15 ⟨Nat.zero_le _, Nat.zero_le _⟩ ?_
    refine lv_if_eq (tgt := 25) hx hb dX7_canon_18 (by decide) (fun c_5 => ?_) (fun c_5 => ?_)
    · have hR := hR.trans (if_pos c_5)
      exact J25 H locs hP hD hS ls (lv_sub hl [0, 1, 2] rfl) hR
    · have hR := hR.trans (if_neg c_5)
      refine lv_iconst (v := (1 : Int32)) hx hb dX7_canon_21 (by decide) ?_
      refine lv_goto (tgt := 26) hx hb dX7_canon_22 (by decide) ?_
      exact J26 (1 : Int32) H locs hP hD hS ls (lv_sub hl [0, 1, 2] rfl) (by first | exact Or.inl rfl | exact Or.inr rfl) (show ¬ (1 : Int32) = 0 → ¬ f_X7_in p0 (1 : Int32) (12 : Int32) = 0 from (by first | exact fun h => absurd rfl h | exact fun h => absurd h (by decide) | exact fun _ => ⟨by assumption, by assumption⟩ | exact fun _ => by assumption)) hR
set_option maxHeartbeats 4000000 in
set_option maxRecDepth 100000 in
theorem m_X7_canon (l : Launch) (dC : Nat → ClassId) (dI : Nat → Nat → Nat) (cI cJ : ClassId) (aM : Nat) (aMG : Nat) (aML : Nat) (aMW : Nat) (aME : Nat) (aMO : Nat) (mt : Int32) (mc : Int32) (mn : Int32) (mr : Int32) (mb : Int32) (mf : Int32) (mlo : Int32) (mhi : Int32) (mx : Int32) (mg : Nat → Int32) (ml : Nat → Int32) (mw : Nat → Int32) (me : Nat → Int32) (mo : Nat → Int64) (p0 : Int32) (p1 : Int32) (hm : mok mc mr) (hn : mnb mc mr mn) (sz : Nat) : Met l yX7_canon wsX7_canon rm_X7_canon (va_Pc [.ref aM, .int p0, .int p1] (fun U => U.heap.size = sz ∧ va_P (dC, dI) vwCl [(aM, .inr (7, [.int mt, .ref aMG, .int mc, .ref aML, .int mn, .int mr, .int mb, .int mf, .int mlo, .int mhi, .ref aMW, .ref aME, .ref aMO, .int mx])), (aMG, .inl (cI, 14, .inl mg)), (aML, .inl (cI, 53, .inl ml)), (aMW, .inl (cI, 12, .inl mw)), (aME, .inl (cI, 2700, .inl me)), (aMO, .inl (cJ, 2700, .inr (.inl mo)))] U.heap ∧ va_K (dC, dI) vwCl [(cI, .int), (cJ, .long)] U ∧ va_D (fun _ => True) [(aM, .inr (7, [.int mt, .ref aMG, .int mc, .ref aML, .int mn, .int mr, .int mb, .int mf, .int mlo, .int mhi, .ref aMW, .ref aME, .ref aMO, .int mx])), (aMG, .inl (cI, 14, .inl mg)), (aML, .inl (cI, 53, .inl ml)), (aMW, .inl (cI, 12, .inl mw)), (aME, .inl (cI, 2700, .inl me)), (aMO, .inl (cJ, 2700, .inr (.inl mo)))])) (va_Qi (fun (r : Int32) (_ : Unit) => r = (f_X7_canon mn ml p0 p1).1) (fun _ t => va_P (dC, dI) vwCl [(aM, .inr (7, [.int ((f_X7_canon mn ml p0 p1).2), .ref aMG, .int mc, .ref aML, .int mn, .int mr, .int mb, .int mf, .int mlo, .int mhi, .ref aMW, .ref aME, .ref aMO, .int mx])), (aMG, .inl (cI, 14, .inl mg)), (aML, .inl (cI, 53, .inl ml)), (aMW, .inl (cI, 12, .inl mw)), (aME, .inl (cI, 2700, .inl me)), (aMO, .inl (cJ, 2700, .inr (.inl mo)))] t.heap ∧ va_K (dC, dI) vwCl [(cI, .int), (cJ, .long)] t ∧ va_D (va_A [(aM, .inr (7, [.int mt, .ref aMG, .int mc, .ref aML, .int mn, .int mr, .int mb, .int mf, .int mlo, .int mhi, .ref aMW, .ref aME, .ref aMO, .int mx])), (aMG, .inl (cI, 14, .inl mg)), (aML, .inl (cI, 53, .inl ml)), (aMW, .inl (cI, 12, .inl mw)), (aME, .inl (cI, 2700, .inl me)), (aMO, .inl (cJ, 2700, .inr (.inl mo)))] sz) [(aM, .inr (7, [.int ((f_X7_canon mn ml p0 p1).2), .ref aMG, .int mc, .ref aML, .int mn, .int mr, .int mb, .int mf, .int mlo, .int mhi, .ref aMW, .ref aME, .ref aMO, .int mx])), (aMG, .inl (cI, 14, .inl mg)), (aML, .inl (cI, 53, .inl ml)), (aMW, .inl (cI, 12, .inl mw)), (aME, .inl (cI, 2700, .inl me)), (aMO, .inl (cJ, 2700, .inr (.inl mo)))]) (va_A [(aM, .inr (7, [.int mt, .ref aMG, .int mc, .ref aML, .int mn, .int mr, .int mb, .int mf, .int mlo, .int mhi, .ref aMW, .ref aME, .ref aMO, .int mx])), (aMG, .inl (cI, 14, .inl mg)), (aML, .inl (cI, 53, .inl ml)), (aMW, .inl (cI, 12, .inl mw)), (aME, .inl (cI, 2700, .inl me)), (aMO, .inl (cJ, 2700, .inr (.inl mo)))] sz)) 0 0 (va_A [(aM, .inr (7, [.int mt, .ref aMG, .int mc, .ref aML, .int mn, .int mr, .int mb, .int mf, .int mlo, .int mhi, .ref aMW, .ref aME, .ref aMO, .int mx])), (aMG, .inl (cI, 14, .inl mg)), (aML, .inl (cI, 53, .inl ml)), (aMW, .inl (cI, 12, .inl mw)), (aME, .inl (cI, 2700, .inl me)), (aMO, .inl (cJ, 2700, .inr (.inl mo)))] sz) := by
  refine Met.ofW (cc := cX7_canon) (maxL := 4) (ret := (some .int)) (by decide) rfl ?_
  intro p e s m args below meth c s₁ B hml hv
  obtain ⟨rfl, hsz, hP, hK, hD0⟩ := hv
  subst hsz
  have hl := lv_entry ([.ref aM, .int p0, .int p1]) (n := 4) (Nat.le_of_ble_eq_true rfl)
  rw [lg_entry_eq]
  refine w_X7_canon hm hn B.exec B.bytes hml (findClass_of_methodNamed B.named) (atoms_spec (ws := wsX7_canon) B.pre) hK hP (hD0.self (sz := s.heap.size)) va_S.rf (fun q h => Or.inr h) rfl (fun r pc ls H locs mt' hP hD hS er hd => ?_) _ hl
  simp only [Prod.ext_iff] at er
  obtain ⟨e0, e1⟩ := er
  subst e0
  subst e1
  exact W.iret B.exec B.bytes B.returns (fun t ht hW => ⟨⟨_, (), rfl, rfl, by rw [ht]; exact hP, va_K.moved hW.alike hK, hD⟩, hS.F ht⟩) hS.2.2 hd B.notSynchronized
end
def f_X7_canonsUpTo_j70 (p0 : Int32) (v7 : Int32) : Int32 :=
  (if p0 = (-1 : Int32) then v7 else (-1 : Int32))
theorem e_X7_canonsUpTo_j70 {p0 : Int32} {v7 : Int32} : f_X7_canonsUpTo_j70 p0 v7 = (if p0 = (-1 : Int32) then v7 else (-1 : Int32)) := rfl
def f_X7_canonsUpTo_j64 (v2 : Int32) (r_4 : Int32 → Int32 → Int32) (v6 : Int32) : Int32 :=
  r_4 v6 (v2 + (1 : Int32))
theorem e_X7_canonsUpTo_j64 {v2 : Int32} {r_4 : Int32 → Int32 → Int32} {v6 : Int32} : f_X7_canonsUpTo_j64 v2 r_4 v6 = r_4 v6 (v2 + (1 : Int32)) := rfl
def f_X7_canonsUpTo_j58 (v4 : Int32) (r_22 : Int32 → Int32 → Int32) (v5 : Int32) : Int32 :=
  r_22 v5 (v4 + (1 : Int32))
theorem e_X7_canonsUpTo_j58 {v4 : Int32} {r_22 : Int32 → Int32 → Int32} {v5 : Int32} : f_X7_canonsUpTo_j58 v4 r_22 v5 = r_22 v5 (v4 + (1 : Int32)) := rfl
def f_X7_canonsUpTo_l22 (mn : Int32) (ml : Nat → Int32) (p0 : Int32) (v2 : Int32) (k_64 : Int32 → Int32) : Nat → Int32 → Int32 → Int32
  | 0, _, _ => default
  | fu + 1, v3, v4 =>
    (if (8 : Int32) ≤ v4 then k_64 v3 else (if (f_X7_canonFaults mn ml v2 v4) = 0 then (if v3 = p0 then ((((100 : Int32) * v2) + (50 : Int32)) + v4) else f_X7_canonsUpTo_j58 v4 (f_X7_canonsUpTo_l22 mn ml p0 v2 k_64 fu) (v3 + (1 : Int32))) else f_X7_canonsUpTo_j58 v4 (f_X7_canonsUpTo_l22 mn ml p0 v2 k_64 fu) v3))
theorem e_X7_canonsUpTo_l22 {fu : Nat} {mn : Int32} {ml : Nat → Int32} {p0 : Int32} {v2 : Int32} {k_64 : Int32 → Int32} {v3 : Int32} {v4 : Int32} : f_X7_canonsUpTo_l22 mn ml p0 v2 k_64 (fu + 1) v3 v4 = (if (8 : Int32) ≤ v4 then k_64 v3 else (if (f_X7_canonFaults mn ml v2 v4) = 0 then (if v3 = p0 then ((((100 : Int32) * v2) + (50 : Int32)) + v4) else f_X7_canonsUpTo_j58 v4 (f_X7_canonsUpTo_l22 mn ml p0 v2 k_64 fu) (v3 + (1 : Int32))) else f_X7_canonsUpTo_j58 v4 (f_X7_canonsUpTo_l22 mn ml p0 v2 k_64 fu) v3)) := rfl
def f_X7_canonsUpTo_l4 (mn : Int32) (ml : Nat → Int32) (p0 : Int32) : Nat → Int32 → Int32 → Int32
  | 0, _, _ => default
  | fu + 1, v1, v2 =>
    (if mn ≤ v2 then f_X7_canonsUpTo_j70 p0 v1 else (if (12 : Int32) < v2 then f_X7_canonsUpTo_j70 p0 v1 else f_X7_canonsUpTo_l22 mn ml p0 v2 (f_X7_canonsUpTo_j64 v2 (f_X7_canonsUpTo_l4 mn ml p0 fu)) (16) v1 (-7 : Int32)))
theorem e_X7_canonsUpTo_l4 {fu : Nat} {mn : Int32} {ml : Nat → Int32} {p0 : Int32} {v1 : Int32} {v2 : Int32} : f_X7_canonsUpTo_l4 mn ml p0 (fu + 1) v1 v2 = (if mn ≤ v2 then f_X7_canonsUpTo_j70 p0 v1 else (if (12 : Int32) < v2 then f_X7_canonsUpTo_j70 p0 v1 else f_X7_canonsUpTo_l22 mn ml p0 v2 (f_X7_canonsUpTo_j64 v2 (f_X7_canonsUpTo_l4 mn ml p0 fu)) (16) v1 (-7 : Int32))) := rfl
def f_X7_canonsUpTo (mn : Int32) (ml : Nat → Int32) (p0 : Int32) : Int32 :=
  f_X7_canonsUpTo_l4 mn ml p0 ((mn.toInt - (1 : Int32).toInt).toNat + 1) (0 : Int32) (1 : Int32)
theorem e_X7_canonsUpTo {mn : Int32} {ml : Nat → Int32} {p0 : Int32} : f_X7_canonsUpTo mn ml p0 = f_X7_canonsUpTo_l4 mn ml p0 ((mn.toInt - (1 : Int32).toInt).toNat + 1) (0 : Int32) (1 : Int32) := rfl
section
variable {p : Program} {l : Launch} {e : Env} {s : State} {m : MethodId} {args : Array Value} {below : List Frame} {meth : Method} {c : Code} {Q : State → Prop} {H : Heap} {locs : List Loc} {dC : Nat → ClassId} {dI : Nat → Nat → Nat} {cI cJ : ClassId}
abbrev rm_X7_canonsUpTo : Room := { frames := 4, cells := 0, slots := 0, locals := 96 }
theorem hd_X7_canonsUpTo : yX7_canonsUpTo.cls = RX7 ∧ yX7_canonsUpTo.cls ≠ "java/lang/invoke/MethodHandle" ∧ yX7_canonsUpTo.cls ≠ "java/lang/invoke/VarHandle" ∧ (parseMethodDescriptor yX7_canonsUpTo.desc).map (fun d => d.parameters.length) = some 1 := by decide +kernel
set_option maxHeartbeats 4000000 in
set_option maxRecDepth 100000 in
theorem w_X7_canonsUpTo {aM : Nat} {aMG : Nat} {aML : Nat} {aMW : Nat} {aME : Nat} {aMO : Nat} {mt : Int32} {mc : Int32} {mn : Int32} {mr : Int32} {mb : Int32} {mf : Int32} {mlo : Int32} {mhi : Int32} {mx : Int32} {mg : Nat → Int32} {ml : Nat → Int32} {mw : Nat → Int32} {me : Nat → Int32} {mo : Nat → Int64} {p0 : Int32} (hm : mok mc mr) (hn : mnb mc mr mn) {F : Int32} (hx : p.tables.exec = Jvm.exec) (hb : c.code = cX7_canonsUpTo) (hml : c.maxLocals = 5) (hown : s.vm.findClass RX7 = some m.cls) (hts : ∀ w ∈ wsX7_canonsUpTo, w.before args s = true) (hK : va_K (dC, dI) vwCl [(cI, .int), (cJ, .long)] s) (hP : va_P (dC, dI) vwCl [(aM, .inr (7, [.int mt, .ref aMG, .int mc, .ref aML, .int mn, .int mr, .int mb, .int mf, .int mlo, .int mhi, .ref aMW, .ref aME, .ref aMO, .int mx])), (aMG, .inl (cI, 14, .inl mg)), (aML, .inl (cI, 53, .inl ml)), (aMW, .inl (cI, 12, .inl mw)), (aME, .inl (cI, 2700, .inl me)), (aMO, .inl (cJ, 2700, .inr (.inl mo)))] H) (hR : F = f_X7_canonsUpTo mn ml p0) (kR : ∀ (r : Int32) (pc : Nat) (ls : Array Slot), r = F → decode cX7_canonsUpTo pc = .ok (.ireturn, 1) → W p l e rm_X7_canonsUpTo s m args below meth c H locs 0 0 Q (F0 m pc ls [.int r])) (ls : Array Slot) (hl : lv_has ls 5 [(0, .ref aM), (1, .int p0)]) : W p l e rm_X7_canonsUpTo s m args below meth c H locs 0 0 Q (F0 m 0 ls []) := by
  have hR := hR.trans e_X7_canonsUpTo
  refine lv_iconst (v := (0 : Int32)) hx hb dX7_canonsUpTo_0 (by decide) ?_
  refine lv_istore_n (lv' := [(2, .int (0 : Int32)), (0, .ref aM), (1, .int p0)]) hx hb dX7_canonsUpTo_1 rfl hl (by decide) rfl (fun ls hl => ?_)
  refine lv_iconst (v := (1 : Int32)) hx hb dX7_canonsUpTo_2 (by decide) ?_
  refine lv_istore_n (lv' := [(3, .int (1 : Int32)), (2, .int (0 : Int32)), (0, .ref aM), (1, .int p0)]) hx hb dX7_canonsUpTo_3 rfl hl (by decide) rfl (fun ls hl => ?_)
  have L4 : ∀ (fu4 : Nat) (v1 : Int32) (v2 : Int32), ∀ (ls : Array Slot), lv_has ls 5 [(0, .ref aM), (1, .int p0), (2, .int v1), (3, .int v2)] → (mn.toInt - v2.toInt).toNat < fu4 → (1 ≤ v2.toInt) → F = f_X7_canonsUpTo_l4 mn ml p0 fu4 v1 v2 → W p l e rm_X7_canonsUpTo s m args below meth c H locs 0 0 Q (F0 m 4 ls []) := by
    intro fu4
    induction fu4 with
    | zero => intro v1 v2 ls hl hm; exact absurd hm (Nat.not_lt_zero _)
    | succ fu4 ih4 =>
      intro v1 v2 ls hl hm4 hd1 hR
      have hR := hR.trans e_X7_canonsUpTo_l4
      refine lv_iload_n hx hb dX7_canonsUpTo_4 rfl (lv_at hl 3 rfl) ?_
      refine lv_aload_n hx hb dX7_canonsUpTo_5 rfl (lv_at hl 0 rfl) ?_
      refine va_get (D := (dC, dI)) (ci := 7) (v := .int mn) (C := RX7) (T := TX7) (N := 14) hx hb hts inC_X7 hown hK hP 0 rfl rfl 4 (by decide) (hts (.fieldLink RX7 49 "CounterpointeryModel" "notes" "I") (List.mem_cons_of_mem _ wm_650)) (fun _ h9 => h9) rfl dX7_canonsUpTo_6 ?_
      have J70 : ∀ (v7 : Int32) (ls : Array Slot), lv_has ls 5 [(1, .int p0), (2, .int v7)] → F = f_X7_canonsUpTo_j70 p0 v7 → W p l e rm_X7_canonsUpTo s m args below meth c H locs 0 0 Q (F0 m 70 ls []) := by
        intro v7 ls hl hR
        have hR := hR.trans e_X7_canonsUpTo_j70
        refine lv_iload_n hx hb dX7_canonsUpTo_70 rfl (lv_at hl 0 rfl) ?_
        refine lv_iconst (v := (-1 : Int32)) hx hb dX7_canonsUpTo_71 (by decide +kernel) ?_
        refine lv_icmp_ne (tgt := 79) hx hb dX7_canonsUpTo_72 (by decide) (fun c_1 => ?_) (fun c_1 => ?_)
        · have hR := hR.trans (if_neg c_1)
          refine lv_iconst (v := (-1 : Int32)) hx hb dX7_canonsUpTo_79 (by decide +kernel) ?_
          exact kR (-1 : Int32) 80 ls hR.symm dX7_canonsUpTo_80
        · have hR := hR.trans (if_pos c_1)
          refine lv_iload_n hx hb dX7_canonsUpTo_75 rfl (lv_at hl 1 rfl) ?_
          refine lv_goto (tgt := 80) hx hb dX7_canonsUpTo_76 (by decide) ?_
          exact kR v7 80 ls hR.symm dX7_canonsUpTo_80
      refine lv_icmp_ge (tgt := 70) hx hb dX7_canonsUpTo_9 (by decide) (fun c_2 => ?_) (fun c_2 => ?_)
      · have hR := hR.trans (if_pos c_2)
        exact J70 v1 ls (lv_sub hl [1, 2] rfl) hR
      · have hR := hR.trans (if_neg c_2)
        refine lv_iload_n hx hb dX7_canonsUpTo_12 rfl (lv_at hl 3 rfl) ?_
        refine lv_bipush (v := (12 : Int32)) hx hb dX7_canonsUpTo_13 (by decide) ?_
        refine lv_icmp_gt (tgt := 70) hx hb dX7_canonsUpTo_15 (by decide) (fun c_3 => ?_) (fun c_3 => ?_)
        · have hR := hR.trans (if_pos c_3)
          exact J70 v1 ls (lv_sub hl [1, 2] rfl) hR
        · have hR := hR.trans (if_neg c_3)
          refine lv_bipush (v := (-7 : Int32)) hx hb dX7_canonsUpTo_18 (by decide +kernel) ?_
          refine lv_istore (lv' := [(4, .int (-7 : Int32)), (0, .ref aM), (1, .int p0), (2, .int v1), (3, .int v2)]) hx hb dX7_canonsUpTo_20 hl (by decide) rfl (fun ls hl => ?_)
          have L22 : ∀ (fu22 : Nat) (v3 : Int32) (v4 : Int32), ∀ (ls : Array Slot), lv_has ls 5 [(0, .ref aM), (1, .int p0), (2, .int v3), (3, .int v2), (4, .int v4)] → ((8 : Int32).toInt - v4.toInt).toNat < fu22 → F = f_X7_canonsUpTo_l22 mn ml p0 v2 (f_X7_canonsUpTo_j64 v2 (f_X7_canonsUpTo_l4 mn ml p0 fu4)) fu22 v3 v4 → W p l e rm_X7_canonsUpTo s m args below meth c H locs 0 0 Q (F0 m 22 ls []) := by
            intro fu22
            induction fu22 with
            | zero => intro v3 v4 ls hl hm; exact absurd hm (Nat.not_lt_zero _)
            | succ fu22 ih22 =>
              intro v3 v4 ls hl hm22 hR
              have hR := hR.trans e_X7_canonsUpTo_l22
              refine lv_iload hx hb dX7_canonsUpTo_22 (lv_at hl 4 rfl) ?_
              refine lv_bipush (v := (8 : Int32)) hx hb dX7_canonsUpTo_24 (by decide) ?_
              have J64 : ∀ (v6 : Int32) (ls : Array Slot), lv_has ls 5 [(0, .ref aM), (1, .int p0), (2, .int v6), (3, .int v2)] → F = f_X7_canonsUpTo_j64 v2 (f_X7_canonsUpTo_l4 mn ml p0 fu4) v6 → W p l e rm_X7_canonsUpTo s m args below meth c H locs 0 0 Q (F0 m 64 ls []) := by
                intro v6 ls hl hR
                have hR := hR.trans e_X7_canonsUpTo_j64
                refine lv_iinc (v := (v2 + (1 : Int32))) (lv' := [(3, .int (v2 + (1 : Int32))), (0, .ref aM), (1, .int p0), (2, .int v6)]) hx hb dX7_canonsUpTo_64 hl (k := 3) rfl rfl (by decide) rfl (fun ls hl => ?_)
                refine lv_goto (tgt := 4) hx hb dX7_canonsUpTo_67 (by decide) ?_
                exact ih4 v6 (v2 + (1 : Int32)) ls (lv_sub hl [1, 2, 3, 0] rfl) (Nat.lt_of_lt_of_le (lp_up (by assumption)) (Nat.le_of_lt_succ hm4)) (show 1 ≤ (v2 + (1 : Int32)).toInt from mx_s1 hd1 (by assumption)) hR
              refine lv_icmp_ge (tgt := 64) hx hb dX7_canonsUpTo_26 (by decide) (fun c_4 => ?_) (fun c_4 => ?_)
              · have hR := hR.trans (if_pos c_4)
                exact J64 v3 ls (lv_sub hl [0, 1, 2, 3] rfl) hR
              · have hR := hR.trans (if_neg c_4)
                refine lv_aload_n hx hb dX7_canonsUpTo_29 rfl (lv_at hl 0 rfl) ?_
                refine lv_iload_n hx hb dX7_canonsUpTo_30 rfl (lv_at hl 3 rfl) ?_
                refine lv_iload hx hb dX7_canonsUpTo_31 (lv_at hl 4 rfl) ?_
                refine rV_i (q0 := 0) (As := [.int v2, .int v4]) (rest := []) ⟨hx, hb, hml, hown, hts⟩ (m_X7_canonFaults l dC dI cI cJ aM aMG aML aMW aME aMO mt mc mn mr mb mf mlo mhi mx mg ml mw me mo v2 v4 (show mok mc mr from hm) (show mnb mc mr mn from hn) (hd1)) (cwV 2 hts (gi_V wm_792 wm_793 wm_794 wm_633 wm_795) rfl rfl rfl hd_X7_canonFaults ⟨Nat.le_of_ble_eq_true rfl, Nat.le_of_ble_eq_true rfl⟩) hK (hP.sub [0, 1, 2, 3, 4, 5] rfl) rfl rfl rfl hl.1 rfl (Nat.le_of_ble_eq_true rfl) dX7_canonsUpTo_33 ⟨Nat.zero_le _, Nat.zero_le _⟩ ?_
                have J58 : ∀ (v5 : Int32) (ls : Array Slot), lv_has ls 5 [(0, .ref aM), (1, .int p0), (2, .int v5), (3, .int v2), (4, .int v4)] → F = f_X7_canonsUpTo_j58 v4 (f_X7_canonsUpTo_l22 mn ml p0 v2 (f_X7_canonsUpTo_j64 v2 (f_X7_canonsUpTo_l4 mn ml p0 fu4)) fu22) v5 → W p l e rm_X7_canonsUpTo s m args below meth c H locs 0 0 Q (F0 m 58 ls []) := by
                  intro v5 ls hl hR
                  have hR := hR.trans e_X7_canonsUpTo_j58
                  refine lv_iinc (v := (v4 + (1 : Int32))) (lv' := [(4, .int (v4 + (1 : Int32))), (0, .ref aM), (1, .int p0), (2, .int v5), (3, .int v2)]) hx hb dX7_canonsUpTo_58 hl (k := 4) rfl rfl (by decide) rfl (fun ls hl => ?_)
                  refine lv_goto (tgt := 22) hx hb dX7_canonsUpTo_61 (by decide) ?_
                  exact ih22 v5 (v4 + (1 : Int32)) ls (lv_sub hl [1, 2, 3, 4, 0] rfl) (Nat.lt_of_lt_of_le (lp_up (by assumption)) (Nat.le_of_lt_succ hm22)) hR
                refine lv_if_ne (tgt := 58) hx hb dX7_canonsUpTo_36 (by decide) (fun c_5 => ?_) (fun c_5 => ?_)
                · have hR := hR.trans (if_neg c_5)
                  exact J58 v3 ls (lv_sub hl [0, 1, 2, 3, 4] rfl) hR
                · have hR := hR.trans (if_pos c_5)
                  refine lv_iload_n hx hb dX7_canonsUpTo_39 rfl (lv_at hl 2 rfl) ?_
                  refine lv_iload_n hx hb dX7_canonsUpTo_40 rfl (lv_at hl 1 rfl) ?_
                  refine lv_icmp_ne (tgt := 55) hx hb dX7_canonsUpTo_41 (by decide) (fun c_6 => ?_) (fun c_6 => ?_)
                  · have hR := hR.trans (if_neg c_6)
                    refine lv_iinc (v := (v3 + (1 : Int32))) (lv' := [(2, .int (v3 + (1 : Int32))), (0, .ref aM), (1, .int p0), (3, .int v2), (4, .int v4)]) hx hb dX7_canonsUpTo_55 hl (k := 2) rfl rfl (by decide) rfl (fun ls hl => ?_)
                    exact J58 (v3 + (1 : Int32)) ls (lv_sub hl [1, 2, 0, 3, 4] rfl) hR
                  · have hR := hR.trans (if_pos c_6)
                    refine lv_bipush (v := (100 : Int32)) hx hb dX7_canonsUpTo_44 (by decide) ?_
                    refine lv_iload_n hx hb dX7_canonsUpTo_46 rfl (lv_at hl 3 rfl) ?_
                    refine lv_imul hx hb dX7_canonsUpTo_47 ?_
                    refine lv_bipush (v := (50 : Int32)) hx hb dX7_canonsUpTo_48 (by decide) ?_
                    refine lv_iadd hx hb dX7_canonsUpTo_50 ?_
                    refine lv_iload hx hb dX7_canonsUpTo_51 (lv_at hl 4 rfl) ?_
                    refine lv_iadd hx hb dX7_canonsUpTo_53 ?_
                    exact kR ((((100 : Int32) * v2) + (50 : Int32)) + v4) 54 ls hR.symm dX7_canonsUpTo_54
          exact L22 (16) v1 (-7 : Int32) ls (lv_sub hl [1, 2, 3, 4, 0] rfl) (by decide +kernel) hR
  exact L4 ((mn.toInt - (1 : Int32).toInt).toNat + 1) (0 : Int32) (1 : Int32) ls (lv_sub hl [2, 3, 1, 0] rfl) (Nat.lt_succ_self _) (show 1 ≤ (1 : Int32).toInt from (by decide)) hR
set_option maxHeartbeats 4000000 in
set_option maxRecDepth 100000 in
theorem m_X7_canonsUpTo (l : Launch) (dC : Nat → ClassId) (dI : Nat → Nat → Nat) (cI cJ : ClassId) (aM : Nat) (aMG : Nat) (aML : Nat) (aMW : Nat) (aME : Nat) (aMO : Nat) (mt : Int32) (mc : Int32) (mn : Int32) (mr : Int32) (mb : Int32) (mf : Int32) (mlo : Int32) (mhi : Int32) (mx : Int32) (mg : Nat → Int32) (ml : Nat → Int32) (mw : Nat → Int32) (me : Nat → Int32) (mo : Nat → Int64) (p0 : Int32) (hm : mok mc mr) (hn : mnb mc mr mn) : Met l yX7_canonsUpTo wsX7_canonsUpTo rm_X7_canonsUpTo (va_Pc [.ref aM, .int p0] (fun U => va_P (dC, dI) vwCl [(aM, .inr (7, [.int mt, .ref aMG, .int mc, .ref aML, .int mn, .int mr, .int mb, .int mf, .int mlo, .int mhi, .ref aMW, .ref aME, .ref aMO, .int mx])), (aMG, .inl (cI, 14, .inl mg)), (aML, .inl (cI, 53, .inl ml)), (aMW, .inl (cI, 12, .inl mw)), (aME, .inl (cI, 2700, .inl me)), (aMO, .inl (cJ, 2700, .inr (.inl mo)))] U.heap ∧ va_K (dC, dI) vwCl [(cI, .int), (cJ, .long)] U)) (vp_Si (fun r => r = f_X7_canonsUpTo mn ml p0)) 0 0 (fun _ => False) := by
  refine Met.ofW (cc := cX7_canonsUpTo) (maxL := 5) (ret := (some .int)) (by decide) rfl ?_
  intro p e s m args below meth c s₁ B hml hv
  obtain ⟨rfl, hP, hK⟩ := hv
  have hl := lv_entry ([.ref aM, .int p0]) (n := 5) (Nat.le_of_ble_eq_true rfl)
  rw [lg_entry_eq]
  refine w_X7_canonsUpTo hm hn B.exec B.bytes hml (findClass_of_methodNamed B.named) (atoms_spec (ws := wsX7_canonsUpTo) B.pre) hK hP rfl (fun r pc ls er hd => ?_) _ hl
  exact W.iret B.exec B.bytes B.returns (fun t ht hW => ⟨r, rfl, er, ht⟩) (fun _ h => by cases h) hd B.notSynchronized
end
def f_X7_canons_j14 (mn : Int32) (ml : Nat → Int32) (v1 : Int32) : Int32 × Int32 :=
  (if ((f_X7_goesOn v1).1) = 0 then ((0 : Int32), ((f_X7_goesOn v1).2)) else ((f_X7_canonsUpTo mn ml (-1 : Int32)), ((f_X7_goesOn v1).2)))
theorem e_X7_canons_j14 {mn : Int32} {ml : Nat → Int32} {v1 : Int32} : f_X7_canons_j14 mn ml v1 = (if ((f_X7_goesOn v1).1) = 0 then ((0 : Int32), ((f_X7_goesOn v1).2)) else ((f_X7_canonsUpTo mn ml (-1 : Int32)), ((f_X7_goesOn v1).2))) := rfl
def f_X7_canons (mn : Int32) (ml : Nat → Int32) : Int32 × Int32 :=
  (if (2 : Int32) ≤ mn then f_X7_canons_j14 mn ml (0 : Int32) else f_X7_canons_j14 mn ml (1 : Int32))
theorem e_X7_canons {mn : Int32} {ml : Nat → Int32} : f_X7_canons mn ml = (if (2 : Int32) ≤ mn then f_X7_canons_j14 mn ml (0 : Int32) else f_X7_canons_j14 mn ml (1 : Int32)) := rfl
section
variable {p : Program} {l : Launch} {e : Env} {s : State} {m : MethodId} {args : Array Value} {below : List Frame} {meth : Method} {c : Code} {Q : State → Prop} {H : Heap} {locs : List Loc} {dC : Nat → ClassId} {dI : Nat → Nat → Nat} {cI cJ : ClassId}
abbrev rm_X7_canons : Room := { frames := 5, cells := 0, slots := 0, locals := 120 }
theorem hd_X7_canons : yX7_canons.cls = RX7 ∧ yX7_canons.cls ≠ "java/lang/invoke/MethodHandle" ∧ yX7_canons.cls ≠ "java/lang/invoke/VarHandle" ∧ (parseMethodDescriptor yX7_canons.desc).map (fun d => d.parameters.length) = some 0 := by decide +kernel
set_option maxHeartbeats 4000000 in
set_option maxRecDepth 100000 in
theorem w_X7_canons {aM : Nat} {aMG : Nat} {aML : Nat} {aMW : Nat} {aME : Nat} {aMO : Nat} {mt : Int32} {mc : Int32} {mn : Int32} {mr : Int32} {mb : Int32} {mf : Int32} {mlo : Int32} {mhi : Int32} {mx : Int32} {mg : Nat → Int32} {ml : Nat → Int32} {mw : Nat → Int32} {me : Nat → Int32} {mo : Nat → Int64} (hm : mok mc mr) (hn : mnb mc mr mn) {F : Int32 × Int32} (hx : p.tables.exec = Jvm.exec) (hb : c.code = cX7_canons) (hml : c.maxLocals = 1) (hown : s.vm.findClass RX7 = some m.cls) (hts : ∀ w ∈ wsX7_canons, w.before args s = true) (hK : va_K (dC, dI) vwCl [(cI, .int), (cJ, .long)] s) {A : Nat → Prop} {H0 : Heap} (hP : va_P (dC, dI) vwCl [(aM, .inr (7, [.int mt, .ref aMG, .int mc, .ref aML, .int mn, .int mr, .int mb, .int mf, .int mlo, .int mhi, .ref aMW, .ref aME, .ref aMO, .int mx])), (aMG, .inl (cI, 14, .inl mg)), (aML, .inl (cI, 53, .inl ml)), (aMW, .inl (cI, 12, .inl mw)), (aME, .inl (cI, 2700, .inl me)), (aMO, .inl (cJ, 2700, .inr (.inl mo)))] H) (hD : va_D A [(aM, .inr (7, [.int mt, .ref aMG, .int mc, .ref aML, .int mn, .int mr, .int mb, .int mf, .int mlo, .int mhi, .ref aMW, .ref aME, .ref aMO, .int mx])), (aMG, .inl (cI, 14, .inl mg)), (aML, .inl (cI, 53, .inl ml)), (aMW, .inl (cI, 12, .inl mw)), (aME, .inl (cI, 2700, .inl me)), (aMO, .inl (cJ, 2700, .inr (.inl mo)))]) (hS : va_S A H0 H locs) (hA : ∀ q, H0.size ≤ q → A q) (hR : F = f_X7_canons mn ml) (kR : ∀ (r : Int32) (pc : Nat) (ls : Array Slot) (H : Heap) (locs : List Loc) (mt' : Int32), va_P (dC, dI) vwCl [(aM, .inr (7, [.int mt', .ref aMG, .int mc, .ref aML, .int mn, .int mr, .int mb, .int mf, .int mlo, .int mhi, .ref aMW, .ref aME, .ref aMO, .int mx])), (aMG, .inl (cI, 14, .inl mg)), (aML, .inl (cI, 53, .inl ml)), (aMW, .inl (cI, 12, .inl mw)), (aME, .inl (cI, 2700, .inl me)), (aMO, .inl (cJ, 2700, .inr (.inl mo)))] H → va_D A [(aM, .inr (7, [.int mt', .ref aMG, .int mc, .ref aML, .int mn, .int mr, .int mb, .int mf, .int mlo, .int mhi, .ref aMW, .ref aME, .ref aMO, .int mx])), (aMG, .inl (cI, 14, .inl mg)), (aML, .inl (cI, 53, .inl ml)), (aMW, .inl (cI, 12, .inl mw)), (aME, .inl (cI, 2700, .inl me)), (aMO, .inl (cJ, 2700, .inr (.inl mo)))] → va_S A H0 H locs → (r, mt') = F → decode cX7_canons pc = .ok (.ireturn, 1) → W p l e rm_X7_canons s m args below meth c H locs 0 0 Q (F0 m pc ls [.int r])) (ls : Array Slot) (hl : lv_has ls 1 [(0, .ref aM)]) : W p l e rm_X7_canons s m args below meth c H locs 0 0 Q (F0 m 0 ls []) := by
  have hR := hR.trans e_X7_canons
  refine lv_aload_n hx hb dX7_canons_0 rfl (lv_at hl 0 rfl) ?_
  refine lv_aload_n hx hb dX7_canons_1 rfl (lv_at hl 0 rfl) ?_
  refine va_get (D := (dC, dI)) (ci := 7) (v := .int mn) (C := RX7) (T := TX7) (N := 14) hx hb hts inC_X7 hown hK hP 0 rfl rfl 4 (by decide) (hts (.fieldLink RX7 49 "CounterpointeryModel" "notes" "I") (List.mem_cons_of_mem _ wm_650)) (fun _ h9 => h9) rfl dX7_canons_2 ?_
  refine lv_iconst (v := (2 : Int32)) hx hb dX7_canons_5 (by decide) ?_
  have J14 : ∀ (v1 : Int32) (H : Heap) (locs : List Loc), va_P (dC, dI) vwCl [(aM, .inr (7, [.int mt, .ref aMG, .int mc, .ref aML, .int mn, .int mr, .int mb, .int mf, .int mlo, .int mhi, .ref aMW, .ref aME, .ref aMO, .int mx])), (aMG, .inl (cI, 14, .inl mg)), (aML, .inl (cI, 53, .inl ml)), (aMW, .inl (cI, 12, .inl mw)), (aME, .inl (cI, 2700, .inl me)), (aMO, .inl (cJ, 2700, .inr (.inl mo)))] H → va_D A [(aM, .inr (7, [.int mt, .ref aMG, .int mc, .ref aML, .int mn, .int mr, .int mb, .int mf, .int mlo, .int mhi, .ref aMW, .ref aME, .ref aMO, .int mx])), (aMG, .inl (cI, 14, .inl mg)), (aML, .inl (cI, 53, .inl ml)), (aMW, .inl (cI, 12, .inl mw)), (aME, .inl (cI, 2700, .inl me)), (aMO, .inl (cJ, 2700, .inr (.inl mo)))] → va_S A H0 H locs → ∀ (ls : Array Slot), lv_has ls 1 [(0, .ref aM)] → zb v1 → F = f_X7_canons_j14 mn ml v1 → W p l e rm_X7_canons s m args below meth c H locs 0 0 Q (F0 m 14 ls [.int v1, .ref aM]) := by
    intro v1 H locs hP hD hS ls hl hz_v1 hR
    have hR := hR.trans e_X7_canons_j14
    refine wV_i (q0 := 0) (As := [.int v1]) (rest := []) (wc := [(aM, .inr (7, [.int mt, .ref aMG, .int mc, .ref aML, .int mn, .int mr, .int mb, .int mf, .int mlo, .int mhi, .ref aMW, .ref aME, .ref aMO, .int mx])), (aMG, .inl (cI, 14, .inl mg)), (aML, .inl (cI, 53, .inl ml)), (aMW, .inl (cI, 12, .inl mw)), (aME, .inl (cI, 2700, .inl me)), (aMO, .inl (cJ, 2700, .inr (.inl mo)))]) (w1 := [(aM, .inr (7, [.int ((f_X7_goesOn v1).2), .ref aMG, .int mc, .ref aML, .int mn, .int mr, .int mb, .int mf, .int mlo, .int mhi, .ref aMW, .ref aME, .ref aMO, .int mx])), (aMG, .inl (cI, 14, .inl mg)), (aML, .inl (cI, 53, .inl ml)), (aMW, .inl (cI, 12, .inl mw)), (aME, .inl (cI, 2700, .inl me)), (aMO, .inl (cJ, 2700, .inr (.inl mo)))]) (wr := []) (wn := [(aM, .inr (7, [.int ((f_X7_goesOn v1).2), .ref aMG, .int mc, .ref aML, .int mn, .int mr, .int mb, .int mf, .int mlo, .int mhi, .ref aMW, .ref aME, .ref aMO, .int mx])), (aMG, .inl (cI, 14, .inl mg)), (aML, .inl (cI, 53, .inl ml)), (aMW, .inl (cI, 12, .inl mw)), (aME, .inl (cI, 2700, .inl me)), (aMO, .inl (cJ, 2700, .inr (.inl mo)))]) ⟨hx, hb, hml, hown, hts⟩ (m_X7_goesOn l dC dI cI cJ aM aMG aML aMW aME aMO mt mc mn mr mb mf mlo mhi mx mg ml mw me mo v1 H.size) (cwV 1 hts (gi_V wm_638 wm_639 wm_640 wm_633 wm_641) rfl rfl rfl hd_X7_goesOn ⟨Nat.le_of_ble_eq_true rfl, Nat.le_of_ble_eq_true rfl⟩) hK hP hD hS hA [0, 1, 2, 3, 4, 5] [] [0, 1, 2, 3, 4, 5] rfl rfl rfl (by decide) (by decide) (by decide) (by decide) rfl rfl rfl hl.1 rfl (Nat.le_of_ble_eq_true rfl) dX7_canons_14 ⟨Nat.zero_le _, Nat.zero_le _⟩ (fun H locs hP hD hS => ?_)
    refine lv_if_eq (tgt := 28) hx hb dX7_canons_17 (by decide) (fun c_1 => ?_) (fun c_1 => ?_)
    · have hR := hR.trans (if_pos c_1)
      refine lv_iconst (v := (0 : Int32)) hx hb dX7_canons_28 (by decide) ?_
      exact kR (0 : Int32) 29 ls H locs ((f_X7_goesOn v1).2) hP hD hS hR.symm dX7_canons_29
    · have hR := hR.trans (if_neg c_1)
      refine lv_aload_n hx hb dX7_canons_20 rfl (lv_at hl 0 rfl) ?_
      refine lv_iconst (v := (-1 : Int32)) hx hb dX7_canons_21 (by decide +kernel) ?_
      refine rV_i (q0 := 0) (As := [.int (-1 : Int32)]) (rest := []) ⟨hx, hb, hml, hown, hts⟩ (m_X7_canonsUpTo l dC dI cI cJ aM aMG aML aMW aME aMO ((f_X7_goesOn v1).2) mc mn mr mb mf mlo mhi mx mg ml mw me mo (-1 : Int32) (show mok mc mr from hm) (show mnb mc mr mn from hn)) (cwV 1 hts (gi_V wm_796 wm_797 wm_798 wm_633 wm_799) rfl rfl rfl hd_X7_canonsUpTo ⟨Nat.le_of_ble_eq_true rfl, Nat.le_of_ble_eq_true rfl⟩) hK (hP.sub [0, 1, 2, 3, 4, 5] rfl) rfl rfl rfl hl.1 rfl (Nat.le_of_ble_eq_true rfl) dX7_canons_22 ⟨Nat.zero_le _, Nat.zero_le _⟩ ?_
      refine lv_goto (tgt := 29) hx hb dX7_canons_25 (by decide) ?_
      exact kR (f_X7_canonsUpTo mn ml (-1 : Int32)) 29 ls H locs ((f_X7_goesOn v1).2) hP hD hS hR.symm dX7_canons_29
  refine lv_icmp_ge (tgt := 13) hx hb dX7_canons_6 (by decide) (fun c_2 => ?_) (fun c_2 => ?_)
  · have hR := hR.trans (if_pos c_2)
    refine lv_iconst (v := (0 : Int32)) hx hb dX7_canons_13 (by decide) ?_
    exact J14 (0 : Int32) H locs hP hD hS ls (lv_sub hl [0] rfl) (by first | exact Or.inl rfl | exact Or.inr rfl) hR
  · have hR := hR.trans (if_neg c_2)
    refine lv_iconst (v := (1 : Int32)) hx hb dX7_canons_9 (by decide) ?_
    refine lv_goto (tgt := 14) hx hb dX7_canons_10 (by decide) ?_
    exact J14 (1 : Int32) H locs hP hD hS ls (lv_sub hl [0] rfl) (by first | exact Or.inl rfl | exact Or.inr rfl) hR
set_option maxHeartbeats 4000000 in
set_option maxRecDepth 100000 in
theorem m_X7_canons (l : Launch) (dC : Nat → ClassId) (dI : Nat → Nat → Nat) (cI cJ : ClassId) (aM : Nat) (aMG : Nat) (aML : Nat) (aMW : Nat) (aME : Nat) (aMO : Nat) (mt : Int32) (mc : Int32) (mn : Int32) (mr : Int32) (mb : Int32) (mf : Int32) (mlo : Int32) (mhi : Int32) (mx : Int32) (mg : Nat → Int32) (ml : Nat → Int32) (mw : Nat → Int32) (me : Nat → Int32) (mo : Nat → Int64) (hm : mok mc mr) (hn : mnb mc mr mn) (sz : Nat) : Met l yX7_canons wsX7_canons rm_X7_canons (va_Pc [.ref aM] (fun U => U.heap.size = sz ∧ va_P (dC, dI) vwCl [(aM, .inr (7, [.int mt, .ref aMG, .int mc, .ref aML, .int mn, .int mr, .int mb, .int mf, .int mlo, .int mhi, .ref aMW, .ref aME, .ref aMO, .int mx])), (aMG, .inl (cI, 14, .inl mg)), (aML, .inl (cI, 53, .inl ml)), (aMW, .inl (cI, 12, .inl mw)), (aME, .inl (cI, 2700, .inl me)), (aMO, .inl (cJ, 2700, .inr (.inl mo)))] U.heap ∧ va_K (dC, dI) vwCl [(cI, .int), (cJ, .long)] U ∧ va_D (fun _ => True) [(aM, .inr (7, [.int mt, .ref aMG, .int mc, .ref aML, .int mn, .int mr, .int mb, .int mf, .int mlo, .int mhi, .ref aMW, .ref aME, .ref aMO, .int mx])), (aMG, .inl (cI, 14, .inl mg)), (aML, .inl (cI, 53, .inl ml)), (aMW, .inl (cI, 12, .inl mw)), (aME, .inl (cI, 2700, .inl me)), (aMO, .inl (cJ, 2700, .inr (.inl mo)))])) (va_Qi (fun (r : Int32) (_ : Unit) => r = (f_X7_canons mn ml).1) (fun _ t => va_P (dC, dI) vwCl [(aM, .inr (7, [.int ((f_X7_canons mn ml).2), .ref aMG, .int mc, .ref aML, .int mn, .int mr, .int mb, .int mf, .int mlo, .int mhi, .ref aMW, .ref aME, .ref aMO, .int mx])), (aMG, .inl (cI, 14, .inl mg)), (aML, .inl (cI, 53, .inl ml)), (aMW, .inl (cI, 12, .inl mw)), (aME, .inl (cI, 2700, .inl me)), (aMO, .inl (cJ, 2700, .inr (.inl mo)))] t.heap ∧ va_K (dC, dI) vwCl [(cI, .int), (cJ, .long)] t ∧ va_D (va_A [(aM, .inr (7, [.int mt, .ref aMG, .int mc, .ref aML, .int mn, .int mr, .int mb, .int mf, .int mlo, .int mhi, .ref aMW, .ref aME, .ref aMO, .int mx])), (aMG, .inl (cI, 14, .inl mg)), (aML, .inl (cI, 53, .inl ml)), (aMW, .inl (cI, 12, .inl mw)), (aME, .inl (cI, 2700, .inl me)), (aMO, .inl (cJ, 2700, .inr (.inl mo)))] sz) [(aM, .inr (7, [.int ((f_X7_canons mn ml).2), .ref aMG, .int mc, .ref aML, .int mn, .int mr, .int mb, .int mf, .int mlo, .int mhi, .ref aMW, .ref aME, .ref aMO, .int mx])), (aMG, .inl (cI, 14, .inl mg)), (aML, .inl (cI, 53, .inl ml)), (aMW, .inl (cI, 12, .inl mw)), (aME, .inl (cI, 2700, .inl me)), (aMO, .inl (cJ, 2700, .inr (.inl mo)))]) (va_A [(aM, .inr (7, [.int mt, .ref aMG, .int mc, .ref aML, .int mn, .int mr, .int mb, .int mf, .int mlo, .int mhi, .ref aMW, .ref aME, .ref aMO, .int mx])), (aMG, .inl (cI, 14, .inl mg)), (aML, .inl (cI, 53, .inl ml)), (aMW, .inl (cI, 12, .inl mw)), (aME, .inl (cI, 2700, .inl me)), (aMO, .inl (cJ, 2700, .inr (.inl mo)))] sz)) 0 0 (va_A [(aM, .inr (7, [.int mt, .ref aMG, .int mc, .ref aML, .int mn, .int mr, .int mb, .int mf, .int mlo, .int mhi, .ref aMW, .ref aME, .ref aMO, .int mx])), (aMG, .inl (cI, 14, .inl mg)), (aML, .inl (cI, 53, .inl ml)), (aMW, .inl (cI, 12, .inl mw)), (aME, .inl (cI, 2700, .inl me)), (aMO, .inl (cJ, 2700, .inr (.inl mo)))] sz) := by
  refine Met.ofW (cc := cX7_canons) (maxL := 1) (ret := (some .int)) (by decide) rfl ?_
  intro p e s m args below meth c s₁ B hml hv
  obtain ⟨rfl, hsz, hP, hK, hD0⟩ := hv
  subst hsz
  have hl := lv_entry ([.ref aM]) (n := 1) (Nat.le_of_ble_eq_true rfl)
  rw [lg_entry_eq]
  refine w_X7_canons hm hn B.exec B.bytes hml (findClass_of_methodNamed B.named) (atoms_spec (ws := wsX7_canons) B.pre) hK hP (hD0.self (sz := s.heap.size)) va_S.rf (fun q h => Or.inr h) rfl (fun r pc ls H locs mt' hP hD hS er hd => ?_) _ hl
  simp only [Prod.ext_iff] at er
  obtain ⟨e0, e1⟩ := er
  subst e0
  subst e1
  exact W.iret B.exec B.bytes B.returns (fun t ht hW => ⟨⟨_, (), rfl, rfl, by rw [ht]; exact hP, va_K.moved hW.alike hK, hD⟩, hS.F ht⟩) hS.2.2 hd B.notSynchronized
end
def f_X7_canonAt_j45 (v1 : Int32) (v2 : Int32) : Int32 × Int32 :=
  (if ((f_X7_goesOn v2).1) = 0 then ((0 : Int32), ((f_X7_goesOn v2).2)) else (v1, ((f_X7_goesOn v2).2)))
theorem e_X7_canonAt_j45 {v1 : Int32} {v2 : Int32} : f_X7_canonAt_j45 v1 v2 = (if ((f_X7_goesOn v2).1) = 0 then ((0 : Int32), ((f_X7_goesOn v2).2)) else (v1, ((f_X7_goesOn v2).2))) := rfl
def f_X7_canonAt_j21 (mn : Int32) (v1 : Int32) : Int32 × Int32 :=
  (if (2 : Int32) ≤ mn then (if v1 = (-1 : Int32) then f_X7_canonAt_j45 v1 (2 : Int32) else f_X7_canonAt_j45 v1 (0 : Int32)) else f_X7_canonAt_j45 v1 (1 : Int32))
theorem e_X7_canonAt_j21 {mn : Int32} {v1 : Int32} : f_X7_canonAt_j21 mn v1 = (if (2 : Int32) ≤ mn then (if v1 = (-1 : Int32) then f_X7_canonAt_j45 v1 (2 : Int32) else f_X7_canonAt_j45 v1 (0 : Int32)) else f_X7_canonAt_j45 v1 (1 : Int32)) := rfl
def f_X7_canonAt_j12 (mn : Int32) : Int32 × Int32 :=
  f_X7_canonAt_j21 mn (-1 : Int32)
theorem e_X7_canonAt_j12 {mn : Int32} : f_X7_canonAt_j12 mn = f_X7_canonAt_j21 mn (-1 : Int32) := rfl
def f_X7_canonAt (mn : Int32) (ml : Nat → Int32) (p0 : Int32) : Int32 × Int32 :=
  (if p0 < 0 then f_X7_canonAt_j12 mn else (if (2 : Int32) ≤ mn then f_X7_canonAt_j21 mn (f_X7_canonsUpTo mn ml p0) else f_X7_canonAt_j12 mn))
theorem e_X7_canonAt {mn : Int32} {ml : Nat → Int32} {p0 : Int32} : f_X7_canonAt mn ml p0 = (if p0 < 0 then f_X7_canonAt_j12 mn else (if (2 : Int32) ≤ mn then f_X7_canonAt_j21 mn (f_X7_canonsUpTo mn ml p0) else f_X7_canonAt_j12 mn)) := rfl
section
variable {p : Program} {l : Launch} {e : Env} {s : State} {m : MethodId} {args : Array Value} {below : List Frame} {meth : Method} {c : Code} {Q : State → Prop} {H : Heap} {locs : List Loc} {dC : Nat → ClassId} {dI : Nat → Nat → Nat} {cI cJ : ClassId}
abbrev rm_X7_canonAt : Room := { frames := 5, cells := 0, slots := 0, locals := 120 }
theorem hd_X7_canonAt : yX7_canonAt.cls = RX7 ∧ yX7_canonAt.cls ≠ "java/lang/invoke/MethodHandle" ∧ yX7_canonAt.cls ≠ "java/lang/invoke/VarHandle" ∧ (parseMethodDescriptor yX7_canonAt.desc).map (fun d => d.parameters.length) = some 1 := by decide +kernel
set_option maxHeartbeats 4000000 in
set_option maxRecDepth 100000 in
theorem w_X7_canonAt {aM : Nat} {aMG : Nat} {aML : Nat} {aMW : Nat} {aME : Nat} {aMO : Nat} {mt : Int32} {mc : Int32} {mn : Int32} {mr : Int32} {mb : Int32} {mf : Int32} {mlo : Int32} {mhi : Int32} {mx : Int32} {mg : Nat → Int32} {ml : Nat → Int32} {mw : Nat → Int32} {me : Nat → Int32} {mo : Nat → Int64} {p0 : Int32} (hm : mok mc mr) (hn : mnb mc mr mn) {F : Int32 × Int32} (hx : p.tables.exec = Jvm.exec) (hb : c.code = cX7_canonAt) (hml : c.maxLocals = 3) (hown : s.vm.findClass RX7 = some m.cls) (hts : ∀ w ∈ wsX7_canonAt, w.before args s = true) (hK : va_K (dC, dI) vwCl [(cI, .int), (cJ, .long)] s) {A : Nat → Prop} {H0 : Heap} (hP : va_P (dC, dI) vwCl [(aM, .inr (7, [.int mt, .ref aMG, .int mc, .ref aML, .int mn, .int mr, .int mb, .int mf, .int mlo, .int mhi, .ref aMW, .ref aME, .ref aMO, .int mx])), (aMG, .inl (cI, 14, .inl mg)), (aML, .inl (cI, 53, .inl ml)), (aMW, .inl (cI, 12, .inl mw)), (aME, .inl (cI, 2700, .inl me)), (aMO, .inl (cJ, 2700, .inr (.inl mo)))] H) (hD : va_D A [(aM, .inr (7, [.int mt, .ref aMG, .int mc, .ref aML, .int mn, .int mr, .int mb, .int mf, .int mlo, .int mhi, .ref aMW, .ref aME, .ref aMO, .int mx])), (aMG, .inl (cI, 14, .inl mg)), (aML, .inl (cI, 53, .inl ml)), (aMW, .inl (cI, 12, .inl mw)), (aME, .inl (cI, 2700, .inl me)), (aMO, .inl (cJ, 2700, .inr (.inl mo)))]) (hS : va_S A H0 H locs) (hA : ∀ q, H0.size ≤ q → A q) (hR : F = f_X7_canonAt mn ml p0) (kR : ∀ (r : Int32) (pc : Nat) (ls : Array Slot) (H : Heap) (locs : List Loc) (mt' : Int32), va_P (dC, dI) vwCl [(aM, .inr (7, [.int mt', .ref aMG, .int mc, .ref aML, .int mn, .int mr, .int mb, .int mf, .int mlo, .int mhi, .ref aMW, .ref aME, .ref aMO, .int mx])), (aMG, .inl (cI, 14, .inl mg)), (aML, .inl (cI, 53, .inl ml)), (aMW, .inl (cI, 12, .inl mw)), (aME, .inl (cI, 2700, .inl me)), (aMO, .inl (cJ, 2700, .inr (.inl mo)))] H → va_D A [(aM, .inr (7, [.int mt', .ref aMG, .int mc, .ref aML, .int mn, .int mr, .int mb, .int mf, .int mlo, .int mhi, .ref aMW, .ref aME, .ref aMO, .int mx])), (aMG, .inl (cI, 14, .inl mg)), (aML, .inl (cI, 53, .inl ml)), (aMW, .inl (cI, 12, .inl mw)), (aME, .inl (cI, 2700, .inl me)), (aMO, .inl (cJ, 2700, .inr (.inl mo)))] → va_S A H0 H locs → (r, mt') = F → decode cX7_canonAt pc = .ok (.ireturn, 1) → W p l e rm_X7_canonAt s m args below meth c H locs 0 0 Q (F0 m pc ls [.int r])) (ls : Array Slot) (hl : lv_has ls 3 [(0, .ref aM), (1, .int p0)]) : W p l e rm_X7_canonAt s m args below meth c H locs 0 0 Q (F0 m 0 ls []) := by
  have hR := hR.trans e_X7_canonAt
  refine lv_iload_n hx hb dX7_canonAt_0 rfl (lv_at hl 1 rfl) ?_
  have J21 : ∀ (v1 : Int32) (H : Heap) (locs : List Loc), va_P (dC, dI) vwCl [(aM, .inr (7, [.int mt, .ref aMG, .int mc, .ref aML, .int mn, .int mr, .int mb, .int mf, .int mlo, .int mhi, .ref aMW, .ref aME, .ref aMO, .int mx])), (aMG, .inl (cI, 14, .inl mg)), (aML, .inl (cI, 53, .inl ml)), (aMW, .inl (cI, 12, .inl mw)), (aME, .inl (cI, 2700, .inl me)), (aMO, .inl (cJ, 2700, .inr (.inl mo)))] H → va_D A [(aM, .inr (7, [.int mt, .ref aMG, .int mc, .ref aML, .int mn, .int mr, .int mb, .int mf, .int mlo, .int mhi, .ref aMW, .ref aME, .ref aMO, .int mx])), (aMG, .inl (cI, 14, .inl mg)), (aML, .inl (cI, 53, .inl ml)), (aMW, .inl (cI, 12, .inl mw)), (aME, .inl (cI, 2700, .inl me)), (aMO, .inl (cJ, 2700, .inr (.inl mo)))] → va_S A H0 H locs → ∀ (ls : Array Slot), lv_has ls 3 [(0, .ref aM)] → F = f_X7_canonAt_j21 mn v1 → W p l e rm_X7_canonAt s m args below meth c H locs 0 0 Q (F0 m 21 ls [.int v1]) := by
    intro v1 H locs hP hD hS ls hl hR
    have hR := hR.trans e_X7_canonAt_j21
    refine lv_istore_n (lv' := [(2, .int v1), (0, .ref aM)]) hx hb dX7_canonAt_21 rfl hl (by decide) rfl (fun ls hl => ?_)
    refine lv_aload_n hx hb dX7_canonAt_22 rfl (lv_at hl 1 rfl) ?_
    refine lv_aload_n hx hb dX7_canonAt_23 rfl (lv_at hl 1 rfl) ?_
    refine va_get (D := (dC, dI)) (ci := 7) (v := .int mn) (C := RX7) (T := TX7) (N := 14) hx hb hts inC_X7 hown hK hP 0 rfl rfl 4 (by decide) (hts (.fieldLink RX7 49 "CounterpointeryModel" "notes" "I") (List.mem_cons_of_mem _ wm_650)) (fun _ h9 => h9) rfl dX7_canonAt_24 ?_
    refine lv_iconst (v := (2 : Int32)) hx hb dX7_canonAt_27 (by decide) ?_
    have J45 : ∀ (v2 : Int32) (H : Heap) (locs : List Loc), va_P (dC, dI) vwCl [(aM, .inr (7, [.int mt, .ref aMG, .int mc, .ref aML, .int mn, .int mr, .int mb, .int mf, .int mlo, .int mhi, .ref aMW, .ref aME, .ref aMO, .int mx])), (aMG, .inl (cI, 14, .inl mg)), (aML, .inl (cI, 53, .inl ml)), (aMW, .inl (cI, 12, .inl mw)), (aME, .inl (cI, 2700, .inl me)), (aMO, .inl (cJ, 2700, .inr (.inl mo)))] H → va_D A [(aM, .inr (7, [.int mt, .ref aMG, .int mc, .ref aML, .int mn, .int mr, .int mb, .int mf, .int mlo, .int mhi, .ref aMW, .ref aME, .ref aMO, .int mx])), (aMG, .inl (cI, 14, .inl mg)), (aML, .inl (cI, 53, .inl ml)), (aMW, .inl (cI, 12, .inl mw)), (aME, .inl (cI, 2700, .inl me)), (aMO, .inl (cJ, 2700, .inr (.inl mo)))] → va_S A H0 H locs → ∀ (ls : Array Slot), lv_has ls 3 [(2, .int v1)] → F = f_X7_canonAt_j45 v1 v2 → W p l e rm_X7_canonAt s m args below meth c H locs 0 0 Q (F0 m 45 ls [.int v2, .ref aM]) := by
      intro v2 H locs hP hD hS ls hl hR
      have hR := hR.trans e_X7_canonAt_j45
      refine wV_i (q0 := 0) (As := [.int v2]) (rest := []) (wc := [(aM, .inr (7, [.int mt, .ref aMG, .int mc, .ref aML, .int mn, .int mr, .int mb, .int mf, .int mlo, .int mhi, .ref aMW, .ref aME, .ref aMO, .int mx])), (aMG, .inl (cI, 14, .inl mg)), (aML, .inl (cI, 53, .inl ml)), (aMW, .inl (cI, 12, .inl mw)), (aME, .inl (cI, 2700, .inl me)), (aMO, .inl (cJ, 2700, .inr (.inl mo)))]) (w1 := [(aM, .inr (7, [.int ((f_X7_goesOn v2).2), .ref aMG, .int mc, .ref aML, .int mn, .int mr, .int mb, .int mf, .int mlo, .int mhi, .ref aMW, .ref aME, .ref aMO, .int mx])), (aMG, .inl (cI, 14, .inl mg)), (aML, .inl (cI, 53, .inl ml)), (aMW, .inl (cI, 12, .inl mw)), (aME, .inl (cI, 2700, .inl me)), (aMO, .inl (cJ, 2700, .inr (.inl mo)))]) (wr := []) (wn := [(aM, .inr (7, [.int ((f_X7_goesOn v2).2), .ref aMG, .int mc, .ref aML, .int mn, .int mr, .int mb, .int mf, .int mlo, .int mhi, .ref aMW, .ref aME, .ref aMO, .int mx])), (aMG, .inl (cI, 14, .inl mg)), (aML, .inl (cI, 53, .inl ml)), (aMW, .inl (cI, 12, .inl mw)), (aME, .inl (cI, 2700, .inl me)), (aMO, .inl (cJ, 2700, .inr (.inl mo)))]) ⟨hx, hb, hml, hown, hts⟩ (m_X7_goesOn l dC dI cI cJ aM aMG aML aMW aME aMO mt mc mn mr mb mf mlo mhi mx mg ml mw me mo v2 H.size) (cwV 1 hts (gi_V wm_638 wm_639 wm_640 wm_633 wm_641) rfl rfl rfl hd_X7_goesOn ⟨Nat.le_of_ble_eq_true rfl, Nat.le_of_ble_eq_true rfl⟩) hK hP hD hS hA [0, 1, 2, 3, 4, 5] [] [0, 1, 2, 3, 4, 5] rfl rfl rfl (by decide) (by decide) (by decide) (by decide) rfl rfl rfl hl.1 rfl (Nat.le_of_ble_eq_true rfl) dX7_canonAt_45 ⟨Nat.zero_le _, Nat.zero_le _⟩ (fun H locs hP hD hS => ?_)
      refine lv_if_eq (tgt := 55) hx hb dX7_canonAt_48 (by decide) (fun c_1 => ?_) (fun c_1 => ?_)
      · have hR := hR.trans (if_pos c_1)
        refine lv_iconst (v := (0 : Int32)) hx hb dX7_canonAt_55 (by decide) ?_
        exact kR (0 : Int32) 56 ls H locs ((f_X7_goesOn v2).2) hP hD hS hR.symm dX7_canonAt_56
      · have hR := hR.trans (if_neg c_1)
        refine lv_iload_n hx hb dX7_canonAt_51 rfl (lv_at hl 0 rfl) ?_
        refine lv_goto (tgt := 56) hx hb dX7_canonAt_52 (by decide) ?_
        exact kR v1 56 ls H locs ((f_X7_goesOn v2).2) hP hD hS hR.symm dX7_canonAt_56
    refine lv_icmp_ge (tgt := 35) hx hb dX7_canonAt_28 (by decide) (fun c_2 => ?_) (fun c_2 => ?_)
    · have hR := hR.trans (if_pos c_2)
      refine lv_iload_n hx hb dX7_canonAt_35 rfl (lv_at hl 0 rfl) ?_
      refine lv_iconst (v := (-1 : Int32)) hx hb dX7_canonAt_36 (by decide +kernel) ?_
      refine lv_icmp_ne (tgt := 44) hx hb dX7_canonAt_37 (by decide) (fun c_3 => ?_) (fun c_3 => ?_)
      · have hR := hR.trans (if_neg c_3)
        refine lv_iconst (v := (0 : Int32)) hx hb dX7_canonAt_44 (by decide) ?_
        exact J45 (0 : Int32) H locs hP hD hS ls (lv_sub hl [0] rfl) hR
      · have hR := hR.trans (if_pos c_3)
        refine lv_iconst (v := (2 : Int32)) hx hb dX7_canonAt_40 (by decide) ?_
        refine lv_goto (tgt := 45) hx hb dX7_canonAt_41 (by decide) ?_
        exact J45 (2 : Int32) H locs hP hD hS ls (lv_sub hl [0] rfl) hR
    · have hR := hR.trans (if_neg c_2)
      refine lv_iconst (v := (1 : Int32)) hx hb dX7_canonAt_31 (by decide) ?_
      refine lv_goto (tgt := 45) hx hb dX7_canonAt_32 (by decide) ?_
      exact J45 (1 : Int32) H locs hP hD hS ls (lv_sub hl [0] rfl) hR
  have J12 : ∀ (H : Heap) (locs : List Loc), va_P (dC, dI) vwCl [(aM, .inr (7, [.int mt, .ref aMG, .int mc, .ref aML, .int mn, .int mr, .int mb, .int mf, .int mlo, .int mhi, .ref aMW, .ref aME, .ref aMO, .int mx])), (aMG, .inl (cI, 14, .inl mg)), (aML, .inl (cI, 53, .inl ml)), (aMW, .inl (cI, 12, .inl mw)), (aME, .inl (cI, 2700, .inl me)), (aMO, .inl (cJ, 2700, .inr (.inl mo)))] H → va_D A [(aM, .inr (7, [.int mt, .ref aMG, .int mc, .ref aML, .int mn, .int mr, .int mb, .int mf, .int mlo, .int mhi, .ref aMW, .ref aME, .ref aMO, .int mx])), (aMG, .inl (cI, 14, .inl mg)), (aML, .inl (cI, 53, .inl ml)), (aMW, .inl (cI, 12, .inl mw)), (aME, .inl (cI, 2700, .inl me)), (aMO, .inl (cJ, 2700, .inr (.inl mo)))] → va_S A H0 H locs → ∀ (ls : Array Slot), lv_has ls 3 [(0, .ref aM)] → F = f_X7_canonAt_j12 mn → W p l e rm_X7_canonAt s m args below meth c H locs 0 0 Q (F0 m 12 ls []) := by
    intro H locs hP hD hS ls hl hR
    have hR := hR.trans e_X7_canonAt_j12
    refine lv_iconst (v := (-1 : Int32)) hx hb dX7_canonAt_12 (by decide +kernel) ?_
    refine lv_goto (tgt := 21) hx hb dX7_canonAt_13 (by decide) ?_
    exact J21 (-1 : Int32) H locs hP hD hS ls (lv_sub hl [0] rfl) hR
  refine lv_if_lt (tgt := 12) hx hb dX7_canonAt_1 (by decide) (fun c_4 => ?_) (fun c_4 => ?_)
  · have hR := hR.trans (if_pos c_4)
    exact J12 H locs hP hD hS ls (lv_sub hl [0] rfl) hR
  · have hR := hR.trans (if_neg c_4)
    refine lv_aload_n hx hb dX7_canonAt_4 rfl (lv_at hl 0 rfl) ?_
    refine va_get (D := (dC, dI)) (ci := 7) (v := .int mn) (C := RX7) (T := TX7) (N := 14) hx hb hts inC_X7 hown hK hP 0 rfl rfl 4 (by decide) (hts (.fieldLink RX7 49 "CounterpointeryModel" "notes" "I") (List.mem_cons_of_mem _ wm_650)) (fun _ h9 => h9) rfl dX7_canonAt_5 ?_
    refine lv_iconst (v := (2 : Int32)) hx hb dX7_canonAt_8 (by decide) ?_
    refine lv_icmp_ge (tgt := 16) hx hb dX7_canonAt_9 (by decide) (fun c_5 => ?_) (fun c_5 => ?_)
    · have hR := hR.trans (if_pos c_5)
      refine lv_aload_n hx hb dX7_canonAt_16 rfl (lv_at hl 0 rfl) ?_
      refine lv_iload_n hx hb dX7_canonAt_17 rfl (lv_at hl 1 rfl) ?_
      refine rV_i (q0 := 0) (As := [.int p0]) (rest := []) ⟨hx, hb, hml, hown, hts⟩ (m_X7_canonsUpTo l dC dI cI cJ aM aMG aML aMW aME aMO mt mc mn mr mb mf mlo mhi mx mg ml mw me mo p0 (show mok mc mr from hm) (show mnb mc mr mn from hn)) (cwV 1 hts (gi_V wm_796 wm_797 wm_798 wm_633 wm_799) rfl rfl rfl hd_X7_canonsUpTo ⟨Nat.le_of_ble_eq_true rfl, Nat.le_of_ble_eq_true rfl⟩) hK (hP.sub [0, 1, 2, 3, 4, 5] rfl) rfl rfl rfl hl.1 rfl (Nat.le_of_ble_eq_true rfl) dX7_canonAt_18 ⟨Nat.zero_le _, Nat.zero_le _⟩ ?_
      exact J21 (f_X7_canonsUpTo mn ml p0) H locs hP hD hS ls (lv_sub hl [0] rfl) hR
    · have hR := hR.trans (if_neg c_5)
      exact J12 H locs hP hD hS ls (lv_sub hl [0] rfl) hR
set_option maxHeartbeats 4000000 in
set_option maxRecDepth 100000 in
theorem m_X7_canonAt (l : Launch) (dC : Nat → ClassId) (dI : Nat → Nat → Nat) (cI cJ : ClassId) (aM : Nat) (aMG : Nat) (aML : Nat) (aMW : Nat) (aME : Nat) (aMO : Nat) (mt : Int32) (mc : Int32) (mn : Int32) (mr : Int32) (mb : Int32) (mf : Int32) (mlo : Int32) (mhi : Int32) (mx : Int32) (mg : Nat → Int32) (ml : Nat → Int32) (mw : Nat → Int32) (me : Nat → Int32) (mo : Nat → Int64) (p0 : Int32) (hm : mok mc mr) (hn : mnb mc mr mn) (sz : Nat) : Met l yX7_canonAt wsX7_canonAt rm_X7_canonAt (va_Pc [.ref aM, .int p0] (fun U => U.heap.size = sz ∧ va_P (dC, dI) vwCl [(aM, .inr (7, [.int mt, .ref aMG, .int mc, .ref aML, .int mn, .int mr, .int mb, .int mf, .int mlo, .int mhi, .ref aMW, .ref aME, .ref aMO, .int mx])), (aMG, .inl (cI, 14, .inl mg)), (aML, .inl (cI, 53, .inl ml)), (aMW, .inl (cI, 12, .inl mw)), (aME, .inl (cI, 2700, .inl me)), (aMO, .inl (cJ, 2700, .inr (.inl mo)))] U.heap ∧ va_K (dC, dI) vwCl [(cI, .int), (cJ, .long)] U ∧ va_D (fun _ => True) [(aM, .inr (7, [.int mt, .ref aMG, .int mc, .ref aML, .int mn, .int mr, .int mb, .int mf, .int mlo, .int mhi, .ref aMW, .ref aME, .ref aMO, .int mx])), (aMG, .inl (cI, 14, .inl mg)), (aML, .inl (cI, 53, .inl ml)), (aMW, .inl (cI, 12, .inl mw)), (aME, .inl (cI, 2700, .inl me)), (aMO, .inl (cJ, 2700, .inr (.inl mo)))])) (va_Qi (fun (r : Int32) (_ : Unit) => r = (f_X7_canonAt mn ml p0).1) (fun _ t => va_P (dC, dI) vwCl [(aM, .inr (7, [.int ((f_X7_canonAt mn ml p0).2), .ref aMG, .int mc, .ref aML, .int mn, .int mr, .int mb, .int mf, .int mlo, .int mhi, .ref aMW, .ref aME, .ref aMO, .int mx])), (aMG, .inl (cI, 14, .inl mg)), (aML, .inl (cI, 53, .inl ml)), (aMW, .inl (cI, 12, .inl mw)), (aME, .inl (cI, 2700, .inl me)), (aMO, .inl (cJ, 2700, .inr (.inl mo)))] t.heap ∧ va_K (dC, dI) vwCl [(cI, .int), (cJ, .long)] t ∧ va_D (va_A [(aM, .inr (7, [.int mt, .ref aMG, .int mc, .ref aML, .int mn, .int mr, .int mb, .int mf, .int mlo, .int mhi, .ref aMW, .ref aME, .ref aMO, .int mx])), (aMG, .inl (cI, 14, .inl mg)), (aML, .inl (cI, 53, .inl ml)), (aMW, .inl (cI, 12, .inl mw)), (aME, .inl (cI, 2700, .inl me)), (aMO, .inl (cJ, 2700, .inr (.inl mo)))] sz) [(aM, .inr (7, [.int ((f_X7_canonAt mn ml p0).2), .ref aMG, .int mc, .ref aML, .int mn, .int mr, .int mb, .int mf, .int mlo, .int mhi, .ref aMW, .ref aME, .ref aMO, .int mx])), (aMG, .inl (cI, 14, .inl mg)), (aML, .inl (cI, 53, .inl ml)), (aMW, .inl (cI, 12, .inl mw)), (aME, .inl (cI, 2700, .inl me)), (aMO, .inl (cJ, 2700, .inr (.inl mo)))]) (va_A [(aM, .inr (7, [.int mt, .ref aMG, .int mc, .ref aML, .int mn, .int mr, .int mb, .int mf, .int mlo, .int mhi, .ref aMW, .ref aME, .ref aMO, .int mx])), (aMG, .inl (cI, 14, .inl mg)), (aML, .inl (cI, 53, .inl ml)), (aMW, .inl (cI, 12, .inl mw)), (aME, .inl (cI, 2700, .inl me)), (aMO, .inl (cJ, 2700, .inr (.inl mo)))] sz)) 0 0 (va_A [(aM, .inr (7, [.int mt, .ref aMG, .int mc, .ref aML, .int mn, .int mr, .int mb, .int mf, .int mlo, .int mhi, .ref aMW, .ref aME, .ref aMO, .int mx])), (aMG, .inl (cI, 14, .inl mg)), (aML, .inl (cI, 53, .inl ml)), (aMW, .inl (cI, 12, .inl mw)), (aME, .inl (cI, 2700, .inl me)), (aMO, .inl (cJ, 2700, .inr (.inl mo)))] sz) := by
  refine Met.ofW (cc := cX7_canonAt) (maxL := 3) (ret := (some .int)) (by decide) rfl ?_
  intro p e s m args below meth c s₁ B hml hv
  obtain ⟨rfl, hsz, hP, hK, hD0⟩ := hv
  subst hsz
  have hl := lv_entry ([.ref aM, .int p0]) (n := 3) (Nat.le_of_ble_eq_true rfl)
  rw [lg_entry_eq]
  refine w_X7_canonAt hm hn B.exec B.bytes hml (findClass_of_methodNamed B.named) (atoms_spec (ws := wsX7_canonAt) B.pre) hK hP (hD0.self (sz := s.heap.size)) va_S.rf (fun q h => Or.inr h) rfl (fun r pc ls H locs mt' hP hD hS er hd => ?_) _ hl
  simp only [Prod.ext_iff] at er
  obtain ⟨e0, e1⟩ := er
  subst e0
  subst e1
  exact W.iret B.exec B.bytes B.returns (fun t ht hW => ⟨⟨_, (), rfl, rfl, by rw [ht]; exact hP, va_K.moved hW.alike hK, hD⟩, hS.F ht⟩) hS.2.2 hd B.notSynchronized
end
def f_X7_isConsistent : Int32 × Int32 :=
  ((1 : Int32), (0 : Int32))
theorem e_X7_isConsistent : f_X7_isConsistent = ((1 : Int32), (0 : Int32)) := rfl
section
variable {p : Program} {l : Launch} {e : Env} {s : State} {m : MethodId} {args : Array Value} {below : List Frame} {meth : Method} {c : Code} {Q : State → Prop} {H : Heap} {locs : List Loc} {dC : Nat → ClassId} {dI : Nat → Nat → Nat} {cI cJ : ClassId}
abbrev rm_X7_isConsistent : Room := { frames := 0, cells := 0, slots := 0, locals := 0 }
theorem hd_X7_isConsistent : yX7_isConsistent.cls = RX7 ∧ yX7_isConsistent.cls ≠ "java/lang/invoke/MethodHandle" ∧ yX7_isConsistent.cls ≠ "java/lang/invoke/VarHandle" ∧ (parseMethodDescriptor yX7_isConsistent.desc).map (fun d => d.parameters.length) = some 0 := by decide +kernel
set_option maxHeartbeats 4000000 in
set_option maxRecDepth 100000 in
theorem w_X7_isConsistent {aM : Nat} {aMG : Nat} {aML : Nat} {aMW : Nat} {aME : Nat} {aMO : Nat} {mt : Int32} {mc : Int32} {mn : Int32} {mr : Int32} {mb : Int32} {mf : Int32} {mlo : Int32} {mhi : Int32} {mx : Int32} {mg : Nat → Int32} {ml : Nat → Int32} {mw : Nat → Int32} {me : Nat → Int32} {mo : Nat → Int64} {F : Int32 × Int32} (hx : p.tables.exec = Jvm.exec) (hb : c.code = cX7_isConsistent) (hml : c.maxLocals = 1) (hown : s.vm.findClass RX7 = some m.cls) (hts : ∀ w ∈ wsX7_isConsistent, w.before args s = true) (hK : va_K (dC, dI) vwCl [(cI, .int), (cJ, .long)] s) {A : Nat → Prop} {H0 : Heap} (hP : va_P (dC, dI) vwCl [(aM, .inr (7, [.int mt, .ref aMG, .int mc, .ref aML, .int mn, .int mr, .int mb, .int mf, .int mlo, .int mhi, .ref aMW, .ref aME, .ref aMO, .int mx])), (aMG, .inl (cI, 14, .inl mg)), (aML, .inl (cI, 53, .inl ml)), (aMW, .inl (cI, 12, .inl mw)), (aME, .inl (cI, 2700, .inl me)), (aMO, .inl (cJ, 2700, .inr (.inl mo)))] H) (hD : va_D A [(aM, .inr (7, [.int mt, .ref aMG, .int mc, .ref aML, .int mn, .int mr, .int mb, .int mf, .int mlo, .int mhi, .ref aMW, .ref aME, .ref aMO, .int mx])), (aMG, .inl (cI, 14, .inl mg)), (aML, .inl (cI, 53, .inl ml)), (aMW, .inl (cI, 12, .inl mw)), (aME, .inl (cI, 2700, .inl me)), (aMO, .inl (cJ, 2700, .inr (.inl mo)))]) (hS : va_S A H0 H locs) (hA : ∀ q, H0.size ≤ q → A q) (hR : F = f_X7_isConsistent) (kR : ∀ (r : Int32) (pc : Nat) (ls : Array Slot) (H : Heap) (locs : List Loc), zb r → ∀ (mt' : Int32), va_P (dC, dI) vwCl [(aM, .inr (7, [.int mt', .ref aMG, .int mc, .ref aML, .int mn, .int mr, .int mb, .int mf, .int mlo, .int mhi, .ref aMW, .ref aME, .ref aMO, .int mx])), (aMG, .inl (cI, 14, .inl mg)), (aML, .inl (cI, 53, .inl ml)), (aMW, .inl (cI, 12, .inl mw)), (aME, .inl (cI, 2700, .inl me)), (aMO, .inl (cJ, 2700, .inr (.inl mo)))] H → va_D A [(aM, .inr (7, [.int mt', .ref aMG, .int mc, .ref aML, .int mn, .int mr, .int mb, .int mf, .int mlo, .int mhi, .ref aMW, .ref aME, .ref aMO, .int mx])), (aMG, .inl (cI, 14, .inl mg)), (aML, .inl (cI, 53, .inl ml)), (aMW, .inl (cI, 12, .inl mw)), (aME, .inl (cI, 2700, .inl me)), (aMO, .inl (cJ, 2700, .inr (.inl mo)))] → va_S A H0 H locs → (r, mt') = F → decode cX7_isConsistent pc = .ok (.ireturn, 1) → W p l e rm_X7_isConsistent s m args below meth c H locs 0 0 Q (F0 m pc ls [.int r])) (ls : Array Slot) (hl : lv_has ls 1 [(0, .ref aM)]) : W p l e rm_X7_isConsistent s m args below meth c H locs 0 0 Q (F0 m 0 ls []) := by
  have hR := hR.trans e_X7_isConsistent
  refine lv_aload_n hx hb dX7_isConsistent_0 rfl (lv_at hl 0 rfl) ?_
  refine lv_iconst (v := (0 : Int32)) hx hb dX7_isConsistent_1 (by decide) ?_
  refine va_put (D := (dC, dI)) (ci := 7) (v := .int (0 : Int32)) (ty := .int) (C := RX7) (T := TX7) (N := 14) hx hb hts inC_X7 tyX7 tyX7_ok nmX7 hown hK hP hD hS 0 rfl rfl 0 (by decide) (hts (.fieldLink RX7 40 "CounterpointeryModel" "thrown" "I") (List.mem_cons_of_mem _ wm_642)) (fun _ h9 => h9) rfl (by decide +kernel) rfl rfl (Nat.le_of_ble_eq_true rfl) dX7_isConsistent_2 (fun H locs hP hD hS => ?_)
  have hP : va_P (dC, dI) vwCl [(aM, .inr (7, [.int (0 : Int32), .ref aMG, .int mc, .ref aML, .int mn, .int mr, .int mb, .int mf, .int mlo, .int mhi, .ref aMW, .ref aME, .ref aMO, .int mx])), (aMG, .inl (cI, 14, .inl mg)), (aML, .inl (cI, 53, .inl ml)), (aMW, .inl (cI, 12, .inl mw)), (aME, .inl (cI, 2700, .inl me)), (aMO, .inl (cJ, 2700, .inr (.inl mo)))] H := hP
  have hD : va_D A [(aM, .inr (7, [.int (0 : Int32), .ref aMG, .int mc, .ref aML, .int mn, .int mr, .int mb, .int mf, .int mlo, .int mhi, .ref aMW, .ref aME, .ref aMO, .int mx])), (aMG, .inl (cI, 14, .inl mg)), (aML, .inl (cI, 53, .inl ml)), (aMW, .inl (cI, 12, .inl mw)), (aME, .inl (cI, 2700, .inl me)), (aMO, .inl (cJ, 2700, .inr (.inl mo)))] := hD
  refine lv_iconst (v := (1 : Int32)) hx hb dX7_isConsistent_5 (by decide) ?_
  exact kR (1 : Int32) 6 ls H locs (by first | exact Or.inl rfl | exact Or.inr rfl) (0 : Int32) hP hD hS hR.symm dX7_isConsistent_6
set_option maxHeartbeats 4000000 in
set_option maxRecDepth 100000 in
theorem m_X7_isConsistent (l : Launch) (dC : Nat → ClassId) (dI : Nat → Nat → Nat) (cI cJ : ClassId) (aM : Nat) (aMG : Nat) (aML : Nat) (aMW : Nat) (aME : Nat) (aMO : Nat) (mt : Int32) (mc : Int32) (mn : Int32) (mr : Int32) (mb : Int32) (mf : Int32) (mlo : Int32) (mhi : Int32) (mx : Int32) (mg : Nat → Int32) (ml : Nat → Int32) (mw : Nat → Int32) (me : Nat → Int32) (mo : Nat → Int64) (sz : Nat) : Met l yX7_isConsistent wsX7_isConsistent rm_X7_isConsistent (va_Pc [.ref aM] (fun U => U.heap.size = sz ∧ va_P (dC, dI) vwCl [(aM, .inr (7, [.int mt, .ref aMG, .int mc, .ref aML, .int mn, .int mr, .int mb, .int mf, .int mlo, .int mhi, .ref aMW, .ref aME, .ref aMO, .int mx])), (aMG, .inl (cI, 14, .inl mg)), (aML, .inl (cI, 53, .inl ml)), (aMW, .inl (cI, 12, .inl mw)), (aME, .inl (cI, 2700, .inl me)), (aMO, .inl (cJ, 2700, .inr (.inl mo)))] U.heap ∧ va_K (dC, dI) vwCl [(cI, .int), (cJ, .long)] U ∧ va_D (fun _ => True) [(aM, .inr (7, [.int mt, .ref aMG, .int mc, .ref aML, .int mn, .int mr, .int mb, .int mf, .int mlo, .int mhi, .ref aMW, .ref aME, .ref aMO, .int mx])), (aMG, .inl (cI, 14, .inl mg)), (aML, .inl (cI, 53, .inl ml)), (aMW, .inl (cI, 12, .inl mw)), (aME, .inl (cI, 2700, .inl me)), (aMO, .inl (cJ, 2700, .inr (.inl mo)))])) (va_Qi (fun (r : Int32) (_ : Unit) => r = f_X7_isConsistent.1) (fun _ t => va_P (dC, dI) vwCl [(aM, .inr (7, [.int f_X7_isConsistent.2, .ref aMG, .int mc, .ref aML, .int mn, .int mr, .int mb, .int mf, .int mlo, .int mhi, .ref aMW, .ref aME, .ref aMO, .int mx])), (aMG, .inl (cI, 14, .inl mg)), (aML, .inl (cI, 53, .inl ml)), (aMW, .inl (cI, 12, .inl mw)), (aME, .inl (cI, 2700, .inl me)), (aMO, .inl (cJ, 2700, .inr (.inl mo)))] t.heap ∧ va_K (dC, dI) vwCl [(cI, .int), (cJ, .long)] t ∧ va_D (va_A [(aM, .inr (7, [.int mt, .ref aMG, .int mc, .ref aML, .int mn, .int mr, .int mb, .int mf, .int mlo, .int mhi, .ref aMW, .ref aME, .ref aMO, .int mx])), (aMG, .inl (cI, 14, .inl mg)), (aML, .inl (cI, 53, .inl ml)), (aMW, .inl (cI, 12, .inl mw)), (aME, .inl (cI, 2700, .inl me)), (aMO, .inl (cJ, 2700, .inr (.inl mo)))] sz) [(aM, .inr (7, [.int f_X7_isConsistent.2, .ref aMG, .int mc, .ref aML, .int mn, .int mr, .int mb, .int mf, .int mlo, .int mhi, .ref aMW, .ref aME, .ref aMO, .int mx])), (aMG, .inl (cI, 14, .inl mg)), (aML, .inl (cI, 53, .inl ml)), (aMW, .inl (cI, 12, .inl mw)), (aME, .inl (cI, 2700, .inl me)), (aMO, .inl (cJ, 2700, .inr (.inl mo)))]) (va_A [(aM, .inr (7, [.int mt, .ref aMG, .int mc, .ref aML, .int mn, .int mr, .int mb, .int mf, .int mlo, .int mhi, .ref aMW, .ref aME, .ref aMO, .int mx])), (aMG, .inl (cI, 14, .inl mg)), (aML, .inl (cI, 53, .inl ml)), (aMW, .inl (cI, 12, .inl mw)), (aME, .inl (cI, 2700, .inl me)), (aMO, .inl (cJ, 2700, .inr (.inl mo)))] sz)) 0 0 (va_A [(aM, .inr (7, [.int mt, .ref aMG, .int mc, .ref aML, .int mn, .int mr, .int mb, .int mf, .int mlo, .int mhi, .ref aMW, .ref aME, .ref aMO, .int mx])), (aMG, .inl (cI, 14, .inl mg)), (aML, .inl (cI, 53, .inl ml)), (aMW, .inl (cI, 12, .inl mw)), (aME, .inl (cI, 2700, .inl me)), (aMO, .inl (cJ, 2700, .inr (.inl mo)))] sz) := by
  refine Met.ofW (cc := cX7_isConsistent) (maxL := 1) (ret := (some .boolean)) (by decide) rfl ?_
  intro p e s m args below meth c s₁ B hml hv
  obtain ⟨rfl, hsz, hP, hK, hD0⟩ := hv
  subst hsz
  have hl := lv_entry ([.ref aM]) (n := 1) (Nat.le_of_ble_eq_true rfl)
  rw [lg_entry_eq]
  refine w_X7_isConsistent B.exec B.bytes hml (findClass_of_methodNamed B.named) (atoms_spec (ws := wsX7_isConsistent) B.pre) hK hP (hD0.self (sz := s.heap.size)) va_S.rf (fun q h => Or.inr h) rfl (fun r pc ls H locs hz mt' hP hD hS er hd => ?_) _ hl
  simp only [Prod.ext_iff] at er
  obtain ⟨e0, e1⟩ := er
  subst e0
  subst e1
  exact W.zret B.exec B.bytes B.returns (zb_n hz) (fun t ht hW => ⟨⟨_, (), rfl, rfl, by rw [ht]; exact hP, va_K.moved hW.alike hK, hD⟩, hS.F ht⟩) hS.2.2 hd B.notSynchronized
end
