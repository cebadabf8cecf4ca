def f_X7_givenOf (mr : Int32) (mg : Nat → Int32) (p0 : Int32) : Int32 :=
  (mg (idiv p0 mr).toNatClampNeg)
theorem e_X7_givenOf {mr : Int32} {mg : Nat → Int32} {p0 : Int32} : f_X7_givenOf mr mg p0 = (mg (idiv p0 mr).toNatClampNeg) := rfl
section
variable {p : Program} {l : Launch} {e : Env} {s : State} {m : MethodId} {args : Array Value} {below : List Frame} {meth : Method} {c : Code} {Q : State → Prop} {H : Heap} {locs : List Loc} {dC : Nat → ClassId} {dI : Nat → Nat → Nat} {cI cJ : ClassId}
abbrev rm_X7_givenOf : Room := { frames := 0, cells := 0, slots := 0, locals := 0 }
theorem hd_X7_givenOf : yX7_givenOf.cls = RX7 ∧ yX7_givenOf.cls ≠ "java/lang/invoke/MethodHandle" ∧ yX7_givenOf.cls ≠ "java/lang/invoke/VarHandle" ∧ (parseMethodDescriptor yX7_givenOf.desc).map (fun d => d.parameters.length) = some 1 := by decide +kernel
set_option maxHeartbeats 4000000 in
set_option maxRecDepth 100000 in
theorem w_X7_givenOf {aM : Nat} {aMG : Nat} {aML : Nat} {aMW : Nat} {aME : Nat} {aMO : Nat} {mt : Int32} {mc : Int32} {mn : Int32} {mr : Int32} {mb : Int32} {mf : Int32} {mlo : Int32} {mhi : Int32} {mx : Int32} {mg : Nat → Int32} {ml : Nat → Int32} {mw : Nat → Int32} {me : Nat → Int32} {mo : Nat → Int64} {p0 : Int32} (hm : mok mc mr) (hi : mix mr p0) {F : Int32} (hx : p.tables.exec = Jvm.exec) (hb : c.code = cX7_givenOf) (hml : c.maxLocals = 2) (hown : s.vm.findClass RX7 = some m.cls) (hts : ∀ w ∈ wsX7_givenOf, w.before args s = true) (hK : va_K (dC, dI) vwCl [(cI, .int), (cJ, .long)] s) (hP : va_P (dC, dI) vwCl [(aM, .inr (7, [.int mt, .ref aMG, .int mc, .ref aML, .int mn, .int mr, .int mb, .int mf, .int mlo, .int mhi, .ref aMW, .ref aME, .ref aMO, .int mx])), (aMG, .inl (cI, 14, .inl mg)), (aML, .inl (cI, 53, .inl ml)), (aMW, .inl (cI, 12, .inl mw)), (aME, .inl (cI, 2700, .inl me)), (aMO, .inl (cJ, 2700, .inr (.inl mo)))] H) (hR : F = f_X7_givenOf mr mg p0) (kR : ∀ (r : Int32) (pc : Nat) (ls : Array Slot), r = F → decode cX7_givenOf pc = .ok (.ireturn, 1) → W p l e rm_X7_givenOf s m args below meth c H locs 0 0 Q (F0 m pc ls [.int r])) (ls : Array Slot) (hl : lv_has ls 2 [(0, .ref aM), (1, .int p0)]) : W p l e rm_X7_givenOf s m args below meth c H locs 0 0 Q (F0 m 0 ls []) := by
  have hR := hR.trans e_X7_givenOf
  refine lv_aload_n hx hb dX7_givenOf_0 rfl (lv_at hl 0 rfl) ?_
  refine va_get (D := (dC, dI)) (ci := 7) (v := .ref aMG) (C := RX7) (T := TX7) (N := 14) hx hb hts inC_X7 hown hK hP 0 rfl rfl 1 (by decide) (hts (.fieldLink RX7 7 "CounterpointeryModel" "given" "[I") (List.mem_cons_of_mem _ wm_622)) (fun _ h9 => h9) rfl dX7_givenOf_1 ?_
  refine lv_iload_n hx hb dX7_givenOf_4 rfl (lv_at hl 1 rfl) ?_
  refine lv_aload_n hx hb dX7_givenOf_5 rfl (lv_at hl 0 rfl) ?_
  refine va_get (D := (dC, dI)) (ci := 7) (v := .int mr) (C := RX7) (T := TX7) (N := 14) hx hb hts inC_X7 hown hK hP 0 rfl rfl 5 (by decide) (hts (.fieldLink RX7 16 "CounterpointeryModel" "ratio" "I") (List.mem_cons_of_mem _ wm_624)) (fun _ h9 => h9) rfl dX7_givenOf_6 ?_
  refine w_idiv hx hb dX7_givenOf_9 (mx_nz hm) ?_
  refine va_iald (D := (dC, dI)) hx hb hK hP 1 0 rfl rfl (mx_div hm hi) dX7_givenOf_10 ?_
  exact kR (mg (idiv p0 mr).toNatClampNeg) 11 ls hR.symm dX7_givenOf_11
set_option maxHeartbeats 4000000 in
set_option maxRecDepth 100000 in
theorem m_X7_givenOf (l : Launch) (dC : Nat → ClassId) (dI : Nat → Nat → Nat) (cI cJ : ClassId) (aM : Nat) (aMG : Nat) (aML : Nat) (aMW : Nat) (aME : Nat) (aMO : Nat) (mt : Int32) (mc : Int32) (mn : Int32) (mr : Int32) (mb : Int32) (mf : Int32) (mlo : Int32) (mhi : Int32) (mx : Int32) (mg : Nat → Int32) (ml : Nat → Int32) (mw : Nat → Int32) (me : Nat → Int32) (mo : Nat → Int64) (p0 : Int32) (hm : mok mc mr) (hi : mix mr p0) : Met l yX7_givenOf wsX7_givenOf rm_X7_givenOf (va_Pc [.ref aM, .int p0] (fun U => va_P (dC, dI) vwCl [(aM, .inr (7, [.int mt, .ref aMG, .int mc, .ref aML, .int mn, .int mr, .int mb, .int mf, .int mlo, .int mhi, .ref aMW, .ref aME, .ref aMO, .int mx])), (aMG, .inl (cI, 14, .inl mg)), (aML, .inl (cI, 53, .inl ml)), (aMW, .inl (cI, 12, .inl mw)), (aME, .inl (cI, 2700, .inl me)), (aMO, .inl (cJ, 2700, .inr (.inl mo)))] U.heap ∧ va_K (dC, dI) vwCl [(cI, .int), (cJ, .long)] U)) (vp_Si (fun r => r = f_X7_givenOf mr mg p0)) 0 0 (fun _ => False) := by
  refine Met.ofW (cc := cX7_givenOf) (maxL := 2) (ret := (some .int)) (by decide) rfl ?_
  intro p e s m args below meth c s₁ B hml hv
  obtain ⟨rfl, hP, hK⟩ := hv
  have hl := lv_entry ([.ref aM, .int p0]) (n := 2) (Nat.le_of_ble_eq_true rfl)
  rw [lg_entry_eq]
  refine w_X7_givenOf hm hi B.exec B.bytes hml (findClass_of_methodNamed B.named) (atoms_spec (ws := wsX7_givenOf) B.pre) hK hP rfl (fun r pc ls er hd => ?_) _ hl
  exact W.iret B.exec B.bytes B.returns (fun t ht hW => ⟨r, rfl, er, ht⟩) (fun _ h => by cases h) hd B.notSynchronized
end
def f_X7_pitchAt_j81 (ml : Nat → Int32) (p0 : Int32) (v2 : Int32) : Int32 :=
  (if v2 = 0 then ((f_X7_pitchOf (ml p0.toNatClampNeg)) + (0 : Int32)) else ((f_X7_pitchOf (ml p0.toNatClampNeg)) + (1 : Int32)))
theorem e_X7_pitchAt_j81 {ml : Nat → Int32} {p0 : Int32} {v2 : Int32} : f_X7_pitchAt_j81 ml p0 v2 = (if v2 = 0 then ((f_X7_pitchOf (ml p0.toNatClampNeg)) + (0 : Int32)) else ((f_X7_pitchOf (ml p0.toNatClampNeg)) + (1 : Int32))) := rfl
def f_X7_pitchAt_j80 (ml : Nat → Int32) (p0 : Int32) : Int32 :=
  f_X7_pitchAt_j81 ml p0 (0 : Int32)
theorem e_X7_pitchAt_j80 {ml : Nat → Int32} {p0 : Int32} : f_X7_pitchAt_j80 ml p0 = f_X7_pitchAt_j81 ml p0 (0 : Int32) := rfl
def f_X7_pitchAt_j27 (ml : Nat → Int32) (p0 : Int32) (v1 : Int32) : Int32 :=
  (if v1 = 0 then f_X7_pitchAt_j80 ml p0 else (if (ml p0.toNatClampNeg) = ((ml (p0 + (1 : Int32)).toNatClampNeg) - (1 : Int32)) then (if (f_X7_pitchOf (ml p0.toNatClampNeg)) = ((f_X7_pitchOf (ml (p0 + (1 : Int32)).toNatClampNeg)) - (2 : Int32)) then f_X7_pitchAt_j81 ml p0 (1 : Int32) else f_X7_pitchAt_j80 ml p0) else f_X7_pitchAt_j80 ml p0))
theorem e_X7_pitchAt_j27 {ml : Nat → Int32} {p0 : Int32} {v1 : Int32} : f_X7_pitchAt_j27 ml p0 v1 = (if v1 = 0 then f_X7_pitchAt_j80 ml p0 else (if (ml p0.toNatClampNeg) = ((ml (p0 + (1 : Int32)).toNatClampNeg) - (1 : Int32)) then (if (f_X7_pitchOf (ml p0.toNatClampNeg)) = ((f_X7_pitchOf (ml (p0 + (1 : Int32)).toNatClampNeg)) - (2 : Int32)) then f_X7_pitchAt_j81 ml p0 (1 : Int32) else f_X7_pitchAt_j80 ml p0) else f_X7_pitchAt_j80 ml p0)) := rfl
def f_X7_pitchAt_j26 (ml : Nat → Int32) (p0 : Int32) : Int32 :=
  f_X7_pitchAt_j27 ml p0 (0 : Int32)
theorem e_X7_pitchAt_j26 {ml : Nat → Int32} {p0 : Int32} : f_X7_pitchAt_j26 ml p0 = f_X7_pitchAt_j27 ml p0 (0 : Int32) := rfl
def f_X7_pitchAt (mc : Int32) (mr : Int32) (mf : Int32) (ml : Nat → Int32) (p0 : Int32) (p1 : Int32) : Int32 :=
  (if mf = 0 then f_X7_pitchAt_j26 ml p0 else (if p1 = (f_X7_most mc mr) then (if p0 = (p1 - (2 : Int32)) then f_X7_pitchAt_j27 ml p0 (1 : Int32) else f_X7_pitchAt_j26 ml p0) else f_X7_pitchAt_j26 ml p0))
theorem e_X7_pitchAt {mc : Int32} {mr : Int32} {mf : Int32} {ml : Nat → Int32} {p0 : Int32} {p1 : Int32} : f_X7_pitchAt mc mr mf ml p0 p1 = (if mf = 0 then f_X7_pitchAt_j26 ml p0 else (if p1 = (f_X7_most mc mr) then (if p0 = (p1 - (2 : Int32)) then f_X7_pitchAt_j27 ml p0 (1 : Int32) else f_X7_pitchAt_j26 ml p0) else f_X7_pitchAt_j26 ml p0)) := rfl
section
variable {p : Program} {l : Launch} {e : Env} {s : State} {m : MethodId} {args : Array Value} {below : List Frame} {meth : Method} {c : Code} {Q : State → Prop} {H : Heap} {locs : List Loc} {dC : Nat → ClassId} {dI : Nat → Nat → Nat} {cI cJ : ClassId}
abbrev rm_X7_pitchAt : Room := { frames := 2, cells := 0, slots := 0, locals := 41 }
theorem hd_X7_pitchAt : yX7_pitchAt.cls = RX7 ∧ yX7_pitchAt.cls ≠ "java/lang/invoke/MethodHandle" ∧ yX7_pitchAt.cls ≠ "java/lang/invoke/VarHandle" ∧ (parseMethodDescriptor yX7_pitchAt.desc).map (fun d => d.parameters.length) = some 2 := by decide +kernel
set_option maxHeartbeats 4000000 in
set_option maxRecDepth 100000 in
theorem w_X7_pitchAt {aM : Nat} {aMG : Nat} {aML : Nat} {aMW : Nat} {aME : Nat} {aMO : Nat} {mt : Int32} {mc : Int32} {mn : Int32} {mr : Int32} {mb : Int32} {mf : Int32} {mlo : Int32} {mhi : Int32} {mx : Int32} {mg : Nat → Int32} {ml : Nat → Int32} {mw : Nat → Int32} {me : Nat → Int32} {mo : Nat → Int64} {p0 : Int32} {p1 : Int32} (hm : mok mc mr) (hi : mix mr p0) {F : Int32} (hx : p.tables.exec = Jvm.exec) (hb : c.code = cX7_pitchAt) (hml : c.maxLocals = 5) (hown : s.vm.findClass RX7 = some m.cls) (hts : ∀ w ∈ wsX7_pitchAt, w.before args s = true) (hK : va_K (dC, dI) vwCl [(cI, .int), (cJ, .long)] s) (hP : va_P (dC, dI) vwCl [(aM, .inr (7, [.int mt, .ref aMG, .int mc, .ref aML, .int mn, .int mr, .int mb, .int mf, .int mlo, .int mhi, .ref aMW, .ref aME, .ref aMO, .int mx])), (aMG, .inl (cI, 14, .inl mg)), (aML, .inl (cI, 53, .inl ml)), (aMW, .inl (cI, 12, .inl mw)), (aME, .inl (cI, 2700, .inl me)), (aMO, .inl (cJ, 2700, .inr (.inl mo)))] H) (hR : F = f_X7_pitchAt mc mr mf ml p0 p1) (kR : ∀ (r : Int32) (pc : Nat) (ls : Array Slot), r = F → decode cX7_pitchAt pc = .ok (.ireturn, 1) → W p l e rm_X7_pitchAt s m args below meth c H locs 0 0 Q (F0 m pc ls [.int r])) (ls : Array Slot) (hl : lv_has ls 5 [(0, .ref aM), (1, .int p0), (2, .int p1)]) : W p l e rm_X7_pitchAt s m args below meth c H locs 0 0 Q (F0 m 0 ls []) := by
  have hR := hR.trans e_X7_pitchAt
  refine lv_aload_n hx hb dX7_pitchAt_0 rfl (lv_at hl 0 rfl) ?_
  refine va_get (D := (dC, dI)) (ci := 7) (v := .int mf) (C := RX7) (T := TX7) (N := 14) hx hb hts inC_X7 hown hK hP 0 rfl rfl 7 (by decide) (hts (.fieldLink RX7 56 "CounterpointeryModel" "feigns" "Z") (List.mem_cons_of_mem _ wm_655)) (fun _ h9 => h9) rfl dX7_pitchAt_1 ?_
  have J27 : ∀ (v1 : Int32) (ls : Array Slot), lv_has ls 5 [(0, .ref aM), (1, .int p0)] → zb v1 → (¬ v1 = 0 → p1 = f_X7_most mc mr ∧ p0 = p1 - (2 : Int32)) → F = f_X7_pitchAt_j27 ml p0 v1 → W p l e rm_X7_pitchAt s m args below meth c H locs 0 0 Q (F0 m 27 ls [.int v1]) := by
    intro v1 ls hl hz_v1 hv hR
    have hR := hR.trans e_X7_pitchAt_j27
    refine lv_istore_n (lv' := [(3, .int v1), (0, .ref aM), (1, .int p0)]) hx hb dX7_pitchAt_27 rfl hl (by decide) rfl (fun ls hl => ?_)
    refine lv_iload_n hx hb dX7_pitchAt_28 rfl (lv_at hl 0 rfl) ?_
    have J81 : ∀ (v2 : Int32) (ls : Array Slot), lv_has ls 5 [(0, .ref aM), (1, .int p0)] → zb v2 → F = f_X7_pitchAt_j81 ml p0 v2 → W p l e rm_X7_pitchAt s m args below meth c H locs 0 0 Q (F0 m 81 ls [.int v2]) := by
      intro v2 ls hl hz_v2 hR
      have hR := hR.trans e_X7_pitchAt_j81
      refine lv_istore (lv' := [(4, .int v2), (0, .ref aM), (1, .int p0)]) hx hb dX7_pitchAt_81 hl (by decide) rfl (fun ls hl => ?_)
      refine lv_aload_n hx hb dX7_pitchAt_83 rfl (lv_at hl 1 rfl) ?_
      refine va_get (D := (dC, dI)) (ci := 7) (v := .ref aML) (C := RX7) (T := TX7) (N := 14) hx hb hts inC_X7 hown hK hP 0 rfl rfl 3 (by decide) (hts (.fieldLink RX7 13 "CounterpointeryModel" "line" "[I") (List.mem_cons_of_mem _ wm_623)) (fun _ h9 => h9) rfl dX7_pitchAt_84 ?_
      refine lv_iload_n hx hb dX7_pitchAt_87 rfl (lv_at hl 2 rfl) ?_
      refine va_iald (D := (dC, dI)) hx hb hK hP 2 0 rfl rfl (mx_in hm hi) dX7_pitchAt_88 ?_
      refine rS_i (As := [.int (ml p0.toNatClampNeg)]) (rest := []) ⟨hx, hb, hml, hown, hts⟩ (m_X7_pitchOf l dC dI cI cJ (ml p0.toNatClampNeg)) (va_cwS 1 hts (gi_S wm_656 wm_657 wm_633 wm_658) rfl rfl rfl hd_X7_pitchOf ⟨Nat.le_of_ble_eq_true rfl, Nat.le_of_ble_eq_true rfl⟩) hK (hP.sub [] rfl) rfl hl.1 rfl (Nat.le_of_ble_eq_true rfl) dX7_pitchAt_89 ⟨Nat.zero_le _, Nat.zero_le _⟩ ?_
      refine lv_iload hx hb dX7_pitchAt_92 (lv_at hl 0 rfl) ?_
      refine lv_if_eq (tgt := 101) hx hb dX7_pitchAt_94 (by decide) (fun c_1 => ?_) (fun c_1 => ?_)
      · have hR := hR.trans (if_pos c_1)
        refine lv_iconst (v := (0 : Int32)) hx hb dX7_pitchAt_101 (by decide) ?_
        refine lv_iadd hx hb dX7_pitchAt_102 ?_
        exact kR ((f_X7_pitchOf (ml p0.toNatClampNeg)) + (0 : Int32)) 103 ls hR.symm dX7_pitchAt_103
      · have hR := hR.trans (if_neg c_1)
        refine lv_iconst (v := (1 : Int32)) hx hb dX7_pitchAt_97 (by decide) ?_
        refine lv_goto (tgt := 102) hx hb dX7_pitchAt_98 (by decide) ?_
        refine lv_iadd hx hb dX7_pitchAt_102 ?_
        exact kR ((f_X7_pitchOf (ml p0.toNatClampNeg)) + (1 : Int32)) 103 ls hR.symm dX7_pitchAt_103
    have J80 : ∀ (ls : Array Slot), lv_has ls 5 [(0, .ref aM), (1, .int p0)] → F = f_X7_pitchAt_j80 ml p0 → W p l e rm_X7_pitchAt s m args below meth c H locs 0 0 Q (F0 m 80 ls []) := by
      intro ls hl hR
      have hR := hR.trans e_X7_pitchAt_j80
      refine lv_iconst (v := (0 : Int32)) hx hb dX7_pitchAt_80 (by decide) ?_
      exact J81 (0 : Int32) ls (lv_sub hl [0, 1] rfl) (by first | exact Or.inl rfl | exact Or.inr rfl) hR
    refine lv_if_eq (tgt := 80) hx hb dX7_pitchAt_29 (by decide) (fun c_2 => ?_) (fun c_2 => ?_)
    · have hR := hR.trans (if_pos c_2)
      exact J80 ls (lv_sub hl [1, 2] rfl) hR
    · have hR := hR.trans (if_neg c_2)
      refine lv_aload_n hx hb dX7_pitchAt_32 rfl (lv_at hl 1 rfl) ?_
      refine va_get (D := (dC, dI)) (ci := 7) (v := .ref aML) (C := RX7) (T := TX7) (N := 14) hx hb hts inC_X7 hown hK hP 0 rfl rfl 3 (by decide) (hts (.fieldLink RX7 13 "CounterpointeryModel" "line" "[I") (List.mem_cons_of_mem _ wm_623)) (fun _ h9 => h9) rfl dX7_pitchAt_33 ?_
      refine lv_iload_n hx hb dX7_pitchAt_36 rfl (lv_at hl 2 rfl) ?_
      refine va_iald (D := (dC, dI)) hx hb hK hP 2 0 rfl rfl (mx_in hm hi) dX7_pitchAt_37 ?_
      refine lv_aload_n hx hb dX7_pitchAt_38 rfl (lv_at hl 1 rfl) ?_
      refine va_get (D := (dC, dI)) (ci := 7) (v := .ref aML) (C := RX7) (T := TX7) (N := 14) hx hb hts inC_X7 hown hK hP 0 rfl rfl 3 (by decide) (hts (.fieldLink RX7 13 "CounterpointeryModel" "line" "[I") (List.mem_cons_of_mem _ wm_623)) (fun _ h9 => h9) rfl dX7_pitchAt_39 ?_
      refine lv_iload_n hx hb dX7_pitchAt_42 rfl (lv_at hl 2 rfl) ?_
      refine lv_iconst (v := (1 : Int32)) hx hb dX7_pitchAt_43 (by decide) ?_
      refine lv_iadd hx hb dX7_pitchAt_44 ?_
      refine va_iald (D := (dC, dI)) hx hb hK hP 2 0 rfl rfl (mx_nx hm hi (hv (by assumption))) dX7_pitchAt_45 ?_
      refine lv_iconst (v := (1 : Int32)) hx hb dX7_pitchAt_46 (by decide) ?_
      refine lv_isub hx hb dX7_pitchAt_47 ?_
      refine lv_icmp_ne (tgt := 80) hx hb dX7_pitchAt_48 (by decide) (fun c_3 => ?_) (fun c_3 => ?_)
      · have hR := hR.trans (if_neg c_3)
        exact J80 ls (lv_sub hl [1, 2] rfl) hR
      · have hR := hR.trans (if_pos c_3)
        refine lv_aload_n hx hb dX7_pitchAt_51 rfl (lv_at hl 1 rfl) ?_
        refine va_get (D := (dC, dI)) (ci := 7) (v := .ref aML) (C := RX7) (T := TX7) (N := 14) hx hb hts inC_X7 hown hK hP 0 rfl rfl 3 (by decide) (hts (.fieldLink RX7 13 "CounterpointeryModel" "line" "[I") (List.mem_cons_of_mem _ wm_623)) (fun _ h9 => h9) rfl dX7_pitchAt_52 ?_
        refine lv_iload_n hx hb dX7_pitchAt_55 rfl (lv_at hl 2 rfl) ?_
        refine va_iald (D := (dC, dI)) hx hb hK hP 2 0 rfl rfl (mx_in hm hi) dX7_pitchAt_56 ?_
        refine rS_i (As := [.int (ml p0.toNatClampNeg)]) (rest := []) ⟨hx, hb, hml, hown, hts⟩ (m_X7_pitchOf l dC dI cI cJ (ml p0.toNatClampNeg)) (va_cwS 1 hts (gi_S wm_656 wm_657 wm_633 wm_658) rfl rfl rfl hd_X7_pitchOf ⟨Nat.le_of_ble_eq_true rfl, Nat.le_of_ble_eq_true rfl⟩) hK (hP.sub [] rfl) rfl hl.1 rfl (Nat.le_of_ble_eq_true rfl) dX7_pitchAt_57 ⟨Nat.zero_le _, Nat.zero_le _⟩ ?_
        refine lv_aload_n hx hb dX7_pitchAt_60 rfl (lv_at hl 1 rfl) ?_
        refine va_get (D := (dC, dI)) (ci := 7) (v := .ref aML) (C := RX7) (T := TX7) (N := 14) hx hb hts inC_X7 hown hK hP 0 rfl rfl 3 (by decide) (hts (.fieldLink RX7 13 "CounterpointeryModel" "line" "[I") (List.mem_cons_of_mem _ wm_623)) (fun _ h9 => h9) rfl dX7_pitchAt_61 ?_
        refine lv_iload_n hx hb dX7_pitchAt_64 rfl (lv_at hl 2 rfl) ?_
        refine lv_iconst (v := (1 : Int32)) hx hb dX7_pitchAt_65 (by decide) ?_
        refine lv_iadd hx hb dX7_pitchAt_66 ?_
        refine va_iald (D := (dC, dI)) hx hb hK hP 2 0 rfl rfl (mx_nx hm hi (hv (by assumption))) dX7_pitchAt_67 ?_
        refine rS_i (As := [.int (ml (p0 + (1 : Int32)).toNatClampNeg)]) (rest := [.int (f_X7_pitchOf (ml p0.toNatClampNeg))]) ⟨hx, hb, hml, hown, hts⟩ (m_X7_pitchOf l dC dI cI cJ (ml (p0 + (1 : Int32)).toNatClampNeg)) (va_cwS 1 hts (gi_S wm_656 wm_657 wm_633 wm_658) rfl rfl rfl hd_X7_pitchOf ⟨Nat.le_of_ble_eq_true rfl, Nat.le_of_ble_eq_true rfl⟩) hK (hP.sub [] rfl) rfl hl.1 rfl (Nat.le_of_ble_eq_true rfl) dX7_pitchAt_68 ⟨Nat.zero_le _, Nat.zero_le _⟩ ?_
        refine lv_iconst (v := (2 : Int32)) hx hb dX7_pitchAt_71 (by decide) ?_
        refine lv_isub hx hb dX7_pitchAt_72 ?_
        refine lv_icmp_ne (tgt := 80) hx hb dX7_pitchAt_73 (by decide) (fun c_4 => ?_) (fun c_4 => ?_)
        · have hR := hR.trans (if_neg c_4)
          exact J80 ls (lv_sub hl [1, 2] rfl) hR
        · have hR := hR.trans (if_pos c_4)
          refine lv_iconst (v := (1 : Int32)) hx hb dX7_pitchAt_76 (by decide) ?_
          refine lv_goto (tgt := 81) hx hb dX7_pitchAt_77 (by decide) ?_
          exact J81 (1 : Int32) ls (lv_sub hl [1, 2] rfl) (by first | exact Or.inl rfl | exact Or.inr rfl) hR
  have J26 : ∀ (ls : Array Slot), lv_has ls 5 [(0, .ref aM), (1, .int p0)] → F = f_X7_pitchAt_j26 ml p0 → W p l e rm_X7_pitchAt s m args below meth c H locs 0 0 Q (F0 m 26 ls []) := by
    intro ls hl hR
    have hR := hR.trans e_X7_pitchAt_j26
    refine lv_iconst (v := (0 : Int32)) hx hb dX7_pitchAt_26 (by decide) ?_
    exact J27 (0 : Int32) ls (lv_sub hl [0, 1] rfl) (by first | exact Or.inl rfl | exact Or.inr rfl) (show ¬ (0 : Int32) = 0 → p1 = f_X7_most mc mr ∧ p0 = p1 - (2 : Int32) from (by first | exact fun h => absurd rfl h | exact fun h => absurd h (by decide) | exact fun _ => ⟨by assumption, by assumption⟩ | exact fun _ => by assumption)) hR
  refine lv_if_eq (tgt := 26) hx hb dX7_pitchAt_4 (by decide) (fun c_5 => ?_) (fun c_5 => ?_)
  · have hR := hR.trans (if_pos c_5)
    exact J26 ls (lv_sub hl [0, 1] rfl) hR
  · have hR := hR.trans (if_neg c_5)
    refine lv_iload_n hx hb dX7_pitchAt_7 rfl (lv_at hl 2 rfl) ?_
    refine lv_aload_n hx hb dX7_pitchAt_8 rfl (lv_at hl 0 rfl) ?_
    refine rV_i (q0 := 0) (As := []) (rest := [.int p1]) ⟨hx, hb, hml, hown, hts⟩ (m_X7_most l dC dI cI cJ aM aMG aML aMW aME aMO mt mc mn mr mb mf mlo mhi mx mg ml mw me mo) (cwV 0 hts (gi_V wm_651 wm_652 wm_653 wm_633 wm_654) rfl rfl rfl hd_X7_most ⟨Nat.le_of_ble_eq_true rfl, Nat.le_of_ble_eq_true rfl⟩) hK (hP.sub [0, 1, 2, 3, 4, 5] rfl) rfl rfl rfl hl.1 rfl (Nat.le_of_ble_eq_true rfl) dX7_pitchAt_9 ⟨Nat.zero_le _, Nat.zero_le _⟩ ?_
    refine lv_icmp_ne (tgt := 26) hx hb dX7_pitchAt_12 (by decide) (fun c_6 => ?_) (fun c_6 => ?_)
    · have hR := hR.trans (if_neg c_6)
      exact J26 ls (lv_sub hl [0, 1] rfl) hR
    · have hR := hR.trans (if_pos c_6)
      refine lv_iload_n hx hb dX7_pitchAt_15 rfl (lv_at hl 1 rfl) ?_
      refine lv_iload_n hx hb dX7_pitchAt_16 rfl (lv_at hl 2 rfl) ?_
      refine lv_iconst (v := (2 : Int32)) hx hb dX7_pitchAt_17 (by decide) ?_
      refine lv_isub hx hb dX7_pitchAt_18 ?_
      refine lv_icmp_ne (tgt := 26) hx hb dX7_pitchAt_19 (by decide) (fun c_7 => ?_) (fun c_7 => ?_)
      · have hR := hR.trans (if_neg c_7)
        exact J26 ls (lv_sub hl [0, 1] rfl) hR
      · have hR := hR.trans (if_pos c_7)
        refine lv_iconst (v := (1 : Int32)) hx hb dX7_pitchAt_22 (by decide) ?_
        refine lv_goto (tgt := 27) hx hb dX7_pitchAt_23 (by decide) ?_
        exact J27 (1 : Int32) ls (lv_sub hl [0, 1] rfl) (by first | exact Or.inl rfl | exact Or.inr rfl) (show ¬ (1 : Int32) = 0 → p1 = f_X7_most mc mr ∧ p0 = p1 - (2 : Int32) from (by first | exact fun h => absurd rfl h | exact fun h => absurd h (by decide) | exact fun _ => ⟨by assumption, by assumption⟩ | exact fun _ => by assumption)) hR
set_option maxHeartbeats 4000000 in
set_option maxRecDepth 100000 in
theorem m_X7_pitchAt (l : Launch) (dC : Nat → ClassId) (dI : Nat → Nat → Nat) (cI cJ : ClassId) (aM : Nat) (aMG : Nat) (aML : Nat) (aMW : Nat) (aME : Nat) (aMO : Nat) (mt : Int32) (mc : Int32) (mn : Int32) (mr : Int32) (mb : Int32) (mf : Int32) (mlo : Int32) (mhi : Int32) (mx : Int32) (mg : Nat → Int32) (ml : Nat → Int32) (mw : Nat → Int32) (me : Nat → Int32) (mo : Nat → Int64) (p0 : Int32) (p1 : Int32) (hm : mok mc mr) (hi : mix mr p0) : Met l yX7_pitchAt wsX7_pitchAt rm_X7_pitchAt (va_Pc [.ref aM, .int p0, .int p1] (fun U => va_P (dC, dI) vwCl [(aM, .inr (7, [.int mt, .ref aMG, .int mc, .ref aML, .int mn, .int mr, .int mb, .int mf, .int mlo, .int mhi, .ref aMW, .ref aME, .ref aMO, .int mx])), (aMG, .inl (cI, 14, .inl mg)), (aML, .inl (cI, 53, .inl ml)), (aMW, .inl (cI, 12, .inl mw)), (aME, .inl (cI, 2700, .inl me)), (aMO, .inl (cJ, 2700, .inr (.inl mo)))] U.heap ∧ va_K (dC, dI) vwCl [(cI, .int), (cJ, .long)] U)) (vp_Si (fun r => r = f_X7_pitchAt mc mr mf ml p0 p1)) 0 0 (fun _ => False) := by
  refine Met.ofW (cc := cX7_pitchAt) (maxL := 5) (ret := (some .int)) (by decide) rfl ?_
  intro p e s m args below meth c s₁ B hml hv
  obtain ⟨rfl, hP, hK⟩ := hv
  have hl := lv_entry ([.ref aM, .int p0, .int p1]) (n := 5) (Nat.le_of_ble_eq_true rfl)
  rw [lg_entry_eq]
  refine w_X7_pitchAt hm hi B.exec B.bytes hml (findClass_of_methodNamed B.named) (atoms_spec (ws := wsX7_pitchAt) B.pre) hK hP rfl (fun r pc ls er hd => ?_) _ hl
  exact W.iret B.exec B.bytes B.returns (fun t ht hW => ⟨r, rfl, er, ht⟩) (fun _ h => by cases h) hd B.notSynchronized
end
def f_X7_kindAt (mc : Int32) (mr : Int32) (mf : Int32) (mg : Nat → Int32) (ml : Nat → Int32) (p0 : Int32) (p1 : Int32) : Int32 :=
  (f_X7_kind ((ml p0.toNatClampNeg) - (f_X7_givenOf mr mg p0)) ((f_X7_pitchAt mc mr mf ml p0 p1) - (f_X7_pitchOf (f_X7_givenOf mr mg p0))))
theorem e_X7_kindAt {mc : Int32} {mr : Int32} {mf : Int32} {mg : Nat → Int32} {ml : Nat → Int32} {p0 : Int32} {p1 : Int32} : f_X7_kindAt mc mr mf mg ml p0 p1 = (f_X7_kind ((ml p0.toNatClampNeg) - (f_X7_givenOf mr mg p0)) ((f_X7_pitchAt mc mr mf ml p0 p1) - (f_X7_pitchOf (f_X7_givenOf mr mg p0)))) := rfl
section
variable {p : Program} {l : Launch} {e : Env} {s : State} {m : MethodId} {args : Array Value} {below : List Frame} {meth : Method} {c : Code} {Q : State → Prop} {H : Heap} {locs : List Loc} {dC : Nat → ClassId} {dI : Nat → Nat → Nat} {cI cJ : ClassId}
abbrev rm_X7_kindAt : Room := { frames := 3, cells := 0, slots := 0, locals := 65 }
theorem hd_X7_kindAt : yX7_kindAt.cls = RX7 ∧ yX7_kindAt.cls ≠ "java/lang/invoke/MethodHandle" ∧ yX7_kindAt.cls ≠ "java/lang/invoke/VarHandle" ∧ (parseMethodDescriptor yX7_kindAt.desc).map (fun d => d.parameters.length) = some 2 := by decide +kernel
set_option maxHeartbeats 4000000 in
set_option maxRecDepth 100000 in
theorem w_X7_kindAt {aM : Nat} {aMG : Nat} {aML : Nat} {aMW : Nat} {aME : Nat} {aMO : Nat} {mt : Int32} {mc : Int32} {mn : Int32} {mr : Int32} {mb : Int32} {mf : Int32} {mlo : Int32} {mhi : Int32} {mx : Int32} {mg : Nat → Int32} {ml : Nat → Int32} {mw : Nat → Int32} {me : Nat → Int32} {mo : Nat → Int64} {p0 : Int32} {p1 : Int32} (hm : mok mc mr) (hi : mix mr p0) {F : Int32} (hx : p.tables.exec = Jvm.exec) (hb : c.code = cX7_kindAt) (hml : c.maxLocals = 4) (hown : s.vm.findClass RX7 = some m.cls) (hts : ∀ w ∈ wsX7_kindAt, w.before args s = true) (hK : va_K (dC, dI) vwCl [(cI, .int), (cJ, .long)] s) (hP : va_P (dC, dI) vwCl [(aM, .inr (7, [.int mt, .ref aMG, .int mc, .ref aML, .int mn, .int mr, .int mb, .int mf, .int mlo, .int mhi, .ref aMW, .ref aME, .ref aMO, .int mx])), (aMG, .inl (cI, 14, .inl mg)), (aML, .inl (cI, 53, .inl ml)), (aMW, .inl (cI, 12, .inl mw)), (aME, .inl (cI, 2700, .inl me)), (aMO, .inl (cJ, 2700, .inr (.inl mo)))] H) (hR : F = f_X7_kindAt mc mr mf mg ml p0 p1) (kR : ∀ (r : Int32) (pc : Nat) (ls : Array Slot), r = F → decode cX7_kindAt pc = .ok (.ireturn, 1) → W p l e rm_X7_kindAt s m args below meth c H locs 0 0 Q (F0 m pc ls [.int r])) (ls : Array Slot) (hl : lv_has ls 4 [(0, .ref aM), (1, .int p0), (2, .int p1)]) : W p l e rm_X7_kindAt s m args below meth c H locs 0 0 Q (F0 m 0 ls []) := by
  have hR := hR.trans e_X7_kindAt
  refine lv_aload_n hx hb dX7_kindAt_0 rfl (lv_at hl 0 rfl) ?_
  refine lv_iload_n hx hb dX7_kindAt_1 rfl (lv_at hl 1 rfl) ?_
  refine rV_i (q0 := 0) (As := [.int p0]) (rest := []) ⟨hx, hb, hml, hown, hts⟩ (m_X7_givenOf l dC dI cI cJ aM aMG aML aMW aME aMO mt mc mn mr mb mf mlo mhi mx mg ml mw me mo p0 (show mok mc mr from hm) (show mix mr p0 from hi)) (cwV 1 hts (gi_V wm_662 wm_663 wm_664 wm_633 wm_665) rfl rfl rfl hd_X7_givenOf ⟨Nat.le_of_ble_eq_true rfl, Nat.le_of_ble_eq_true rfl⟩) hK (hP.sub [0, 1, 2, 3, 4, 5] rfl) rfl rfl rfl hl.1 rfl (Nat.le_of_ble_eq_true rfl) dX7_kindAt_2 ⟨Nat.zero_le _, Nat.zero_le _⟩ ?_
  refine lv_istore_n (lv' := [(3, .int (f_X7_givenOf mr mg p0)), (0, .ref aM), (1, .int p0), (2, .int p1)]) hx hb dX7_kindAt_5 rfl hl (by decide) rfl (fun ls hl => ?_)
  refine lv_aload_n hx hb dX7_kindAt_6 rfl (lv_at hl 1 rfl) ?_
  refine va_get (D := (dC, dI)) (ci := 7) (v := .ref aML) (C := RX7) (T := TX7) (N := 14) hx hb hts inC_X7 hown hK hP 0 rfl rfl 3 (by decide) (hts (.fieldLink RX7 13 "CounterpointeryModel" "line" "[I") (List.mem_cons_of_mem _ wm_623)) (fun _ h9 => h9) rfl dX7_kindAt_7 ?_
  refine lv_iload_n hx hb dX7_kindAt_10 rfl (lv_at hl 2 rfl) ?_
  refine va_iald (D := (dC, dI)) hx hb hK hP 2 0 rfl rfl (mx_in hm hi) dX7_kindAt_11 ?_
  refine lv_iload_n hx hb dX7_kindAt_12 rfl (lv_at hl 0 rfl) ?_
  refine lv_isub hx hb dX7_kindAt_13 ?_
  refine lv_aload_n hx hb dX7_kindAt_14 rfl (lv_at hl 1 rfl) ?_
  refine lv_iload_n hx hb dX7_kindAt_15 rfl (lv_at hl 2 rfl) ?_
  refine lv_iload_n hx hb dX7_kindAt_16 rfl (lv_at hl 3 rfl) ?_
  refine rV_i (q0 := 0) (As := [.int p0, .int p1]) (rest := [.int ((ml p0.toNatClampNeg) - (f_X7_givenOf mr mg p0))]) ⟨hx, hb, hml, hown, hts⟩ (m_X7_pitchAt l dC dI cI cJ aM aMG aML aMW aME aMO mt mc mn mr mb mf mlo mhi mx mg ml mw me mo p0 p1 (show mok mc mr from hm) (show mix mr p0 from hi)) (cwV 2 hts (gi_V wm_666 wm_667 wm_668 wm_633 wm_669) rfl rfl rfl hd_X7_pitchAt ⟨Nat.le_of_ble_eq_true rfl, Nat.le_of_ble_eq_true rfl⟩) hK (hP.sub [0, 1, 2, 3, 4, 5] rfl) rfl rfl rfl hl.1 rfl (Nat.le_of_ble_eq_true rfl) dX7_kindAt_17 ⟨Nat.zero_le _, Nat.zero_le _⟩ ?_
  refine lv_iload_n hx hb dX7_kindAt_20 rfl (lv_at hl 0 rfl) ?_
  refine rS_i (As := [.int (f_X7_givenOf mr mg p0)]) (rest := [.int (f_X7_pitchAt mc mr mf ml p0 p1), .int ((ml p0.toNatClampNeg) - (f_X7_givenOf mr mg p0))]) ⟨hx, hb, hml, hown, hts⟩ (m_X7_pitchOf l dC dI cI cJ (f_X7_givenOf mr mg p0)) (va_cwS 1 hts (gi_S wm_656 wm_657 wm_633 wm_658) rfl rfl rfl hd_X7_pitchOf ⟨Nat.le_of_ble_eq_true rfl, Nat.le_of_ble_eq_true rfl⟩) hK (hP.sub [] rfl) rfl hl.1 rfl (Nat.le_of_ble_eq_true rfl) dX7_kindAt_21 ⟨Nat.zero_le _, Nat.zero_le _⟩ ?_
  refine lv_isub hx hb dX7_kindAt_24 ?_
  refine rS_i (As := [.int ((ml p0.toNatClampNeg) - (f_X7_givenOf mr mg p0)), .int ((f_X7_pitchAt mc mr mf ml p0 p1) - (f_X7_pitchOf (f_X7_givenOf mr mg p0)))]) (rest := []) ⟨hx, hb, hml, hown, hts⟩ (m_X7_kind l dC dI cI cJ ((ml p0.toNatClampNeg) - (f_X7_givenOf mr mg p0)) ((f_X7_pitchAt mc mr mf ml p0 p1) - (f_X7_pitchOf (f_X7_givenOf mr mg p0)))) (va_cwS 2 hts (gi_S wm_670 wm_671 wm_633 wm_672) rfl rfl rfl hd_X7_kind ⟨Nat.le_of_ble_eq_true rfl, Nat.le_of_ble_eq_true rfl⟩) hK (hP.sub [] rfl) rfl hl.1 rfl (Nat.le_of_ble_eq_true rfl) dX7_kindAt_25 ⟨Nat.zero_le _, Nat.zero_le _⟩ ?_
  exact kR (f_X7_kind ((ml p0.toNatClampNeg) - (f_X7_givenOf mr mg p0)) ((f_X7_pitchAt mc mr mf ml p0 p1) - (f_X7_pitchOf (f_X7_givenOf mr mg p0)))) 28 ls hR.symm dX7_kindAt_28
set_option maxHeartbeats 4000000 in
set_option maxRecDepth 100000 in
theorem m_X7_kindAt (l : Launch) (dC : Nat → ClassId) (dI : Nat → Nat → Nat) (cI cJ : ClassId) (aM : Nat) (aMG : Nat) (aML : Nat) (aMW : Nat) (aME : Nat) (aMO : Nat) (mt : Int32) (mc : Int32) (mn : Int32) (mr : Int32) (mb : Int32) (mf : Int32) (mlo : Int32) (mhi : Int32) (mx : Int32) (mg : Nat → Int32) (ml : Nat → Int32) (mw : Nat → Int32) (me : Nat → Int32) (mo : Nat → Int64) (p0 : Int32) (p1 : Int32) (hm : mok mc mr) (hi : mix mr p0) : Met l yX7_kindAt wsX7_kindAt rm_X7_kindAt (va_Pc [.ref aM, .int p0, .int p1] (fun U => va_P (dC, dI) vwCl [(aM, .inr (7, [.int mt, .ref aMG, .int mc, .ref aML, .int mn, .int mr, .int mb, .int mf, .int mlo, .int mhi, .ref aMW, .ref aME, .ref aMO, .int mx])), (aMG, .inl (cI, 14, .inl mg)), (aML, .inl (cI, 53, .inl ml)), (aMW, .inl (cI, 12, .inl mw)), (aME, .inl (cI, 2700, .inl me)), (aMO, .inl (cJ, 2700, .inr (.inl mo)))] U.heap ∧ va_K (dC, dI) vwCl [(cI, .int), (cJ, .long)] U)) (vp_Si (fun r => r = f_X7_kindAt mc mr mf mg ml p0 p1)) 0 0 (fun _ => False) := by
  refine Met.ofW (cc := cX7_kindAt) (maxL := 4) (ret := (some .int)) (by decide) rfl ?_
  intro p e s m args below meth c s₁ B hml hv
  obtain ⟨rfl, hP, hK⟩ := hv
  have hl := lv_entry ([.ref aM, .int p0, .int p1]) (n := 4) (Nat.le_of_ble_eq_true rfl)
  rw [lg_entry_eq]
  refine w_X7_kindAt hm hi B.exec B.bytes hml (findClass_of_methodNamed B.named) (atoms_spec (ws := wsX7_kindAt) B.pre) hK hP rfl (fun r pc ls er hd => ?_) _ hl
  exact W.iret B.exec B.bytes B.returns (fun t ht hW => ⟨r, rfl, er, ht⟩) (fun _ h => by cases h) hd B.notSynchronized
end
def f_X7_move (ml : Nat → Int32) (p0 : Int32) : Int32 :=
  ((ml p0.toNatClampNeg) - (ml (p0 - (1 : Int32)).toNatClampNeg))
theorem e_X7_move {ml : Nat → Int32} {p0 : Int32} : f_X7_move ml p0 = ((ml p0.toNatClampNeg) - (ml (p0 - (1 : Int32)).toNatClampNeg)) := rfl
section
variable {p : Program} {l : Launch} {e : Env} {s : State} {m : MethodId} {args : Array Value} {below : List Frame} {meth : Method} {c : Code} {Q : State → Prop} {H : Heap} {locs : List Loc} {dC : Nat → ClassId} {dI : Nat → Nat → Nat} {cI cJ : ClassId}
abbrev rm_X7_move : Room := { frames := 0, cells := 0, slots := 0, locals := 0 }
theorem hd_X7_move : yX7_move.cls = RX7 ∧ yX7_move.cls ≠ "java/lang/invoke/MethodHandle" ∧ yX7_move.cls ≠ "java/lang/invoke/VarHandle" ∧ (parseMethodDescriptor yX7_move.desc).map (fun d => d.parameters.length) = some 1 := by decide +kernel
set_option maxHeartbeats 4000000 in
set_option maxRecDepth 100000 in
theorem w_X7_move {aM : Nat} {aMG : Nat} {aML : Nat} {aMW : Nat} {aME : Nat} {aMO : Nat} {mt : Int32} {mc : Int32} {mn : Int32} {mr : Int32} {mb : Int32} {mf : Int32} {mlo : Int32} {mhi : Int32} {mx : Int32} {mg : Nat → Int32} {ml : Nat → Int32} {mw : Nat → Int32} {me : Nat → Int32} {mo : Nat → Int64} {p0 : Int32} (hm : mok mc mr) (hi : mix1 mr p0) {F : Int32} (hx : p.tables.exec = Jvm.exec) (hb : c.code = cX7_move) (hml : c.maxLocals = 2) (hown : s.vm.findClass RX7 = some m.cls) (hts : ∀ w ∈ wsX7_move, w.before args s = true) (hK : va_K (dC, dI) vwCl [(cI, .int), (cJ, .long)] s) (hP : va_P (dC, dI) vwCl [(aM, .inr (7, [.int mt, .ref aMG, .int mc, .ref aML, .int mn, .int mr, .int mb, .int mf, .int mlo, .int mhi, .ref aMW, .ref aME, .ref aMO, .int mx])), (aMG, .inl (cI, 14, .inl mg)), (aML, .inl (cI, 53, .inl ml)), (aMW, .inl (cI, 12, .inl mw)), (aME, .inl (cI, 2700, .inl me)), (aMO, .inl (cJ, 2700, .inr (.inl mo)))] H) (hR : F = f_X7_move ml p0) (kR : ∀ (r : Int32) (pc : Nat) (ls : Array Slot), r = F → decode cX7_move pc = .ok (.ireturn, 1) → W p l e rm_X7_move s m args below meth c H locs 0 0 Q (F0 m pc ls [.int r])) (ls : Array Slot) (hl : lv_has ls 2 [(0, .ref aM), (1, .int p0)]) : W p l e rm_X7_move s m args below meth c H locs 0 0 Q (F0 m 0 ls []) := by
  have hR := hR.trans e_X7_move
  refine lv_aload_n hx hb dX7_move_0 rfl (lv_at hl 0 rfl) ?_
  refine va_get (D := (dC, dI)) (ci := 7) (v := .ref aML) (C := RX7) (T := TX7) (N := 14) hx hb hts inC_X7 hown hK hP 0 rfl rfl 3 (by decide) (hts (.fieldLink RX7 13 "CounterpointeryModel" "line" "[I") (List.mem_cons_of_mem _ wm_623)) (fun _ h9 => h9) rfl dX7_move_1 ?_
  refine lv_iload_n hx hb dX7_move_4 rfl (lv_at hl 1 rfl) ?_
  refine va_iald (D := (dC, dI)) hx hb hK hP 2 0 rfl rfl (mx_in1 hm hi) dX7_move_5 ?_
  refine lv_aload_n hx hb dX7_move_6 rfl (lv_at hl 0 rfl) ?_
  refine va_get (D := (dC, dI)) (ci := 7) (v := .ref aML) (C := RX7) (T := TX7) (N := 14) hx hb hts inC_X7 hown hK hP 0 rfl rfl 3 (by decide) (hts (.fieldLink RX7 13 "CounterpointeryModel" "line" "[I") (List.mem_cons_of_mem _ wm_623)) (fun _ h9 => h9) rfl dX7_move_7 ?_
  refine lv_iload_n hx hb dX7_move_10 rfl (lv_at hl 1 rfl) ?_
  refine lv_iconst (v := (1 : Int32)) hx hb dX7_move_11 (by decide) ?_
  refine lv_isub hx hb dX7_move_12 ?_
  refine va_iald (D := (dC, dI)) hx hb hK hP 2 0 rfl rfl (mx_inp hm hi) dX7_move_13 ?_
  refine lv_isub hx hb dX7_move_14 ?_
  exact kR ((ml p0.toNatClampNeg) - (ml (p0 - (1 : Int32)).toNatClampNeg)) 15 ls hR.symm dX7_move_15
set_option maxHeartbeats 4000000 in
set_option maxRecDepth 100000 in
theorem m_X7_move (l : Launch) (dC : Nat → ClassId) (dI : Nat → Nat → Nat) (cI cJ : ClassId) (aM : Nat) (aMG : Nat) (aML : Nat) (aMW : Nat) (aME : Nat) (aMO : Nat) (mt : Int32) (mc : Int32) (mn : Int32) (mr : Int32) (mb : Int32) (mf : Int32) (mlo : Int32) (mhi : Int32) (mx : Int32) (mg : Nat → Int32) (ml : Nat → Int32) (mw : Nat → Int32) (me : Nat → Int32) (mo : Nat → Int64) (p0 : Int32) (hm : mok mc mr) (hi : mix1 mr p0) : Met l yX7_move wsX7_move rm_X7_move (va_Pc [.ref aM, .int p0] (fun U => va_P (dC, dI) vwCl [(aM, .inr (7, [.int mt, .ref aMG, .int mc, .ref aML, .int mn, .int mr, .int mb, .int mf, .int mlo, .int mhi, .ref aMW, .ref aME, .ref aMO, .int mx])), (aMG, .inl (cI, 14, .inl mg)), (aML, .inl (cI, 53, .inl ml)), (aMW, .inl (cI, 12, .inl mw)), (aME, .inl (cI, 2700, .inl me)), (aMO, .inl (cJ, 2700, .inr (.inl mo)))] U.heap ∧ va_K (dC, dI) vwCl [(cI, .int), (cJ, .long)] U)) (vp_Si (fun r => r = f_X7_move ml p0)) 0 0 (fun _ => False) := by
  refine Met.ofW (cc := cX7_move) (maxL := 2) (ret := (some .int)) (by decide) rfl ?_
  intro p e s m args below meth c s₁ B hml hv
  obtain ⟨rfl, hP, hK⟩ := hv
  have hl := lv_entry ([.ref aM, .int p0]) (n := 2) (Nat.le_of_ble_eq_true rfl)
  rw [lg_entry_eq]
  refine w_X7_move hm hi B.exec B.bytes hml (findClass_of_methodNamed B.named) (atoms_spec (ws := wsX7_move) B.pre) hK hP rfl (fun r pc ls er hd => ?_) _ hl
  exact W.iret B.exec B.bytes B.returns (fun t ht hW => ⟨r, rfl, er, ht⟩) (fun _ h => by cases h) hd B.notSynchronized
end
def f_X7_givenMove (mr : Int32) (mg : Nat → Int32) (p0 : Int32) : Int32 :=
  ((f_X7_givenOf mr mg p0) - (f_X7_givenOf mr mg (p0 - (1 : Int32))))
theorem e_X7_givenMove {mr : Int32} {mg : Nat → Int32} {p0 : Int32} : f_X7_givenMove mr mg p0 = ((f_X7_givenOf mr mg p0) - (f_X7_givenOf mr mg (p0 - (1 : Int32)))) := rfl
section
variable {p : Program} {l : Launch} {e : Env} {s : State} {m : MethodId} {args : Array Value} {below : List Frame} {meth : Method} {c : Code} {Q : State → Prop} {H : Heap} {locs : List Loc} {dC : Nat → ClassId} {dI : Nat → Nat → Nat} {cI cJ : ClassId}
abbrev rm_X7_givenMove : Room := { frames := 1, cells := 0, slots := 0, locals := 21 }
theorem hd_X7_givenMove : yX7_givenMove.cls = RX7 ∧ yX7_givenMove.cls ≠ "java/lang/invoke/MethodHandle" ∧ yX7_givenMove.cls ≠ "java/lang/invoke/VarHandle" ∧ (parseMethodDescriptor yX7_givenMove.desc).map (fun d => d.parameters.length) = some 1 := by decide +kernel
set_option maxHeartbeats 4000000 in
set_option maxRecDepth 100000 in
theorem w_X7_givenMove {aM : Nat} {aMG : Nat} {aML : Nat} {aMW : Nat} {aME : Nat} {aMO : Nat} {mt : Int32} {mc : Int32} {mn : Int32} {mr : Int32} {mb : Int32} {mf : Int32} {mlo : Int32} {mhi : Int32} {mx : Int32} {mg : Nat → Int32} {ml : Nat → Int32} {mw : Nat → Int32} {me : Nat → Int32} {mo : Nat → Int64} {p0 : Int32} (hm : mok mc mr) (hi : mix1 mr p0) {F : Int32} (hx : p.tables.exec = Jvm.exec) (hb : c.code = cX7_givenMove) (hml : c.maxLocals = 2) (hown : s.vm.findClass RX7 = some m.cls) (hts : ∀ w ∈ wsX7_givenMove, w.before args s = true) (hK : va_K (dC, dI) vwCl [(cI, .int), (cJ, .long)] s) (hP : va_P (dC, dI) vwCl [(aM, .inr (7, [.int mt, .ref aMG, .int mc, .ref aML, .int mn, .int mr, .int mb, .int mf, .int mlo, .int mhi, .ref aMW, .ref aME, .ref aMO, .int mx])), (aMG, .inl (cI, 14, .inl mg)), (aML, .inl (cI, 53, .inl ml)), (aMW, .inl (cI, 12, .inl mw)), (aME, .inl (cI, 2700, .inl me)), (aMO, .inl (cJ, 2700, .inr (.inl mo)))] H) (hR : F = f_X7_givenMove mr mg p0) (kR : ∀ (r : Int32) (pc : Nat) (ls : Array Slot), r = F → decode cX7_givenMove pc = .ok (.ireturn, 1) → W p l e rm_X7_givenMove s m args below meth c H locs 0 0 Q (F0 m pc ls [.int r])) (ls : Array Slot) (hl : lv_has ls 2 [(0, .ref aM), (1, .int p0)]) : W p l e rm_X7_givenMove s m args below meth c H locs 0 0 Q (F0 m 0 ls []) := by
  have hR := hR.trans e_X7_givenMove
  refine lv_aload_n hx hb dX7_givenMove_0 rfl (lv_at hl 0 rfl) ?_
  refine lv_iload_n hx hb dX7_givenMove_1 rfl (lv_at hl 1 rfl) ?_
  refine rV_i (q0 := 0) (As := [.int p0]) (rest := []) ⟨hx, hb, hml, hown, hts⟩ (m_X7_givenOf l dC dI cI cJ aM aMG aML aMW aME aMO mt mc mn mr mb mf mlo mhi mx mg ml mw me mo p0 (show mok mc mr from hm) (show mix mr p0 from (mx_1m hi))) (cwV 1 hts (gi_V wm_662 wm_663 wm_664 wm_633 wm_665) rfl rfl rfl hd_X7_givenOf ⟨Nat.le_of_ble_eq_true rfl, Nat.le_of_ble_eq_true rfl⟩) hK (hP.sub [0, 1, 2, 3, 4, 5] rfl) rfl rfl rfl hl.1 rfl (Nat.le_of_ble_eq_true rfl) dX7_givenMove_2 ⟨Nat.zero_le _, Nat.zero_le _⟩ ?_
  refine lv_aload_n hx hb dX7_givenMove_5 rfl (lv_at hl 0 rfl) ?_
  refine lv_iload_n hx hb dX7_givenMove_6 rfl (lv_at hl 1 rfl) ?_
  refine lv_iconst (v := (1 : Int32)) hx hb dX7_givenMove_7 (by decide) ?_
  refine lv_isub hx hb dX7_givenMove_8 ?_
  refine rV_i (q0 := 0) (As := [.int (p0 - (1 : Int32))]) (rest := [.int (f_X7_givenOf mr mg p0)]) ⟨hx, hb, hml, hown, hts⟩ (m_X7_givenOf l dC dI cI cJ aM aMG aML aMW aME aMO mt mc mn mr mb mf mlo mhi mx mg ml mw me mo (p0 - (1 : Int32)) (show mok mc mr from hm) (show mix mr (p0 - (1 : Int32)) from (mx_1p hm hi))) (cwV 1 hts (gi_V wm_662 wm_663 wm_664 wm_633 wm_665) rfl rfl rfl hd_X7_givenOf ⟨Nat.le_of_ble_eq_true rfl, Nat.le_of_ble_eq_true rfl⟩) hK (hP.sub [0, 1, 2, 3, 4, 5] rfl) rfl rfl rfl hl.1 rfl (Nat.le_of_ble_eq_true rfl) dX7_givenMove_9 ⟨Nat.zero_le _, Nat.zero_le _⟩ ?_
  refine lv_isub hx hb dX7_givenMove_12 ?_
  exact kR ((f_X7_givenOf mr mg p0) - (f_X7_givenOf mr mg (p0 - (1 : Int32)))) 13 ls hR.symm dX7_givenMove_13
set_option maxHeartbeats 4000000 in
set_option maxRecDepth 100000 in
theorem m_X7_givenMove (l : Launch) (dC : Nat → ClassId) (dI : Nat → Nat → Nat) (cI cJ : ClassId) (aM : Nat) (aMG : Nat) (aML : Nat) (aMW : Nat) (aME : Nat) (aMO : Nat) (mt : Int32) (mc : Int32) (mn : Int32) (mr : Int32) (mb : Int32) (mf : Int32) (mlo : Int32) (mhi : Int32) (mx : Int32) (mg : Nat → Int32) (ml : Nat → Int32) (mw : Nat → Int32) (me : Nat → Int32) (mo : Nat → Int64) (p0 : Int32) (hm : mok mc mr) (hi : mix1 mr p0) : Met l yX7_givenMove wsX7_givenMove rm_X7_givenMove (va_Pc [.ref aM, .int p0] (fun U => va_P (dC, dI) vwCl [(aM, .inr (7, [.int mt, .ref aMG, .int mc, .ref aML, .int mn, .int mr, .int mb, .int mf, .int mlo, .int mhi, .ref aMW, .ref aME, .ref aMO, .int mx])), (aMG, .inl (cI, 14, .inl mg)), (aML, .inl (cI, 53, .inl ml)), (aMW, .inl (cI, 12, .inl mw)), (aME, .inl (cI, 2700, .inl me)), (aMO, .inl (cJ, 2700, .inr (.inl mo)))] U.heap ∧ va_K (dC, dI) vwCl [(cI, .int), (cJ, .long)] U)) (vp_Si (fun r => r = f_X7_givenMove mr mg p0)) 0 0 (fun _ => False) := by
  refine Met.ofW (cc := cX7_givenMove) (maxL := 2) (ret := (some .int)) (by decide) rfl ?_
  intro p e s m args below meth c s₁ B hml hv
  obtain ⟨rfl, hP, hK⟩ := hv
  have hl := lv_entry ([.ref aM, .int p0]) (n := 2) (Nat.le_of_ble_eq_true rfl)
  rw [lg_entry_eq]
  refine w_X7_givenMove hm hi B.exec B.bytes hml (findClass_of_methodNamed B.named) (atoms_spec (ws := wsX7_givenMove) B.pre) hK hP rfl (fun r pc ls er hd => ?_) _ hl
  exact W.iret B.exec B.bytes B.returns (fun t ht hW => ⟨r, rfl, er, ht⟩) (fun _ h => by cases h) hd B.notSynchronized
end
def f_X7_endsBadly (mc : Int32) (mr : Int32) (mf : Int32) (mg : Nat → Int32) (ml : Nat → Int32) (p0 : Int32) (p1 : Int32) : Int32 :=
  (if (f_X7_kindAt mc mr mf mg ml p0 p1) = 0 then (if p0 = 0 then (1 : Int32) else (if (f_X7_size (f_X7_move ml p0)) = (1 : Int32) then (if (f_X7_size (f_X7_givenMove mr mg p0)) = (1 : Int32) then (if (f_X7_move ml p0) = (f_X7_givenMove mr mg p0) then (1 : Int32) else (0 : Int32)) else (1 : Int32)) else (1 : Int32))) else (1 : Int32))
theorem e_X7_endsBadly {mc : Int32} {mr : Int32} {mf : Int32} {mg : Nat → Int32} {ml : Nat → Int32} {p0 : Int32} {p1 : Int32} : f_X7_endsBadly mc mr mf mg ml p0 p1 = (if (f_X7_kindAt mc mr mf mg ml p0 p1) = 0 then (if p0 = 0 then (1 : Int32) else (if (f_X7_size (f_X7_move ml p0)) = (1 : Int32) then (if (f_X7_size (f_X7_givenMove mr mg p0)) = (1 : Int32) then (if (f_X7_move ml p0) = (f_X7_givenMove mr mg p0) then (1 : Int32) else (0 : Int32)) else (1 : Int32)) else (1 : Int32))) else (1 : Int32)) := rfl
section
variable {p : Program} {l : Launch} {e : Env} {s : State} {m : MethodId} {args : Array Value} {below : List Frame} {meth : Method} {c : Code} {Q : State → Prop} {H : Heap} {locs : List Loc} {dC : Nat → ClassId} {dI : Nat → Nat → Nat} {cI cJ : ClassId}
abbrev rm_X7_endsBadly : Room := { frames := 4, cells := 0, slots := 0, locals := 88 }
theorem hd_X7_endsBadly : yX7_endsBadly.cls = RX7 ∧ yX7_endsBadly.cls ≠ "java/lang/invoke/MethodHandle" ∧ yX7_endsBadly.cls ≠ "java/lang/invoke/VarHandle" ∧ (parseMethodDescriptor yX7_endsBadly.desc).map (fun d => d.parameters.length) = some 2 := by decide +kernel
set_option maxHeartbeats 4000000 in
set_option maxRecDepth 100000 in
theorem w_X7_endsBadly {aM : Nat} {aMG : Nat} {aML : Nat} {aMW : Nat} {aME : Nat} {aMO : Nat} {mt : Int32} {mc : Int32} {mn : Int32} {mr : Int32} {mb : Int32} {mf : Int32} {mlo : Int32} {mhi : Int32} {mx : Int32} {mg : Nat → Int32} {ml : Nat → Int32} {mw : Nat → Int32} {me : Nat → Int32} {mo : Nat → Int64} {p0 : Int32} {p1 : Int32} (hm : mok mc mr) (hi : mix mr p0) {F : Int32} (hx : p.tables.exec = Jvm.exec) (hb : c.code = cX7_endsBadly) (hml : c.maxLocals = 5) (hown : s.vm.findClass RX7 = some m.cls) (hts : ∀ w ∈ wsX7_endsBadly, w.before args s = true) (hK : va_K (dC, dI) vwCl [(cI, .int), (cJ, .long)] s) (hP : va_P (dC, dI) vwCl [(aM, .inr (7, [.int mt, .ref aMG, .int mc, .ref aML, .int mn, .int mr, .int mb, .int mf, .int mlo, .int mhi, .ref aMW, .ref aME, .ref aMO, .int mx])), (aMG, .inl (cI, 14, .inl mg)), (aML, .inl (cI, 53, .inl ml)), (aMW, .inl (cI, 12, .inl mw)), (aME, .inl (cI, 2700, .inl me)), (aMO, .inl (cJ, 2700, .inr (.inl mo)))] H) (hR : F = f_X7_endsBadly mc mr mf mg ml p0 p1) (kR : ∀ (r : Int32) (pc : Nat) (ls : Array Slot), zb r → r = F → decode cX7_endsBadly pc = .ok (.ireturn, 1) → W p l e rm_X7_endsBadly s m args below meth c H locs 0 0 Q (F0 m pc ls [.int r])) (ls : Array Slot) (hl : lv_has ls 5 [(0, .ref aM), (1, .int p0), (2, .int p1)]) : W p l e rm_X7_endsBadly s m args below meth c H locs 0 0 Q (F0 m 0 ls []) := by
  have hR := hR.trans e_X7_endsBadly
  refine lv_aload_n hx hb dX7_endsBadly_0 rfl (lv_at hl 0 rfl) ?_
  refine lv_iload_n hx hb dX7_endsBadly_1 rfl (lv_at hl 1 rfl) ?_
  refine lv_iload_n hx hb dX7_endsBadly_2 rfl (lv_at hl 2 rfl) ?_
  refine rV_i (q0 := 0) (As := [.int p0, .int p1]) (rest := []) ⟨hx, hb, hml, hown, hts⟩ (m_X7_kindAt l dC dI cI cJ aM aMG aML aMW aME aMO mt mc mn mr mb mf mlo mhi mx mg ml mw me mo p0 p1 (show mok mc mr from hm) (show mix mr p0 from hi)) (cwV 2 hts (gi_V wm_676 wm_677 wm_678 wm_633 wm_679) rfl rfl rfl hd_X7_kindAt ⟨Nat.le_of_ble_eq_true rfl, Nat.le_of_ble_eq_true rfl⟩) hK (hP.sub [0, 1, 2, 3, 4, 5] rfl) rfl rfl rfl hl.1 rfl (Nat.le_of_ble_eq_true rfl) dX7_endsBadly_3 ⟨Nat.zero_le _, Nat.zero_le _⟩ ?_
  refine lv_if_ne (tgt := 13) hx hb dX7_endsBadly_6 (by decide) (fun c_1 => ?_) (fun c_1 => ?_)
  · have hR := hR.trans (if_neg c_1)
    refine lv_iconst (v := (1 : Int32)) hx hb dX7_endsBadly_13 (by decide) ?_
    exact kR (1 : Int32) 14 ls (by first | exact Or.inl rfl | exact Or.inr rfl) hR.symm dX7_endsBadly_14
  · have hR := hR.trans (if_pos c_1)
    refine lv_iload_n hx hb dX7_endsBadly_9 rfl (lv_at hl 1 rfl) ?_
    refine lv_if_ne (tgt := 15) hx hb dX7_endsBadly_10 (by decide) (fun c_2 => ?_) (fun c_2 => ?_)
    · have hR := hR.trans (if_neg c_2)
      refine lv_aload_n hx hb dX7_endsBadly_15 rfl (lv_at hl 0 rfl) ?_
      refine lv_iload_n hx hb dX7_endsBadly_16 rfl (lv_at hl 1 rfl) ?_
      refine rV_i (q0 := 0) (As := [.int p0]) (rest := []) ⟨hx, hb, hml, hown, hts⟩ (m_X7_move l dC dI cI cJ aM aMG aML aMW aME aMO mt mc mn mr mb mf mlo mhi mx mg ml mw me mo p0 (show mok mc mr from hm) (show mix1 mr p0 from (mx_01 hi (by assumption)))) (cwV 1 hts (gi_V wm_680 wm_681 wm_682 wm_633 wm_683) rfl rfl rfl hd_X7_move ⟨Nat.le_of_ble_eq_true rfl, Nat.le_of_ble_eq_true rfl⟩) hK (hP.sub [0, 1, 2, 3, 4, 5] rfl) rfl rfl rfl hl.1 rfl (Nat.le_of_ble_eq_true rfl) dX7_endsBadly_17 ⟨Nat.zero_le _, Nat.zero_le _⟩ ?_
      refine lv_istore_n (lv' := [(3, .int (f_X7_move ml p0)), (0, .ref aM), (1, .int p0), (2, .int p1)]) hx hb dX7_endsBadly_20 rfl hl (by decide) rfl (fun ls hl => ?_)
      refine lv_aload_n hx hb dX7_endsBadly_21 rfl (lv_at hl 1 rfl) ?_
      refine lv_iload_n hx hb dX7_endsBadly_22 rfl (lv_at hl 2 rfl) ?_
      refine rV_i (q0 := 0) (As := [.int p0]) (rest := []) ⟨hx, hb, hml, hown, hts⟩ (m_X7_givenMove l dC dI cI cJ aM aMG aML aMW aME aMO mt mc mn mr mb mf mlo mhi mx mg ml mw me mo p0 (show mok mc mr from hm) (show mix1 mr p0 from (mx_01 hi (by assumption)))) (cwV 1 hts (gi_V wm_684 wm_685 wm_686 wm_633 wm_687) rfl rfl rfl hd_X7_givenMove ⟨Nat.le_of_ble_eq_true rfl, Nat.le_of_ble_eq_true rfl⟩) hK (hP.sub [0, 1, 2, 3, 4, 5] rfl) rfl rfl rfl hl.1 rfl (Nat.le_of_ble_eq_true rfl) dX7_endsBadly_23 ⟨Nat.zero_le _, Nat.zero_le _⟩ ?_
      refine lv_istore (lv' := [(4, .int (f_X7_givenMove mr mg p0)), (3, .int (f_X7_move ml p0)), (0, .ref aM), (1, .int p0), (2, .int p1)]) hx hb dX7_endsBadly_26 hl (by decide) rfl (fun ls hl => ?_)
      refine lv_iload_n hx hb dX7_endsBadly_28 rfl (lv_at hl 1 rfl) ?_
      refine rS_i (As := [.int (f_X7_move ml p0)]) (rest := []) ⟨hx, hb, hml, hown, hts⟩ (m_X7_size l dC dI cI cJ (f_X7_move ml p0)) (va_cwS 1 hts (gi_S wm_659 wm_660 wm_633 wm_661) rfl rfl rfl hd_X7_size ⟨Nat.le_of_ble_eq_true rfl, Nat.le_of_ble_eq_true rfl⟩) hK (hP.sub [] rfl) rfl hl.1 rfl (Nat.le_of_ble_eq_true rfl) dX7_endsBadly_29 ⟨Nat.zero_le _, Nat.zero_le _⟩ ?_
      refine lv_iconst (v := (1 : Int32)) hx hb dX7_endsBadly_32 (by decide) ?_
      refine lv_icmp_ne (tgt := 51) hx hb dX7_endsBadly_33 (by decide) (fun c_3 => ?_) (fun c_3 => ?_)
      · have hR := hR.trans (if_neg c_3)
        refine lv_iconst (v := (1 : Int32)) hx hb dX7_endsBadly_51 (by decide) ?_
        refine lv_goto (tgt := 56) hx hb dX7_endsBadly_52 (by decide) ?_
        exact kR (1 : Int32) 56 ls (by first | exact Or.inl rfl | exact Or.inr rfl) hR.symm dX7_endsBadly_56
      · have hR := hR.trans (if_pos c_3)
        refine lv_iload hx hb dX7_endsBadly_36 (lv_at hl 0 rfl) ?_
        refine rS_i (As := [.int (f_X7_givenMove mr mg p0)]) (rest := []) ⟨hx, hb, hml, hown, hts⟩ (m_X7_size l dC dI cI cJ (f_X7_givenMove mr mg p0)) (va_cwS 1 hts (gi_S wm_659 wm_660 wm_633 wm_661) rfl rfl rfl hd_X7_size ⟨Nat.le_of_ble_eq_true rfl, Nat.le_of_ble_eq_true rfl⟩) hK (hP.sub [] rfl) rfl hl.1 rfl (Nat.le_of_ble_eq_true rfl) dX7_endsBadly_38 ⟨Nat.zero_le _, Nat.zero_le _⟩ ?_
        refine lv_iconst (v := (1 : Int32)) hx hb dX7_endsBadly_41 (by decide) ?_
        refine lv_icmp_ne (tgt := 51) hx hb dX7_endsBadly_42 (by decide) (fun c_4 => ?_) (fun c_4 => ?_)
        · have hR := hR.trans (if_neg c_4)
          refine lv_iconst (v := (1 : Int32)) hx hb dX7_endsBadly_51 (by decide) ?_
          refine lv_goto (tgt := 56) hx hb dX7_endsBadly_52 (by decide) ?_
          exact kR (1 : Int32) 56 ls (by first | exact Or.inl rfl | exact Or.inr rfl) hR.symm dX7_endsBadly_56
        · have hR := hR.trans (if_pos c_4)
          refine lv_iload_n hx hb dX7_endsBadly_45 rfl (lv_at hl 1 rfl) ?_
          refine lv_iload hx hb dX7_endsBadly_46 (lv_at hl 0 rfl) ?_
          refine lv_icmp_ne (tgt := 55) hx hb dX7_endsBadly_48 (by decide) (fun c_5 => ?_) (fun c_5 => ?_)
          · have hR := hR.trans (if_neg c_5)
            refine lv_iconst (v := (0 : Int32)) hx hb dX7_endsBadly_55 (by decide) ?_
            exact kR (0 : Int32) 56 ls (by first | exact Or.inl rfl | exact Or.inr rfl) hR.symm dX7_endsBadly_56
          · have hR := hR.trans (if_pos c_5)
            refine lv_iconst (v := (1 : Int32)) hx hb dX7_endsBadly_51 (by decide) ?_
            refine lv_goto (tgt := 56) hx hb dX7_endsBadly_52 (by decide) ?_
            exact kR (1 : Int32) 56 ls (by first | exact Or.inl rfl | exact Or.inr rfl) hR.symm dX7_endsBadly_56
    · have hR := hR.trans (if_pos c_2)
      refine lv_iconst (v := (1 : Int32)) hx hb dX7_endsBadly_13 (by decide) ?_
      exact kR (1 : Int32) 14 ls (by first | exact Or.inl rfl | exact Or.inr rfl) hR.symm dX7_endsBadly_14
set_option maxHeartbeats 4000000 in
set_option maxRecDepth 100000 in
theorem m_X7_endsBadly (l : Launch) (dC : Nat → ClassId) (dI : Nat → Nat → Nat) (cI cJ : ClassId) (aM : Nat) (aMG : Nat) (aML : Nat) (aMW : Nat) (aME : Nat) (aMO : Nat) (mt : Int32) (mc : Int32) (mn : Int32) (mr : Int32) (mb : Int32) (mf : Int32) (mlo : Int32) (mhi : Int32) (mx : Int32) (mg : Nat → Int32) (ml : Nat → Int32) (mw : Nat → Int32) (me : Nat → Int32) (mo : Nat → Int64) (p0 : Int32) (p1 : Int32) (hm : mok mc mr) (hi : mix mr p0) : Met l yX7_endsBadly wsX7_endsBadly rm_X7_endsBadly (va_Pc [.ref aM, .int p0, .int p1] (fun U => va_P (dC, dI) vwCl [(aM, .inr (7, [.int mt, .ref aMG, .int mc, .ref aML, .int mn, .int mr, .int mb, .int mf, .int mlo, .int mhi, .ref aMW, .ref aME, .ref aMO, .int mx])), (aMG, .inl (cI, 14, .inl mg)), (aML, .inl (cI, 53, .inl ml)), (aMW, .inl (cI, 12, .inl mw)), (aME, .inl (cI, 2700, .inl me)), (aMO, .inl (cJ, 2700, .inr (.inl mo)))] U.heap ∧ va_K (dC, dI) vwCl [(cI, .int), (cJ, .long)] U)) (vp_Si (fun r => r = f_X7_endsBadly mc mr mf mg ml p0 p1)) 0 0 (fun _ => False) := by
  refine Met.ofW (cc := cX7_endsBadly) (maxL := 5) (ret := (some .boolean)) (by decide) rfl ?_
  intro p e s m args below meth c s₁ B hml hv
  obtain ⟨rfl, hP, hK⟩ := hv
  have hl := lv_entry ([.ref aM, .int p0, .int p1]) (n := 5) (Nat.le_of_ble_eq_true rfl)
  rw [lg_entry_eq]
  refine w_X7_endsBadly hm hi B.exec B.bytes hml (findClass_of_methodNamed B.named) (atoms_spec (ws := wsX7_endsBadly) B.pre) hK hP rfl (fun r pc ls hz er hd => ?_) _ hl
  exact W.zret B.exec B.bytes B.returns (zb_n hz) (fun t ht hW => ⟨r, rfl, er, ht⟩) (fun _ h => by cases h) hd B.notSynchronized
end
def f_X7_passesBadly_j32 (ml : Nat → Int32) (p0 : Int32) (v1 : Int32) : Int32 :=
  (if v1 = 0 then (0 : Int32) else (if (f_X7_size (f_X7_move ml (p0 - (1 : Int32)))) = (1 : Int32) then (if (f_X7_move ml p0) = (f_X7_move ml (p0 - (1 : Int32))) then (0 : Int32) else (1 : Int32)) else (1 : Int32)))
theorem e_X7_passesBadly_j32 {ml : Nat → Int32} {p0 : Int32} {v1 : Int32} : f_X7_passesBadly_j32 ml p0 v1 = (if v1 = 0 then (0 : Int32) else (if (f_X7_size (f_X7_move ml (p0 - (1 : Int32)))) = (1 : Int32) then (if (f_X7_move ml p0) = (f_X7_move ml (p0 - (1 : Int32))) then (0 : Int32) else (1 : Int32)) else (1 : Int32))) := rfl
def f_X7_passesBadly_j31 (ml : Nat → Int32) (p0 : Int32) : Int32 :=
  f_X7_passesBadly_j32 ml p0 (0 : Int32)
theorem e_X7_passesBadly_j31 {ml : Nat → Int32} {p0 : Int32} : f_X7_passesBadly_j31 ml p0 = f_X7_passesBadly_j32 ml p0 (0 : Int32) := rfl
def f_X7_passesBadly (mc : Int32) (mr : Int32) (mf : Int32) (mg : Nat → Int32) (ml : Nat → Int32) (p0 : Int32) (p1 : Int32) : Int32 :=
  (if p0 ≤ (1 : Int32) then f_X7_passesBadly_j31 ml p0 else (if (f_X7_isStrong mr (p0 - (1 : Int32))) = 0 then (if (f_X7_kindAt mc mr mf mg ml (p0 - (1 : Int32)) p1) = (3 : Int32) then f_X7_passesBadly_j32 ml p0 (1 : Int32) else f_X7_passesBadly_j31 ml p0) else f_X7_passesBadly_j31 ml p0))
theorem e_X7_passesBadly {mc : Int32} {mr : Int32} {mf : Int32} {mg : Nat → Int32} {ml : Nat → Int32} {p0 : Int32} {p1 : Int32} : f_X7_passesBadly mc mr mf mg ml p0 p1 = (if p0 ≤ (1 : Int32) then f_X7_passesBadly_j31 ml p0 else (if (f_X7_isStrong mr (p0 - (1 : Int32))) = 0 then (if (f_X7_kindAt mc mr mf mg ml (p0 - (1 : Int32)) p1) = (3 : Int32) then f_X7_passesBadly_j32 ml p0 (1 : Int32) else f_X7_passesBadly_j31 ml p0) else f_X7_passesBadly_j31 ml p0)) := rfl
theorem zb_X7_passesBadly {mc : Int32} {mr : Int32} {mf : Int32} {mg : Nat → Int32} {ml : Nat → Int32} {p0 : Int32} {p1 : Int32} : zb (f_X7_passesBadly mc mr mf mg ml p0 p1) := by
  repeat' (first | rw [e_X7_passesBadly] | rw [e_X7_passesBadly_j31] | rw [e_X7_passesBadly_j32] | split | assumption | exact Or.inl (Eq.refl (0 : Int32)) | exact Or.inr (Eq.refl (1 : Int32)))
section
variable {p : Program} {l : Launch} {e : Env} {s : State} {m : MethodId} {args : Array Value} {below : List Frame} {meth : Method} {c : Code} {Q : State → Prop} {H : Heap} {locs : List Loc} {dC : Nat → ClassId} {dI : Nat → Nat → Nat} {cI cJ : ClassId}
abbrev rm_X7_passesBadly : Room := { frames := 4, cells := 0, slots := 0, locals := 88 }
theorem hd_X7_passesBadly : yX7_passesBadly.cls = RX7 ∧ yX7_passesBadly.cls ≠ "java/lang/invoke/MethodHandle" ∧ yX7_passesBadly.cls ≠ "java/lang/invoke/VarHandle" ∧ (parseMethodDescriptor yX7_passesBadly.desc).map (fun d => d.parameters.length) = some 2 := by decide +kernel
set_option maxHeartbeats 4000000 in
set_option maxRecDepth 100000 in
theorem w_X7_passesBadly {aM : Nat} {aMG : Nat} {aML : Nat} {aMW : Nat} {aME : Nat} {aMO : Nat} {mt : Int32} {mc : Int32} {mn : Int32} {mr : Int32} {mb : Int32} {mf : Int32} {mlo : Int32} {mhi : Int32} {mx : Int32} {mg : Nat → Int32} {ml : Nat → Int32} {mw : Nat → Int32} {me : Nat → Int32} {mo : Nat → Int64} {p0 : Int32} {p1 : Int32} (hm : mok mc mr) (hi : mix mr p0) {F : Int32} (hx : p.tables.exec = Jvm.exec) (hb : c.code = cX7_passesBadly) (hml : c.maxLocals = 5) (hown : s.vm.findClass RX7 = some m.cls) (hts : ∀ w ∈ wsX7_passesBadly, w.before args s = true) (hK : va_K (dC, dI) vwCl [(cI, .int), (cJ, .long)] s) (hP : va_P (dC, dI) vwCl [(aM, .inr (7, [.int mt, .ref aMG, .int mc, .ref aML, .int mn, .int mr, .int mb, .int mf, .int mlo, .int mhi, .ref aMW, .ref aME, .ref aMO, .int mx])), (aMG, .inl (cI, 14, .inl mg)), (aML, .inl (cI, 53, .inl ml)), (aMW, .inl (cI, 12, .inl mw)), (aME, .inl (cI, 2700, .inl me)), (aMO, .inl (cJ, 2700, .inr (.inl mo)))] H) (hR : F = f_X7_passesBadly mc mr mf mg ml p0 p1) (kR : ∀ (r : Int32) (pc : Nat) (ls : Array Slot), zb r → r = F → decode cX7_passesBadly pc = .ok (.ireturn, 1) → W p l e rm_X7_passesBadly s m args below meth c H locs 0 0 Q (F0 m pc ls [.int r])) (ls : Array Slot) (hl : lv_has ls 5 [(0, .ref aM), (1, .int p0), (2, .int p1)]) : W p l e rm_X7_passesBadly s m args below meth c H locs 0 0 Q (F0 m 0 ls []) := by
  have hR := hR.trans e_X7_passesBadly
  refine lv_iload_n hx hb dX7_passesBadly_0 rfl (lv_at hl 1 rfl) ?_
  refine lv_iconst (v := (1 : Int32)) hx hb dX7_passesBadly_1 (by decide) ?_
  refine lv_isub hx hb dX7_passesBadly_2 ?_
  refine lv_istore_n (lv' := [(3, .int (p0 - (1 : Int32))), (0, .ref aM), (1, .int p0), (2, .int p1)]) hx hb dX7_passesBadly_3 rfl hl (by decide) rfl (fun ls hl => ?_)
  refine lv_iload_n hx hb dX7_passesBadly_4 rfl (lv_at hl 2 rfl) ?_
  refine lv_iconst (v := (1 : Int32)) hx hb dX7_passesBadly_5 (by decide) ?_
  have J32 : ∀ (v1 : Int32) (ls : Array Slot), lv_has ls 5 [(0, .ref aM), (1, .int p0), (3, .int (p0 - (1 : Int32)))] → zb v1 → (¬ v1 = 0 → ¬ p0 ≤ 1) → F = f_X7_passesBadly_j32 ml p0 v1 → W p l e rm_X7_passesBadly s m args below meth c H locs 0 0 Q (F0 m 32 ls [.int v1]) := by
    intro v1 ls hl hz_v1 hv hR
    have hR := hR.trans e_X7_passesBadly_j32
    refine lv_istore (lv' := [(4, .int v1), (0, .ref aM), (1, .int p0), (3, .int (p0 - (1 : Int32)))]) hx hb dX7_passesBadly_32 hl (by decide) rfl (fun ls hl => ?_)
    refine lv_iload hx hb dX7_passesBadly_34 (lv_at hl 0 rfl) ?_
    refine lv_if_eq (tgt := 68) hx hb dX7_passesBadly_36 (by decide) (fun c_1 => ?_) (fun c_1 => ?_)
    · have hR := hR.trans (if_pos c_1)
      refine lv_iconst (v := (0 : Int32)) hx hb dX7_passesBadly_68 (by decide) ?_
      exact kR (0 : Int32) 69 ls (by first | exact Or.inl rfl | exact Or.inr rfl) hR.symm dX7_passesBadly_69
    · have hR := hR.trans (if_neg c_1)
      refine lv_aload_n hx hb dX7_passesBadly_39 rfl (lv_at hl 1 rfl) ?_
      refine lv_iload_n hx hb dX7_passesBadly_40 rfl (lv_at hl 3 rfl) ?_
      refine rV_i (q0 := 0) (As := [.int (p0 - (1 : Int32))]) (rest := []) ⟨hx, hb, hml, hown, hts⟩ (m_X7_move l dC dI cI cJ aM aMG aML aMW aME aMO mt mc mn mr mb mf mlo mhi mx mg ml mw me mo (p0 - (1 : Int32)) (show mok mc mr from hm) (mx_2p hm (mx_02 hi (hv (by assumption))))) (cwV 1 hts (gi_V wm_680 wm_681 wm_682 wm_633 wm_683) rfl rfl rfl hd_X7_move ⟨Nat.le_of_ble_eq_true rfl, Nat.le_of_ble_eq_true rfl⟩) hK (hP.sub [0, 1, 2, 3, 4, 5] rfl) rfl rfl rfl hl.1 rfl (Nat.le_of_ble_eq_true rfl) dX7_passesBadly_41 ⟨Nat.zero_le _, Nat.zero_le _⟩ ?_
      refine rS_i (As := [.int (f_X7_move ml (p0 - (1 : Int32)))]) (rest := []) ⟨hx, hb, hml, hown, hts⟩ (m_X7_size l dC dI cI cJ (f_X7_move ml (p0 - (1 : Int32)))) (va_cwS 1 hts (gi_S wm_659 wm_660 wm_633 wm_661) rfl rfl rfl hd_X7_size ⟨Nat.le_of_ble_eq_true rfl, Nat.le_of_ble_eq_true rfl⟩) hK (hP.sub [] rfl) rfl hl.1 rfl (Nat.le_of_ble_eq_true rfl) dX7_passesBadly_44 ⟨Nat.zero_le _, Nat.zero_le _⟩ ?_
      refine lv_iconst (v := (1 : Int32)) hx hb dX7_passesBadly_47 (by decide) ?_
      refine lv_icmp_ne (tgt := 64) hx hb dX7_passesBadly_48 (by decide) (fun c_2 => ?_) (fun c_2 => ?_)
      · have hR := hR.trans (if_neg c_2)
        refine lv_iconst (v := (1 : Int32)) hx hb dX7_passesBadly_64 (by decide) ?_
        refine lv_goto (tgt := 69) hx hb dX7_passesBadly_65 (by decide) ?_
        exact kR (1 : Int32) 69 ls (by first | exact Or.inl rfl | exact Or.inr rfl) hR.symm dX7_passesBadly_69
      · have hR := hR.trans (if_pos c_2)
        refine lv_aload_n hx hb dX7_passesBadly_51 rfl (lv_at hl 1 rfl) ?_
        refine lv_iload_n hx hb dX7_passesBadly_52 rfl (lv_at hl 2 rfl) ?_
        refine rV_i (q0 := 0) (As := [.int p0]) (rest := []) ⟨hx, hb, hml, hown, hts⟩ (m_X7_move l dC dI cI cJ aM aMG aML aMW aME aMO mt mc mn mr mb mf mlo mhi mx mg ml mw me mo p0 (show mok mc mr from hm) (mx_01b hi (hv (by assumption)))) (cwV 1 hts (gi_V wm_680 wm_681 wm_682 wm_633 wm_683) rfl rfl rfl hd_X7_move ⟨Nat.le_of_ble_eq_true rfl, Nat.le_of_ble_eq_true rfl⟩) hK (hP.sub [0, 1, 2, 3, 4, 5] rfl) rfl rfl rfl hl.1 rfl (Nat.le_of_ble_eq_true rfl) dX7_passesBadly_53 ⟨Nat.zero_le _, Nat.zero_le _⟩ ?_
        refine lv_aload_n hx hb dX7_passesBadly_56 rfl (lv_at hl 1 rfl) ?_
        refine lv_iload_n hx hb dX7_passesBadly_57 rfl (lv_at hl 3 rfl) ?_
        refine rV_i (q0 := 0) (As := [.int (p0 - (1 : Int32))]) (rest := [.int (f_X7_move ml p0)]) ⟨hx, hb, hml, hown, hts⟩ (m_X7_move l dC dI cI cJ aM aMG aML aMW aME aMO mt mc mn mr mb mf mlo mhi mx mg ml mw me mo (p0 - (1 : Int32)) (show mok mc mr from hm) (mx_2p hm (mx_02 hi (hv (by assumption))))) (cwV 1 hts (gi_V wm_680 wm_681 wm_682 wm_633 wm_683) rfl rfl rfl hd_X7_move ⟨Nat.le_of_ble_eq_true rfl, Nat.le_of_ble_eq_true rfl⟩) hK (hP.sub [0, 1, 2, 3, 4, 5] rfl) rfl rfl rfl hl.1 rfl (Nat.le_of_ble_eq_true rfl) dX7_passesBadly_58 ⟨Nat.zero_le _, Nat.zero_le _⟩ ?_
        refine lv_icmp_eq (tgt := 68) hx hb dX7_passesBadly_61 (by decide) (fun c_3 => ?_) (fun c_3 => ?_)
        · have hR := hR.trans (if_pos c_3)
          refine lv_iconst (v := (0 : Int32)) hx hb dX7_passesBadly_68 (by decide) ?_
          exact kR (0 : Int32) 69 ls (by first | exact Or.inl rfl | exact Or.inr rfl) hR.symm dX7_passesBadly_69
        · have hR := hR.trans (if_neg c_3)
          refine lv_iconst (v := (1 : Int32)) hx hb dX7_passesBadly_64 (by decide) ?_
          refine lv_goto (tgt := 69) hx hb dX7_passesBadly_65 (by decide) ?_
          exact kR (1 : Int32) 69 ls (by first | exact Or.inl rfl | exact Or.inr rfl) hR.symm dX7_passesBadly_69
  have J31 : ∀ (ls : Array Slot), lv_has ls 5 [(0, .ref aM), (1, .int p0), (3, .int (p0 - (1 : Int32)))] → F = f_X7_passesBadly_j31 ml p0 → W p l e rm_X7_passesBadly s m args below meth c H locs 0 0 Q (F0 m 31 ls []) := by
    intro ls hl hR
    have hR := hR.trans e_X7_passesBadly_j31
    refine lv_iconst (v := (0 : Int32)) hx hb dX7_passesBadly_31 (by decide) ?_
    exact J32 (0 : Int32) ls (lv_sub hl [0, 1, 2] rfl) (by first | exact Or.inl rfl | exact Or.inr rfl) (show ¬ (0 : Int32) = 0 → ¬ p0 ≤ 1 from (by first | exact fun h => absurd rfl h | exact fun h => absurd h (by decide) | exact fun _ => ⟨by assumption, by assumption⟩ | exact fun _ => by assumption)) hR
  refine lv_icmp_le (tgt := 31) hx hb dX7_passesBadly_6 (by decide) (fun c_4 => ?_) (fun c_4 => ?_)
  · have hR := hR.trans (if_pos c_4)
    exact J31 ls (lv_sub hl [1, 2, 0] rfl) hR
  · have hR := hR.trans (if_neg c_4)
    refine lv_aload_n hx hb dX7_passesBadly_9 rfl (lv_at hl 1 rfl) ?_
    refine lv_iload_n hx hb dX7_passesBadly_10 rfl (lv_at hl 0 rfl) ?_
    refine rV_i (q0 := 0) (As := [.int (p0 - (1 : Int32))]) (rest := []) ⟨hx, hb, hml, hown, hts⟩ (m_X7_isStrong l dC dI cI cJ aM aMG aML aMW aME aMO mt mc mn mr mb mf mlo mhi mx mg ml mw me mo (p0 - (1 : Int32)) (show mok mc mr from hm)) (cwV 1 hts (gi_V wm_688 wm_689 wm_690 wm_633 wm_691) rfl rfl rfl hd_X7_isStrong ⟨Nat.le_of_ble_eq_true rfl, Nat.le_of_ble_eq_true rfl⟩) hK (hP.sub [0, 1, 2, 3, 4, 5] rfl) rfl rfl rfl hl.1 rfl (Nat.le_of_ble_eq_true rfl) dX7_passesBadly_11 ⟨Nat.zero_le _, Nat.zero_le _⟩ ?_
    refine lv_if_ne (tgt := 31) hx hb dX7_passesBadly_14 (by decide) (fun c_5 => ?_) (fun c_5 => ?_)
    · have hR := hR.trans (if_neg c_5)
      exact J31 ls (lv_sub hl [1, 2, 0] rfl) hR
    · have hR := hR.trans (if_pos c_5)
      refine lv_aload_n hx hb dX7_passesBadly_17 rfl (lv_at hl 1 rfl) ?_
      refine lv_iload_n hx hb dX7_passesBadly_18 rfl (lv_at hl 0 rfl) ?_
      refine lv_iload_n hx hb dX7_passesBadly_19 rfl (lv_at hl 3 rfl) ?_
      refine rV_i (q0 := 0) (As := [.int (p0 - (1 : Int32)), .int p1]) (rest := []) ⟨hx, hb, hml, hown, hts⟩ (m_X7_kindAt l dC dI cI cJ aM aMG aML aMW aME aMO mt mc mn mr mb mf mlo mhi mx mg ml mw me mo (p0 - (1 : Int32)) p1 (show mok mc mr from hm) (mx_1p hm (mx_01b hi (by assumption)))) (cwV 2 hts (gi_V wm_676 wm_677 wm_678 wm_633 wm_679) rfl rfl rfl hd_X7_kindAt ⟨Nat.le_of_ble_eq_true rfl, Nat.le_of_ble_eq_true rfl⟩) hK (hP.sub [0, 1, 2, 3, 4, 5] rfl) rfl rfl rfl hl.1 rfl (Nat.le_of_ble_eq_true rfl) dX7_passesBadly_20 ⟨Nat.zero_le _, Nat.zero_le _⟩ ?_
      refine lv_iconst (v := (3 : Int32)) hx hb dX7_passesBadly_23 (by decide) ?_
      refine lv_icmp_ne (tgt := 31) hx hb dX7_passesBadly_24 (by decide) (fun c_6 => ?_) (fun c_6 => ?_)
      · have hR := hR.trans (if_neg c_6)
        exact J31 ls (lv_sub hl [1, 2, 0] rfl) hR
      · have hR := hR.trans (if_pos c_6)
        refine lv_iconst (v := (1 : Int32)) hx hb dX7_passesBadly_27 (by decide) ?_
        refine lv_goto (tgt := 32) hx hb dX7_passesBadly_28 (by decide) ?_
        exact J32 (1 : Int32) ls (lv_sub hl [1, 2, 0] rfl) (by first | exact Or.inl rfl | exact Or.inr rfl) (show ¬ (1 : Int32) = 0 → ¬ p0 ≤ 1 from (by first | exact fun h => absurd rfl h | exact fun h => absurd h (by decide) | exact fun _ => ⟨by assumption, by assumption⟩ | exact fun _ => by assumption)) hR
set_option maxHeartbeats 4000000 in
set_option maxRecDepth 100000 in
theorem m_X7_passesBadly (l : Launch) (dC : Nat → ClassId) (dI : Nat → Nat → Nat) (cI cJ : ClassId) (aM : Nat) (aMG : Nat) (aML : Nat) (aMW : Nat) (aME : Nat) (aMO : Nat) (mt : Int32) (mc : Int32) (mn : Int32) (mr : Int32) (mb : Int32) (mf : Int32) (mlo : Int32) (mhi : Int32) (mx : Int32) (mg : Nat → Int32) (ml : Nat → Int32) (mw : Nat → Int32) (me : Nat → Int32) (mo : Nat → Int64) (p0 : Int32) (p1 : Int32) (hm : mok mc mr) (hi : mix mr p0) : Met l yX7_passesBadly wsX7_passesBadly rm_X7_passesBadly (va_Pc [.ref aM, .int p0, .int p1] (fun U => va_P (dC, dI) vwCl [(aM, .inr (7, [.int mt, .ref aMG, .int mc, .ref aML, .int mn, .int mr, .int mb, .int mf, .int mlo, .int mhi, .ref aMW, .ref aME, .ref aMO, .int mx])), (aMG, .inl (cI, 14, .inl mg)), (aML, .inl (cI, 53, .inl ml)), (aMW, .inl (cI, 12, .inl mw)), (aME, .inl (cI, 2700, .inl me)), (aMO, .inl (cJ, 2700, .inr (.inl mo)))] U.heap ∧ va_K (dC, dI) vwCl [(cI, .int), (cJ, .long)] U)) (vp_Si (fun r => r = f_X7_passesBadly mc mr mf mg ml p0 p1)) 0 0 (fun _ => False) := by
  refine Met.ofW (cc := cX7_passesBadly) (maxL := 5) (ret := (some .boolean)) (by decide) rfl ?_
  intro p e s m args below meth c s₁ B hml hv
  obtain ⟨rfl, hP, hK⟩ := hv
  have hl := lv_entry ([.ref aM, .int p0, .int p1]) (n := 5) (Nat.le_of_ble_eq_true rfl)
  rw [lg_entry_eq]
  refine w_X7_passesBadly hm hi B.exec B.bytes hml (findClass_of_methodNamed B.named) (atoms_spec (ws := wsX7_passesBadly) B.pre) hK hP rfl (fun r pc ls hz er hd => ?_) _ hl
  exact W.zret B.exec B.bytes B.returns (zb_n hz) (fun t ht hW => ⟨r, rfl, er, ht⟩) (fun _ h => by cases h) hd B.notSynchronized
end
def f_X7_isHidden_j35 (mc : Int32) (mr : Int32) (mf : Int32) (mg : Nat → Int32) (ml : Nat → Int32) (p0 : Int32) (p1 : Int32) (v1 : Int32) : Int32 :=
  (if (2 : Int32) ≤ (f_X7_kindAt mc mr mf mg ml p0 p1) then (0 : Int32) else (if v1 = 0 then (0 : Int32) else (if (f_X7_size (f_X7_move ml p0)) ≤ (1 : Int32) then (0 : Int32) else (1 : Int32))))
theorem e_X7_isHidden_j35 {mc : Int32} {mr : Int32} {mf : Int32} {mg : Nat → Int32} {ml : Nat → Int32} {p0 : Int32} {p1 : Int32} {v1 : Int32} : f_X7_isHidden_j35 mc mr mf mg ml p0 p1 v1 = (if (2 : Int32) ≤ (f_X7_kindAt mc mr mf mg ml p0 p1) then (0 : Int32) else (if v1 = 0 then (0 : Int32) else (if (f_X7_size (f_X7_move ml p0)) ≤ (1 : Int32) then (0 : Int32) else (1 : Int32)))) := rfl
def f_X7_isHidden_j34 (mc : Int32) (mr : Int32) (mf : Int32) (mg : Nat → Int32) (ml : Nat → Int32) (p0 : Int32) (p1 : Int32) : Int32 :=
  f_X7_isHidden_j35 mc mr mf mg ml p0 p1 (0 : Int32)
theorem e_X7_isHidden_j34 {mc : Int32} {mr : Int32} {mf : Int32} {mg : Nat → Int32} {ml : Nat → Int32} {p0 : Int32} {p1 : Int32} : f_X7_isHidden_j34 mc mr mf mg ml p0 p1 = f_X7_isHidden_j35 mc mr mf mg ml p0 p1 (0 : Int32) := rfl
def f_X7_isHidden (mc : Int32) (mr : Int32) (mf : Int32) (mg : Nat → Int32) (ml : Nat → Int32) (p0 : Int32) (p1 : Int32) : Int32 :=
  (if (f_X7_sign (f_X7_move ml p0)) = 0 then f_X7_isHidden_j34 mc mr mf mg ml p0 p1 else (if (f_X7_sign (f_X7_move ml p0)) = (f_X7_sign (f_X7_givenMove mr mg p0)) then f_X7_isHidden_j35 mc mr mf mg ml p0 p1 (1 : Int32) else f_X7_isHidden_j34 mc mr mf mg ml p0 p1))
theorem e_X7_isHidden {mc : Int32} {mr : Int32} {mf : Int32} {mg : Nat → Int32} {ml : Nat → Int32} {p0 : Int32} {p1 : Int32} : f_X7_isHidden mc mr mf mg ml p0 p1 = (if (f_X7_sign (f_X7_move ml p0)) = 0 then f_X7_isHidden_j34 mc mr mf mg ml p0 p1 else (if (f_X7_sign (f_X7_move ml p0)) = (f_X7_sign (f_X7_givenMove mr mg p0)) then f_X7_isHidden_j35 mc mr mf mg ml p0 p1 (1 : Int32) else f_X7_isHidden_j34 mc mr mf mg ml p0 p1)) := rfl
theorem zb_X7_isHidden {mc : Int32} {mr : Int32} {mf : Int32} {mg : Nat → Int32} {ml : Nat → Int32} {p0 : Int32} {p1 : Int32} : zb (f_X7_isHidden mc mr mf mg ml p0 p1) := by
  repeat' (first | rw [e_X7_isHidden] | rw [e_X7_isHidden_j34] | rw [e_X7_isHidden_j35] | split | assumption | exact Or.inl (Eq.refl (0 : Int32)) | exact Or.inr (Eq.refl (1 : Int32)))
section
variable {p : Program} {l : Launch} {e : Env} {s : State} {m : MethodId} {args : Array Value} {below : List Frame} {meth : Method} {c : Code} {Q : State → Prop} {H : Heap} {locs : List Loc} {dC : Nat → ClassId} {dI : Nat → Nat → Nat} {cI cJ : ClassId}
abbrev rm_X7_isHidden : Room := { frames := 4, cells := 0, slots := 0, locals := 88 }
theorem hd_X7_isHidden : yX7_isHidden.cls = RX7 ∧ yX7_isHidden.cls ≠ "java/lang/invoke/MethodHandle" ∧ yX7_isHidden.cls ≠ "java/lang/invoke/VarHandle" ∧ (parseMethodDescriptor yX7_isHidden.desc).map (fun d => d.parameters.length) = some 2 := by decide +kernel
set_option maxHeartbeats 4000000 in
set_option maxRecDepth 100000 in
theorem w_X7_isHidden {aM : Nat} {aMG : Nat} {aML : Nat} {aMW : Nat} {aME : Nat} {aMO : Nat} {mt : Int32} {mc : Int32} {mn : Int32} {mr : Int32} {mb : Int32} {mf : Int32} {mlo : Int32} {mhi : Int32} {mx : Int32} {mg : Nat → Int32} {ml : Nat → Int32} {mw : Nat → Int32} {me : Nat → Int32} {mo : Nat → Int64} {p0 : Int32} {p1 : Int32} (hm : mok mc mr) (hi : mix1 mr p0) {F : Int32} (hx : p.tables.exec = Jvm.exec) (hb : c.code = cX7_isHidden) (hml : c.maxLocals = 4) (hown : s.vm.findClass RX7 = some m.cls) (hts : ∀ w ∈ wsX7_isHidden, w.before args s = true) (hK : va_K (dC, dI) vwCl [(cI, .int), (cJ, .long)] s) (hP : va_P (dC, dI) vwCl [(aM, .inr (7, [.int mt, .ref aMG, .int mc, .ref aML, .int mn, .int mr, .int mb, .int mf, .int mlo, .int mhi, .ref aMW, .ref aME, .ref aMO, .int mx])), (aMG, .inl (cI, 14, .inl mg)), (aML, .inl (cI, 53, .inl ml)), (aMW, .inl (cI, 12, .inl mw)), (aME, .inl (cI, 2700, .inl me)), (aMO, .inl (cJ, 2700, .inr (.inl mo)))] H) (hR : F = f_X7_isHidden mc mr mf mg ml p0 p1) (kR : ∀ (r : Int32) (pc : Nat) (ls : Array Slot), zb r → r = F → decode cX7_isHidden pc = .ok (.ireturn, 1) → W p l e rm_X7_isHidden s m args below meth c H locs 0 0 Q (F0 m pc ls [.int r])) (ls : Array Slot) (hl : lv_has ls 4 [(0, .ref aM), (1, .int p0), (2, .int p1)]) : W p l e rm_X7_isHidden s m args below meth c H locs 0 0 Q (F0 m 0 ls []) := by
  have hR := hR.trans e_X7_isHidden
  refine lv_aload_n hx hb dX7_isHidden_0 rfl (lv_at hl 0 rfl) ?_
  refine lv_iload_n hx hb dX7_isHidden_1 rfl (lv_at hl 1 rfl) ?_
  refine rV_i (q0 := 0) (As := [.int p0]) (rest := []) ⟨hx, hb, hml, hown, hts⟩ (m_X7_move l dC dI cI cJ aM aMG aML aMW aME aMO mt mc mn mr mb mf mlo mhi mx mg ml mw me mo p0 (show mok mc mr from hm) (show mix1 mr p0 from hi)) (cwV 1 hts (gi_V wm_680 wm_681 wm_682 wm_633 wm_683) rfl rfl rfl hd_X7_move ⟨Nat.le_of_ble_eq_true rfl, Nat.le_of_ble_eq_true rfl⟩) hK (hP.sub [0, 1, 2, 3, 4, 5] rfl) rfl rfl rfl hl.1 rfl (Nat.le_of_ble_eq_true rfl) dX7_isHidden_2 ⟨Nat.zero_le _, Nat.zero_le _⟩ ?_
  refine rS_i (As := [.int (f_X7_move ml p0)]) (rest := []) ⟨hx, hb, hml, hown, hts⟩ (m_X7_sign l dC dI cI cJ (f_X7_move ml p0)) (va_cwS 1 hts (gi_S wm_692 wm_693 wm_633 wm_694) rfl rfl rfl hd_X7_sign ⟨Nat.le_of_ble_eq_true rfl, Nat.le_of_ble_eq_true rfl⟩) hK (hP.sub [] rfl) rfl hl.1 rfl (Nat.le_of_ble_eq_true rfl) dX7_isHidden_5 ⟨Nat.zero_le _, Nat.zero_le _⟩ ?_
  have J35 : ∀ (v1 : Int32) (ls : Array Slot), lv_has ls 4 [(0, .ref aM), (1, .int p0), (2, .int p1)] → zb v1 → F = f_X7_isHidden_j35 mc mr mf mg ml p0 p1 v1 → W p l e rm_X7_isHidden s m args below meth c H locs 0 0 Q (F0 m 35 ls [.int v1]) := by
    intro v1 ls hl hz_v1 hR
    have hR := hR.trans e_X7_isHidden_j35
    refine lv_istore_n (lv' := [(3, .int v1), (0, .ref aM), (1, .int p0), (2, .int p1)]) hx hb dX7_isHidden_35 rfl hl (by decide) rfl (fun ls hl => ?_)
    refine lv_aload_n hx hb dX7_isHidden_36 rfl (lv_at hl 1 rfl) ?_
    refine lv_iload_n hx hb dX7_isHidden_37 rfl (lv_at hl 2 rfl) ?_
    refine lv_iload_n hx hb dX7_isHidden_38 rfl (lv_at hl 3 rfl) ?_
    refine rV_i (q0 := 0) (As := [.int p0, .int p1]) (rest := []) ⟨hx, hb, hml, hown, hts⟩ (m_X7_kindAt l dC dI cI cJ aM aMG aML aMW aME aMO mt mc mn mr mb mf mlo mhi mx mg ml mw me mo p0 p1 (show mok mc mr from hm) (show mix mr p0 from (mx_1m hi))) (cwV 2 hts (gi_V wm_676 wm_677 wm_678 wm_633 wm_679) rfl rfl rfl hd_X7_kindAt ⟨Nat.le_of_ble_eq_true rfl, Nat.le_of_ble_eq_true rfl⟩) hK (hP.sub [0, 1, 2, 3, 4, 5] rfl) rfl rfl rfl hl.1 rfl (Nat.le_of_ble_eq_true rfl) dX7_isHidden_39 ⟨Nat.zero_le _, Nat.zero_le _⟩ ?_
    refine lv_iconst (v := (2 : Int32)) hx hb dX7_isHidden_42 (by decide) ?_
    refine lv_icmp_ge (tgt := 66) hx hb dX7_isHidden_43 (by decide) (fun c_1 => ?_) (fun c_1 => ?_)
    · have hR := hR.trans (if_pos c_1)
      refine lv_iconst (v := (0 : Int32)) hx hb dX7_isHidden_66 (by decide) ?_
      exact kR (0 : Int32) 67 ls (by first | exact Or.inl rfl | exact Or.inr rfl) hR.symm dX7_isHidden_67
    · have hR := hR.trans (if_neg c_1)
      refine lv_iload_n hx hb dX7_isHidden_46 rfl (lv_at hl 0 rfl) ?_
      refine lv_if_eq (tgt := 66) hx hb dX7_isHidden_47 (by decide) (fun c_2 => ?_) (fun c_2 => ?_)
      · have hR := hR.trans (if_pos c_2)
        refine lv_iconst (v := (0 : Int32)) hx hb dX7_isHidden_66 (by decide) ?_
        exact kR (0 : Int32) 67 ls (by first | exact Or.inl rfl | exact Or.inr rfl) hR.symm dX7_isHidden_67
      · have hR := hR.trans (if_neg c_2)
        refine lv_aload_n hx hb dX7_isHidden_50 rfl (lv_at hl 1 rfl) ?_
        refine lv_iload_n hx hb dX7_isHidden_51 rfl (lv_at hl 2 rfl) ?_
        refine rV_i (q0 := 0) (As := [.int p0]) (rest := []) ⟨hx, hb, hml, hown, hts⟩ (m_X7_move l dC dI cI cJ aM aMG aML aMW aME aMO mt mc mn mr mb mf mlo mhi mx mg ml mw me mo p0 (show mok mc mr from hm) (show mix1 mr p0 from hi)) (cwV 1 hts (gi_V wm_680 wm_681 wm_682 wm_633 wm_683) rfl rfl rfl hd_X7_move ⟨Nat.le_of_ble_eq_true rfl, Nat.le_of_ble_eq_true rfl⟩) hK (hP.sub [0, 1, 2, 3, 4, 5] rfl) rfl rfl rfl hl.1 rfl (Nat.le_of_ble_eq_true rfl) dX7_isHidden_52 ⟨Nat.zero_le _, Nat.zero_le _⟩ ?_
        refine rS_i (As := [.int (f_X7_move ml p0)]) (rest := []) ⟨hx, hb, hml, hown, hts⟩ (m_X7_size l dC dI cI cJ (f_X7_move ml p0)) (va_cwS 1 hts (gi_S wm_659 wm_660 wm_633 wm_661) rfl rfl rfl hd_X7_size ⟨Nat.le_of_ble_eq_true rfl, Nat.le_of_ble_eq_true rfl⟩) hK (hP.sub [] rfl) rfl hl.1 rfl (Nat.le_of_ble_eq_true rfl) dX7_isHidden_55 ⟨Nat.zero_le _, Nat.zero_le _⟩ ?_
        refine lv_iconst (v := (1 : Int32)) hx hb dX7_isHidden_58 (by decide) ?_
        refine lv_icmp_le (tgt := 66) hx hb dX7_isHidden_59 (by decide) (fun c_3 => ?_) (fun c_3 => ?_)
        · have hR := hR.trans (if_pos c_3)
          refine lv_iconst (v := (0 : Int32)) hx hb dX7_isHidden_66 (by decide) ?_
          exact kR (0 : Int32) 67 ls (by first | exact Or.inl rfl | exact Or.inr rfl) hR.symm dX7_isHidden_67
        · have hR := hR.trans (if_neg c_3)
          refine lv_iconst (v := (1 : Int32)) hx hb dX7_isHidden_62 (by decide) ?_
          refine lv_goto (tgt := 67) hx hb dX7_isHidden_63 (by decide) ?_
          exact kR (1 : Int32) 67 ls (by first | exact Or.inl rfl | exact Or.inr rfl) hR.symm dX7_isHidden_67
  have J34 : ∀ (ls : Array Slot), lv_has ls 4 [(0, .ref aM), (1, .int p0), (2, .int p1)] → F = f_X7_isHidden_j34 mc mr mf mg ml p0 p1 → W p l e rm_X7_isHidden s m args below meth c H locs 0 0 Q (F0 m 34 ls []) := by
    intro ls hl hR
    have hR := hR.trans e_X7_isHidden_j34
    refine lv_iconst (v := (0 : Int32)) hx hb dX7_isHidden_34 (by decide) ?_
    exact J35 (0 : Int32) ls (lv_sub hl [0, 1, 2] rfl) (by first | exact Or.inl rfl | exact Or.inr rfl) hR
  refine lv_if_eq (tgt := 34) hx hb dX7_isHidden_8 (by decide) (fun c_4 => ?_) (fun c_4 => ?_)
  · have hR := hR.trans (if_pos c_4)
    exact J34 ls (lv_sub hl [0, 1, 2] rfl) hR
  · have hR := hR.trans (if_neg c_4)
    refine lv_aload_n hx hb dX7_isHidden_11 rfl (lv_at hl 0 rfl) ?_
    refine lv_iload_n hx hb dX7_isHidden_12 rfl (lv_at hl 1 rfl) ?_
    refine rV_i (q0 := 0) (As := [.int p0]) (rest := []) ⟨hx, hb, hml, hown, hts⟩ (m_X7_move l dC dI cI cJ aM aMG aML aMW aME aMO mt mc mn mr mb mf mlo mhi mx mg ml mw me mo p0 (show mok mc mr from hm) (show mix1 mr p0 from hi)) (cwV 1 hts (gi_V wm_680 wm_681 wm_682 wm_633 wm_683) rfl rfl rfl hd_X7_move ⟨Nat.le_of_ble_eq_true rfl, Nat.le_of_ble_eq_true rfl⟩) hK (hP.sub [0, 1, 2, 3, 4, 5] rfl) rfl rfl rfl hl.1 rfl (Nat.le_of_ble_eq_true rfl) dX7_isHidden_13 ⟨Nat.zero_le _, Nat.zero_le _⟩ ?_
    refine rS_i (As := [.int (f_X7_move ml p0)]) (rest := []) ⟨hx, hb, hml, hown, hts⟩ (m_X7_sign l dC dI cI cJ (f_X7_move ml p0)) (va_cwS 1 hts (gi_S wm_692 wm_693 wm_633 wm_694) rfl rfl rfl hd_X7_sign ⟨Nat.le_of_ble_eq_true rfl, Nat.le_of_ble_eq_true rfl⟩) hK (hP.sub [] rfl) rfl hl.1 rfl (Nat.le_of_ble_eq_true rfl) dX7_isHidden_16 ⟨Nat.zero_le _, Nat.zero_le _⟩ ?_
    refine lv_aload_n hx hb dX7_isHidden_19 rfl (lv_at hl 0 rfl) ?_
    refine lv_iload_n hx hb dX7_isHidden_20 rfl (lv_at hl 1 rfl) ?_
    refine rV_i (q0 := 0) (As := [.int p0]) (rest := [.int (f_X7_sign (f_X7_move ml p0))]) ⟨hx, hb, hml, hown, hts⟩ (m_X7_givenMove l dC dI cI cJ aM aMG aML aMW aME aMO mt mc mn mr mb mf mlo mhi mx mg ml mw me mo p0 (show mok mc mr from hm) (show mix1 mr p0 from hi)) (cwV 1 hts (gi_V wm_684 wm_685 wm_686 wm_633 wm_687) rfl rfl rfl hd_X7_givenMove ⟨Nat.le_of_ble_eq_true rfl, Nat.le_of_ble_eq_true rfl⟩) hK (hP.sub [0, 1, 2, 3, 4, 5] rfl) rfl rfl rfl hl.1 rfl (Nat.le_of_ble_eq_true rfl) dX7_isHidden_21 ⟨Nat.zero_le _, Nat.zero_le _⟩ ?_
    refine rS_i (As := [.int (f_X7_givenMove mr mg p0)]) (rest := [.int (f_X7_sign (f_X7_move ml p0))]) ⟨hx, hb, hml, hown, hts⟩ (m_X7_sign l dC dI cI cJ (f_X7_givenMove mr mg p0)) (va_cwS 1 hts (gi_S wm_692 wm_693 wm_633 wm_694) rfl rfl rfl hd_X7_sign ⟨Nat.le_of_ble_eq_true rfl, Nat.le_of_ble_eq_true rfl⟩) hK (hP.sub [] rfl) rfl hl.1 rfl (Nat.le_of_ble_eq_true rfl) dX7_isHidden_24 ⟨Nat.zero_le _, Nat.zero_le _⟩ ?_
    refine lv_icmp_ne (tgt := 34) hx hb dX7_isHidden_27 (by decide) (fun c_5 => ?_) (fun c_5 => ?_)
    · have hR := hR.trans (if_neg c_5)
      exact J34 ls (lv_sub hl [0, 1, 2] rfl) hR
    · have hR := hR.trans (if_pos c_5)
      refine lv_iconst (v := (1 : Int32)) hx hb dX7_isHidden_30 (by decide) ?_
      refine lv_goto (tgt := 35) hx hb dX7_isHidden_31 (by decide) ?_
      exact J35 (1 : Int32) ls (lv_sub hl [0, 1, 2] rfl) (by first | exact Or.inl rfl | exact Or.inr rfl) hR
set_option maxHeartbeats 4000000 in
set_option maxRecDepth 100000 in
theorem m_X7_isHidden (l : Launch) (dC : Nat → ClassId) (dI : Nat → Nat → Nat) (cI cJ : ClassId) (aM : Nat) (aMG : Nat) (aML : Nat) (aMW : Nat) (aME : Nat) (aMO : Nat) (mt : Int32) (mc : Int32) (mn : Int32) (mr : Int32) (mb : Int32) (mf : Int32) (mlo : Int32) (mhi : Int32) (mx : Int32) (mg : Nat → Int32) (ml : Nat → Int32) (mw : Nat → Int32) (me : Nat → Int32) (mo : Nat → Int64) (p0 : Int32) (p1 : Int32) (hm : mok mc mr) (hi : mix1 mr p0) : Met l yX7_isHidden wsX7_isHidden rm_X7_isHidden (va_Pc [.ref aM, .int p0, .int p1] (fun U => va_P (dC, dI) vwCl [(aM, .inr (7, [.int mt, .ref aMG, .int mc, .ref aML, .int mn, .int mr, .int mb, .int mf, .int mlo, .int mhi, .ref aMW, .ref aME, .ref aMO, .int mx])), (aMG, .inl (cI, 14, .inl mg)), (aML, .inl (cI, 53, .inl ml)), (aMW, .inl (cI, 12, .inl mw)), (aME, .inl (cI, 2700, .inl me)), (aMO, .inl (cJ, 2700, .inr (.inl mo)))] U.heap ∧ va_K (dC, dI) vwCl [(cI, .int), (cJ, .long)] U)) (vp_Si (fun r => r = f_X7_isHidden mc mr mf mg ml p0 p1)) 0 0 (fun _ => False) := by
  refine Met.ofW (cc := cX7_isHidden) (maxL := 4) (ret := (some .boolean)) (by decide) rfl ?_
  intro p e s m args below meth c s₁ B hml hv
  obtain ⟨rfl, hP, hK⟩ := hv
  have hl := lv_entry ([.ref aM, .int p0, .int p1]) (n := 4) (Nat.le_of_ble_eq_true rfl)
  rw [lg_entry_eq]
  refine w_X7_isHidden hm hi B.exec B.bytes hml (findClass_of_methodNamed B.named) (atoms_spec (ws := wsX7_isHidden) B.pre) hK hP rfl (fun r pc ls hz er hd => ?_) _ hl
  exact W.zret B.exec B.bytes B.returns (zb_n hz) (fun t ht hW => ⟨r, rfl, er, ht⟩) (fun _ h => by cases h) hd B.notSynchronized
end
def f_X7_leapsBadly (mc : Int32) (mr : Int32) (mf : Int32) (ml : Nat → Int32) (p0 : Int32) (p1 : Int32) : Int32 :=
  (if (f_X7_size (f_X7_move ml p0)) ≤ (1 : Int32) then (0 : Int32) else (if (f_X7_size (f_X7_move ml p0)) = (6 : Int32) then (1 : Int32) else (if (7 : Int32) < (f_X7_size (f_X7_move ml p0)) then (1 : Int32) else (if (f_X7_size ((f_X7_pitchAt mc mr mf ml p0 p1) - (f_X7_pitchAt mc mr mf ml (p0 - (1 : Int32)) p1))) = (6 : Int32) then (1 : Int32) else (if (f_X7_size ((f_X7_pitchAt mc mr mf ml p0 p1) - (f_X7_pitchAt mc mr mf ml (p0 - (1 : Int32)) p1))) = (10 : Int32) then (1 : Int32) else (if (f_X7_size ((f_X7_pitchAt mc mr mf ml p0 p1) - (f_X7_pitchAt mc mr mf ml (p0 - (1 : Int32)) p1))) = (11 : Int32) then (1 : Int32) else (0 : Int32)))))))
theorem e_X7_leapsBadly {mc : Int32} {mr : Int32} {mf : Int32} {ml : Nat → Int32} {p0 : Int32} {p1 : Int32} : f_X7_leapsBadly mc mr mf ml p0 p1 = (if (f_X7_size (f_X7_move ml p0)) ≤ (1 : Int32) then (0 : Int32) else (if (f_X7_size (f_X7_move ml p0)) = (6 : Int32) then (1 : Int32) else (if (7 : Int32) < (f_X7_size (f_X7_move ml p0)) then (1 : Int32) else (if (f_X7_size ((f_X7_pitchAt mc mr mf ml p0 p1) - (f_X7_pitchAt mc mr mf ml (p0 - (1 : Int32)) p1))) = (6 : Int32) then (1 : Int32) else (if (f_X7_size ((f_X7_pitchAt mc mr mf ml p0 p1) - (f_X7_pitchAt mc mr mf ml (p0 - (1 : Int32)) p1))) = (10 : Int32) then (1 : Int32) else (if (f_X7_size ((f_X7_pitchAt mc mr mf ml p0 p1) - (f_X7_pitchAt mc mr mf ml (p0 - (1 : Int32)) p1))) = (11 : Int32) then (1 : Int32) else (0 : Int32))))))) := rfl
theorem zb_X7_leapsBadly {mc : Int32} {mr : Int32} {mf : Int32} {ml : Nat → Int32} {p0 : Int32} {p1 : Int32} : zb (f_X7_leapsBadly mc mr mf ml p0 p1) := by
  repeat' (first | rw [e_X7_leapsBadly] | split | assumption | exact Or.inl (Eq.refl (0 : Int32)) | exact Or.inr (Eq.refl (1 : Int32)))
section
variable {p : Program} {l : Launch} {e : Env} {s : State} {m : MethodId} {args : Array Value} {below : List Frame} {meth : Method} {c : Code} {Q : State → Prop} {H : Heap} {locs : List Loc} {dC : Nat → ClassId} {dI : Nat → Nat → Nat} {cI cJ : ClassId}
abbrev rm_X7_leapsBadly : Room := { frames := 3, cells := 0, slots := 0, locals := 65 }
theorem hd_X7_leapsBadly : yX7_leapsBadly.cls = RX7 ∧ yX7_leapsBadly.cls ≠ "java/lang/invoke/MethodHandle" ∧ yX7_leapsBadly.cls ≠ "java/lang/invoke/VarHandle" ∧ (parseMethodDescriptor yX7_leapsBadly.desc).map (fun d => d.parameters.length) = some 2 := by decide +kernel
set_option maxHeartbeats 4000000 in
set_option maxRecDepth 100000 in
theorem w_X7_leapsBadly {aM : Nat} {aMG : Nat} {aML : Nat} {aMW : Nat} {aME : Nat} {aMO : Nat} {mt : Int32} {mc : Int32} {mn : Int32} {mr : Int32} {mb : Int32} {mf : Int32} {mlo : Int32} {mhi : Int32} {mx : Int32} {mg : Nat → Int32} {ml : Nat → Int32} {mw : Nat → Int32} {me : Nat → Int32} {mo : Nat → Int64} {p0 : Int32} {p1 : Int32} (hm : mok mc mr) (hi : mix1 mr p0) {F : Int32} (hx : p.tables.exec = Jvm.exec) (hb : c.code = cX7_leapsBadly) (hml : c.maxLocals = 5) (hown : s.vm.findClass RX7 = some m.cls) (hts : ∀ w ∈ wsX7_leapsBadly, w.before args s = true) (hK : va_K (dC, dI) vwCl [(cI, .int), (cJ, .long)] s) (hP : va_P (dC, dI) vwCl [(aM, .inr (7, [.int mt, .ref aMG, .int mc, .ref aML, .int mn, .int mr, .int mb, .int mf, .int mlo, .int mhi, .ref aMW, .ref aME, .ref aMO, .int mx])), (aMG, .inl (cI, 14, .inl mg)), (aML, .inl (cI, 53, .inl ml)), (aMW, .inl (cI, 12, .inl mw)), (aME, .inl (cI, 2700, .inl me)), (aMO, .inl (cJ, 2700, .inr (.inl mo)))] H) (hR : F = f_X7_leapsBadly mc mr mf ml p0 p1) (kR : ∀ (r : Int32) (pc : Nat) (ls : Array Slot), zb r → r = F → decode cX7_leapsBadly pc = .ok (.ireturn, 1) → W p l e rm_X7_leapsBadly s m args below meth c H locs 0 0 Q (F0 m pc ls [.int r])) (ls : Array Slot) (hl : lv_has ls 5 [(0, .ref aM), (1, .int p0), (2, .int p1)]) : W p l e rm_X7_leapsBadly s m args below meth c H locs 0 0 Q (F0 m 0 ls []) := by
  have hR := hR.trans e_X7_leapsBadly
  refine lv_aload_n hx hb dX7_leapsBadly_0 rfl (lv_at hl 0 rfl) ?_
  refine lv_iload_n hx hb dX7_leapsBadly_1 rfl (lv_at hl 1 rfl) ?_
  refine rV_i (q0 := 0) (As := [.int p0]) (rest := []) ⟨hx, hb, hml, hown, hts⟩ (m_X7_move l dC dI cI cJ aM aMG aML aMW aME aMO mt mc mn mr mb mf mlo mhi mx mg ml mw me mo p0 (show mok mc mr from hm) (show mix1 mr p0 from hi)) (cwV 1 hts (gi_V wm_680 wm_681 wm_682 wm_633 wm_683) rfl rfl rfl hd_X7_move ⟨Nat.le_of_ble_eq_true rfl, Nat.le_of_ble_eq_true rfl⟩) hK (hP.sub [0, 1, 2, 3, 4, 5] rfl) rfl rfl rfl hl.1 rfl (Nat.le_of_ble_eq_true rfl) dX7_leapsBadly_2 ⟨Nat.zero_le _, Nat.zero_le _⟩ ?_
  refine rS_i (As := [.int (f_X7_move ml p0)]) (rest := []) ⟨hx, hb, hml, hown, hts⟩ (m_X7_size l dC dI cI cJ (f_X7_move ml p0)) (va_cwS 1 hts (gi_S wm_659 wm_660 wm_633 wm_661) rfl rfl rfl hd_X7_size ⟨Nat.le_of_ble_eq_true rfl, Nat.le_of_ble_eq_true rfl⟩) hK (hP.sub [] rfl) rfl hl.1 rfl (Nat.le_of_ble_eq_true rfl) dX7_leapsBadly_5 ⟨Nat.zero_le _, Nat.zero_le _⟩ ?_
  refine lv_istore_n (lv' := [(3, .int (f_X7_size (f_X7_move ml p0))), (0, .ref aM), (1, .int p0), (2, .int p1)]) hx hb dX7_leapsBadly_8 rfl hl (by decide) rfl (fun ls hl => ?_)
  refine lv_aload_n hx hb dX7_leapsBadly_9 rfl (lv_at hl 1 rfl) ?_
  refine lv_iload_n hx hb dX7_leapsBadly_10 rfl (lv_at hl 2 rfl) ?_
  refine lv_iload_n hx hb dX7_leapsBadly_11 rfl (lv_at hl 3 rfl) ?_
  refine rV_i (q0 := 0) (As := [.int p0, .int p1]) (rest := []) ⟨hx, hb, hml, hown, hts⟩ (m_X7_pitchAt l dC dI cI cJ aM aMG aML aMW aME aMO mt mc mn mr mb mf mlo mhi mx mg ml mw me mo p0 p1 (show mok mc mr from hm) (show mix mr p0 from (mx_1m hi))) (cwV 2 hts (gi_V wm_666 wm_667 wm_668 wm_633 wm_669) rfl rfl rfl hd_X7_pitchAt ⟨Nat.le_of_ble_eq_true rfl, Nat.le_of_ble_eq_true rfl⟩) hK (hP.sub [0, 1, 2, 3, 4, 5] rfl) rfl rfl rfl hl.1 rfl (Nat.le_of_ble_eq_true rfl) dX7_leapsBadly_12 ⟨Nat.zero_le _, Nat.zero_le _⟩ ?_
  refine lv_aload_n hx hb dX7_leapsBadly_15 rfl (lv_at hl 1 rfl) ?_
  refine lv_iload_n hx hb dX7_leapsBadly_16 rfl (lv_at hl 2 rfl) ?_
  refine lv_iconst (v := (1 : Int32)) hx hb dX7_leapsBadly_17 (by decide) ?_
  refine lv_isub hx hb dX7_leapsBadly_18 ?_
  refine lv_iload_n hx hb dX7_leapsBadly_19 rfl (lv_at hl 3 rfl) ?_
  refine rV_i (q0 := 0) (As := [.int (p0 - (1 : Int32)), .int p1]) (rest := [.int (f_X7_pitchAt mc mr mf ml p0 p1)]) ⟨hx, hb, hml, hown, hts⟩ (m_X7_pitchAt l dC dI cI cJ aM aMG aML aMW aME aMO mt mc mn mr mb mf mlo mhi mx mg ml mw me mo (p0 - (1 : Int32)) p1 (show mok mc mr from hm) (show mix mr (p0 - (1 : Int32)) from (mx_1p hm hi))) (cwV 2 hts (gi_V wm_666 wm_667 wm_668 wm_633 wm_669) rfl rfl rfl hd_X7_pitchAt ⟨Nat.le_of_ble_eq_true rfl, Nat.le_of_ble_eq_true rfl⟩) hK (hP.sub [0, 1, 2, 3, 4, 5] rfl) rfl rfl rfl hl.1 rfl (Nat.le_of_ble_eq_true rfl) dX7_leapsBadly_20 ⟨Nat.zero_le _, Nat.zero_le _⟩ ?_
  refine lv_isub hx hb dX7_leapsBadly_23 ?_
  refine rS_i (As := [.int ((f_X7_pitchAt mc mr mf ml p0 p1) - (f_X7_pitchAt mc mr mf ml (p0 - (1 : Int32)) p1))]) (rest := []) ⟨hx, hb, hml, hown, hts⟩ (m_X7_size l dC dI cI cJ ((f_X7_pitchAt mc mr mf ml p0 p1) - (f_X7_pitchAt mc mr mf ml (p0 - (1 : Int32)) p1))) (va_cwS 1 hts (gi_S wm_659 wm_660 wm_633 wm_661) rfl rfl rfl hd_X7_size ⟨Nat.le_of_ble_eq_true rfl, Nat.le_of_ble_eq_true rfl⟩) hK (hP.sub [] rfl) rfl hl.1 rfl (Nat.le_of_ble_eq_true rfl) dX7_leapsBadly_24 ⟨Nat.zero_le _, Nat.zero_le _⟩ ?_
  refine lv_istore (lv' := [(4, .int (f_X7_size ((f_X7_pitchAt mc mr mf ml p0 p1) - (f_X7_pitchAt mc mr mf ml (p0 - (1 : Int32)) p1)))), (3, .int (f_X7_size (f_X7_move ml p0))), (0, .ref aM), (1, .int p0), (2, .int p1)]) hx hb dX7_leapsBadly_27 hl (by decide) rfl (fun ls hl => ?_)
  refine lv_iload_n hx hb dX7_leapsBadly_29 rfl (lv_at hl 1 rfl) ?_
  refine lv_iconst (v := (1 : Int32)) hx hb dX7_leapsBadly_30 (by decide) ?_
  refine lv_icmp_le (tgt := 71) hx hb dX7_leapsBadly_31 (by decide) (fun c_1 => ?_) (fun c_1 => ?_)
  · have hR := hR.trans (if_pos c_1)
    refine lv_iconst (v := (0 : Int32)) hx hb dX7_leapsBadly_71 (by decide) ?_
    exact kR (0 : Int32) 72 ls (by first | exact Or.inl rfl | exact Or.inr rfl) hR.symm dX7_leapsBadly_72
  · have hR := hR.trans (if_neg c_1)
    refine lv_iload_n hx hb dX7_leapsBadly_34 rfl (lv_at hl 1 rfl) ?_
    refine lv_bipush (v := (6 : Int32)) hx hb dX7_leapsBadly_35 (by decide) ?_
    refine lv_icmp_eq (tgt := 67) hx hb dX7_leapsBadly_37 (by decide) (fun c_2 => ?_) (fun c_2 => ?_)
    · have hR := hR.trans (if_pos c_2)
      refine lv_iconst (v := (1 : Int32)) hx hb dX7_leapsBadly_67 (by decide) ?_
      refine lv_goto (tgt := 72) hx hb dX7_leapsBadly_68 (by decide) ?_
      exact kR (1 : Int32) 72 ls (by first | exact Or.inl rfl | exact Or.inr rfl) hR.symm dX7_leapsBadly_72
    · have hR := hR.trans (if_neg c_2)
      refine lv_iload_n hx hb dX7_leapsBadly_40 rfl (lv_at hl 1 rfl) ?_
      refine lv_bipush (v := (7 : Int32)) hx hb dX7_leapsBadly_41 (by decide) ?_
      refine lv_icmp_gt (tgt := 67) hx hb dX7_leapsBadly_43 (by decide) (fun c_3 => ?_) (fun c_3 => ?_)
      · have hR := hR.trans (if_pos c_3)
        refine lv_iconst (v := (1 : Int32)) hx hb dX7_leapsBadly_67 (by decide) ?_
        refine lv_goto (tgt := 72) hx hb dX7_leapsBadly_68 (by decide) ?_
        exact kR (1 : Int32) 72 ls (by first | exact Or.inl rfl | exact Or.inr rfl) hR.symm dX7_leapsBadly_72
      · have hR := hR.trans (if_neg c_3)
        refine lv_iload hx hb dX7_leapsBadly_46 (lv_at hl 0 rfl) ?_
        refine lv_bipush (v := (6 : Int32)) hx hb dX7_leapsBadly_48 (by decide) ?_
        refine lv_icmp_eq (tgt := 67) hx hb dX7_leapsBadly_50 (by decide) (fun c_4 => ?_) (fun c_4 => ?_)
        · have hR := hR.trans (if_pos c_4)
          refine lv_iconst (v := (1 : Int32)) hx hb dX7_leapsBadly_67 (by decide) ?_
          refine lv_goto (tgt := 72) hx hb dX7_leapsBadly_68 (by decide) ?_
          exact kR (1 : Int32) 72 ls (by first | exact Or.inl rfl | exact Or.inr rfl) hR.symm dX7_leapsBadly_72
        · have hR := hR.trans (if_neg c_4)
          refine lv_iload hx hb dX7_leapsBadly_53 (lv_at hl 0 rfl) ?_
          refine lv_bipush (v := (10 : Int32)) hx hb dX7_leapsBadly_55 (by decide) ?_
          refine lv_icmp_eq (tgt := 67) hx hb dX7_leapsBadly_57 (by decide) (fun c_5 => ?_) (fun c_5 => ?_)
          · have hR := hR.trans (if_pos c_5)
            refine lv_iconst (v := (1 : Int32)) hx hb dX7_leapsBadly_67 (by decide) ?_
            refine lv_goto (tgt := 72) hx hb dX7_leapsBadly_68 (by decide) ?_
            exact kR (1 : Int32) 72 ls (by first | exact Or.inl rfl | exact Or.inr rfl) hR.symm dX7_leapsBadly_72
          · have hR := hR.trans (if_neg c_5)
            refine lv_iload hx hb dX7_leapsBadly_60 (lv_at hl 0 rfl) ?_
            refine lv_bipush (v := (11 : Int32)) hx hb dX7_leapsBadly_62 (by decide) ?_
            refine lv_icmp_ne (tgt := 71) hx hb dX7_leapsBadly_64 (by decide) (fun c_6 => ?_) (fun c_6 => ?_)
            · have hR := hR.trans (if_neg c_6)
              refine lv_iconst (v := (0 : Int32)) hx hb dX7_leapsBadly_71 (by decide) ?_
              exact kR (0 : Int32) 72 ls (by first | exact Or.inl rfl | exact Or.inr rfl) hR.symm dX7_leapsBadly_72
            · have hR := hR.trans (if_pos c_6)
              refine lv_iconst (v := (1 : Int32)) hx hb dX7_leapsBadly_67 (by decide) ?_
              refine lv_goto (tgt := 72) hx hb dX7_leapsBadly_68 (by decide) ?_
              exact kR (1 : Int32) 72 ls (by first | exact Or.inl rfl | exact Or.inr rfl) hR.symm dX7_leapsBadly_72
set_option maxHeartbeats 4000000 in
set_option maxRecDepth 100000 in
theorem m_X7_leapsBadly (l : Launch) (dC : Nat → ClassId) (dI : Nat → Nat → Nat) (cI cJ : ClassId) (aM : Nat) (aMG : Nat) (aML : Nat) (aMW : Nat) (aME : Nat) (aMO : Nat) (mt : Int32) (mc : Int32) (mn : Int32) (mr : Int32) (mb : Int32) (mf : Int32) (mlo : Int32) (mhi : Int32) (mx : Int32) (mg : Nat → Int32) (ml : Nat → Int32) (mw : Nat → Int32) (me : Nat → Int32) (mo : Nat → Int64) (p0 : Int32) (p1 : Int32) (hm : mok mc mr) (hi : mix1 mr p0) : Met l yX7_leapsBadly wsX7_leapsBadly rm_X7_leapsBadly (va_Pc [.ref aM, .int p0, .int p1] (fun U => va_P (dC, dI) vwCl [(aM, .inr (7, [.int mt, .ref aMG, .int mc, .ref aML, .int mn, .int mr, .int mb, .int mf, .int mlo, .int mhi, .ref aMW, .ref aME, .ref aMO, .int mx])), (aMG, .inl (cI, 14, .inl mg)), (aML, .inl (cI, 53, .inl ml)), (aMW, .inl (cI, 12, .inl mw)), (aME, .inl (cI, 2700, .inl me)), (aMO, .inl (cJ, 2700, .inr (.inl mo)))] U.heap ∧ va_K (dC, dI) vwCl [(cI, .int), (cJ, .long)] U)) (vp_Si (fun r => r = f_X7_leapsBadly mc mr mf ml p0 p1)) 0 0 (fun _ => False) := by
  refine Met.ofW (cc := cX7_leapsBadly) (maxL := 5) (ret := (some .boolean)) (by decide) rfl ?_
  intro p e s m args below meth c s₁ B hml hv
  obtain ⟨rfl, hP, hK⟩ := hv
  have hl := lv_entry ([.ref aM, .int p0, .int p1]) (n := 5) (Nat.le_of_ble_eq_true rfl)
  rw [lg_entry_eq]
  refine w_X7_leapsBadly hm hi B.exec B.bytes hml (findClass_of_methodNamed B.named) (atoms_spec (ws := wsX7_leapsBadly) B.pre) hK hP rfl (fun r pc ls hz er hd => ?_) _ hl
  exact W.zret B.exec B.bytes B.returns (zb_n hz) (fun t ht hW => ⟨r, rfl, er, ht⟩) (fun _ h => by cases h) hd B.notSynchronized
end
def f_X7_isUnanswered (ml : Nat → Int32) (p0 : Int32) : Int32 :=
  (if (f_X7_size (f_X7_move ml (p0 - (1 : Int32)))) < (4 : Int32) then (0 : Int32) else (if (f_X7_move ml p0) = (-(f_X7_sign (f_X7_move ml (p0 - (1 : Int32))))) then (0 : Int32) else (1 : Int32)))
theorem e_X7_isUnanswered {ml : Nat → Int32} {p0 : Int32} : f_X7_isUnanswered ml p0 = (if (f_X7_size (f_X7_move ml (p0 - (1 : Int32)))) < (4 : Int32) then (0 : Int32) else (if (f_X7_move ml p0) = (-(f_X7_sign (f_X7_move ml (p0 - (1 : Int32))))) then (0 : Int32) else (1 : Int32))) := rfl
section
variable {p : Program} {l : Launch} {e : Env} {s : State} {m : MethodId} {args : Array Value} {below : List Frame} {meth : Method} {c : Code} {Q : State → Prop} {H : Heap} {locs : List Loc} {dC : Nat → ClassId} {dI : Nat → Nat → Nat} {cI cJ : ClassId}
abbrev rm_X7_isUnanswered : Room := { frames := 1, cells := 0, slots := 0, locals := 21 }
theorem hd_X7_isUnanswered : yX7_isUnanswered.cls = RX7 ∧ yX7_isUnanswered.cls ≠ "java/lang/invoke/MethodHandle" ∧ yX7_isUnanswered.cls ≠ "java/lang/invoke/VarHandle" ∧ (parseMethodDescriptor yX7_isUnanswered.desc).map (fun d => d.parameters.length) = some 1 := by decide +kernel
set_option maxHeartbeats 4000000 in
set_option maxRecDepth 100000 in
theorem w_X7_isUnanswered {aM : Nat} {aMG : Nat} {aML : Nat} {aMW : Nat} {aME : Nat} {aMO : Nat} {mt : Int32} {mc : Int32} {mn : Int32} {mr : Int32} {mb : Int32} {mf : Int32} {mlo : Int32} {mhi : Int32} {mx : Int32} {mg : Nat → Int32} {ml : Nat → Int32} {mw : Nat → Int32} {me : Nat → Int32} {mo : Nat → Int64} {p0 : Int32} (hm : mok mc mr) (hi : mix2 mr p0) {F : Int32} (hx : p.tables.exec = Jvm.exec) (hb : c.code = cX7_isUnanswered) (hml : c.maxLocals = 3) (hown : s.vm.findClass RX7 = some m.cls) (hts : ∀ w ∈ wsX7_isUnanswered, w.before args s = true) (hK : va_K (dC, dI) vwCl [(cI, .int), (cJ, .long)] s) (hP : va_P (dC, dI) vwCl [(aM, .inr (7, [.int mt, .ref aMG, .int mc, .ref aML, .int mn, .int mr, .int mb, .int mf, .int mlo, .int mhi, .ref aMW, .ref aME, .ref aMO, .int mx])), (aMG, .inl (cI, 14, .inl mg)), (aML, .inl (cI, 53, .inl ml)), (aMW, .inl (cI, 12, .inl mw)), (aME, .inl (cI, 2700, .inl me)), (aMO, .inl (cJ, 2700, .inr (.inl mo)))] H) (hR : F = f_X7_isUnanswered ml p0) (kR : ∀ (r : Int32) (pc : Nat) (ls : Array Slot), zb r → r = F → decode cX7_isUnanswered pc = .ok (.ireturn, 1) → W p l e rm_X7_isUnanswered s m args below meth c H locs 0 0 Q (F0 m pc ls [.int r])) (ls : Array Slot) (hl : lv_has ls 3 [(0, .ref aM), (1, .int p0)]) : W p l e rm_X7_isUnanswered s m args below meth c H locs 0 0 Q (F0 m 0 ls []) := by
  have hR := hR.trans e_X7_isUnanswered
  refine lv_aload_n hx hb dX7_isUnanswered_0 rfl (lv_at hl 0 rfl) ?_
  refine lv_iload_n hx hb dX7_isUnanswered_1 rfl (lv_at hl 1 rfl) ?_
  refine lv_iconst (v := (1 : Int32)) hx hb dX7_isUnanswered_2 (by decide) ?_
  refine lv_isub hx hb dX7_isUnanswered_3 ?_
  refine rV_i (q0 := 0) (As := [.int (p0 - (1 : Int32))]) (rest := []) ⟨hx, hb, hml, hown, hts⟩ (m_X7_move l dC dI cI cJ aM aMG aML aMW aME aMO mt mc mn mr mb mf mlo mhi mx mg ml mw me mo (p0 - (1 : Int32)) (show mok mc mr from hm) (show mix1 mr (p0 - (1 : Int32)) from (mx_2p hm hi))) (cwV 1 hts (gi_V wm_680 wm_681 wm_682 wm_633 wm_683) rfl rfl rfl hd_X7_move ⟨Nat.le_of_ble_eq_true rfl, Nat.le_of_ble_eq_true rfl⟩) hK (hP.sub [0, 1, 2, 3, 4, 5] rfl) rfl rfl rfl hl.1 rfl (Nat.le_of_ble_eq_true rfl) dX7_isUnanswered_4 ⟨Nat.zero_le _, Nat.zero_le _⟩ ?_
  refine lv_istore_n (lv' := [(2, .int (f_X7_move ml (p0 - (1 : Int32)))), (0, .ref aM), (1, .int p0)]) hx hb dX7_isUnanswered_7 rfl hl (by decide) rfl (fun ls hl => ?_)
  refine lv_iload_n hx hb dX7_isUnanswered_8 rfl (lv_at hl 0 rfl) ?_
  refine rS_i (As := [.int (f_X7_move ml (p0 - (1 : Int32)))]) (rest := []) ⟨hx, hb, hml, hown, hts⟩ (m_X7_size l dC dI cI cJ (f_X7_move ml (p0 - (1 : Int32)))) (va_cwS 1 hts (gi_S wm_659 wm_660 wm_633 wm_661) rfl rfl rfl hd_X7_size ⟨Nat.le_of_ble_eq_true rfl, Nat.le_of_ble_eq_true rfl⟩) hK (hP.sub [] rfl) rfl hl.1 rfl (Nat.le_of_ble_eq_true rfl) dX7_isUnanswered_9 ⟨Nat.zero_le _, Nat.zero_le _⟩ ?_
  refine lv_iconst (v := (4 : Int32)) hx hb dX7_isUnanswered_12 (by decide) ?_
  refine lv_icmp_lt (tgt := 33) hx hb dX7_isUnanswered_13 (by decide) (fun c_1 => ?_) (fun c_1 => ?_)
  · have hR := hR.trans (if_pos c_1)
    refine lv_iconst (v := (0 : Int32)) hx hb dX7_isUnanswered_33 (by decide) ?_
    exact kR (0 : Int32) 34 ls (by first | exact Or.inl rfl | exact Or.inr rfl) hR.symm dX7_isUnanswered_34
  · have hR := hR.trans (if_neg c_1)
    refine lv_aload_n hx hb dX7_isUnanswered_16 rfl (lv_at hl 1 rfl) ?_
    refine lv_iload_n hx hb dX7_isUnanswered_17 rfl (lv_at hl 2 rfl) ?_
    refine rV_i (q0 := 0) (As := [.int p0]) (rest := []) ⟨hx, hb, hml, hown, hts⟩ (m_X7_move l dC dI cI cJ aM aMG aML aMW aME aMO mt mc mn mr mb mf mlo mhi mx mg ml mw me mo p0 (show mok mc mr from hm) (show mix1 mr p0 from (mx_21 hi))) (cwV 1 hts (gi_V wm_680 wm_681 wm_682 wm_633 wm_683) rfl rfl rfl hd_X7_move ⟨Nat.le_of_ble_eq_true rfl, Nat.le_of_ble_eq_true rfl⟩) hK (hP.sub [0, 1, 2, 3, 4, 5] rfl) rfl rfl rfl hl.1 rfl (Nat.le_of_ble_eq_true rfl) dX7_isUnanswered_18 ⟨Nat.zero_le _, Nat.zero_le _⟩ ?_
    refine lv_iload_n hx hb dX7_isUnanswered_21 rfl (lv_at hl 0 rfl) ?_
    refine rS_i (As := [.int (f_X7_move ml (p0 - (1 : Int32)))]) (rest := [.int (f_X7_move ml p0)]) ⟨hx, hb, hml, hown, hts⟩ (m_X7_sign l dC dI cI cJ (f_X7_move ml (p0 - (1 : Int32)))) (va_cwS 1 hts (gi_S wm_692 wm_693 wm_633 wm_694) rfl rfl rfl hd_X7_sign ⟨Nat.le_of_ble_eq_true rfl, Nat.le_of_ble_eq_true rfl⟩) hK (hP.sub [] rfl) rfl hl.1 rfl (Nat.le_of_ble_eq_true rfl) dX7_isUnanswered_22 ⟨Nat.zero_le _, Nat.zero_le _⟩ ?_
    refine lv_ineg hx hb dX7_isUnanswered_25 ?_
    refine lv_icmp_eq (tgt := 33) hx hb dX7_isUnanswered_26 (by decide) (fun c_2 => ?_) (fun c_2 => ?_)
    · have hR := hR.trans (if_pos c_2)
      refine lv_iconst (v := (0 : Int32)) hx hb dX7_isUnanswered_33 (by decide) ?_
      exact kR (0 : Int32) 34 ls (by first | exact Or.inl rfl | exact Or.inr rfl) hR.symm dX7_isUnanswered_34
    · have hR := hR.trans (if_neg c_2)
      refine lv_iconst (v := (1 : Int32)) hx hb dX7_isUnanswered_29 (by decide) ?_
      refine lv_goto (tgt := 34) hx hb dX7_isUnanswered_30 (by decide) ?_
      exact kR (1 : Int32) 34 ls (by first | exact Or.inl rfl | exact Or.inr rfl) hR.symm dX7_isUnanswered_34
set_option maxHeartbeats 4000000 in
set_option maxRecDepth 100000 in
theorem m_X7_isUnanswered (l : Launch) (dC : Nat → ClassId) (dI : Nat → Nat → Nat) (cI cJ : ClassId) (aM : Nat) (aMG : Nat) (aML : Nat) (aMW : Nat) (aME : Nat) (aMO : Nat) (mt : Int32) (mc : Int32) (mn : Int32) (mr : Int32) (mb : Int32) (mf : Int32) (mlo : Int32) (mhi : Int32) (mx : Int32) (mg : Nat → Int32) (ml : Nat → Int32) (mw : Nat → Int32) (me : Nat → Int32) (mo : Nat → Int64) (p0 : Int32) (hm : mok mc mr) (hi : mix2 mr p0) : Met l yX7_isUnanswered wsX7_isUnanswered rm_X7_isUnanswered (va_Pc [.ref aM, .int p0] (fun U => va_P (dC, dI) vwCl [(aM, .inr (7, [.int mt, .ref aMG, .int mc, .ref aML, .int mn, .int mr, .int mb, .int mf, .int mlo, .int mhi, .ref aMW, .ref aME, .ref aMO, .int mx])), (aMG, .inl (cI, 14, .inl mg)), (aML, .inl (cI, 53, .inl ml)), (aMW, .inl (cI, 12, .inl mw)), (aME, .inl (cI, 2700, .inl me)), (aMO, .inl (cJ, 2700, .inr (.inl mo)))] U.heap ∧ va_K (dC, dI) vwCl [(cI, .int), (cJ, .long)] U)) (vp_Si (fun r => r = f_X7_isUnanswered ml p0)) 0 0 (fun _ => False) := by
  refine Met.ofW (cc := cX7_isUnanswered) (maxL := 3) (ret := (some .boolean)) (by decide) rfl ?_
  intro p e s m args below meth c s₁ B hml hv
  obtain ⟨rfl, hP, hK⟩ := hv
  have hl := lv_entry ([.ref aM, .int p0]) (n := 3) (Nat.le_of_ble_eq_true rfl)
  rw [lg_entry_eq]
  refine w_X7_isUnanswered hm hi B.exec B.bytes hml (findClass_of_methodNamed B.named) (atoms_spec (ws := wsX7_isUnanswered) B.pre) hK hP rfl (fun r pc ls hz er hd => ?_) _ hl
  exact W.zret B.exec B.bytes B.returns (zb_n hz) (fun t ht hW => ⟨r, rfl, er, ht⟩) (fun _ h => by cases h) hd B.notSynchronized
end
def f_X7_isParallel_j41 (mc : Int32) (mr : Int32) (mf : Int32) (mg : Nat → Int32) (ml : Nat → Int32) (p0 : Int32) (p1 : Int32) (p2 : Int32) (v1 : Int32) : Int32 :=
  (if (2 : Int32) ≤ (f_X7_kindAt mc mr mf mg ml p0 p2) then (0 : Int32) else (if v1 = 0 then (0 : Int32) else (if (f_X7_kindAt mc mr mf mg ml p1 p2) = (f_X7_kindAt mc mr mf mg ml p0 p2) then (1 : Int32) else (0 : Int32))))
theorem e_X7_isParallel_j41 {mc : Int32} {mr : Int32} {mf : Int32} {mg : Nat → Int32} {ml : Nat → Int32} {p0 : Int32} {p1 : Int32} {p2 : Int32} {v1 : Int32} : f_X7_isParallel_j41 mc mr mf mg ml p0 p1 p2 v1 = (if (2 : Int32) ≤ (f_X7_kindAt mc mr mf mg ml p0 p2) then (0 : Int32) else (if v1 = 0 then (0 : Int32) else (if (f_X7_kindAt mc mr mf mg ml p1 p2) = (f_X7_kindAt mc mr mf mg ml p0 p2) then (1 : Int32) else (0 : Int32)))) := rfl
def f_X7_isParallel_j40 (mc : Int32) (mr : Int32) (mf : Int32) (mg : Nat → Int32) (ml : Nat → Int32) (p0 : Int32) (p1 : Int32) (p2 : Int32) : Int32 :=
  f_X7_isParallel_j41 mc mr mf mg ml p0 p1 p2 (0 : Int32)
theorem e_X7_isParallel_j40 {mc : Int32} {mr : Int32} {mf : Int32} {mg : Nat → Int32} {ml : Nat → Int32} {p0 : Int32} {p1 : Int32} {p2 : Int32} : f_X7_isParallel_j40 mc mr mf mg ml p0 p1 p2 = f_X7_isParallel_j41 mc mr mf mg ml p0 p1 p2 (0 : Int32) := rfl
def f_X7_isParallel (mc : Int32) (mr : Int32) (mf : Int32) (mg : Nat → Int32) (ml : Nat → Int32) (p0 : Int32) (p1 : Int32) (p2 : Int32) : Int32 :=
  (if (ml p0.toNatClampNeg) = (ml p1.toNatClampNeg) then f_X7_isParallel_j40 mc mr mf mg ml p0 p1 p2 else (if (f_X7_givenOf mr mg p0) = (f_X7_givenOf mr mg p1) then f_X7_isParallel_j40 mc mr mf mg ml p0 p1 p2 else f_X7_isParallel_j41 mc mr mf mg ml p0 p1 p2 (1 : Int32)))
theorem e_X7_isParallel {mc : Int32} {mr : Int32} {mf : Int32} {mg : Nat → Int32} {ml : Nat → Int32} {p0 : Int32} {p1 : Int32} {p2 : Int32} : f_X7_isParallel mc mr mf mg ml p0 p1 p2 = (if (ml p0.toNatClampNeg) = (ml p1.toNatClampNeg) then f_X7_isParallel_j40 mc mr mf mg ml p0 p1 p2 else (if (f_X7_givenOf mr mg p0) = (f_X7_givenOf mr mg p1) then f_X7_isParallel_j40 mc mr mf mg ml p0 p1 p2 else f_X7_isParallel_j41 mc mr mf mg ml p0 p1 p2 (1 : Int32))) := rfl
theorem zb_X7_isParallel {mc : Int32} {mr : Int32} {mf : Int32} {mg : Nat → Int32} {ml : Nat → Int32} {p0 : Int32} {p1 : Int32} {p2 : Int32} : zb (f_X7_isParallel mc mr mf mg ml p0 p1 p2) := by
  repeat' (first | rw [e_X7_isParallel] | rw [e_X7_isParallel_j40] | rw [e_X7_isParallel_j41] | split | assumption | exact Or.inl (Eq.refl (0 : Int32)) | exact Or.inr (Eq.refl (1 : Int32)))
section
variable {p : Program} {l : Launch} {e : Env} {s : State} {m : MethodId} {args : Array Value} {below : List Frame} {meth : Method} {c : Code} {Q : State → Prop} {H : Heap} {locs : List Loc} {dC : Nat → ClassId} {dI : Nat → Nat → Nat} {cI cJ : ClassId}
abbrev rm_X7_isParallel : Room := { frames := 4, cells := 0, slots := 0, locals := 88 }
theorem hd_X7_isParallel : yX7_isParallel.cls = RX7 ∧ yX7_isParallel.cls ≠ "java/lang/invoke/MethodHandle" ∧ yX7_isParallel.cls ≠ "java/lang/invoke/VarHandle" ∧ (parseMethodDescriptor yX7_isParallel.desc).map (fun d => d.parameters.length) = some 3 := by decide +kernel
set_option maxHeartbeats 4000000 in
set_option maxRecDepth 100000 in
theorem w_X7_isParallel {aM : Nat} {aMG : Nat} {aML : Nat} {aMW : Nat} {aME : Nat} {aMO : Nat} {mt : Int32} {mc : Int32} {mn : Int32} {mr : Int32} {mb : Int32} {mf : Int32} {mlo : Int32} {mhi : Int32} {mx : Int32} {mg : Nat → Int32} {ml : Nat → Int32} {mw : Nat → Int32} {me : Nat → Int32} {mo : Nat → Int64} {p0 : Int32} {p1 : Int32} {p2 : Int32} (hm : mok mc mr) (hi : mix mr p0) (hj : mix mr p1) {F : Int32} (hx : p.tables.exec = Jvm.exec) (hb : c.code = cX7_isParallel) (hml : c.maxLocals = 6) (hown : s.vm.findClass RX7 = some m.cls) (hts : ∀ w ∈ wsX7_isParallel, w.before args s = true) (hK : va_K (dC, dI) vwCl [(cI, .int), (cJ, .long)] s) (hP : va_P (dC, dI) vwCl [(aM, .inr (7, [.int mt, .ref aMG, .int mc, .ref aML, .int mn, .int mr, .int mb, .int mf, .int mlo, .int mhi, .ref aMW, .ref aME, .ref aMO, .int mx])), (aMG, .inl (cI, 14, .inl mg)), (aML, .inl (cI, 53, .inl ml)), (aMW, .inl (cI, 12, .inl mw)), (aME, .inl (cI, 2700, .inl me)), (aMO, .inl (cJ, 2700, .inr (.inl mo)))] H) (hR : F = f_X7_isParallel mc mr mf mg ml p0 p1 p2) (kR : ∀ (r : Int32) (pc : Nat) (ls : Array Slot), zb r → r = F → decode cX7_isParallel pc = .ok (.ireturn, 1) → W p l e rm_X7_isParallel s m args below meth c H locs 0 0 Q (F0 m pc ls [.int r])) (ls : Array Slot) (hl : lv_has ls 6 [(0, .ref aM), (1, .int p0), (2, .int p1), (3, .int p2)]) : W p l e rm_X7_isParallel s m args below meth c H locs 0 0 Q (F0 m 0 ls []) := by
  have hR := hR.trans e_X7_isParallel
  refine lv_aload_n hx hb dX7_isParallel_0 rfl (lv_at hl 0 rfl) ?_
  refine lv_iload_n hx hb dX7_isParallel_1 rfl (lv_at hl 1 rfl) ?_
  refine lv_iload_n hx hb dX7_isParallel_2 rfl (lv_at hl 3 rfl) ?_
  refine rV_i (q0 := 0) (As := [.int p0, .int p2]) (rest := []) ⟨hx, hb, hml, hown, hts⟩ (m_X7_kindAt l dC dI cI cJ aM aMG aML aMW aME aMO mt mc mn mr mb mf mlo mhi mx mg ml mw me mo p0 p2 (show mok mc mr from hm) (show mix mr p0 from hi)) (cwV 2 hts (gi_V wm_676 wm_677 wm_678 wm_633 wm_679) rfl rfl rfl hd_X7_kindAt ⟨Nat.le_of_ble_eq_true rfl, Nat.le_of_ble_eq_true rfl⟩) hK (hP.sub [0, 1, 2, 3, 4, 5] rfl) rfl rfl rfl hl.1 rfl (Nat.le_of_ble_eq_true rfl) dX7_isParallel_3 ⟨Nat.zero_le _, Nat.zero_le _⟩ ?_
  refine lv_istore (lv' := [(4, .int (f_X7_kindAt mc mr mf mg ml p0 p2)), (0, .ref aM), (1, .int p0), (2, .int p1), (3, .int p2)]) hx hb dX7_isParallel_6 hl (by decide) rfl (fun ls hl => ?_)
  refine lv_aload_n hx hb dX7_isParallel_8 rfl (lv_at hl 1 rfl) ?_
  refine va_get (D := (dC, dI)) (ci := 7) (v := .ref aML) (C := RX7) (T := TX7) (N := 14) hx hb hts inC_X7 hown hK hP 0 rfl rfl 3 (by decide) (hts (.fieldLink RX7 13 "CounterpointeryModel" "line" "[I") (List.mem_cons_of_mem _ wm_623)) (fun _ h9 => h9) rfl dX7_isParallel_9 ?_
  refine lv_iload_n hx hb dX7_isParallel_12 rfl (lv_at hl 2 rfl) ?_
  refine va_iald (D := (dC, dI)) hx hb hK hP 2 0 rfl rfl (mx_in hm hi) dX7_isParallel_13 ?_
  refine lv_aload_n hx hb dX7_isParallel_14 rfl (lv_at hl 1 rfl) ?_
  refine va_get (D := (dC, dI)) (ci := 7) (v := .ref aML) (C := RX7) (T := TX7) (N := 14) hx hb hts inC_X7 hown hK hP 0 rfl rfl 3 (by decide) (hts (.fieldLink RX7 13 "CounterpointeryModel" "line" "[I") (List.mem_cons_of_mem _ wm_623)) (fun _ h9 => h9) rfl dX7_isParallel_15 ?_
  refine lv_iload_n hx hb dX7_isParallel_18 rfl (lv_at hl 3 rfl) ?_
  refine va_iald (D := (dC, dI)) hx hb hK hP 2 0 rfl rfl (mx_in hm hj) dX7_isParallel_19 ?_
  have J41 : ∀ (v1 : Int32) (ls : Array Slot), lv_has ls 6 [(0, .ref aM), (2, .int p1), (3, .int p2), (4, .int (f_X7_kindAt mc mr mf mg ml p0 p2))] → zb v1 → F = f_X7_isParallel_j41 mc mr mf mg ml p0 p1 p2 v1 → W p l e rm_X7_isParallel s m args below meth c H locs 0 0 Q (F0 m 41 ls [.int v1]) := by
    intro v1 ls hl hz_v1 hR
    have hR := hR.trans e_X7_isParallel_j41
    refine lv_istore (lv' := [(5, .int v1), (0, .ref aM), (2, .int p1), (3, .int p2), (4, .int (f_X7_kindAt mc mr mf mg ml p0 p2))]) hx hb dX7_isParallel_41 hl (by decide) rfl (fun ls hl => ?_)
    refine lv_iload hx hb dX7_isParallel_43 (lv_at hl 4 rfl) ?_
    refine lv_iconst (v := (2 : Int32)) hx hb dX7_isParallel_45 (by decide) ?_
    refine lv_icmp_ge (tgt := 69) hx hb dX7_isParallel_46 (by decide) (fun c_1 => ?_) (fun c_1 => ?_)
    · have hR := hR.trans (if_pos c_1)
      refine lv_iconst (v := (0 : Int32)) hx hb dX7_isParallel_69 (by decide) ?_
      exact kR (0 : Int32) 70 ls (by first | exact Or.inl rfl | exact Or.inr rfl) hR.symm dX7_isParallel_70
    · have hR := hR.trans (if_neg c_1)
      refine lv_iload hx hb dX7_isParallel_49 (lv_at hl 0 rfl) ?_
      refine lv_if_eq (tgt := 69) hx hb dX7_isParallel_51 (by decide) (fun c_2 => ?_) (fun c_2 => ?_)
      · have hR := hR.trans (if_pos c_2)
        refine lv_iconst (v := (0 : Int32)) hx hb dX7_isParallel_69 (by decide) ?_
        exact kR (0 : Int32) 70 ls (by first | exact Or.inl rfl | exact Or.inr rfl) hR.symm dX7_isParallel_70
      · have hR := hR.trans (if_neg c_2)
        refine lv_aload_n hx hb dX7_isParallel_54 rfl (lv_at hl 1 rfl) ?_
        refine lv_iload_n hx hb dX7_isParallel_55 rfl (lv_at hl 2 rfl) ?_
        refine lv_iload_n hx hb dX7_isParallel_56 rfl (lv_at hl 3 rfl) ?_
        refine rV_i (q0 := 0) (As := [.int p1, .int p2]) (rest := []) ⟨hx, hb, hml, hown, hts⟩ (m_X7_kindAt l dC dI cI cJ aM aMG aML aMW aME aMO mt mc mn mr mb mf mlo mhi mx mg ml mw me mo p1 p2 (show mok mc mr from hm) (show mix mr p1 from hj)) (cwV 2 hts (gi_V wm_676 wm_677 wm_678 wm_633 wm_679) rfl rfl rfl hd_X7_kindAt ⟨Nat.le_of_ble_eq_true rfl, Nat.le_of_ble_eq_true rfl⟩) hK (hP.sub [0, 1, 2, 3, 4, 5] rfl) rfl rfl rfl hl.1 rfl (Nat.le_of_ble_eq_true rfl) dX7_isParallel_57 ⟨Nat.zero_le _, Nat.zero_le _⟩ ?_
        refine lv_iload hx hb dX7_isParallel_60 (lv_at hl 4 rfl) ?_
        refine lv_icmp_ne (tgt := 69) hx hb dX7_isParallel_62 (by decide) (fun c_3 => ?_) (fun c_3 => ?_)
        · have hR := hR.trans (if_neg c_3)
          refine lv_iconst (v := (0 : Int32)) hx hb dX7_isParallel_69 (by decide) ?_
          exact kR (0 : Int32) 70 ls (by first | exact Or.inl rfl | exact Or.inr rfl) hR.symm dX7_isParallel_70
        · have hR := hR.trans (if_pos c_3)
          refine lv_iconst (v := (1 : Int32)) hx hb dX7_isParallel_65 (by decide) ?_
          refine lv_goto (tgt := 70) hx hb dX7_isParallel_66 (by decide) ?_
          exact kR (1 : Int32) 70 ls (by first | exact Or.inl rfl | exact Or.inr rfl) hR.symm dX7_isParallel_70
  have J40 : ∀ (ls : Array Slot), lv_has ls 6 [(0, .ref aM), (2, .int p1), (3, .int p2), (4, .int (f_X7_kindAt mc mr mf mg ml p0 p2))] → F = f_X7_isParallel_j40 mc mr mf mg ml p0 p1 p2 → W p l e rm_X7_isParallel s m args below meth c H locs 0 0 Q (F0 m 40 ls []) := by
    intro ls hl hR
    have hR := hR.trans e_X7_isParallel_j40
    refine lv_iconst (v := (0 : Int32)) hx hb dX7_isParallel_40 (by decide) ?_
    exact J41 (0 : Int32) ls (lv_sub hl [0, 1, 2, 3] rfl) (by first | exact Or.inl rfl | exact Or.inr rfl) hR
  refine lv_icmp_eq (tgt := 40) hx hb dX7_isParallel_20 (by decide) (fun c_4 => ?_) (fun c_4 => ?_)
  · have hR := hR.trans (if_pos c_4)
    exact J40 ls (lv_sub hl [1, 3, 4, 0] rfl) hR
  · have hR := hR.trans (if_neg c_4)
    refine lv_aload_n hx hb dX7_isParallel_23 rfl (lv_at hl 1 rfl) ?_
    refine lv_iload_n hx hb dX7_isParallel_24 rfl (lv_at hl 2 rfl) ?_
    refine rV_i (q0 := 0) (As := [.int p0]) (rest := []) ⟨hx, hb, hml, hown, hts⟩ (m_X7_givenOf l dC dI cI cJ aM aMG aML aMW aME aMO mt mc mn mr mb mf mlo mhi mx mg ml mw me mo p0 (show mok mc mr from hm) (show mix mr p0 from hi)) (cwV 1 hts (gi_V wm_662 wm_663 wm_664 wm_633 wm_665) rfl rfl rfl hd_X7_givenOf ⟨Nat.le_of_ble_eq_true rfl, Nat.le_of_ble_eq_true rfl⟩) hK (hP.sub [0, 1, 2, 3, 4, 5] rfl) rfl rfl rfl hl.1 rfl (Nat.le_of_ble_eq_true rfl) dX7_isParallel_25 ⟨Nat.zero_le _, Nat.zero_le _⟩ ?_
    refine lv_aload_n hx hb dX7_isParallel_28 rfl (lv_at hl 1 rfl) ?_
    refine lv_iload_n hx hb dX7_isParallel_29 rfl (lv_at hl 3 rfl) ?_
    refine rV_i (q0 := 0) (As := [.int p1]) (rest := [.int (f_X7_givenOf mr mg p0)]) ⟨hx, hb, hml, hown, hts⟩ (m_X7_givenOf l dC dI cI cJ aM aMG aML aMW aME aMO mt mc mn mr mb mf mlo mhi mx mg ml mw me mo p1 (show mok mc mr from hm) (show mix mr p1 from hj)) (cwV 1 hts (gi_V wm_662 wm_663 wm_664 wm_633 wm_665) rfl rfl rfl hd_X7_givenOf ⟨Nat.le_of_ble_eq_true rfl, Nat.le_of_ble_eq_true rfl⟩) hK (hP.sub [0, 1, 2, 3, 4, 5] rfl) rfl rfl rfl hl.1 rfl (Nat.le_of_ble_eq_true rfl) dX7_isParallel_30 ⟨Nat.zero_le _, Nat.zero_le _⟩ ?_
    refine lv_icmp_eq (tgt := 40) hx hb dX7_isParallel_33 (by decide) (fun c_5 => ?_) (fun c_5 => ?_)
    · have hR := hR.trans (if_pos c_5)
      exact J40 ls (lv_sub hl [1, 3, 4, 0] rfl) hR
    · have hR := hR.trans (if_neg c_5)
      refine lv_iconst (v := (1 : Int32)) hx hb dX7_isParallel_36 (by decide) ?_
      refine lv_goto (tgt := 41) hx hb dX7_isParallel_37 (by decide) ?_
      exact J41 (1 : Int32) ls (lv_sub hl [1, 3, 4, 0] rfl) (by first | exact Or.inl rfl | exact Or.inr rfl) hR
set_option maxHeartbeats 4000000 in
set_option maxRecDepth 100000 in
theorem m_X7_isParallel (l : Launch) (dC : Nat → ClassId) (dI : Nat → Nat → Nat) (cI cJ : ClassId) (aM : Nat) (aMG : Nat) (aML : Nat) (aMW : Nat) (aME : Nat) (aMO : Nat) (mt : Int32) (mc : Int32) (mn : Int32) (mr : Int32) (mb : Int32) (mf : Int32) (mlo : Int32) (mhi : Int32) (mx : Int32) (mg : Nat → Int32) (ml : Nat → Int32) (mw : Nat → Int32) (me : Nat → Int32) (mo : Nat → Int64) (p0 : Int32) (p1 : Int32) (p2 : Int32) (hm : mok mc mr) (hi : mix mr p0) (hj : mix mr p1) : Met l yX7_isParallel wsX7_isParallel rm_X7_isParallel (va_Pc [.ref aM, .int p0, .int p1, .int p2] (fun U => va_P (dC, dI) vwCl [(aM, .inr (7, [.int mt, .ref aMG, .int mc, .ref aML, .int mn, .int mr, .int mb, .int mf, .int mlo, .int mhi, .ref aMW, .ref aME, .ref aMO, .int mx])), (aMG, .inl (cI, 14, .inl mg)), (aML, .inl (cI, 53, .inl ml)), (aMW, .inl (cI, 12, .inl mw)), (aME, .inl (cI, 2700, .inl me)), (aMO, .inl (cJ, 2700, .inr (.inl mo)))] U.heap ∧ va_K (dC, dI) vwCl [(cI, .int), (cJ, .long)] U)) (vp_Si (fun r => r = f_X7_isParallel mc mr mf mg ml p0 p1 p2)) 0 0 (fun _ => False) := by
  refine Met.ofW (cc := cX7_isParallel) (maxL := 6) (ret := (some .boolean)) (by decide) rfl ?_
  intro p e s m args below meth c s₁ B hml hv
  obtain ⟨rfl, hP, hK⟩ := hv
  have hl := lv_entry ([.ref aM, .int p0, .int p1, .int p2]) (n := 6) (Nat.le_of_ble_eq_true rfl)
  rw [lg_entry_eq]
  refine w_X7_isParallel hm hi hj B.exec B.bytes hml (findClass_of_methodNamed B.named) (atoms_spec (ws := wsX7_isParallel) B.pre) hK hP rfl (fun r pc ls hz er hd => ?_) _ hl
  exact W.zret B.exec B.bytes B.returns (zb_n hz) (fun t ht hW => ⟨r, rfl, er, ht⟩) (fun _ h => by cases h) hd B.notSynchronized
end
def f_X7_isFault_j15 (mc : Int32) (mr : Int32) (mb : Int32) (mf : Int32) (mg : Nat → Int32) (ml : Nat → Int32) (p0 : Int32) (p1 : Int32) (p2 : Int32) (v1 : Int32) : Int32 :=
  (if p0 = 0 then (if p1 = 0 then (if (1 : Int32) < (f_X7_kindAt mc mr mf mg ml (0 : Int32) p2) then (1 : Int32) else (if (f_X7_kindAt mc mr mf mg ml (0 : Int32) p2) = (1 : Int32) then (if (f_X7_givenOf mr mg p1) ≤ (ml (0 : Int32).toNatClampNeg) then (0 : Int32) else (1 : Int32)) else (0 : Int32))) else (0 : Int32)) else (if p0 = (1 : Int32) then (if v1 = 0 then (0 : Int32) else (if (f_X7_endsBadly mc mr mf mg ml p1 p2) = 0 then (0 : Int32) else (1 : Int32))) else (if p0 = (2 : Int32) then (if (f_X7_isStrong mr p1) = 0 then (0 : Int32) else (if (f_X7_kindAt mc mr mf mg ml p1 p2) = (3 : Int32) then (1 : Int32) else (0 : Int32))) else (if p0 = (7 : Int32) then (if mb = 0 then (if (f_X7_givenOf mr mg p1) ≤ (ml p1.toNatClampNeg) then (0 : Int32) else (1 : Int32)) else (if (ml p1.toNatClampNeg) ≤ (f_X7_givenOf mr mg p1) then (0 : Int32) else (1 : Int32))) else (if p0 = (8 : Int32) then (if p1 ≤ 0 then (0 : Int32) else (if v1 = 0 then (if (ml p1.toNatClampNeg) = (f_X7_givenOf mr mg p1) then (1 : Int32) else (0 : Int32)) else (0 : Int32))) else (if p1 = 0 then (0 : Int32) else (if p0 = (3 : Int32) then (f_X7_passesBadly mc mr mf mg ml p1 p2) else (if p0 = (4 : Int32) then (f_X7_isParallel mc mr mf mg ml p1 (p1 - (1 : Int32)) p2) else (if p0 = (5 : Int32) then (if mr ≤ (1 : Int32) then (0 : Int32) else (if (f_X7_isStrong mr p1) = 0 then (0 : Int32) else (if (f_X7_isParallel mc mr mf mg ml p1 (p1 - mr) p2) = 0 then (0 : Int32) else (1 : Int32)))) else (if p0 = (6 : Int32) then (f_X7_isHidden mc mr mf mg ml p1 p2) else (if p0 = (9 : Int32) then (if (f_X7_move ml p1) = 0 then (1 : Int32) else (0 : Int32)) else (if p0 = (10 : Int32) then (f_X7_leapsBadly mc mr mf ml p1 p2) else (if p1 ≤ (1 : Int32) then (0 : Int32) else (if (f_X7_isUnanswered ml p1) = 0 then (0 : Int32) else (1 : Int32)))))))))))))))
theorem e_X7_isFault_j15 {mc : Int32} {mr : Int32} {mb : Int32} {mf : Int32} {mg : Nat → Int32} {ml : Nat → Int32} {p0 : Int32} {p1 : Int32} {p2 : Int32} {v1 : Int32} : f_X7_isFault_j15 mc mr mb mf mg ml p0 p1 p2 v1 = (if p0 = 0 then (if p1 = 0 then (if (1 : Int32) < (f_X7_kindAt mc mr mf mg ml (0 : Int32) p2) then (1 : Int32) else (if (f_X7_kindAt mc mr mf mg ml (0 : Int32) p2) = (1 : Int32) then (if (f_X7_givenOf mr mg p1) ≤ (ml (0 : Int32).toNatClampNeg) then (0 : Int32) else (1 : Int32)) else (0 : Int32))) else (0 : Int32)) else (if p0 = (1 : Int32) then (if v1 = 0 then (0 : Int32) else (if (f_X7_endsBadly mc mr mf mg ml p1 p2) = 0 then (0 : Int32) else (1 : Int32))) else (if p0 = (2 : Int32) then (if (f_X7_isStrong mr p1) = 0 then (0 : Int32) else (if (f_X7_kindAt mc mr mf mg ml p1 p2) = (3 : Int32) then (1 : Int32) else (0 : Int32))) else (if p0 = (7 : Int32) then (if mb = 0 then (if (f_X7_givenOf mr mg p1) ≤ (ml p1.toNatClampNeg) then (0 : Int32) else (1 : Int32)) else (if (ml p1.toNatClampNeg) ≤ (f_X7_givenOf mr mg p1) then (0 : Int32) else (1 : Int32))) else (if p0 = (8 : Int32) then (if p1 ≤ 0 then (0 : Int32) else (if v1 = 0 then (if (ml p1.toNatClampNeg) = (f_X7_givenOf mr mg p1) then (1 : Int32) else (0 : Int32)) else (0 : Int32))) else (if p1 = 0 then (0 : Int32) else (if p0 = (3 : Int32) then (f_X7_passesBadly mc mr mf mg ml p1 p2) else (if p0 = (4 : Int32) then (f_X7_isParallel mc mr mf mg ml p1 (p1 - (1 : Int32)) p2) else (if p0 = (5 : Int32) then (if mr ≤ (1 : Int32) then (0 : Int32) else (if (f_X7_isStrong mr p1) = 0 then (0 : Int32) else (if (f_X7_isParallel mc mr mf mg ml p1 (p1 - mr) p2) = 0 then (0 : Int32) else (1 : Int32)))) else (if p0 = (6 : Int32) then (f_X7_isHidden mc mr mf mg ml p1 p2) else (if p0 = (9 : Int32) then (if (f_X7_move ml p1) = 0 then (1 : Int32) else (0 : Int32)) else (if p0 = (10 : Int32) then (f_X7_leapsBadly mc mr mf ml p1 p2) else (if p1 ≤ (1 : Int32) then (0 : Int32) else (if (f_X7_isUnanswered ml p1) = 0 then (0 : Int32) else (1 : Int32))))))))))))))) := rfl
def f_X7_isFault (mc : Int32) (mr : Int32) (mb : Int32) (mf : Int32) (mg : Nat → Int32) (ml : Nat → Int32) (p0 : Int32) (p1 : Int32) (p2 : Int32) : Int32 :=
  (if p1 = ((f_X7_most mc mr) - (1 : Int32)) then f_X7_isFault_j15 mc mr mb mf mg ml p0 p1 p2 (1 : Int32) else f_X7_isFault_j15 mc mr mb mf mg ml p0 p1 p2 (0 : Int32))
theorem e_X7_isFault {mc : Int32} {mr : Int32} {mb : Int32} {mf : Int32} {mg : Nat → Int32} {ml : Nat → Int32} {p0 : Int32} {p1 : Int32} {p2 : Int32} : f_X7_isFault mc mr mb mf mg ml p0 p1 p2 = (if p1 = ((f_X7_most mc mr) - (1 : Int32)) then f_X7_isFault_j15 mc mr mb mf mg ml p0 p1 p2 (1 : Int32) else f_X7_isFault_j15 mc mr mb mf mg ml p0 p1 p2 (0 : Int32)) := rfl
section
variable {p : Program} {l : Launch} {e : Env} {s : State} {m : MethodId} {args : Array Value} {below : List Frame} {meth : Method} {c : Code} {Q : State → Prop} {H : Heap} {locs : List Loc} {dC : Nat → ClassId} {dI : Nat → Nat → Nat} {cI cJ : ClassId}
abbrev rm_X7_isFault : Room := { frames := 5, cells := 0, slots := 0, locals := 113 }
theorem hd_X7_isFault : yX7_isFault.cls = RX7 ∧ yX7_isFault.cls ≠ "java/lang/invoke/MethodHandle" ∧ yX7_isFault.cls ≠ "java/lang/invoke/VarHandle" ∧ (parseMethodDescriptor yX7_isFault.desc).map (fun d => d.parameters.length) = some 3 := by decide +kernel
set_option maxHeartbeats 4000000 in
set_option maxRecDepth 100000 in
theorem w_X7_isFault {aM : Nat} {aMG : Nat} {aML : Nat} {aMW : Nat} {aME : Nat} {aMO : Nat} {mt : Int32} {mc : Int32} {mn : Int32} {mr : Int32} {mb : Int32} {mf : Int32} {mlo : Int32} {mhi : Int32} {mx : Int32} {mg : Nat → Int32} {ml : Nat → Int32} {mw : Nat → Int32} {me : Nat → Int32} {mo : Nat → Int64} {p0 : Int32} {p1 : Int32} {p2 : Int32} (hm : mok mc mr) (hi : mix mr p1) {F : Int32} (hx : p.tables.exec = Jvm.exec) (hb : c.code = cX7_isFault) (hml : c.maxLocals = 6) (hown : s.vm.findClass RX7 = some m.cls) (hts : ∀ w ∈ wsX7_isFault, w.before args s = true) (hK : va_K (dC, dI) vwCl [(cI, .int), (cJ, .long)] s) (hP : va_P (dC, dI) vwCl [(aM, .inr (7, [.int mt, .ref aMG, .int mc, .ref aML, .int mn, .int mr, .int mb, .int mf, .int mlo, .int mhi, .ref aMW, .ref aME, .ref aMO, .int mx])), (aMG, .inl (cI, 14, .inl mg)), (aML, .inl (cI, 53, .inl ml)), (aMW, .inl (cI, 12, .inl mw)), (aME, .inl (cI, 2700, .inl me)), (aMO, .inl (cJ, 2700, .inr (.inl mo)))] H) (hR : F = f_X7_isFault mc mr mb mf mg ml p0 p1 p2) (kR : ∀ (r : Int32) (pc : Nat) (ls : Array Slot), zb r → r = F → decode cX7_isFault pc = .ok (.ireturn, 1) → W p l e rm_X7_isFault s m args below meth c H locs 0 0 Q (F0 m pc ls [.int r])) (ls : Array Slot) (hl : lv_has ls 6 [(0, .ref aM), (1, .int p0), (2, .int p1), (3, .int p2)]) : W p l e rm_X7_isFault s m args below meth c H locs 0 0 Q (F0 m 0 ls []) := by
  have hR := hR.trans e_X7_isFault
  refine lv_iload_n hx hb dX7_isFault_0 rfl (lv_at hl 2 rfl) ?_
  refine lv_aload_n hx hb dX7_isFault_1 rfl (lv_at hl 0 rfl) ?_
  refine rV_i (q0 := 0) (As := []) (rest := [.int p1]) ⟨hx, hb, hml, hown, hts⟩ (m_X7_most l dC dI cI cJ aM aMG aML aMW aME aMO mt mc mn mr mb mf mlo mhi mx mg ml mw me mo) (cwV 0 hts (gi_V wm_651 wm_652 wm_653 wm_633 wm_654) rfl rfl rfl hd_X7_most ⟨Nat.le_of_ble_eq_true rfl, Nat.le_of_ble_eq_true rfl⟩) hK (hP.sub [0, 1, 2, 3, 4, 5] rfl) rfl rfl rfl hl.1 rfl (Nat.le_of_ble_eq_true rfl) dX7_isFault_2 ⟨Nat.zero_le _, Nat.zero_le _⟩ ?_
  refine lv_iconst (v := (1 : Int32)) hx hb dX7_isFault_5 (by decide) ?_
  refine lv_isub hx hb dX7_isFault_6 ?_
  have J15 : ∀ (v1 : Int32) (ls : Array Slot), lv_has ls 6 [(0, .ref aM), (1, .int p0), (2, .int p1), (3, .int p2)] → zb v1 → F = f_X7_isFault_j15 mc mr mb mf mg ml p0 p1 p2 v1 → W p l e rm_X7_isFault s m args below meth c H locs 0 0 Q (F0 m 15 ls [.int v1]) := by
    intro v1 ls hl hz_v1 hR
    have hR := hR.trans e_X7_isFault_j15
    refine lv_istore (lv' := [(4, .int v1), (0, .ref aM), (1, .int p0), (2, .int p1), (3, .int p2)]) hx hb dX7_isFault_15 hl (by decide) rfl (fun ls hl => ?_)
    refine lv_aload_n hx hb dX7_isFault_17 rfl (lv_at hl 1 rfl) ?_
    refine lv_iload_n hx hb dX7_isFault_18 rfl (lv_at hl 3 rfl) ?_
    refine rV_i (q0 := 0) (As := [.int p1]) (rest := []) ⟨hx, hb, hml, hown, hts⟩ (m_X7_givenOf l dC dI cI cJ aM aMG aML aMW aME aMO mt mc mn mr mb mf mlo mhi mx mg ml mw me mo p1 (show mok mc mr from hm) (show mix mr p1 from hi)) (cwV 1 hts (gi_V wm_662 wm_663 wm_664 wm_633 wm_665) rfl rfl rfl hd_X7_givenOf ⟨Nat.le_of_ble_eq_true rfl, Nat.le_of_ble_eq_true rfl⟩) hK (hP.sub [0, 1, 2, 3, 4, 5] rfl) rfl rfl rfl hl.1 rfl (Nat.le_of_ble_eq_true rfl) dX7_isFault_19 ⟨Nat.zero_le _, Nat.zero_le _⟩ ?_
    refine lv_istore (lv' := [(5, .int (f_X7_givenOf mr mg p1)), (4, .int v1), (0, .ref aM), (1, .int p0), (2, .int p1), (3, .int p2)]) hx hb dX7_isFault_22 hl (by decide) rfl (fun ls hl => ?_)
    refine lv_iload_n hx hb dX7_isFault_24 rfl (lv_at hl 3 rfl) ?_
    refine lv_if_ne (tgt := 69) hx hb dX7_isFault_25 (by decide) (fun c_1 => ?_) (fun c_1 => ?_)
    · have hR := hR.trans (if_neg c_1)
      refine lv_iload_n hx hb dX7_isFault_69 rfl (lv_at hl 3 rfl) ?_
      refine lv_iconst (v := (1 : Int32)) hx hb dX7_isFault_70 (by decide) ?_
      refine lv_icmp_ne (tgt := 94) hx hb dX7_isFault_71 (by decide) (fun c_2 => ?_) (fun c_2 => ?_)
      · have hR := hR.trans (if_neg c_2)
        refine lv_iload_n hx hb dX7_isFault_94 rfl (lv_at hl 3 rfl) ?_
        refine lv_iconst (v := (2 : Int32)) hx hb dX7_isFault_95 (by decide) ?_
        refine lv_icmp_ne (tgt := 123) hx hb dX7_isFault_96 (by decide) (fun c_3 => ?_) (fun c_3 => ?_)
        · have hR := hR.trans (if_neg c_3)
          refine lv_iload_n hx hb dX7_isFault_123 rfl (lv_at hl 3 rfl) ?_
          refine lv_bipush (v := (7 : Int32)) hx hb dX7_isFault_124 (by decide) ?_
          refine lv_icmp_ne (tgt := 172) hx hb dX7_isFault_126 (by decide) (fun c_4 => ?_) (fun c_4 => ?_)
          · have hR := hR.trans (if_neg c_4)
            refine lv_iload_n hx hb dX7_isFault_172 rfl (lv_at hl 3 rfl) ?_
            refine lv_bipush (v := (8 : Int32)) hx hb dX7_isFault_173 (by decide) ?_
            refine lv_icmp_ne (tgt := 204) hx hb dX7_isFault_175 (by decide) (fun c_5 => ?_) (fun c_5 => ?_)
            · have hR := hR.trans (if_neg c_5)
              refine lv_iload_n hx hb dX7_isFault_204 rfl (lv_at hl 4 rfl) ?_
              refine lv_if_ne (tgt := 210) hx hb dX7_isFault_205 (by decide) (fun c_6 => ?_) (fun c_6 => ?_)
              · have hR := hR.trans (if_neg c_6)
                refine lv_iload_n hx hb dX7_isFault_210 rfl (lv_at hl 3 rfl) ?_
                refine lv_iconst (v := (3 : Int32)) hx hb dX7_isFault_211 (by decide) ?_
                refine lv_icmp_ne (tgt := 222) hx hb dX7_isFault_212 (by decide) (fun c_7 => ?_) (fun c_7 => ?_)
                · have hR := hR.trans (if_neg c_7)
                  refine lv_iload_n hx hb dX7_isFault_222 rfl (lv_at hl 3 rfl) ?_
                  refine lv_iconst (v := (4 : Int32)) hx hb dX7_isFault_223 (by decide) ?_
                  refine lv_icmp_ne (tgt := 237) hx hb dX7_isFault_224 (by decide) (fun c_8 => ?_) (fun c_8 => ?_)
                  · have hR := hR.trans (if_neg c_8)
                    refine lv_iload_n hx hb dX7_isFault_237 rfl (lv_at hl 3 rfl) ?_
                    refine lv_iconst (v := (5 : Int32)) hx hb dX7_isFault_238 (by decide) ?_
                    refine lv_icmp_ne (tgt := 279) hx hb dX7_isFault_239 (by decide) (fun c_9 => ?_) (fun c_9 => ?_)
                    · have hR := hR.trans (if_neg c_9)
                      refine lv_iload_n hx hb dX7_isFault_279 rfl (lv_at hl 3 rfl) ?_
                      refine lv_bipush (v := (6 : Int32)) hx hb dX7_isFault_280 (by decide) ?_
                      refine lv_icmp_ne (tgt := 292) hx hb dX7_isFault_282 (by decide) (fun c_10 => ?_) (fun c_10 => ?_)
                      · have hR := hR.trans (if_neg c_10)
                        refine lv_iload_n hx hb dX7_isFault_292 rfl (lv_at hl 3 rfl) ?_
                        refine lv_bipush (v := (9 : Int32)) hx hb dX7_isFault_293 (by decide) ?_
                        refine lv_icmp_ne (tgt := 312) hx hb dX7_isFault_295 (by decide) (fun c_11 => ?_) (fun c_11 => ?_)
                        · have hR := hR.trans (if_neg c_11)
                          refine lv_iload_n hx hb dX7_isFault_312 rfl (lv_at hl 3 rfl) ?_
                          refine lv_bipush (v := (10 : Int32)) hx hb dX7_isFault_313 (by decide) ?_
                          refine lv_icmp_ne (tgt := 327) hx hb dX7_isFault_315 (by decide) (fun c_12 => ?_) (fun c_12 => ?_)
                          · have hR := hR.trans (if_neg c_12)
                            refine lv_iload_n hx hb dX7_isFault_327 rfl (lv_at hl 4 rfl) ?_
                            refine lv_iconst (v := (1 : Int32)) hx hb dX7_isFault_328 (by decide) ?_
                            refine lv_icmp_le (tgt := 344) hx hb dX7_isFault_329 (by decide) (fun c_13 => ?_) (fun c_13 => ?_)
                            · have hR := hR.trans (if_pos c_13)
                              refine lv_iconst (v := (0 : Int32)) hx hb dX7_isFault_344 (by decide) ?_
                              exact kR (0 : Int32) 345 ls (by first | exact Or.inl rfl | exact Or.inr rfl) hR.symm dX7_isFault_345
                            · have hR := hR.trans (if_neg c_13)
                              refine lv_aload_n hx hb dX7_isFault_332 rfl (lv_at hl 2 rfl) ?_
                              refine lv_iload_n hx hb dX7_isFault_333 rfl (lv_at hl 4 rfl) ?_
                              refine rV_i (q0 := 0) (As := [.int p1]) (rest := []) ⟨hx, hb, hml, hown, hts⟩ (m_X7_isUnanswered l dC dI cI cJ aM aMG aML aMW aME aMO mt mc mn mr mb mf mlo mhi mx mg ml mw me mo p1 (show mok mc mr from hm) (mx_02 hi (by assumption))) (cwV 1 hts (gi_V wm_716 wm_717 wm_718 wm_633 wm_719) rfl rfl rfl hd_X7_isUnanswered ⟨Nat.le_of_ble_eq_true rfl, Nat.le_of_ble_eq_true rfl⟩) hK (hP.sub [0, 1, 2, 3, 4, 5] rfl) rfl rfl rfl hl.1 rfl (Nat.le_of_ble_eq_true rfl) dX7_isFault_334 ⟨Nat.zero_le _, Nat.zero_le _⟩ ?_
                              refine lv_if_eq (tgt := 344) hx hb dX7_isFault_337 (by decide) (fun c_14 => ?_) (fun c_14 => ?_)
                              · have hR := hR.trans (if_pos c_14)
                                refine lv_iconst (v := (0 : Int32)) hx hb dX7_isFault_344 (by decide) ?_
                                exact kR (0 : Int32) 345 ls (by first | exact Or.inl rfl | exact Or.inr rfl) hR.symm dX7_isFault_345
                              · have hR := hR.trans (if_neg c_14)
                                refine lv_iconst (v := (1 : Int32)) hx hb dX7_isFault_340 (by decide) ?_
                                refine lv_goto (tgt := 345) hx hb dX7_isFault_341 (by decide) ?_
                                exact kR (1 : Int32) 345 ls (by first | exact Or.inl rfl | exact Or.inr rfl) hR.symm dX7_isFault_345
                          · have hR := hR.trans (if_pos c_12)
                            refine lv_aload_n hx hb dX7_isFault_318 rfl (lv_at hl 2 rfl) ?_
                            refine lv_iload_n hx hb dX7_isFault_319 rfl (lv_at hl 4 rfl) ?_
                            refine lv_iload_n hx hb dX7_isFault_320 rfl (lv_at hl 5 rfl) ?_
                            refine rV_i (q0 := 0) (As := [.int p1, .int p2]) (rest := []) ⟨hx, hb, hml, hown, hts⟩ (m_X7_leapsBadly l dC dI cI cJ aM aMG aML aMW aME aMO mt mc mn mr mb mf mlo mhi mx mg ml mw me mo p1 p2 (show mok mc mr from hm) (show mix1 mr p1 from (mx_01 hi (by assumption)))) (cwV 2 hts (gi_V wm_712 wm_713 wm_714 wm_633 wm_715) rfl rfl rfl hd_X7_leapsBadly ⟨Nat.le_of_ble_eq_true rfl, Nat.le_of_ble_eq_true rfl⟩) hK (hP.sub [0, 1, 2, 3, 4, 5] rfl) rfl rfl rfl hl.1 rfl (Nat.le_of_ble_eq_true rfl) dX7_isFault_321 ⟨Nat.zero_le _, Nat.zero_le _⟩ ?_
                            refine lv_goto (tgt := 345) hx hb dX7_isFault_324 (by decide) ?_
                            exact kR (f_X7_leapsBadly mc mr mf ml p1 p2) 345 ls zb_X7_leapsBadly hR.symm dX7_isFault_345
                        · have hR := hR.trans (if_pos c_11)
                          refine lv_aload_n hx hb dX7_isFault_298 rfl (lv_at hl 2 rfl) ?_
                          refine lv_iload_n hx hb dX7_isFault_299 rfl (lv_at hl 4 rfl) ?_
                          refine rV_i (q0 := 0) (As := [.int p1]) (rest := []) ⟨hx, hb, hml, hown, hts⟩ (m_X7_move l dC dI cI cJ aM aMG aML aMW aME aMO mt mc mn mr mb mf mlo mhi mx mg ml mw me mo p1 (show mok mc mr from hm) (show mix1 mr p1 from (mx_01 hi (by assumption)))) (cwV 1 hts (gi_V wm_680 wm_681 wm_682 wm_633 wm_683) rfl rfl rfl hd_X7_move ⟨Nat.le_of_ble_eq_true rfl, Nat.le_of_ble_eq_true rfl⟩) hK (hP.sub [0, 1, 2, 3, 4, 5] rfl) rfl rfl rfl hl.1 rfl (Nat.le_of_ble_eq_true rfl) dX7_isFault_300 ⟨Nat.zero_le _, Nat.zero_le _⟩ ?_
                          refine lv_if_ne (tgt := 310) hx hb dX7_isFault_303 (by decide) (fun c_15 => ?_) (fun c_15 => ?_)
                          · have hR := hR.trans (if_neg c_15)
                            refine lv_iconst (v := (0 : Int32)) hx hb dX7_isFault_310 (by decide) ?_
                            exact kR (0 : Int32) 311 ls (by first | exact Or.inl rfl | exact Or.inr rfl) hR.symm dX7_isFault_311
                          · have hR := hR.trans (if_pos c_15)
                            refine lv_iconst (v := (1 : Int32)) hx hb dX7_isFault_306 (by decide) ?_
                            refine lv_goto (tgt := 311) hx hb dX7_isFault_307 (by decide) ?_
                            exact kR (1 : Int32) 311 ls (by first | exact Or.inl rfl | exact Or.inr rfl) hR.symm dX7_isFault_311
                      · have hR := hR.trans (if_pos c_10)
                        refine lv_aload_n hx hb dX7_isFault_285 rfl (lv_at hl 2 rfl) ?_
                        refine lv_iload_n hx hb dX7_isFault_286 rfl (lv_at hl 4 rfl) ?_
                        refine lv_iload_n hx hb dX7_isFault_287 rfl (lv_at hl 5 rfl) ?_
                        refine rV_i (q0 := 0) (As := [.int p1, .int p2]) (rest := []) ⟨hx, hb, hml, hown, hts⟩ (m_X7_isHidden l dC dI cI cJ aM aMG aML aMW aME aMO mt mc mn mr mb mf mlo mhi mx mg ml mw me mo p1 p2 (show mok mc mr from hm) (show mix1 mr p1 from (mx_01 hi (by assumption)))) (cwV 2 hts (gi_V wm_708 wm_709 wm_710 wm_633 wm_711) rfl rfl rfl hd_X7_isHidden ⟨Nat.le_of_ble_eq_true rfl, Nat.le_of_ble_eq_true rfl⟩) hK (hP.sub [0, 1, 2, 3, 4, 5] rfl) rfl rfl rfl hl.1 rfl (Nat.le_of_ble_eq_true rfl) dX7_isFault_288 ⟨Nat.zero_le _, Nat.zero_le _⟩ ?_
                        exact kR (f_X7_isHidden mc mr mf mg ml p1 p2) 291 ls zb_X7_isHidden hR.symm dX7_isFault_291
                    · have hR := hR.trans (if_pos c_9)
                      refine lv_aload_n hx hb dX7_isFault_242 rfl (lv_at hl 2 rfl) ?_
                      refine va_get (D := (dC, dI)) (ci := 7) (v := .int mr) (C := RX7) (T := TX7) (N := 14) hx hb hts inC_X7 hown hK hP 0 rfl rfl 5 (by decide) (hts (.fieldLink RX7 16 "CounterpointeryModel" "ratio" "I") (List.mem_cons_of_mem _ wm_624)) (fun _ h9 => h9) rfl dX7_isFault_243 ?_
                      refine lv_iconst (v := (1 : Int32)) hx hb dX7_isFault_246 (by decide) ?_
                      refine lv_icmp_le (tgt := 277) hx hb dX7_isFault_247 (by decide) (fun c_16 => ?_) (fun c_16 => ?_)
                      · have hR := hR.trans (if_pos c_16)
                        refine lv_iconst (v := (0 : Int32)) hx hb dX7_isFault_277 (by decide) ?_
                        exact kR (0 : Int32) 278 ls (by first | exact Or.inl rfl | exact Or.inr rfl) hR.symm dX7_isFault_278
                      · have hR := hR.trans (if_neg c_16)
                        refine lv_aload_n hx hb dX7_isFault_250 rfl (lv_at hl 2 rfl) ?_
                        refine lv_iload_n hx hb dX7_isFault_251 rfl (lv_at hl 4 rfl) ?_
                        refine rV_i (q0 := 0) (As := [.int p1]) (rest := []) ⟨hx, hb, hml, hown, hts⟩ (m_X7_isStrong l dC dI cI cJ aM aMG aML aMW aME aMO mt mc mn mr mb mf mlo mhi mx mg ml mw me mo p1 (show mok mc mr from hm)) (cwV 1 hts (gi_V wm_688 wm_689 wm_690 wm_633 wm_691) rfl rfl rfl hd_X7_isStrong ⟨Nat.le_of_ble_eq_true rfl, Nat.le_of_ble_eq_true rfl⟩) hK (hP.sub [0, 1, 2, 3, 4, 5] rfl) rfl rfl rfl hl.1 rfl (Nat.le_of_ble_eq_true rfl) dX7_isFault_252 ⟨Nat.zero_le _, Nat.zero_le _⟩ ?_
                        refine lv_if_eq (tgt := 277) hx hb dX7_isFault_255 (by decide) (fun c_17 => ?_) (fun c_17 => ?_)
                        · have hR := hR.trans (if_pos c_17)
                          refine lv_iconst (v := (0 : Int32)) hx hb dX7_isFault_277 (by decide) ?_
                          exact kR (0 : Int32) 278 ls (by first | exact Or.inl rfl | exact Or.inr rfl) hR.symm dX7_isFault_278
                        · have hR := hR.trans (if_neg c_17)
                          refine lv_aload_n hx hb dX7_isFault_258 rfl (lv_at hl 2 rfl) ?_
                          refine lv_iload_n hx hb dX7_isFault_259 rfl (lv_at hl 4 rfl) ?_
                          refine lv_iload_n hx hb dX7_isFault_260 rfl (lv_at hl 4 rfl) ?_
                          refine lv_aload_n hx hb dX7_isFault_261 rfl (lv_at hl 2 rfl) ?_
                          refine va_get (D := (dC, dI)) (ci := 7) (v := .int mr) (C := RX7) (T := TX7) (N := 14) hx hb hts inC_X7 hown hK hP 0 rfl rfl 5 (by decide) (hts (.fieldLink RX7 16 "CounterpointeryModel" "ratio" "I") (List.mem_cons_of_mem _ wm_624)) (fun _ h9 => h9) rfl dX7_isFault_262 ?_
                          refine lv_isub hx hb dX7_isFault_265 ?_
                          refine lv_iload_n hx hb dX7_isFault_266 rfl (lv_at hl 5 rfl) ?_
                          refine rV_i (q0 := 0) (As := [.int p1, .int (p1 - mr), .int p2]) (rest := []) ⟨hx, hb, hml, hown, hts⟩ (m_X7_isParallel l dC dI cI cJ aM aMG aML aMW aME aMO mt mc mn mr mb mf mlo mhi mx mg ml mw me mo p1 (p1 - mr) p2 (show mok mc mr from hm) (show mix mr p1 from hi) (mx_str hm hi (by assumption) (by assumption))) (cwV 3 hts (gi_V wm_704 wm_705 wm_706 wm_633 wm_707) rfl rfl rfl hd_X7_isParallel ⟨Nat.le_of_ble_eq_true rfl, Nat.le_of_ble_eq_true rfl⟩) hK (hP.sub [0, 1, 2, 3, 4, 5] rfl) rfl rfl rfl hl.1 rfl (Nat.le_of_ble_eq_true rfl) dX7_isFault_267 ⟨Nat.zero_le _, Nat.zero_le _⟩ ?_
                          refine lv_if_eq (tgt := 277) hx hb dX7_isFault_270 (by decide) (fun c_18 => ?_) (fun c_18 => ?_)
                          · have hR := hR.trans (if_pos c_18)
                            refine lv_iconst (v := (0 : Int32)) hx hb dX7_isFault_277 (by decide) ?_
                            exact kR (0 : Int32) 278 ls (by first | exact Or.inl rfl | exact Or.inr rfl) hR.symm dX7_isFault_278
                          · have hR := hR.trans (if_neg c_18)
                            refine lv_iconst (v := (1 : Int32)) hx hb dX7_isFault_273 (by decide) ?_
                            refine lv_goto (tgt := 278) hx hb dX7_isFault_274 (by decide) ?_
                            exact kR (1 : Int32) 278 ls (by first | exact Or.inl rfl | exact Or.inr rfl) hR.symm dX7_isFault_278
                  · have hR := hR.trans (if_pos c_8)
                    refine lv_aload_n hx hb dX7_isFault_227 rfl (lv_at hl 2 rfl) ?_
                    refine lv_iload_n hx hb dX7_isFault_228 rfl (lv_at hl 4 rfl) ?_
                    refine lv_iload_n hx hb dX7_isFault_229 rfl (lv_at hl 4 rfl) ?_
                    refine lv_iconst (v := (1 : Int32)) hx hb dX7_isFault_230 (by decide) ?_
                    refine lv_isub hx hb dX7_isFault_231 ?_
                    refine lv_iload_n hx hb dX7_isFault_232 rfl (lv_at hl 5 rfl) ?_
                    refine rV_i (q0 := 0) (As := [.int p1, .int (p1 - (1 : Int32)), .int p2]) (rest := []) ⟨hx, hb, hml, hown, hts⟩ (m_X7_isParallel l dC dI cI cJ aM aMG aML aMW aME aMO mt mc mn mr mb mf mlo mhi mx mg ml mw me mo p1 (p1 - (1 : Int32)) p2 (show mok mc mr from hm) (show mix mr p1 from hi) (mx_1p hm (mx_01 hi (by assumption)))) (cwV 3 hts (gi_V wm_704 wm_705 wm_706 wm_633 wm_707) rfl rfl rfl hd_X7_isParallel ⟨Nat.le_of_ble_eq_true rfl, Nat.le_of_ble_eq_true rfl⟩) hK (hP.sub [0, 1, 2, 3, 4, 5] rfl) rfl rfl rfl hl.1 rfl (Nat.le_of_ble_eq_true rfl) dX7_isFault_233 ⟨Nat.zero_le _, Nat.zero_le _⟩ ?_
                    exact kR (f_X7_isParallel mc mr mf mg ml p1 (p1 - (1 : Int32)) p2) 236 ls zb_X7_isParallel hR.symm dX7_isFault_236
                · have hR := hR.trans (if_pos c_7)
                  refine lv_aload_n hx hb dX7_isFault_215 rfl (lv_at hl 2 rfl) ?_
                  refine lv_iload_n hx hb dX7_isFault_216 rfl (lv_at hl 4 rfl) ?_
                  refine lv_iload_n hx hb dX7_isFault_217 rfl (lv_at hl 5 rfl) ?_
                  refine rV_i (q0 := 0) (As := [.int p1, .int p2]) (rest := []) ⟨hx, hb, hml, hown, hts⟩ (m_X7_passesBadly l dC dI cI cJ aM aMG aML aMW aME aMO mt mc mn mr mb mf mlo mhi mx mg ml mw me mo p1 p2 (show mok mc mr from hm) (show mix mr p1 from hi)) (cwV 2 hts (gi_V wm_700 wm_701 wm_702 wm_633 wm_703) rfl rfl rfl hd_X7_passesBadly ⟨Nat.le_of_ble_eq_true rfl, Nat.le_of_ble_eq_true rfl⟩) hK (hP.sub [0, 1, 2, 3, 4, 5] rfl) rfl rfl rfl hl.1 rfl (Nat.le_of_ble_eq_true rfl) dX7_isFault_218 ⟨Nat.zero_le _, Nat.zero_le _⟩ ?_
                  exact kR (f_X7_passesBadly mc mr mf mg ml p1 p2) 221 ls zb_X7_passesBadly hR.symm dX7_isFault_221
              · have hR := hR.trans (if_pos c_6)
                refine lv_iconst (v := (0 : Int32)) hx hb dX7_isFault_208 (by decide) ?_
                exact kR (0 : Int32) 209 ls (by first | exact Or.inl rfl | exact Or.inr rfl) hR.symm dX7_isFault_209
            · have hR := hR.trans (if_pos c_5)
              refine lv_iload_n hx hb dX7_isFault_178 rfl (lv_at hl 4 rfl) ?_
              refine lv_if_le (tgt := 202) hx hb dX7_isFault_179 (by decide) (fun c_19 => ?_) (fun c_19 => ?_)
              · have hR := hR.trans (if_pos c_19)
                refine lv_iconst (v := (0 : Int32)) hx hb dX7_isFault_202 (by decide) ?_
                exact kR (0 : Int32) 203 ls (by first | exact Or.inl rfl | exact Or.inr rfl) hR.symm dX7_isFault_203
              · have hR := hR.trans (if_neg c_19)
                refine lv_iload hx hb dX7_isFault_182 (lv_at hl 1 rfl) ?_
                refine lv_if_ne (tgt := 202) hx hb dX7_isFault_184 (by decide) (fun c_20 => ?_) (fun c_20 => ?_)
                · have hR := hR.trans (if_neg c_20)
                  refine lv_iconst (v := (0 : Int32)) hx hb dX7_isFault_202 (by decide) ?_
                  exact kR (0 : Int32) 203 ls (by first | exact Or.inl rfl | exact Or.inr rfl) hR.symm dX7_isFault_203
                · have hR := hR.trans (if_pos c_20)
                  refine lv_aload_n hx hb dX7_isFault_187 rfl (lv_at hl 2 rfl) ?_
                  refine va_get (D := (dC, dI)) (ci := 7) (v := .ref aML) (C := RX7) (T := TX7) (N := 14) hx hb hts inC_X7 hown hK hP 0 rfl rfl 3 (by decide) (hts (.fieldLink RX7 13 "CounterpointeryModel" "line" "[I") (List.mem_cons_of_mem _ wm_623)) (fun _ h9 => h9) rfl dX7_isFault_188 ?_
                  refine lv_iload_n hx hb dX7_isFault_191 rfl (lv_at hl 4 rfl) ?_
                  refine va_iald (D := (dC, dI)) hx hb hK hP 2 0 rfl rfl (mx_in hm hi) dX7_isFault_192 ?_
                  refine lv_iload hx hb dX7_isFault_193 (lv_at hl 0 rfl) ?_
                  refine lv_icmp_ne (tgt := 202) hx hb dX7_isFault_195 (by decide) (fun c_21 => ?_) (fun c_21 => ?_)
                  · have hR := hR.trans (if_neg c_21)
                    refine lv_iconst (v := (0 : Int32)) hx hb dX7_isFault_202 (by decide) ?_
                    exact kR (0 : Int32) 203 ls (by first | exact Or.inl rfl | exact Or.inr rfl) hR.symm dX7_isFault_203
                  · have hR := hR.trans (if_pos c_21)
                    refine lv_iconst (v := (1 : Int32)) hx hb dX7_isFault_198 (by decide) ?_
                    refine lv_goto (tgt := 203) hx hb dX7_isFault_199 (by decide) ?_
                    exact kR (1 : Int32) 203 ls (by first | exact Or.inl rfl | exact Or.inr rfl) hR.symm dX7_isFault_203
          · have hR := hR.trans (if_pos c_4)
            refine lv_aload_n hx hb dX7_isFault_129 rfl (lv_at hl 2 rfl) ?_
            refine va_get (D := (dC, dI)) (ci := 7) (v := .int mb) (C := RX7) (T := TX7) (N := 14) hx hb hts inC_X7 hown hK hP 0 rfl rfl 6 (by decide) (hts (.fieldLink RX7 104 "CounterpointeryModel" "isLower" "Z") (List.mem_cons_of_mem _ wm_695)) (fun _ h9 => h9) rfl dX7_isFault_130 ?_
            refine lv_if_eq (tgt := 155) hx hb dX7_isFault_133 (by decide) (fun c_22 => ?_) (fun c_22 => ?_)
            · have hR := hR.trans (if_pos c_22)
              refine lv_aload_n hx hb dX7_isFault_155 rfl (lv_at hl 2 rfl) ?_
              refine va_get (D := (dC, dI)) (ci := 7) (v := .ref aML) (C := RX7) (T := TX7) (N := 14) hx hb hts inC_X7 hown hK hP 0 rfl rfl 3 (by decide) (hts (.fieldLink RX7 13 "CounterpointeryModel" "line" "[I") (List.mem_cons_of_mem _ wm_623)) (fun _ h9 => h9) rfl dX7_isFault_156 ?_
              refine lv_iload_n hx hb dX7_isFault_159 rfl (lv_at hl 4 rfl) ?_
              refine va_iald (D := (dC, dI)) hx hb hK hP 2 0 rfl rfl (mx_in hm hi) dX7_isFault_160 ?_
              refine lv_iload hx hb dX7_isFault_161 (lv_at hl 0 rfl) ?_
              refine lv_icmp_ge (tgt := 170) hx hb dX7_isFault_163 (by decide) (fun c_23 => ?_) (fun c_23 => ?_)
              · have hR := hR.trans (if_pos c_23)
                refine lv_iconst (v := (0 : Int32)) hx hb dX7_isFault_170 (by decide) ?_
                exact kR (0 : Int32) 171 ls (by first | exact Or.inl rfl | exact Or.inr rfl) hR.symm dX7_isFault_171
              · have hR := hR.trans (if_neg c_23)
                refine lv_iconst (v := (1 : Int32)) hx hb dX7_isFault_166 (by decide) ?_
                refine lv_goto (tgt := 171) hx hb dX7_isFault_167 (by decide) ?_
                exact kR (1 : Int32) 171 ls (by first | exact Or.inl rfl | exact Or.inr rfl) hR.symm dX7_isFault_171
            · have hR := hR.trans (if_neg c_22)
              refine lv_aload_n hx hb dX7_isFault_136 rfl (lv_at hl 2 rfl) ?_
              refine va_get (D := (dC, dI)) (ci := 7) (v := .ref aML) (C := RX7) (T := TX7) (N := 14) hx hb hts inC_X7 hown hK hP 0 rfl rfl 3 (by decide) (hts (.fieldLink RX7 13 "CounterpointeryModel" "line" "[I") (List.mem_cons_of_mem _ wm_623)) (fun _ h9 => h9) rfl dX7_isFault_137 ?_
              refine lv_iload_n hx hb dX7_isFault_140 rfl (lv_at hl 4 rfl) ?_
              refine va_iald (D := (dC, dI)) hx hb hK hP 2 0 rfl rfl (mx_in hm hi) dX7_isFault_141 ?_
              refine lv_iload hx hb dX7_isFault_142 (lv_at hl 0 rfl) ?_
              refine lv_icmp_le (tgt := 151) hx hb dX7_isFault_144 (by decide) (fun c_24 => ?_) (fun c_24 => ?_)
              · have hR := hR.trans (if_pos c_24)
                refine lv_iconst (v := (0 : Int32)) hx hb dX7_isFault_151 (by decide) ?_
                refine lv_goto (tgt := 171) hx hb dX7_isFault_152 (by decide) ?_
                exact kR (0 : Int32) 171 ls (by first | exact Or.inl rfl | exact Or.inr rfl) hR.symm dX7_isFault_171
              · have hR := hR.trans (if_neg c_24)
                refine lv_iconst (v := (1 : Int32)) hx hb dX7_isFault_147 (by decide) ?_
                refine lv_goto (tgt := 171) hx hb dX7_isFault_148 (by decide) ?_
                exact kR (1 : Int32) 171 ls (by first | exact Or.inl rfl | exact Or.inr rfl) hR.symm dX7_isFault_171
        · have hR := hR.trans (if_pos c_3)
          refine lv_aload_n hx hb dX7_isFault_99 rfl (lv_at hl 2 rfl) ?_
          refine lv_iload_n hx hb dX7_isFault_100 rfl (lv_at hl 4 rfl) ?_
          refine rV_i (q0 := 0) (As := [.int p1]) (rest := []) ⟨hx, hb, hml, hown, hts⟩ (m_X7_isStrong l dC dI cI cJ aM aMG aML aMW aME aMO mt mc mn mr mb mf mlo mhi mx mg ml mw me mo p1 (show mok mc mr from hm)) (cwV 1 hts (gi_V wm_688 wm_689 wm_690 wm_633 wm_691) rfl rfl rfl hd_X7_isStrong ⟨Nat.le_of_ble_eq_true rfl, Nat.le_of_ble_eq_true rfl⟩) hK (hP.sub [0, 1, 2, 3, 4, 5] rfl) rfl rfl rfl hl.1 rfl (Nat.le_of_ble_eq_true rfl) dX7_isFault_101 ⟨Nat.zero_le _, Nat.zero_le _⟩ ?_
          refine lv_if_eq (tgt := 121) hx hb dX7_isFault_104 (by decide) (fun c_25 => ?_) (fun c_25 => ?_)
          · have hR := hR.trans (if_pos c_25)
            refine lv_iconst (v := (0 : Int32)) hx hb dX7_isFault_121 (by decide) ?_
            exact kR (0 : Int32) 122 ls (by first | exact Or.inl rfl | exact Or.inr rfl) hR.symm dX7_isFault_122
          · have hR := hR.trans (if_neg c_25)
            refine lv_aload_n hx hb dX7_isFault_107 rfl (lv_at hl 2 rfl) ?_
            refine lv_iload_n hx hb dX7_isFault_108 rfl (lv_at hl 4 rfl) ?_
            refine lv_iload_n hx hb dX7_isFault_109 rfl (lv_at hl 5 rfl) ?_
            refine rV_i (q0 := 0) (As := [.int p1, .int p2]) (rest := []) ⟨hx, hb, hml, hown, hts⟩ (m_X7_kindAt l dC dI cI cJ aM aMG aML aMW aME aMO mt mc mn mr mb mf mlo mhi mx mg ml mw me mo p1 p2 (show mok mc mr from hm) (show mix mr p1 from hi)) (cwV 2 hts (gi_V wm_676 wm_677 wm_678 wm_633 wm_679) rfl rfl rfl hd_X7_kindAt ⟨Nat.le_of_ble_eq_true rfl, Nat.le_of_ble_eq_true rfl⟩) hK (hP.sub [0, 1, 2, 3, 4, 5] rfl) rfl rfl rfl hl.1 rfl (Nat.le_of_ble_eq_true rfl) dX7_isFault_110 ⟨Nat.zero_le _, Nat.zero_le _⟩ ?_
            refine lv_iconst (v := (3 : Int32)) hx hb dX7_isFault_113 (by decide) ?_
            refine lv_icmp_ne (tgt := 121) hx hb dX7_isFault_114 (by decide) (fun c_26 => ?_) (fun c_26 => ?_)
            · have hR := hR.trans (if_neg c_26)
              refine lv_iconst (v := (0 : Int32)) hx hb dX7_isFault_121 (by decide) ?_
              exact kR (0 : Int32) 122 ls (by first | exact Or.inl rfl | exact Or.inr rfl) hR.symm dX7_isFault_122
            · have hR := hR.trans (if_pos c_26)
              refine lv_iconst (v := (1 : Int32)) hx hb dX7_isFault_117 (by decide) ?_
              refine lv_goto (tgt := 122) hx hb dX7_isFault_118 (by decide) ?_
              exact kR (1 : Int32) 122 ls (by first | exact Or.inl rfl | exact Or.inr rfl) hR.symm dX7_isFault_122
      · have hR := hR.trans (if_pos c_2)
        refine lv_iload hx hb dX7_isFault_74 (lv_at hl 1 rfl) ?_
        refine lv_if_eq (tgt := 92) hx hb dX7_isFault_76 (by decide) (fun c_27 => ?_) (fun c_27 => ?_)
        · have hR := hR.trans (if_pos c_27)
          refine lv_iconst (v := (0 : Int32)) hx hb dX7_isFault_92 (by decide) ?_
          exact kR (0 : Int32) 93 ls (by first | exact Or.inl rfl | exact Or.inr rfl) hR.symm dX7_isFault_93
        · have hR := hR.trans (if_neg c_27)
          refine lv_aload_n hx hb dX7_isFault_79 rfl (lv_at hl 2 rfl) ?_
          refine lv_iload_n hx hb dX7_isFault_80 rfl (lv_at hl 4 rfl) ?_
          refine lv_iload_n hx hb dX7_isFault_81 rfl (lv_at hl 5 rfl) ?_
          refine rV_i (q0 := 0) (As := [.int p1, .int p2]) (rest := []) ⟨hx, hb, hml, hown, hts⟩ (m_X7_endsBadly l dC dI cI cJ aM aMG aML aMW aME aMO mt mc mn mr mb mf mlo mhi mx mg ml mw me mo p1 p2 (show mok mc mr from hm) (show mix mr p1 from hi)) (cwV 2 hts (gi_V wm_696 wm_697 wm_698 wm_633 wm_699) rfl rfl rfl hd_X7_endsBadly ⟨Nat.le_of_ble_eq_true rfl, Nat.le_of_ble_eq_true rfl⟩) hK (hP.sub [0, 1, 2, 3, 4, 5] rfl) rfl rfl rfl hl.1 rfl (Nat.le_of_ble_eq_true rfl) dX7_isFault_82 ⟨Nat.zero_le _, Nat.zero_le _⟩ ?_
          refine lv_if_eq (tgt := 92) hx hb dX7_isFault_85 (by decide) (fun c_28 => ?_) (fun c_28 => ?_)
          · have hR := hR.trans (if_pos c_28)
            refine lv_iconst (v := (0 : Int32)) hx hb dX7_isFault_92 (by decide) ?_
            exact kR (0 : Int32) 93 ls (by first | exact Or.inl rfl | exact Or.inr rfl) hR.symm dX7_isFault_93
          · have hR := hR.trans (if_neg c_28)
            refine lv_iconst (v := (1 : Int32)) hx hb dX7_isFault_88 (by decide) ?_
            refine lv_goto (tgt := 93) hx hb dX7_isFault_89 (by decide) ?_
            exact kR (1 : Int32) 93 ls (by first | exact Or.inl rfl | exact Or.inr rfl) hR.symm dX7_isFault_93
    · have hR := hR.trans (if_pos c_1)
      refine lv_iload_n hx hb dX7_isFault_28 rfl (lv_at hl 4 rfl) ?_
      refine lv_if_ne (tgt := 67) hx hb dX7_isFault_29 (by decide) (fun c_29 => ?_) (fun c_29 => ?_)
      · have hR := hR.trans (if_neg c_29)
        refine lv_iconst (v := (0 : Int32)) hx hb dX7_isFault_67 (by decide) ?_
        exact kR (0 : Int32) 68 ls (by first | exact Or.inl rfl | exact Or.inr rfl) hR.symm dX7_isFault_68
      · have hR := hR.trans (if_pos c_29)
        refine lv_aload_n hx hb dX7_isFault_32 rfl (lv_at hl 2 rfl) ?_
        refine lv_iconst (v := (0 : Int32)) hx hb dX7_isFault_33 (by decide) ?_
        refine lv_iload_n hx hb dX7_isFault_34 rfl (lv_at hl 5 rfl) ?_
        refine rV_i (q0 := 0) (As := [.int (0 : Int32), .int p2]) (rest := []) ⟨hx, hb, hml, hown, hts⟩ (m_X7_kindAt l dC dI cI cJ aM aMG aML aMW aME aMO mt mc mn mr mb mf mlo mhi mx mg ml mw me mo (0 : Int32) p2 (show mok mc mr from hm) (mx_0 hm)) (cwV 2 hts (gi_V wm_676 wm_677 wm_678 wm_633 wm_679) rfl rfl rfl hd_X7_kindAt ⟨Nat.le_of_ble_eq_true rfl, Nat.le_of_ble_eq_true rfl⟩) hK (hP.sub [0, 1, 2, 3, 4, 5] rfl) rfl rfl rfl hl.1 rfl (Nat.le_of_ble_eq_true rfl) dX7_isFault_35 ⟨Nat.zero_le _, Nat.zero_le _⟩ ?_
        refine lv_iconst (v := (1 : Int32)) hx hb dX7_isFault_38 (by decide) ?_
        refine lv_icmp_gt (tgt := 63) hx hb dX7_isFault_39 (by decide) (fun c_30 => ?_) (fun c_30 => ?_)
        · have hR := hR.trans (if_pos c_30)
          refine lv_iconst (v := (1 : Int32)) hx hb dX7_isFault_63 (by decide) ?_
          refine lv_goto (tgt := 68) hx hb dX7_isFault_64 (by decide) ?_
          exact kR (1 : Int32) 68 ls (by first | exact Or.inl rfl | exact Or.inr rfl) hR.symm dX7_isFault_68
        · have hR := hR.trans (if_neg c_30)
          refine lv_aload_n hx hb dX7_isFault_42 rfl (lv_at hl 2 rfl) ?_
          refine lv_iconst (v := (0 : Int32)) hx hb dX7_isFault_43 (by decide) ?_
          refine lv_iload_n hx hb dX7_isFault_44 rfl (lv_at hl 5 rfl) ?_
          refine rV_i (q0 := 0) (As := [.int (0 : Int32), .int p2]) (rest := []) ⟨hx, hb, hml, hown, hts⟩ (m_X7_kindAt l dC dI cI cJ aM aMG aML aMW aME aMO mt mc mn mr mb mf mlo mhi mx mg ml mw me mo (0 : Int32) p2 (show mok mc mr from hm) (mx_0 hm)) (cwV 2 hts (gi_V wm_676 wm_677 wm_678 wm_633 wm_679) rfl rfl rfl hd_X7_kindAt ⟨Nat.le_of_ble_eq_true rfl, Nat.le_of_ble_eq_true rfl⟩) hK (hP.sub [0, 1, 2, 3, 4, 5] rfl) rfl rfl rfl hl.1 rfl (Nat.le_of_ble_eq_true rfl) dX7_isFault_45 ⟨Nat.zero_le _, Nat.zero_le _⟩ ?_
          refine lv_iconst (v := (1 : Int32)) hx hb dX7_isFault_48 (by decide) ?_
          refine lv_icmp_ne (tgt := 67) hx hb dX7_isFault_49 (by decide) (fun c_31 => ?_) (fun c_31 => ?_)
          · have hR := hR.trans (if_neg c_31)
            refine lv_iconst (v := (0 : Int32)) hx hb dX7_isFault_67 (by decide) ?_
            exact kR (0 : Int32) 68 ls (by first | exact Or.inl rfl | exact Or.inr rfl) hR.symm dX7_isFault_68
          · have hR := hR.trans (if_pos c_31)
            refine lv_aload_n hx hb dX7_isFault_52 rfl (lv_at hl 2 rfl) ?_
            refine va_get (D := (dC, dI)) (ci := 7) (v := .ref aML) (C := RX7) (T := TX7) (N := 14) hx hb hts inC_X7 hown hK hP 0 rfl rfl 3 (by decide) (hts (.fieldLink RX7 13 "CounterpointeryModel" "line" "[I") (List.mem_cons_of_mem _ wm_623)) (fun _ h9 => h9) rfl dX7_isFault_53 ?_
            refine lv_iconst (v := (0 : Int32)) hx hb dX7_isFault_56 (by decide) ?_
            refine va_iald (D := (dC, dI)) hx hb hK hP 2 0 rfl rfl ((by unfold vp_in; decide : vp_in (0 : Int32) 53)) dX7_isFault_57 ?_
            refine lv_iload hx hb dX7_isFault_58 (lv_at hl 0 rfl) ?_
            refine lv_icmp_ge (tgt := 67) hx hb dX7_isFault_60 (by decide) (fun c_32 => ?_) (fun c_32 => ?_)
            · have hR := hR.trans (if_pos c_32)
              refine lv_iconst (v := (0 : Int32)) hx hb dX7_isFault_67 (by decide) ?_
              exact kR (0 : Int32) 68 ls (by first | exact Or.inl rfl | exact Or.inr rfl) hR.symm dX7_isFault_68
            · have hR := hR.trans (if_neg c_32)
              refine lv_iconst (v := (1 : Int32)) hx hb dX7_isFault_63 (by decide) ?_
              refine lv_goto (tgt := 68) hx hb dX7_isFault_64 (by decide) ?_
              exact kR (1 : Int32) 68 ls (by first | exact Or.inl rfl | exact Or.inr rfl) hR.symm dX7_isFault_68
  refine lv_icmp_ne (tgt := 14) hx hb dX7_isFault_7 (by decide) (fun c_33 => ?_) (fun c_33 => ?_)
  · have hR := hR.trans (if_neg c_33)
    refine lv_iconst (v := (0 : Int32)) hx hb dX7_isFault_14 (by decide) ?_
    exact J15 (0 : Int32) ls (lv_sub hl [0, 1, 2, 3] rfl) (by first | exact Or.inl rfl | exact Or.inr rfl) hR
  · have hR := hR.trans (if_pos c_33)
    refine lv_iconst (v := (1 : Int32)) hx hb dX7_isFault_10 (by decide) ?_
    refine lv_goto (tgt := 15) hx hb dX7_isFault_11 (by decide) ?_
    exact J15 (1 : Int32) ls (lv_sub hl [0, 1, 2, 3] rfl) (by first | exact Or.inl rfl | exact Or.inr rfl) hR
set_option maxHeartbeats 4000000 in
set_option maxRecDepth 100000 in
theorem m_X7_isFault (l : Launch) (dC : Nat → ClassId) (dI : Nat → Nat → Nat) (cI cJ : ClassId) (aM : Nat) (aMG : Nat) (aML : Nat) (aMW : Nat) (aME : Nat) (aMO : Nat) (mt : Int32) (mc : Int32) (mn : Int32) (mr : Int32) (mb : Int32) (mf : Int32) (mlo : Int32) (mhi : Int32) (mx : Int32) (mg : Nat → Int32) (ml : Nat → Int32) (mw : Nat → Int32) (me : Nat → Int32) (mo : Nat → Int64) (p0 : Int32) (p1 : Int32) (p2 : Int32) (hm : mok mc mr) (hi : mix mr p1) : Met l yX7_isFault wsX7_isFault rm_X7_isFault (va_Pc [.ref aM, .int p0, .int p1, .int p2] (fun U => va_P (dC, dI) vwCl [(aM, .inr (7, [.int mt, .ref aMG, .int mc, .ref aML, .int mn, .int mr, .int mb, .int mf, .int mlo, .int mhi, .ref aMW, .ref aME, .ref aMO, .int mx])), (aMG, .inl (cI, 14, .inl mg)), (aML, .inl (cI, 53, .inl ml)), (aMW, .inl (cI, 12, .inl mw)), (aME, .inl (cI, 2700, .inl me)), (aMO, .inl (cJ, 2700, .inr (.inl mo)))] U.heap ∧ va_K (dC, dI) vwCl [(cI, .int), (cJ, .long)] U)) (vp_Si (fun r => r = f_X7_isFault mc mr mb mf mg ml p0 p1 p2)) 0 0 (fun _ => False) := by
  refine Met.ofW (cc := cX7_isFault) (maxL := 6) (ret := (some .boolean)) (by decide) rfl ?_
  intro p e s m args below meth c s₁ B hml hv
  obtain ⟨rfl, hP, hK⟩ := hv
  have hl := lv_entry ([.ref aM, .int p0, .int p1, .int p2]) (n := 6) (Nat.le_of_ble_eq_true rfl)
  rw [lg_entry_eq]
  refine w_X7_isFault hm hi B.exec B.bytes hml (findClass_of_methodNamed B.named) (atoms_spec (ws := wsX7_isFault) B.pre) hK hP rfl (fun r pc ls hz er hd => ?_) _ hl
  exact W.zret B.exec B.bytes B.returns (zb_n hz) (fun t ht hW => ⟨r, rfl, er, ht⟩) (fun _ h => by cases h) hd B.notSynchronized
end
