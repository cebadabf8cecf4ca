def f_X5_isNote (p0 : Int32) : Int32 :=
  (if p0 < 0 then (0 : Int32) else (if (28 : Int32) ≤ p0 then (0 : Int32) else (1 : Int32)))
theorem e_X5_isNote {p0 : Int32} : f_X5_isNote p0 = (if p0 < 0 then (0 : Int32) else (if (28 : Int32) ≤ p0 then (0 : Int32) else (1 : Int32))) := rfl
section
variable {p : Program} {l : Launch} {e : Env} {s : State} {m : MethodId} {args : Array Value} {below : List Frame} {meth : Method} {c : Code} {Q : State → Prop} {H : Heap} {locs : List Loc} {dC : Nat → ClassId} {dI : Nat → Nat → Nat} {cI cJ : ClassId}
abbrev rm_X5_isNote : Room := { frames := 0, cells := 0, slots := 0, locals := 0 }
theorem hd_X5_isNote : yX5_isNote.cls ≠ "java/lang/invoke/MethodHandle" ∧ yX5_isNote.cls ≠ "java/lang/invoke/VarHandle" ∧ (parseMethodDescriptor yX5_isNote.desc).map (fun d => d.parameters.length) = some 1 := by decide +kernel
set_option maxHeartbeats 4000000 in
set_option maxRecDepth 100000 in
theorem w_X5_isNote {p0 : Int32} {F : Int32} (hx : p.tables.exec = Jvm.exec) (hb : c.code = cX5_isNote) (hml : c.maxLocals = 1) (hown : s.vm.findClass RX5 = some m.cls) (hts : ∀ w ∈ wsX5_isNote, w.before args s = true) (hK : va_K (dC, dI) vwCl [(cI, .int), (cJ, .long)] s) (hP : va_P (dC, dI) vwCl [] H) (hR : F = f_X5_isNote p0) (kR : ∀ (r : Int32) (pc : Nat) (ls : Array Slot), zb r → r = F → decode cX5_isNote pc = .ok (.ireturn, 1) → W p l e rm_X5_isNote s m args below meth c H locs 0 0 Q (F0 m pc ls [.int r])) (ls : Array Slot) (hl : lv_has ls 1 [(0, .int p0)]) : W p l e rm_X5_isNote s m args below meth c H locs 0 0 Q (F0 m 0 ls []) := by
  have hR := hR.trans e_X5_isNote
  refine lv_iload_n hx hb dX5_isNote_0 rfl (lv_at hl 0 rfl) ?_
  refine lv_if_lt (tgt := 14) hx hb dX5_isNote_1 (by decide) (fun c_1 => ?_) (fun c_1 => ?_)
  · have hR := hR.trans (if_pos c_1)
    refine lv_iconst (v := (0 : Int32)) hx hb dX5_isNote_14 (by decide) ?_
    exact kR (0 : Int32) 15 ls (by first | exact Or.inl rfl | exact Or.inr rfl) hR.symm dX5_isNote_15
  · have hR := hR.trans (if_neg c_1)
    refine lv_iload_n hx hb dX5_isNote_4 rfl (lv_at hl 0 rfl) ?_
    refine lv_bipush (v := (28 : Int32)) hx hb dX5_isNote_5 (by decide) ?_
    refine lv_icmp_ge (tgt := 14) hx hb dX5_isNote_7 (by decide) (fun c_2 => ?_) (fun c_2 => ?_)
    · have hR := hR.trans (if_pos c_2)
      refine lv_iconst (v := (0 : Int32)) hx hb dX5_isNote_14 (by decide) ?_
      exact kR (0 : Int32) 15 ls (by first | exact Or.inl rfl | exact Or.inr rfl) hR.symm dX5_isNote_15
    · have hR := hR.trans (if_neg c_2)
      refine lv_iconst (v := (1 : Int32)) hx hb dX5_isNote_10 (by decide) ?_
      refine lv_goto (tgt := 15) hx hb dX5_isNote_11 (by decide) ?_
      exact kR (1 : Int32) 15 ls (by first | exact Or.inl rfl | exact Or.inr rfl) hR.symm dX5_isNote_15
set_option maxHeartbeats 4000000 in
set_option maxRecDepth 100000 in
theorem m_X5_isNote (l : Launch) (dC : Nat → ClassId) (dI : Nat → Nat → Nat) (cI cJ : ClassId) (p0 : Int32) : Met l yX5_isNote wsX5_isNote rm_X5_isNote (va_Pc [.int p0] (fun U => va_P (dC, dI) vwCl [] U.heap ∧ va_K (dC, dI) vwCl [(cI, .int), (cJ, .long)] U)) (vp_Si (fun r => r = f_X5_isNote p0)) 0 0 (fun _ => False) := by
  refine Met.ofW (cc := cX5_isNote) (maxL := 1) (ret := (some .boolean)) (by decide) rfl ?_
  intro p e s m args below meth c s₁ B hml hv
  obtain ⟨rfl, hP, hK⟩ := hv
  have hl := lv_entry ([.int p0]) (n := 1) (Nat.le_of_ble_eq_true rfl)
  rw [lg_entry_eq]
  refine w_X5_isNote B.exec B.bytes hml (findClass_of_methodNamed B.named) (atoms_spec (ws := wsX5_isNote) B.pre) hK hP rfl (fun r pc ls hz er hd => ?_) _ hl
  exact W.zret B.exec B.bytes B.returns (zb_n hz) (fun t ht hW => ⟨r, rfl, er, ht⟩) (fun _ h => by cases h) hd B.notSynchronized
end
def f_X5_heightOf_j12 (p0 : Int32) (v1 : Int32) : Int32 :=
  (if v1 < (3 : Int32) then ((((12 : Int32) * (idiv (p0 - v1) (7 : Int32))) + ((2 : Int32) * v1)) - (0 : Int32)) else ((((12 : Int32) * (idiv (p0 - v1) (7 : Int32))) + ((2 : Int32) * v1)) - (1 : Int32)))
theorem e_X5_heightOf_j12 {p0 : Int32} {v1 : Int32} : f_X5_heightOf_j12 p0 v1 = (if v1 < (3 : Int32) then ((((12 : Int32) * (idiv (p0 - v1) (7 : Int32))) + ((2 : Int32) * v1)) - (0 : Int32)) else ((((12 : Int32) * (idiv (p0 - v1) (7 : Int32))) + ((2 : Int32) * v1)) - (1 : Int32))) := rfl
def f_X5_heightOf (p0 : Int32) : Int32 :=
  (if 0 ≤ (irem p0 (7 : Int32)) then f_X5_heightOf_j12 p0 (irem p0 (7 : Int32)) else f_X5_heightOf_j12 p0 ((irem p0 (7 : Int32)) + (7 : Int32)))
theorem e_X5_heightOf {p0 : Int32} : f_X5_heightOf p0 = (if 0 ≤ (irem p0 (7 : Int32)) then f_X5_heightOf_j12 p0 (irem p0 (7 : Int32)) else f_X5_heightOf_j12 p0 ((irem p0 (7 : Int32)) + (7 : Int32))) := rfl
section
variable {p : Program} {l : Launch} {e : Env} {s : State} {m : MethodId} {args : Array Value} {below : List Frame} {meth : Method} {c : Code} {Q : State → Prop} {H : Heap} {locs : List Loc} {dC : Nat → ClassId} {dI : Nat → Nat → Nat} {cI cJ : ClassId}
abbrev rm_X5_heightOf : Room := { frames := 0, cells := 0, slots := 0, locals := 0 }
theorem hd_X5_heightOf : yX5_heightOf.cls ≠ "java/lang/invoke/MethodHandle" ∧ yX5_heightOf.cls ≠ "java/lang/invoke/VarHandle" ∧ (parseMethodDescriptor yX5_heightOf.desc).map (fun d => d.parameters.length) = some 1 := by decide +kernel
set_option maxHeartbeats 4000000 in
set_option maxRecDepth 100000 in
theorem w_X5_heightOf {p0 : Int32} {F : Int32} (hx : p.tables.exec = Jvm.exec) (hb : c.code = cX5_heightOf) (hml : c.maxLocals = 3) (hown : s.vm.findClass RX5 = some m.cls) (hts : ∀ w ∈ wsX5_heightOf, w.before args s = true) (hK : va_K (dC, dI) vwCl [(cI, .int), (cJ, .long)] s) (hP : va_P (dC, dI) vwCl [] H) (hR : F = f_X5_heightOf p0) (kR : ∀ (r : Int32) (pc : Nat) (ls : Array Slot), r = F → decode cX5_heightOf pc = .ok (.ireturn, 1) → W p l e rm_X5_heightOf s m args below meth c H locs 0 0 Q (F0 m pc ls [.int r])) (ls : Array Slot) (hl : lv_has ls 3 [(0, .int p0)]) : W p l e rm_X5_heightOf s m args below meth c H locs 0 0 Q (F0 m 0 ls []) := by
  have hR := hR.trans e_X5_heightOf
  refine lv_iload_n hx hb dX5_heightOf_0 rfl (lv_at hl 0 rfl) ?_
  refine lv_bipush (v := (7 : Int32)) hx hb dX5_heightOf_1 (by decide) ?_
  refine w_irem hx hb dX5_heightOf_3 (by decide) ?_
  refine lv_istore_n (lv' := [(1, .int (irem p0 (7 : Int32))), (0, .int p0)]) hx hb dX5_heightOf_4 rfl hl (by decide) rfl (fun ls hl => ?_)
  refine lv_iload_n hx hb dX5_heightOf_5 rfl (lv_at hl 0 rfl) ?_
  have J12 : ∀ (v1 : Int32) (ls : Array Slot), lv_has ls 3 [(0, .int p0), (1, .int v1)] → F = f_X5_heightOf_j12 p0 v1 → W p l e rm_X5_heightOf s m args below meth c H locs 0 0 Q (F0 m 12 ls []) := by
    intro v1 ls hl hR
    have hR := hR.trans e_X5_heightOf_j12
    refine lv_iload_n hx hb dX5_heightOf_12 rfl (lv_at hl 0 rfl) ?_
    refine lv_iload_n hx hb dX5_heightOf_13 rfl (lv_at hl 1 rfl) ?_
    refine lv_isub hx hb dX5_heightOf_14 ?_
    refine lv_bipush (v := (7 : Int32)) hx hb dX5_heightOf_15 (by decide) ?_
    refine w_idiv hx hb dX5_heightOf_17 (by decide) ?_
    refine lv_istore_n (lv' := [(2, .int (idiv (p0 - v1) (7 : Int32))), (0, .int p0), (1, .int v1)]) hx hb dX5_heightOf_18 rfl hl (by decide) rfl (fun ls hl => ?_)
    refine lv_bipush (v := (12 : Int32)) hx hb dX5_heightOf_19 (by decide) ?_
    refine lv_iload_n hx hb dX5_heightOf_21 rfl (lv_at hl 0 rfl) ?_
    refine lv_imul hx hb dX5_heightOf_22 ?_
    refine lv_iconst (v := (2 : Int32)) hx hb dX5_heightOf_23 (by decide) ?_
    refine lv_iload_n hx hb dX5_heightOf_24 rfl (lv_at hl 2 rfl) ?_
    refine lv_imul hx hb dX5_heightOf_25 ?_
    refine lv_iadd hx hb dX5_heightOf_26 ?_
    refine lv_iload_n hx hb dX5_heightOf_27 rfl (lv_at hl 2 rfl) ?_
    refine lv_iconst (v := (3 : Int32)) hx hb dX5_heightOf_28 (by decide) ?_
    refine lv_icmp_lt (tgt := 36) hx hb dX5_heightOf_29 (by decide) (fun c_1 => ?_) (fun c_1 => ?_)
    · have hR := hR.trans (if_pos c_1)
      refine lv_iconst (v := (0 : Int32)) hx hb dX5_heightOf_36 (by decide) ?_
      refine lv_isub hx hb dX5_heightOf_37 ?_
      exact kR ((((12 : Int32) * (idiv (p0 - v1) (7 : Int32))) + ((2 : Int32) * v1)) - (0 : Int32)) 38 ls hR.symm dX5_heightOf_38
    · have hR := hR.trans (if_neg c_1)
      refine lv_iconst (v := (1 : Int32)) hx hb dX5_heightOf_32 (by decide) ?_
      refine lv_goto (tgt := 37) hx hb dX5_heightOf_33 (by decide) ?_
      refine lv_isub hx hb dX5_heightOf_37 ?_
      exact kR ((((12 : Int32) * (idiv (p0 - v1) (7 : Int32))) + ((2 : Int32) * v1)) - (1 : Int32)) 38 ls hR.symm dX5_heightOf_38
  refine lv_if_ge (tgt := 12) hx hb dX5_heightOf_6 (by decide) (fun c_2 => ?_) (fun c_2 => ?_)
  · have hR := hR.trans (if_pos c_2)
    exact J12 (irem p0 (7 : Int32)) ls (lv_sub hl [1, 0] rfl) hR
  · have hR := hR.trans (if_neg c_2)
    refine lv_iinc (v := ((irem p0 (7 : Int32)) + (7 : Int32))) (lv' := [(1, .int ((irem p0 (7 : Int32)) + (7 : Int32))), (0, .int p0)]) hx hb dX5_heightOf_9 hl (k := 0) rfl rfl (by decide) rfl (fun ls hl => ?_)
    exact J12 ((irem p0 (7 : Int32)) + (7 : Int32)) ls (lv_sub hl [1, 0] rfl) hR
set_option maxHeartbeats 4000000 in
set_option maxRecDepth 100000 in
theorem m_X5_heightOf (l : Launch) (dC : Nat → ClassId) (dI : Nat → Nat → Nat) (cI cJ : ClassId) (p0 : Int32) : Met l yX5_heightOf wsX5_heightOf rm_X5_heightOf (va_Pc [.int p0] (fun U => va_P (dC, dI) vwCl [] U.heap ∧ va_K (dC, dI) vwCl [(cI, .int), (cJ, .long)] U)) (vp_Si (fun r => r = f_X5_heightOf p0)) 0 0 (fun _ => False) := by
  refine Met.ofW (cc := cX5_heightOf) (maxL := 3) (ret := (some .int)) (by decide) rfl ?_
  intro p e s m args below meth c s₁ B hml hv
  obtain ⟨rfl, hP, hK⟩ := hv
  have hl := lv_entry ([.int p0]) (n := 3) (Nat.le_of_ble_eq_true rfl)
  rw [lg_entry_eq]
  refine w_X5_heightOf B.exec B.bytes hml (findClass_of_methodNamed B.named) (atoms_spec (ws := wsX5_heightOf) B.pre) hK hP rfl (fun r pc ls er hd => ?_) _ hl
  exact W.iret B.exec B.bytes B.returns (fun t ht hW => ⟨r, rfl, er, ht⟩) (fun _ h => by cases h) hd B.notSynchronized
end
def f_X5_gap (p0 : Int32) (p1 : Int32) : Int32 :=
  (((irem (iabs p0) (7 : Int32)) * (12 : Int32)) + (irem (iabs p1) (12 : Int32)))
theorem e_X5_gap {p0 : Int32} {p1 : Int32} : f_X5_gap p0 p1 = (((irem (iabs p0) (7 : Int32)) * (12 : Int32)) + (irem (iabs p1) (12 : Int32))) := rfl
section
variable {p : Program} {l : Launch} {e : Env} {s : State} {m : MethodId} {args : Array Value} {below : List Frame} {meth : Method} {c : Code} {Q : State → Prop} {H : Heap} {locs : List Loc} {dC : Nat → ClassId} {dI : Nat → Nat → Nat} {cI cJ : ClassId}
abbrev rm_X5_gap : Room := { frames := 1, cells := 0, slots := 0, locals := 21 }
theorem hd_X5_gap : yX5_gap.cls ≠ "java/lang/invoke/MethodHandle" ∧ yX5_gap.cls ≠ "java/lang/invoke/VarHandle" ∧ (parseMethodDescriptor yX5_gap.desc).map (fun d => d.parameters.length) = some 2 := by decide +kernel
set_option maxHeartbeats 4000000 in
set_option maxRecDepth 100000 in
theorem w_X5_gap {p0 : Int32} {p1 : Int32} {F : Int32} (hx : p.tables.exec = Jvm.exec) (hb : c.code = cX5_gap) (hml : c.maxLocals = 2) (hown : s.vm.findClass RX5 = some m.cls) (hts : ∀ w ∈ wsX5_gap, w.before args s = true) (hK : va_K (dC, dI) vwCl [(cI, .int), (cJ, .long)] s) (hP : va_P (dC, dI) vwCl [] H) (hR : F = f_X5_gap p0 p1) (kR : ∀ (r : Int32) (pc : Nat) (ls : Array Slot), r = F → decode cX5_gap pc = .ok (.ireturn, 1) → W p l e rm_X5_gap s m args below meth c H locs 0 0 Q (F0 m pc ls [.int r])) (ls : Array Slot) (hl : lv_has ls 2 [(0, .int p0), (1, .int p1)]) : W p l e rm_X5_gap s m args below meth c H locs 0 0 Q (F0 m 0 ls []) := by
  have hR := hR.trans e_X5_gap
  refine lv_iload_n hx hb dX5_gap_0 rfl (lv_at hl 0 rfl) ?_
  refine w_abs hx hb (hml.trans hl.1.symm) hown (hts (.methodLink RX5 9 Lib.Math.abs.name) (List.mem_cons_of_mem _ wm_21)) (hts (.static Lib.Math.abs.name) (List.mem_cons_of_mem _ wm_22)) (hts (.initialized "java/lang/Math") (List.mem_cons_of_mem _ wm_23)) (hts (.code Lib.Math.abs.name Lib.Math.abs.code 1 (some .int)) (List.mem_cons_of_mem _ wm_24)) (Nat.le_of_ble_eq_true rfl) (Nat.le_of_ble_eq_true rfl) (Nat.zero_le _) (Nat.zero_le _) dX5_gap_1 ?_
  refine lv_bipush (v := (7 : Int32)) hx hb dX5_gap_4 (by decide) ?_
  refine w_irem hx hb dX5_gap_6 (by decide) ?_
  refine lv_bipush (v := (12 : Int32)) hx hb dX5_gap_7 (by decide) ?_
  refine lv_imul hx hb dX5_gap_9 ?_
  refine lv_iload_n hx hb dX5_gap_10 rfl (lv_at hl 1 rfl) ?_
  refine w_abs hx hb (hml.trans hl.1.symm) hown (hts (.methodLink RX5 9 Lib.Math.abs.name) (List.mem_cons_of_mem _ wm_21)) (hts (.static Lib.Math.abs.name) (List.mem_cons_of_mem _ wm_22)) (hts (.initialized "java/lang/Math") (List.mem_cons_of_mem _ wm_23)) (hts (.code Lib.Math.abs.name Lib.Math.abs.code 1 (some .int)) (List.mem_cons_of_mem _ wm_24)) (Nat.le_of_ble_eq_true rfl) (Nat.le_of_ble_eq_true rfl) (Nat.zero_le _) (Nat.zero_le _) dX5_gap_11 ?_
  refine lv_bipush (v := (12 : Int32)) hx hb dX5_gap_14 (by decide) ?_
  refine w_irem hx hb dX5_gap_16 (by decide) ?_
  refine lv_iadd hx hb dX5_gap_17 ?_
  exact kR (((irem (iabs p0) (7 : Int32)) * (12 : Int32)) + (irem (iabs p1) (12 : Int32))) 18 ls hR.symm dX5_gap_18
set_option maxHeartbeats 4000000 in
set_option maxRecDepth 100000 in
theorem m_X5_gap (l : Launch) (dC : Nat → ClassId) (dI : Nat → Nat → Nat) (cI cJ : ClassId) (p0 : Int32) (p1 : Int32) : Met l yX5_gap wsX5_gap rm_X5_gap (va_Pc [.int p0, .int p1] (fun U => va_P (dC, dI) vwCl [] U.heap ∧ va_K (dC, dI) vwCl [(cI, .int), (cJ, .long)] U)) (vp_Si (fun r => r = f_X5_gap p0 p1)) 0 0 (fun _ => False) := by
  refine Met.ofW (cc := cX5_gap) (maxL := 2) (ret := (some .int)) (by decide) rfl ?_
  intro p e s m args below meth c s₁ B hml hv
  obtain ⟨rfl, hP, hK⟩ := hv
  have hl := lv_entry ([.int p0, .int p1]) (n := 2) (Nat.le_of_ble_eq_true rfl)
  rw [lg_entry_eq]
  refine w_X5_gap B.exec B.bytes hml (findClass_of_methodNamed B.named) (atoms_spec (ws := wsX5_gap) B.pre) hK hP rfl (fun r pc ls er hd => ?_) _ hl
  exact W.iret B.exec B.bytes B.returns (fun t ht hW => ⟨r, rfl, er, ht⟩) (fun _ h => by cases h) hd B.notSynchronized
end
def f_X5_plainGap (p0 : Int32) (p1 : Int32) : Int32 :=
  (f_X5_gap (p0 - p1) ((f_X5_heightOf p0) - (f_X5_heightOf p1)))
theorem e_X5_plainGap {p0 : Int32} {p1 : Int32} : f_X5_plainGap p0 p1 = (f_X5_gap (p0 - p1) ((f_X5_heightOf p0) - (f_X5_heightOf p1))) := rfl
section
variable {p : Program} {l : Launch} {e : Env} {s : State} {m : MethodId} {args : Array Value} {below : List Frame} {meth : Method} {c : Code} {Q : State → Prop} {H : Heap} {locs : List Loc} {dC : Nat → ClassId} {dI : Nat → Nat → Nat} {cI cJ : ClassId}
abbrev rm_X5_plainGap : Room := { frames := 2, cells := 0, slots := 0, locals := 42 }
theorem hd_X5_plainGap : yX5_plainGap.cls ≠ "java/lang/invoke/MethodHandle" ∧ yX5_plainGap.cls ≠ "java/lang/invoke/VarHandle" ∧ (parseMethodDescriptor yX5_plainGap.desc).map (fun d => d.parameters.length) = some 2 := by decide +kernel
set_option maxHeartbeats 4000000 in
set_option maxRecDepth 100000 in
theorem w_X5_plainGap {p0 : Int32} {p1 : Int32} {F : Int32} (hx : p.tables.exec = Jvm.exec) (hb : c.code = cX5_plainGap) (hml : c.maxLocals = 2) (hown : s.vm.findClass RX5 = some m.cls) (hts : ∀ w ∈ wsX5_plainGap, w.before args s = true) (hK : va_K (dC, dI) vwCl [(cI, .int), (cJ, .long)] s) (hP : va_P (dC, dI) vwCl [] H) (hR : F = f_X5_plainGap p0 p1) (kR : ∀ (r : Int32) (pc : Nat) (ls : Array Slot), r = F → decode cX5_plainGap pc = .ok (.ireturn, 1) → W p l e rm_X5_plainGap s m args below meth c H locs 0 0 Q (F0 m pc ls [.int r])) (ls : Array Slot) (hl : lv_has ls 2 [(0, .int p0), (1, .int p1)]) : W p l e rm_X5_plainGap s m args below meth c H locs 0 0 Q (F0 m 0 ls []) := by
  have hR := hR.trans e_X5_plainGap
  refine lv_iload_n hx hb dX5_plainGap_0 rfl (lv_at hl 0 rfl) ?_
  refine lv_iload_n hx hb dX5_plainGap_1 rfl (lv_at hl 1 rfl) ?_
  refine lv_isub hx hb dX5_plainGap_2 ?_
  refine lv_iload_n hx hb dX5_plainGap_3 rfl (lv_at hl 0 rfl) ?_
  refine rS_i (As := [.int p0]) (rest := [.int (p0 - p1)]) ⟨hx, hb, hml, hown, hts⟩ (m_X5_heightOf l dC dI cI cJ p0) (va_cwS 1 hts (gi_S wm_15 wm_16 wm_13 wm_17) rfl rfl rfl hd_X5_heightOf ⟨Nat.le_of_ble_eq_true rfl, Nat.le_of_ble_eq_true rfl⟩) hK (hP.sub [] rfl) rfl hl.1 rfl (Nat.le_of_ble_eq_true rfl) dX5_plainGap_4 ⟨Nat.zero_le _, Nat.zero_le _⟩ ?_
  refine lv_iload_n hx hb dX5_plainGap_7 rfl (lv_at hl 1 rfl) ?_
  refine rS_i (As := [.int p1]) (rest := [.int (f_X5_heightOf p0), .int (p0 - p1)]) ⟨hx, hb, hml, hown, hts⟩ (m_X5_heightOf l dC dI cI cJ p1) (va_cwS 1 hts (gi_S wm_15 wm_16 wm_13 wm_17) rfl rfl rfl hd_X5_heightOf ⟨Nat.le_of_ble_eq_true rfl, Nat.le_of_ble_eq_true rfl⟩) hK (hP.sub [] rfl) rfl hl.1 rfl (Nat.le_of_ble_eq_true rfl) dX5_plainGap_8 ⟨Nat.zero_le _, Nat.zero_le _⟩ ?_
  refine lv_isub hx hb dX5_plainGap_11 ?_
  refine rS_i (As := [.int (p0 - p1), .int ((f_X5_heightOf p0) - (f_X5_heightOf p1))]) (rest := []) ⟨hx, hb, hml, hown, hts⟩ (m_X5_gap l dC dI cI cJ (p0 - p1) ((f_X5_heightOf p0) - (f_X5_heightOf p1))) (va_cwS 2 hts (gi_S wm_18 wm_19 wm_13 wm_20) rfl rfl rfl hd_X5_gap ⟨Nat.le_of_ble_eq_true rfl, Nat.le_of_ble_eq_true rfl⟩) hK (hP.sub [] rfl) rfl hl.1 rfl (Nat.le_of_ble_eq_true rfl) dX5_plainGap_12 ⟨Nat.zero_le _, Nat.zero_le _⟩ ?_
  exact kR (f_X5_gap (p0 - p1) ((f_X5_heightOf p0) - (f_X5_heightOf p1))) 15 ls hR.symm dX5_plainGap_15
set_option maxHeartbeats 4000000 in
set_option maxRecDepth 100000 in
theorem m_X5_plainGap (l : Launch) (dC : Nat → ClassId) (dI : Nat → Nat → Nat) (cI cJ : ClassId) (p0 : Int32) (p1 : Int32) : Met l yX5_plainGap wsX5_plainGap rm_X5_plainGap (va_Pc [.int p0, .int p1] (fun U => va_P (dC, dI) vwCl [] U.heap ∧ va_K (dC, dI) vwCl [(cI, .int), (cJ, .long)] U)) (vp_Si (fun r => r = f_X5_plainGap p0 p1)) 0 0 (fun _ => False) := by
  refine Met.ofW (cc := cX5_plainGap) (maxL := 2) (ret := (some .int)) (by decide) rfl ?_
  intro p e s m args below meth c s₁ B hml hv
  obtain ⟨rfl, hP, hK⟩ := hv
  have hl := lv_entry ([.int p0, .int p1]) (n := 2) (Nat.le_of_ble_eq_true rfl)
  rw [lg_entry_eq]
  refine w_X5_plainGap B.exec B.bytes hml (findClass_of_methodNamed B.named) (atoms_spec (ws := wsX5_plainGap) B.pre) hK hP rfl (fun r pc ls er hd => ?_) _ hl
  exact W.iret B.exec B.bytes B.returns (fun t ht hW => ⟨r, rfl, er, ht⟩) (fun _ h => by cases h) hd B.notSynchronized
end
def f_X5_isFifth (p0 : Int32) : Int32 :=
  (if p0 = (55 : Int32) then (1 : Int32) else (0 : Int32))
theorem e_X5_isFifth {p0 : Int32} : f_X5_isFifth p0 = (if p0 = (55 : Int32) then (1 : Int32) else (0 : Int32)) := rfl
section
variable {p : Program} {l : Launch} {e : Env} {s : State} {m : MethodId} {args : Array Value} {below : List Frame} {meth : Method} {c : Code} {Q : State → Prop} {H : Heap} {locs : List Loc} {dC : Nat → ClassId} {dI : Nat → Nat → Nat} {cI cJ : ClassId}
abbrev rm_X5_isFifth : Room := { frames := 0, cells := 0, slots := 0, locals := 0 }
theorem hd_X5_isFifth : yX5_isFifth.cls ≠ "java/lang/invoke/MethodHandle" ∧ yX5_isFifth.cls ≠ "java/lang/invoke/VarHandle" ∧ (parseMethodDescriptor yX5_isFifth.desc).map (fun d => d.parameters.length) = some 1 := by decide +kernel
set_option maxHeartbeats 4000000 in
set_option maxRecDepth 100000 in
theorem w_X5_isFifth {p0 : Int32} {F : Int32} (hx : p.tables.exec = Jvm.exec) (hb : c.code = cX5_isFifth) (hml : c.maxLocals = 1) (hown : s.vm.findClass RX5 = some m.cls) (hts : ∀ w ∈ wsX5_isFifth, w.before args s = true) (hK : va_K (dC, dI) vwCl [(cI, .int), (cJ, .long)] s) (hP : va_P (dC, dI) vwCl [] H) (hR : F = f_X5_isFifth p0) (kR : ∀ (r : Int32) (pc : Nat) (ls : Array Slot), zb r → r = F → decode cX5_isFifth pc = .ok (.ireturn, 1) → W p l e rm_X5_isFifth s m args below meth c H locs 0 0 Q (F0 m pc ls [.int r])) (ls : Array Slot) (hl : lv_has ls 1 [(0, .int p0)]) : W p l e rm_X5_isFifth s m args below meth c H locs 0 0 Q (F0 m 0 ls []) := by
  have hR := hR.trans e_X5_isFifth
  refine lv_iload_n hx hb dX5_isFifth_0 rfl (lv_at hl 0 rfl) ?_
  refine lv_bipush (v := (55 : Int32)) hx hb dX5_isFifth_1 (by decide) ?_
  refine lv_icmp_ne (tgt := 10) hx hb dX5_isFifth_3 (by decide) (fun c_1 => ?_) (fun c_1 => ?_)
  · have hR := hR.trans (if_neg c_1)
    refine lv_iconst (v := (0 : Int32)) hx hb dX5_isFifth_10 (by decide) ?_
    exact kR (0 : Int32) 11 ls (by first | exact Or.inl rfl | exact Or.inr rfl) hR.symm dX5_isFifth_11
  · have hR := hR.trans (if_pos c_1)
    refine lv_iconst (v := (1 : Int32)) hx hb dX5_isFifth_6 (by decide) ?_
    refine lv_goto (tgt := 11) hx hb dX5_isFifth_7 (by decide) ?_
    exact kR (1 : Int32) 11 ls (by first | exact Or.inl rfl | exact Or.inr rfl) hR.symm dX5_isFifth_11
set_option maxHeartbeats 4000000 in
set_option maxRecDepth 100000 in
theorem m_X5_isFifth (l : Launch) (dC : Nat → ClassId) (dI : Nat → Nat → Nat) (cI cJ : ClassId) (p0 : Int32) : Met l yX5_isFifth wsX5_isFifth rm_X5_isFifth (va_Pc [.int p0] (fun U => va_P (dC, dI) vwCl [] U.heap ∧ va_K (dC, dI) vwCl [(cI, .int), (cJ, .long)] U)) (vp_Si (fun r => r = f_X5_isFifth p0)) 0 0 (fun _ => False) := by
  refine Met.ofW (cc := cX5_isFifth) (maxL := 1) (ret := (some .boolean)) (by decide) rfl ?_
  intro p e s m args below meth c s₁ B hml hv
  obtain ⟨rfl, hP, hK⟩ := hv
  have hl := lv_entry ([.int p0]) (n := 1) (Nat.le_of_ble_eq_true rfl)
  rw [lg_entry_eq]
  refine w_X5_isFifth B.exec B.bytes hml (findClass_of_methodNamed B.named) (atoms_spec (ws := wsX5_isFifth) B.pre) hK hP rfl (fun r pc ls hz er hd => ?_) _ hl
  exact W.zret B.exec B.bytes B.returns (zb_n hz) (fun t ht hW => ⟨r, rfl, er, ht⟩) (fun _ h => by cases h) hd B.notSynchronized
end
def f_X5_isUnison (p0 : Int32) : Int32 :=
  (if p0 = 0 then (1 : Int32) else (0 : Int32))
theorem e_X5_isUnison {p0 : Int32} : f_X5_isUnison p0 = (if p0 = 0 then (1 : Int32) else (0 : Int32)) := rfl
section
variable {p : Program} {l : Launch} {e : Env} {s : State} {m : MethodId} {args : Array Value} {below : List Frame} {meth : Method} {c : Code} {Q : State → Prop} {H : Heap} {locs : List Loc} {dC : Nat → ClassId} {dI : Nat → Nat → Nat} {cI cJ : ClassId}
abbrev rm_X5_isUnison : Room := { frames := 0, cells := 0, slots := 0, locals := 0 }
theorem hd_X5_isUnison : yX5_isUnison.cls ≠ "java/lang/invoke/MethodHandle" ∧ yX5_isUnison.cls ≠ "java/lang/invoke/VarHandle" ∧ (parseMethodDescriptor yX5_isUnison.desc).map (fun d => d.parameters.length) = some 1 := by decide +kernel
set_option maxHeartbeats 4000000 in
set_option maxRecDepth 100000 in
theorem w_X5_isUnison {p0 : Int32} {F : Int32} (hx : p.tables.exec = Jvm.exec) (hb : c.code = cX5_isUnison) (hml : c.maxLocals = 1) (hown : s.vm.findClass RX5 = some m.cls) (hts : ∀ w ∈ wsX5_isUnison, w.before args s = true) (hK : va_K (dC, dI) vwCl [(cI, .int), (cJ, .long)] s) (hP : va_P (dC, dI) vwCl [] H) (hR : F = f_X5_isUnison p0) (kR : ∀ (r : Int32) (pc : Nat) (ls : Array Slot), zb r → r = F → decode cX5_isUnison pc = .ok (.ireturn, 1) → W p l e rm_X5_isUnison s m args below meth c H locs 0 0 Q (F0 m pc ls [.int r])) (ls : Array Slot) (hl : lv_has ls 1 [(0, .int p0)]) : W p l e rm_X5_isUnison s m args below meth c H locs 0 0 Q (F0 m 0 ls []) := by
  have hR := hR.trans e_X5_isUnison
  refine lv_iload_n hx hb dX5_isUnison_0 rfl (lv_at hl 0 rfl) ?_
  refine lv_if_ne (tgt := 8) hx hb dX5_isUnison_1 (by decide) (fun c_1 => ?_) (fun c_1 => ?_)
  · have hR := hR.trans (if_neg c_1)
    refine lv_iconst (v := (0 : Int32)) hx hb dX5_isUnison_8 (by decide) ?_
    exact kR (0 : Int32) 9 ls (by first | exact Or.inl rfl | exact Or.inr rfl) hR.symm dX5_isUnison_9
  · have hR := hR.trans (if_pos c_1)
    refine lv_iconst (v := (1 : Int32)) hx hb dX5_isUnison_4 (by decide) ?_
    refine lv_goto (tgt := 9) hx hb dX5_isUnison_5 (by decide) ?_
    exact kR (1 : Int32) 9 ls (by first | exact Or.inl rfl | exact Or.inr rfl) hR.symm dX5_isUnison_9
set_option maxHeartbeats 4000000 in
set_option maxRecDepth 100000 in
theorem m_X5_isUnison (l : Launch) (dC : Nat → ClassId) (dI : Nat → Nat → Nat) (cI cJ : ClassId) (p0 : Int32) : Met l yX5_isUnison wsX5_isUnison rm_X5_isUnison (va_Pc [.int p0] (fun U => va_P (dC, dI) vwCl [] U.heap ∧ va_K (dC, dI) vwCl [(cI, .int), (cJ, .long)] U)) (vp_Si (fun r => r = f_X5_isUnison p0)) 0 0 (fun _ => False) := by
  refine Met.ofW (cc := cX5_isUnison) (maxL := 1) (ret := (some .boolean)) (by decide) rfl ?_
  intro p e s m args below meth c s₁ B hml hv
  obtain ⟨rfl, hP, hK⟩ := hv
  have hl := lv_entry ([.int p0]) (n := 1) (Nat.le_of_ble_eq_true rfl)
  rw [lg_entry_eq]
  refine w_X5_isUnison B.exec B.bytes hml (findClass_of_methodNamed B.named) (atoms_spec (ws := wsX5_isUnison) B.pre) hK hP rfl (fun r pc ls hz er hd => ?_) _ hl
  exact W.zret B.exec B.bytes B.returns (zb_n hz) (fun t ht hW => ⟨r, rfl, er, ht⟩) (fun _ h => by cases h) hd B.notSynchronized
end
def f_X5_isPerfect (p0 : Int32) : Int32 :=
  (if p0 = 0 then (1 : Int32) else (if p0 = (55 : Int32) then (1 : Int32) else (0 : Int32)))
theorem e_X5_isPerfect {p0 : Int32} : f_X5_isPerfect p0 = (if p0 = 0 then (1 : Int32) else (if p0 = (55 : Int32) then (1 : Int32) else (0 : Int32))) := rfl
section
variable {p : Program} {l : Launch} {e : Env} {s : State} {m : MethodId} {args : Array Value} {below : List Frame} {meth : Method} {c : Code} {Q : State → Prop} {H : Heap} {locs : List Loc} {dC : Nat → ClassId} {dI : Nat → Nat → Nat} {cI cJ : ClassId}
abbrev rm_X5_isPerfect : Room := { frames := 0, cells := 0, slots := 0, locals := 0 }
theorem hd_X5_isPerfect : yX5_isPerfect.cls ≠ "java/lang/invoke/MethodHandle" ∧ yX5_isPerfect.cls ≠ "java/lang/invoke/VarHandle" ∧ (parseMethodDescriptor yX5_isPerfect.desc).map (fun d => d.parameters.length) = some 1 := by decide +kernel
set_option maxHeartbeats 4000000 in
set_option maxRecDepth 100000 in
theorem w_X5_isPerfect {p0 : Int32} {F : Int32} (hx : p.tables.exec = Jvm.exec) (hb : c.code = cX5_isPerfect) (hml : c.maxLocals = 1) (hown : s.vm.findClass RX5 = some m.cls) (hts : ∀ w ∈ wsX5_isPerfect, w.before args s = true) (hK : va_K (dC, dI) vwCl [(cI, .int), (cJ, .long)] s) (hP : va_P (dC, dI) vwCl [] H) (hR : F = f_X5_isPerfect p0) (kR : ∀ (r : Int32) (pc : Nat) (ls : Array Slot), zb r → r = F → decode cX5_isPerfect pc = .ok (.ireturn, 1) → W p l e rm_X5_isPerfect s m args below meth c H locs 0 0 Q (F0 m pc ls [.int r])) (ls : Array Slot) (hl : lv_has ls 1 [(0, .int p0)]) : W p l e rm_X5_isPerfect s m args below meth c H locs 0 0 Q (F0 m 0 ls []) := by
  have hR := hR.trans e_X5_isPerfect
  refine lv_iload_n hx hb dX5_isPerfect_0 rfl (lv_at hl 0 rfl) ?_
  refine lv_if_eq (tgt := 10) hx hb dX5_isPerfect_1 (by decide) (fun c_1 => ?_) (fun c_1 => ?_)
  · have hR := hR.trans (if_pos c_1)
    refine lv_iconst (v := (1 : Int32)) hx hb dX5_isPerfect_10 (by decide) ?_
    refine lv_goto (tgt := 15) hx hb dX5_isPerfect_11 (by decide) ?_
    exact kR (1 : Int32) 15 ls (by first | exact Or.inl rfl | exact Or.inr rfl) hR.symm dX5_isPerfect_15
  · have hR := hR.trans (if_neg c_1)
    refine lv_iload_n hx hb dX5_isPerfect_4 rfl (lv_at hl 0 rfl) ?_
    refine lv_bipush (v := (55 : Int32)) hx hb dX5_isPerfect_5 (by decide) ?_
    refine lv_icmp_ne (tgt := 14) hx hb dX5_isPerfect_7 (by decide) (fun c_2 => ?_) (fun c_2 => ?_)
    · have hR := hR.trans (if_neg c_2)
      refine lv_iconst (v := (0 : Int32)) hx hb dX5_isPerfect_14 (by decide) ?_
      exact kR (0 : Int32) 15 ls (by first | exact Or.inl rfl | exact Or.inr rfl) hR.symm dX5_isPerfect_15
    · have hR := hR.trans (if_pos c_2)
      refine lv_iconst (v := (1 : Int32)) hx hb dX5_isPerfect_10 (by decide) ?_
      refine lv_goto (tgt := 15) hx hb dX5_isPerfect_11 (by decide) ?_
      exact kR (1 : Int32) 15 ls (by first | exact Or.inl rfl | exact Or.inr rfl) hR.symm dX5_isPerfect_15
set_option maxHeartbeats 4000000 in
set_option maxRecDepth 100000 in
theorem m_X5_isPerfect (l : Launch) (dC : Nat → ClassId) (dI : Nat → Nat → Nat) (cI cJ : ClassId) (p0 : Int32) : Met l yX5_isPerfect wsX5_isPerfect rm_X5_isPerfect (va_Pc [.int p0] (fun U => va_P (dC, dI) vwCl [] U.heap ∧ va_K (dC, dI) vwCl [(cI, .int), (cJ, .long)] U)) (vp_Si (fun r => r = f_X5_isPerfect p0)) 0 0 (fun _ => False) := by
  refine Met.ofW (cc := cX5_isPerfect) (maxL := 1) (ret := (some .boolean)) (by decide) rfl ?_
  intro p e s m args below meth c s₁ B hml hv
  obtain ⟨rfl, hP, hK⟩ := hv
  have hl := lv_entry ([.int p0]) (n := 1) (Nat.le_of_ble_eq_true rfl)
  rw [lg_entry_eq]
  refine w_X5_isPerfect B.exec B.bytes hml (findClass_of_methodNamed B.named) (atoms_spec (ws := wsX5_isPerfect) B.pre) hK hP rfl (fun r pc ls hz er hd => ?_) _ hl
  exact W.zret B.exec B.bytes B.returns (zb_n hz) (fun t ht hW => ⟨r, rfl, er, ht⟩) (fun _ h => by cases h) hd B.notSynchronized
end
def f_X5_isImperfect (p0 : Int32) : Int32 :=
  (if p0 = (27 : Int32) then (1 : Int32) else (if p0 = (28 : Int32) then (1 : Int32) else (if p0 = (68 : Int32) then (1 : Int32) else (if p0 = (69 : Int32) then (1 : Int32) else (0 : Int32)))))
theorem e_X5_isImperfect {p0 : Int32} : f_X5_isImperfect p0 = (if p0 = (27 : Int32) then (1 : Int32) else (if p0 = (28 : Int32) then (1 : Int32) else (if p0 = (68 : Int32) then (1 : Int32) else (if p0 = (69 : Int32) then (1 : Int32) else (0 : Int32))))) := rfl
section
variable {p : Program} {l : Launch} {e : Env} {s : State} {m : MethodId} {args : Array Value} {below : List Frame} {meth : Method} {c : Code} {Q : State → Prop} {H : Heap} {locs : List Loc} {dC : Nat → ClassId} {dI : Nat → Nat → Nat} {cI cJ : ClassId}
abbrev rm_X5_isImperfect : Room := { frames := 0, cells := 0, slots := 0, locals := 0 }
theorem hd_X5_isImperfect : yX5_isImperfect.cls ≠ "java/lang/invoke/MethodHandle" ∧ yX5_isImperfect.cls ≠ "java/lang/invoke/VarHandle" ∧ (parseMethodDescriptor yX5_isImperfect.desc).map (fun d => d.parameters.length) = some 1 := by decide +kernel
set_option maxHeartbeats 4000000 in
set_option maxRecDepth 100000 in
theorem w_X5_isImperfect {p0 : Int32} {F : Int32} (hx : p.tables.exec = Jvm.exec) (hb : c.code = cX5_isImperfect) (hml : c.maxLocals = 1) (hown : s.vm.findClass RX5 = some m.cls) (hts : ∀ w ∈ wsX5_isImperfect, w.before args s = true) (hK : va_K (dC, dI) vwCl [(cI, .int), (cJ, .long)] s) (hP : va_P (dC, dI) vwCl [] H) (hR : F = f_X5_isImperfect p0) (kR : ∀ (r : Int32) (pc : Nat) (ls : Array Slot), zb r → r = F → decode cX5_isImperfect pc = .ok (.ireturn, 1) → W p l e rm_X5_isImperfect s m args below meth c H locs 0 0 Q (F0 m pc ls [.int r])) (ls : Array Slot) (hl : lv_has ls 1 [(0, .int p0)]) : W p l e rm_X5_isImperfect s m args below meth c H locs 0 0 Q (F0 m 0 ls []) := by
  have hR := hR.trans e_X5_isImperfect
  refine lv_iload_n hx hb dX5_isImperfect_0 rfl (lv_at hl 0 rfl) ?_
  refine lv_bipush (v := (27 : Int32)) hx hb dX5_isImperfect_1 (by decide) ?_
  refine lv_icmp_eq (tgt := 24) hx hb dX5_isImperfect_3 (by decide) (fun c_1 => ?_) (fun c_1 => ?_)
  · have hR := hR.trans (if_pos c_1)
    refine lv_iconst (v := (1 : Int32)) hx hb dX5_isImperfect_24 (by decide) ?_
    refine lv_goto (tgt := 29) hx hb dX5_isImperfect_25 (by decide) ?_
    exact kR (1 : Int32) 29 ls (by first | exact Or.inl rfl | exact Or.inr rfl) hR.symm dX5_isImperfect_29
  · have hR := hR.trans (if_neg c_1)
    refine lv_iload_n hx hb dX5_isImperfect_6 rfl (lv_at hl 0 rfl) ?_
    refine lv_bipush (v := (28 : Int32)) hx hb dX5_isImperfect_7 (by decide) ?_
    refine lv_icmp_eq (tgt := 24) hx hb dX5_isImperfect_9 (by decide) (fun c_2 => ?_) (fun c_2 => ?_)
    · have hR := hR.trans (if_pos c_2)
      refine lv_iconst (v := (1 : Int32)) hx hb dX5_isImperfect_24 (by decide) ?_
      refine lv_goto (tgt := 29) hx hb dX5_isImperfect_25 (by decide) ?_
      exact kR (1 : Int32) 29 ls (by first | exact Or.inl rfl | exact Or.inr rfl) hR.symm dX5_isImperfect_29
    · have hR := hR.trans (if_neg c_2)
      refine lv_iload_n hx hb dX5_isImperfect_12 rfl (lv_at hl 0 rfl) ?_
      refine lv_bipush (v := (68 : Int32)) hx hb dX5_isImperfect_13 (by decide) ?_
      refine lv_icmp_eq (tgt := 24) hx hb dX5_isImperfect_15 (by decide) (fun c_3 => ?_) (fun c_3 => ?_)
      · have hR := hR.trans (if_pos c_3)
        refine lv_iconst (v := (1 : Int32)) hx hb dX5_isImperfect_24 (by decide) ?_
        refine lv_goto (tgt := 29) hx hb dX5_isImperfect_25 (by decide) ?_
        exact kR (1 : Int32) 29 ls (by first | exact Or.inl rfl | exact Or.inr rfl) hR.symm dX5_isImperfect_29
      · have hR := hR.trans (if_neg c_3)
        refine lv_iload_n hx hb dX5_isImperfect_18 rfl (lv_at hl 0 rfl) ?_
        refine lv_bipush (v := (69 : Int32)) hx hb dX5_isImperfect_19 (by decide) ?_
        refine lv_icmp_ne (tgt := 28) hx hb dX5_isImperfect_21 (by decide) (fun c_4 => ?_) (fun c_4 => ?_)
        · have hR := hR.trans (if_neg c_4)
          refine lv_iconst (v := (0 : Int32)) hx hb dX5_isImperfect_28 (by decide) ?_
          exact kR (0 : Int32) 29 ls (by first | exact Or.inl rfl | exact Or.inr rfl) hR.symm dX5_isImperfect_29
        · have hR := hR.trans (if_pos c_4)
          refine lv_iconst (v := (1 : Int32)) hx hb dX5_isImperfect_24 (by decide) ?_
          refine lv_goto (tgt := 29) hx hb dX5_isImperfect_25 (by decide) ?_
          exact kR (1 : Int32) 29 ls (by first | exact Or.inl rfl | exact Or.inr rfl) hR.symm dX5_isImperfect_29
set_option maxHeartbeats 4000000 in
set_option maxRecDepth 100000 in
theorem m_X5_isImperfect (l : Launch) (dC : Nat → ClassId) (dI : Nat → Nat → Nat) (cI cJ : ClassId) (p0 : Int32) : Met l yX5_isImperfect wsX5_isImperfect rm_X5_isImperfect (va_Pc [.int p0] (fun U => va_P (dC, dI) vwCl [] U.heap ∧ va_K (dC, dI) vwCl [(cI, .int), (cJ, .long)] U)) (vp_Si (fun r => r = f_X5_isImperfect p0)) 0 0 (fun _ => False) := by
  refine Met.ofW (cc := cX5_isImperfect) (maxL := 1) (ret := (some .boolean)) (by decide) rfl ?_
  intro p e s m args below meth c s₁ B hml hv
  obtain ⟨rfl, hP, hK⟩ := hv
  have hl := lv_entry ([.int p0]) (n := 1) (Nat.le_of_ble_eq_true rfl)
  rw [lg_entry_eq]
  refine w_X5_isImperfect B.exec B.bytes hml (findClass_of_methodNamed B.named) (atoms_spec (ws := wsX5_isImperfect) B.pre) hK hP rfl (fun r pc ls hz er hd => ?_) _ hl
  exact W.zret B.exec B.bytes B.returns (zb_n hz) (fun t ht hW => ⟨r, rfl, er, ht⟩) (fun _ h => by cases h) hd B.notSynchronized
end
def f_X5_isDissonant (p0 : Int32) : Int32 :=
  (if (f_X5_isPerfect p0) = 0 then (if (f_X5_isImperfect p0) = 0 then (1 : Int32) else (0 : Int32)) else (0 : Int32))
theorem e_X5_isDissonant {p0 : Int32} : f_X5_isDissonant p0 = (if (f_X5_isPerfect p0) = 0 then (if (f_X5_isImperfect p0) = 0 then (1 : Int32) else (0 : Int32)) else (0 : Int32)) := rfl
section
variable {p : Program} {l : Launch} {e : Env} {s : State} {m : MethodId} {args : Array Value} {below : List Frame} {meth : Method} {c : Code} {Q : State → Prop} {H : Heap} {locs : List Loc} {dC : Nat → ClassId} {dI : Nat → Nat → Nat} {cI cJ : ClassId}
abbrev rm_X5_isDissonant : Room := { frames := 1, cells := 0, slots := 0, locals := 20 }
theorem hd_X5_isDissonant : yX5_isDissonant.cls ≠ "java/lang/invoke/MethodHandle" ∧ yX5_isDissonant.cls ≠ "java/lang/invoke/VarHandle" ∧ (parseMethodDescriptor yX5_isDissonant.desc).map (fun d => d.parameters.length) = some 1 := by decide +kernel
set_option maxHeartbeats 4000000 in
set_option maxRecDepth 100000 in
theorem w_X5_isDissonant {p0 : Int32} {F : Int32} (hx : p.tables.exec = Jvm.exec) (hb : c.code = cX5_isDissonant) (hml : c.maxLocals = 1) (hown : s.vm.findClass RX5 = some m.cls) (hts : ∀ w ∈ wsX5_isDissonant, w.before args s = true) (hK : va_K (dC, dI) vwCl [(cI, .int), (cJ, .long)] s) (hP : va_P (dC, dI) vwCl [] H) (hR : F = f_X5_isDissonant p0) (kR : ∀ (r : Int32) (pc : Nat) (ls : Array Slot), zb r → r = F → decode cX5_isDissonant pc = .ok (.ireturn, 1) → W p l e rm_X5_isDissonant s m args below meth c H locs 0 0 Q (F0 m pc ls [.int r])) (ls : Array Slot) (hl : lv_has ls 1 [(0, .int p0)]) : W p l e rm_X5_isDissonant s m args below meth c H locs 0 0 Q (F0 m 0 ls []) := by
  have hR := hR.trans e_X5_isDissonant
  refine lv_iload_n hx hb dX5_isDissonant_0 rfl (lv_at hl 0 rfl) ?_
  refine rS_i (As := [.int p0]) (rest := []) ⟨hx, hb, hml, hown, hts⟩ (m_X5_isPerfect l dC dI cI cJ p0) (va_cwS 1 hts (gi_S wm_28 wm_29 wm_13 wm_30) rfl rfl rfl hd_X5_isPerfect ⟨Nat.le_of_ble_eq_true rfl, Nat.le_of_ble_eq_true rfl⟩) hK (hP.sub [] rfl) rfl hl.1 rfl (Nat.le_of_ble_eq_true rfl) dX5_isDissonant_1 ⟨Nat.zero_le _, Nat.zero_le _⟩ ?_
  refine lv_if_ne (tgt := 18) hx hb dX5_isDissonant_4 (by decide) (fun c_1 => ?_) (fun c_1 => ?_)
  · have hR := hR.trans (if_neg c_1)
    refine lv_iconst (v := (0 : Int32)) hx hb dX5_isDissonant_18 (by decide) ?_
    exact kR (0 : Int32) 19 ls (by first | exact Or.inl rfl | exact Or.inr rfl) hR.symm dX5_isDissonant_19
  · have hR := hR.trans (if_pos c_1)
    refine lv_iload_n hx hb dX5_isDissonant_7 rfl (lv_at hl 0 rfl) ?_
    refine rS_i (As := [.int p0]) (rest := []) ⟨hx, hb, hml, hown, hts⟩ (m_X5_isImperfect l dC dI cI cJ p0) (va_cwS 1 hts (gi_S wm_31 wm_32 wm_13 wm_33) rfl rfl rfl hd_X5_isImperfect ⟨Nat.le_of_ble_eq_true rfl, Nat.le_of_ble_eq_true rfl⟩) hK (hP.sub [] rfl) rfl hl.1 rfl (Nat.le_of_ble_eq_true rfl) dX5_isDissonant_8 ⟨Nat.zero_le _, Nat.zero_le _⟩ ?_
    refine lv_if_ne (tgt := 18) hx hb dX5_isDissonant_11 (by decide) (fun c_2 => ?_) (fun c_2 => ?_)
    · have hR := hR.trans (if_neg c_2)
      refine lv_iconst (v := (0 : Int32)) hx hb dX5_isDissonant_18 (by decide) ?_
      exact kR (0 : Int32) 19 ls (by first | exact Or.inl rfl | exact Or.inr rfl) hR.symm dX5_isDissonant_19
    · have hR := hR.trans (if_pos c_2)
      refine lv_iconst (v := (1 : Int32)) hx hb dX5_isDissonant_14 (by decide) ?_
      refine lv_goto (tgt := 19) hx hb dX5_isDissonant_15 (by decide) ?_
      exact kR (1 : Int32) 19 ls (by first | exact Or.inl rfl | exact Or.inr rfl) hR.symm dX5_isDissonant_19
set_option maxHeartbeats 4000000 in
set_option maxRecDepth 100000 in
theorem m_X5_isDissonant (l : Launch) (dC : Nat → ClassId) (dI : Nat → Nat → Nat) (cI cJ : ClassId) (p0 : Int32) : Met l yX5_isDissonant wsX5_isDissonant rm_X5_isDissonant (va_Pc [.int p0] (fun U => va_P (dC, dI) vwCl [] U.heap ∧ va_K (dC, dI) vwCl [(cI, .int), (cJ, .long)] U)) (vp_Si (fun r => r = f_X5_isDissonant p0)) 0 0 (fun _ => False) := by
  refine Met.ofW (cc := cX5_isDissonant) (maxL := 1) (ret := (some .boolean)) (by decide) rfl ?_
  intro p e s m args below meth c s₁ B hml hv
  obtain ⟨rfl, hP, hK⟩ := hv
  have hl := lv_entry ([.int p0]) (n := 1) (Nat.le_of_ble_eq_true rfl)
  rw [lg_entry_eq]
  refine w_X5_isDissonant B.exec B.bytes hml (findClass_of_methodNamed B.named) (atoms_spec (ws := wsX5_isDissonant) B.pre) hK hP rfl (fun r pc ls hz er hd => ?_) _ hl
  exact W.zret B.exec B.bytes B.returns (zb_n hz) (fun t ht hW => ⟨r, rfl, er, ht⟩) (fun _ h => by cases h) hd B.notSynchronized
end
def f_X5_signOf (p0 : Int32) : Int32 :=
  (if p0 = 0 then (117 : Int32) else (if p0 = (55 : Int32) then (102 : Int32) else (if (f_X5_isImperfect p0) = 0 then (100 : Int32) else (105 : Int32))))
theorem e_X5_signOf {p0 : Int32} : f_X5_signOf p0 = (if p0 = 0 then (117 : Int32) else (if p0 = (55 : Int32) then (102 : Int32) else (if (f_X5_isImperfect p0) = 0 then (100 : Int32) else (105 : Int32)))) := rfl
section
variable {p : Program} {l : Launch} {e : Env} {s : State} {m : MethodId} {args : Array Value} {below : List Frame} {meth : Method} {c : Code} {Q : State → Prop} {H : Heap} {locs : List Loc} {dC : Nat → ClassId} {dI : Nat → Nat → Nat} {cI cJ : ClassId}
abbrev rm_X5_signOf : Room := { frames := 1, cells := 0, slots := 0, locals := 20 }
theorem hd_X5_signOf : yX5_signOf.cls ≠ "java/lang/invoke/MethodHandle" ∧ yX5_signOf.cls ≠ "java/lang/invoke/VarHandle" ∧ (parseMethodDescriptor yX5_signOf.desc).map (fun d => d.parameters.length) = some 1 := by decide +kernel
set_option maxHeartbeats 4000000 in
set_option maxRecDepth 100000 in
theorem w_X5_signOf {p0 : Int32} {F : Int32} (hx : p.tables.exec = Jvm.exec) (hb : c.code = cX5_signOf) (hml : c.maxLocals = 1) (hown : s.vm.findClass RX5 = some m.cls) (hts : ∀ w ∈ wsX5_signOf, w.before args s = true) (hK : va_K (dC, dI) vwCl [(cI, .int), (cJ, .long)] s) (hP : va_P (dC, dI) vwCl [] H) (hR : F = f_X5_signOf p0) (kR : ∀ (r : Int32) (pc : Nat) (ls : Array Slot), narrow .char (.int r) = .int r → r = F → decode cX5_signOf pc = .ok (.ireturn, 1) → W p l e rm_X5_signOf s m args below meth c H locs 0 0 Q (F0 m pc ls [.int r])) (ls : Array Slot) (hl : lv_has ls 1 [(0, .int p0)]) : W p l e rm_X5_signOf s m args below meth c H locs 0 0 Q (F0 m 0 ls []) := by
  have hR := hR.trans e_X5_signOf
  refine lv_iload_n hx hb dX5_signOf_0 rfl (lv_at hl 0 rfl) ?_
  refine lv_if_ne (tgt := 7) hx hb dX5_signOf_1 (by decide) (fun c_1 => ?_) (fun c_1 => ?_)
  · have hR := hR.trans (if_neg c_1)
    refine lv_iload_n hx hb dX5_signOf_7 rfl (lv_at hl 0 rfl) ?_
    refine lv_bipush (v := (55 : Int32)) hx hb dX5_signOf_8 (by decide) ?_
    refine lv_icmp_ne (tgt := 16) hx hb dX5_signOf_10 (by decide) (fun c_2 => ?_) (fun c_2 => ?_)
    · have hR := hR.trans (if_neg c_2)
      refine lv_iload_n hx hb dX5_signOf_16 rfl (lv_at hl 0 rfl) ?_
      refine rS_i (As := [.int p0]) (rest := []) ⟨hx, hb, hml, hown, hts⟩ (m_X5_isImperfect l dC dI cI cJ p0) (va_cwS 1 hts (gi_S wm_31 wm_32 wm_13 wm_33) rfl rfl rfl hd_X5_isImperfect ⟨Nat.le_of_ble_eq_true rfl, Nat.le_of_ble_eq_true rfl⟩) hK (hP.sub [] rfl) rfl hl.1 rfl (Nat.le_of_ble_eq_true rfl) dX5_signOf_17 ⟨Nat.zero_le _, Nat.zero_le _⟩ ?_
      refine lv_if_eq (tgt := 28) hx hb dX5_signOf_20 (by decide) (fun c_3 => ?_) (fun c_3 => ?_)
      · have hR := hR.trans (if_pos c_3)
        refine lv_bipush (v := (100 : Int32)) hx hb dX5_signOf_28 (by decide) ?_
        exact kR (100 : Int32) 30 ls rfl hR.symm dX5_signOf_30
      · have hR := hR.trans (if_neg c_3)
        refine lv_bipush (v := (105 : Int32)) hx hb dX5_signOf_23 (by decide) ?_
        refine lv_goto (tgt := 30) hx hb dX5_signOf_25 (by decide) ?_
        exact kR (105 : Int32) 30 ls rfl hR.symm dX5_signOf_30
    · have hR := hR.trans (if_pos c_2)
      refine lv_bipush (v := (102 : Int32)) hx hb dX5_signOf_13 (by decide) ?_
      exact kR (102 : Int32) 15 ls rfl hR.symm dX5_signOf_15
  · have hR := hR.trans (if_pos c_1)
    refine lv_bipush (v := (117 : Int32)) hx hb dX5_signOf_4 (by decide) ?_
    exact kR (117 : Int32) 6 ls rfl hR.symm dX5_signOf_6
set_option maxHeartbeats 4000000 in
set_option maxRecDepth 100000 in
theorem m_X5_signOf (l : Launch) (dC : Nat → ClassId) (dI : Nat → Nat → Nat) (cI cJ : ClassId) (p0 : Int32) : Met l yX5_signOf wsX5_signOf rm_X5_signOf (va_Pc [.int p0] (fun U => va_P (dC, dI) vwCl [] U.heap ∧ va_K (dC, dI) vwCl [(cI, .int), (cJ, .long)] U)) (vp_Si (fun r => r = f_X5_signOf p0)) 0 0 (fun _ => False) := by
  refine Met.ofW (cc := cX5_signOf) (maxL := 1) (ret := (some .char)) (by decide) rfl ?_
  intro p e s m args below meth c s₁ B hml hv
  obtain ⟨rfl, hP, hK⟩ := hv
  have hl := lv_entry ([.int p0]) (n := 1) (Nat.le_of_ble_eq_true rfl)
  rw [lg_entry_eq]
  refine w_X5_signOf B.exec B.bytes hml (findClass_of_methodNamed B.named) (atoms_spec (ws := wsX5_signOf) B.pre) hK hP rfl (fun r pc ls hz er hd => ?_) _ hl
  exact W.zret B.exec B.bytes B.returns hz (fun t ht hW => ⟨r, rfl, er, ht⟩) (fun _ h => by cases h) hd B.notSynchronized
end
