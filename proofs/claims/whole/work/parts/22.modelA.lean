def f_X7_in (p0 : Int32) (p1 : Int32) (p2 : Int32) : Int32 :=
  (if p0 < p1 then (0 : Int32) else (if p2 < p0 then (0 : Int32) else (1 : Int32)))
theorem e_X7_in {p0 : Int32} {p1 : Int32} {p2 : Int32} : f_X7_in p0 p1 p2 = (if p0 < p1 then (0 : Int32) else (if p2 < p0 then (0 : Int32) else (1 : Int32))) := rfl
theorem zb_X7_in {p0 : Int32} {p1 : Int32} {p2 : Int32} : zb (f_X7_in p0 p1 p2) := by
  repeat' (first | rw [e_X7_in] | split | assumption | exact Or.inl (Eq.refl (0 : Int32)) | exact Or.inr (Eq.refl (1 : Int32)))
section
variable {p : Program} {l : Launch} {e : Env} {s : State} {m : MethodId} {args : Array Value} {below : List Frame} {meth : Method} {c : Code} {Q : State → Prop} {H : Heap} {locs : List Loc} {dC : Nat → ClassId} {dI : Nat → Nat → Nat} {cI cJ : ClassId}
abbrev rm_X7_in : Room := { frames := 0, cells := 0, slots := 0, locals := 0 }
theorem hd_X7_in : yX7_in.cls ≠ "java/lang/invoke/MethodHandle" ∧ yX7_in.cls ≠ "java/lang/invoke/VarHandle" ∧ (parseMethodDescriptor yX7_in.desc).map (fun d => d.parameters.length) = some 3 := by decide +kernel
set_option maxHeartbeats 4000000 in
set_option maxRecDepth 100000 in
theorem w_X7_in {p0 : Int32} {p1 : Int32} {p2 : Int32} {F : Int32} (hx : p.tables.exec = Jvm.exec) (hb : c.code = cX7_in) (hml : c.maxLocals = 3) (hown : s.vm.findClass RX7 = some m.cls) (hts : ∀ w ∈ wsX7_in, w.before args s = true) (hK : va_K (dC, dI) vwCl [(cI, .int), (cJ, .long)] s) (hP : va_P (dC, dI) vwCl [] H) (hR : F = f_X7_in p0 p1 p2) (kR : ∀ (r : Int32) (pc : Nat) (ls : Array Slot), zb r → r = F → decode cX7_in pc = .ok (.ireturn, 1) → W p l e rm_X7_in s m args below meth c H locs 0 0 Q (F0 m pc ls [.int r])) (ls : Array Slot) (hl : lv_has ls 3 [(0, .int p0), (1, .int p1), (2, .int p2)]) : W p l e rm_X7_in s m args below meth c H locs 0 0 Q (F0 m 0 ls []) := by
  have hR := hR.trans e_X7_in
  refine lv_iload_n hx hb dX7_in_0 rfl (lv_at hl 0 rfl) ?_
  refine lv_iload_n hx hb dX7_in_1 rfl (lv_at hl 1 rfl) ?_
  refine lv_icmp_lt (tgt := 14) hx hb dX7_in_2 (by decide) (fun c_1 => ?_) (fun c_1 => ?_)
  · have hR := hR.trans (if_pos c_1)
    refine lv_iconst (v := (0 : Int32)) hx hb dX7_in_14 (by decide) ?_
    exact kR (0 : Int32) 15 ls (by first | exact Or.inl rfl | exact Or.inr rfl) hR.symm dX7_in_15
  · have hR := hR.trans (if_neg c_1)
    refine lv_iload_n hx hb dX7_in_5 rfl (lv_at hl 0 rfl) ?_
    refine lv_iload_n hx hb dX7_in_6 rfl (lv_at hl 2 rfl) ?_
    refine lv_icmp_gt (tgt := 14) hx hb dX7_in_7 (by decide) (fun c_2 => ?_) (fun c_2 => ?_)
    · have hR := hR.trans (if_pos c_2)
      refine lv_iconst (v := (0 : Int32)) hx hb dX7_in_14 (by decide) ?_
      exact kR (0 : Int32) 15 ls (by first | exact Or.inl rfl | exact Or.inr rfl) hR.symm dX7_in_15
    · have hR := hR.trans (if_neg c_2)
      refine lv_iconst (v := (1 : Int32)) hx hb dX7_in_10 (by decide) ?_
      refine lv_goto (tgt := 15) hx hb dX7_in_11 (by decide) ?_
      exact kR (1 : Int32) 15 ls (by first | exact Or.inl rfl | exact Or.inr rfl) hR.symm dX7_in_15
set_option maxHeartbeats 4000000 in
set_option maxRecDepth 100000 in
theorem m_X7_in (l : Launch) (dC : Nat → ClassId) (dI : Nat → Nat → Nat) (cI cJ : ClassId) (p0 : Int32) (p1 : Int32) (p2 : Int32) : Met l yX7_in wsX7_in rm_X7_in (va_Pc [.int p0, .int p1, .int p2] (fun U => va_P (dC, dI) vwCl [] U.heap ∧ va_K (dC, dI) vwCl [(cI, .int), (cJ, .long)] U)) (vp_Si (fun r => r = f_X7_in p0 p1 p2)) 0 0 (fun _ => False) := by
  refine Met.ofW (cc := cX7_in) (maxL := 3) (ret := (some .boolean)) (by decide) rfl ?_
  intro p e s m args below meth c s₁ B hml hv
  obtain ⟨rfl, hP, hK⟩ := hv
  have hl := lv_entry ([.int p0, .int p1, .int p2]) (n := 3) (Nat.le_of_ble_eq_true rfl)
  rw [lg_entry_eq]
  refine w_X7_in B.exec B.bytes hml (findClass_of_methodNamed B.named) (atoms_spec (ws := wsX7_in) B.pre) hK hP rfl (fun r pc ls hz er hd => ?_) _ hl
  exact W.zret B.exec B.bytes B.returns (zb_n hz) (fun t ht hW => ⟨r, rfl, er, ht⟩) (fun _ h => by cases h) hd B.notSynchronized
end
def f_X7_size (p0 : Int32) : Int32 :=
  (if 0 ≤ p0 then p0 else (-p0))
theorem e_X7_size {p0 : Int32} : f_X7_size p0 = (if 0 ≤ p0 then p0 else (-p0)) := rfl
section
variable {p : Program} {l : Launch} {e : Env} {s : State} {m : MethodId} {args : Array Value} {below : List Frame} {meth : Method} {c : Code} {Q : State → Prop} {H : Heap} {locs : List Loc} {dC : Nat → ClassId} {dI : Nat → Nat → Nat} {cI cJ : ClassId}
abbrev rm_X7_size : Room := { frames := 0, cells := 0, slots := 0, locals := 0 }
theorem hd_X7_size : yX7_size.cls ≠ "java/lang/invoke/MethodHandle" ∧ yX7_size.cls ≠ "java/lang/invoke/VarHandle" ∧ (parseMethodDescriptor yX7_size.desc).map (fun d => d.parameters.length) = some 1 := by decide +kernel
set_option maxHeartbeats 4000000 in
set_option maxRecDepth 100000 in
theorem w_X7_size {p0 : Int32} {F : Int32} (hx : p.tables.exec = Jvm.exec) (hb : c.code = cX7_size) (hml : c.maxLocals = 1) (hown : s.vm.findClass RX7 = some m.cls) (hts : ∀ w ∈ wsX7_size, w.before args s = true) (hK : va_K (dC, dI) vwCl [(cI, .int), (cJ, .long)] s) (hP : va_P (dC, dI) vwCl [] H) (hR : F = f_X7_size p0) (kR : ∀ (r : Int32) (pc : Nat) (ls : Array Slot), r = F → decode cX7_size pc = .ok (.ireturn, 1) → W p l e rm_X7_size s m args below meth c H locs 0 0 Q (F0 m pc ls [.int r])) (ls : Array Slot) (hl : lv_has ls 1 [(0, .int p0)]) : W p l e rm_X7_size s m args below meth c H locs 0 0 Q (F0 m 0 ls []) := by
  have hR := hR.trans e_X7_size
  refine lv_iload_n hx hb dX7_size_0 rfl (lv_at hl 0 rfl) ?_
  refine lv_if_ge (tgt := 9) hx hb dX7_size_1 (by decide) (fun c_1 => ?_) (fun c_1 => ?_)
  · have hR := hR.trans (if_pos c_1)
    refine lv_iload_n hx hb dX7_size_9 rfl (lv_at hl 0 rfl) ?_
    exact kR p0 10 ls hR.symm dX7_size_10
  · have hR := hR.trans (if_neg c_1)
    refine lv_iload_n hx hb dX7_size_4 rfl (lv_at hl 0 rfl) ?_
    refine lv_ineg hx hb dX7_size_5 ?_
    refine lv_goto (tgt := 10) hx hb dX7_size_6 (by decide) ?_
    exact kR (-p0) 10 ls hR.symm dX7_size_10
set_option maxHeartbeats 4000000 in
set_option maxRecDepth 100000 in
theorem m_X7_size (l : Launch) (dC : Nat → ClassId) (dI : Nat → Nat → Nat) (cI cJ : ClassId) (p0 : Int32) : Met l yX7_size wsX7_size rm_X7_size (va_Pc [.int p0] (fun U => va_P (dC, dI) vwCl [] U.heap ∧ va_K (dC, dI) vwCl [(cI, .int), (cJ, .long)] U)) (vp_Si (fun r => r = f_X7_size p0)) 0 0 (fun _ => False) := by
  refine Met.ofW (cc := cX7_size) (maxL := 1) (ret := (some .int)) (by decide) rfl ?_
  intro p e s m args below meth c s₁ B hml hv
  obtain ⟨rfl, hP, hK⟩ := hv
  have hl := lv_entry ([.int p0]) (n := 1) (Nat.le_of_ble_eq_true rfl)
  rw [lg_entry_eq]
  refine w_X7_size B.exec B.bytes hml (findClass_of_methodNamed B.named) (atoms_spec (ws := wsX7_size) B.pre) hK hP rfl (fun r pc ls er hd => ?_) _ hl
  exact W.iret B.exec B.bytes B.returns (fun t ht hW => ⟨r, rfl, er, ht⟩) (fun _ h => by cases h) hd B.notSynchronized
end
def f_X7_sign (p0 : Int32) : Int32 :=
  (if 0 ≤ p0 then (if p0 ≤ 0 then (0 : Int32) else (1 : Int32)) else (-1 : Int32))
theorem e_X7_sign {p0 : Int32} : f_X7_sign p0 = (if 0 ≤ p0 then (if p0 ≤ 0 then (0 : Int32) else (1 : Int32)) else (-1 : Int32)) := rfl
section
variable {p : Program} {l : Launch} {e : Env} {s : State} {m : MethodId} {args : Array Value} {below : List Frame} {meth : Method} {c : Code} {Q : State → Prop} {H : Heap} {locs : List Loc} {dC : Nat → ClassId} {dI : Nat → Nat → Nat} {cI cJ : ClassId}
abbrev rm_X7_sign : Room := { frames := 0, cells := 0, slots := 0, locals := 0 }
theorem hd_X7_sign : yX7_sign.cls ≠ "java/lang/invoke/MethodHandle" ∧ yX7_sign.cls ≠ "java/lang/invoke/VarHandle" ∧ (parseMethodDescriptor yX7_sign.desc).map (fun d => d.parameters.length) = some 1 := by decide +kernel
set_option maxHeartbeats 4000000 in
set_option maxRecDepth 100000 in
theorem w_X7_sign {p0 : Int32} {F : Int32} (hx : p.tables.exec = Jvm.exec) (hb : c.code = cX7_sign) (hml : c.maxLocals = 1) (hown : s.vm.findClass RX7 = some m.cls) (hts : ∀ w ∈ wsX7_sign, w.before args s = true) (hK : va_K (dC, dI) vwCl [(cI, .int), (cJ, .long)] s) (hP : va_P (dC, dI) vwCl [] H) (hR : F = f_X7_sign p0) (kR : ∀ (r : Int32) (pc : Nat) (ls : Array Slot), r = F → decode cX7_sign pc = .ok (.ireturn, 1) → W p l e rm_X7_sign s m args below meth c H locs 0 0 Q (F0 m pc ls [.int r])) (ls : Array Slot) (hl : lv_has ls 1 [(0, .int p0)]) : W p l e rm_X7_sign s m args below meth c H locs 0 0 Q (F0 m 0 ls []) := by
  have hR := hR.trans e_X7_sign
  refine lv_iload_n hx hb dX7_sign_0 rfl (lv_at hl 0 rfl) ?_
  refine lv_if_ge (tgt := 8) hx hb dX7_sign_1 (by decide) (fun c_1 => ?_) (fun c_1 => ?_)
  · have hR := hR.trans (if_pos c_1)
    refine lv_iload_n hx hb dX7_sign_8 rfl (lv_at hl 0 rfl) ?_
    refine lv_if_le (tgt := 16) hx hb dX7_sign_9 (by decide) (fun c_2 => ?_) (fun c_2 => ?_)
    · have hR := hR.trans (if_pos c_2)
      refine lv_iconst (v := (0 : Int32)) hx hb dX7_sign_16 (by decide) ?_
      exact kR (0 : Int32) 17 ls hR.symm dX7_sign_17
    · have hR := hR.trans (if_neg c_2)
      refine lv_iconst (v := (1 : Int32)) hx hb dX7_sign_12 (by decide) ?_
      refine lv_goto (tgt := 17) hx hb dX7_sign_13 (by decide) ?_
      exact kR (1 : Int32) 17 ls hR.symm dX7_sign_17
  · have hR := hR.trans (if_neg c_1)
    refine lv_iconst (v := (-1 : Int32)) hx hb dX7_sign_4 (by decide +kernel) ?_
    refine lv_goto (tgt := 17) hx hb dX7_sign_5 (by decide) ?_
    exact kR (-1 : Int32) 17 ls hR.symm dX7_sign_17
set_option maxHeartbeats 4000000 in
set_option maxRecDepth 100000 in
theorem m_X7_sign (l : Launch) (dC : Nat → ClassId) (dI : Nat → Nat → Nat) (cI cJ : ClassId) (p0 : Int32) : Met l yX7_sign wsX7_sign rm_X7_sign (va_Pc [.int p0] (fun U => va_P (dC, dI) vwCl [] U.heap ∧ va_K (dC, dI) vwCl [(cI, .int), (cJ, .long)] U)) (vp_Si (fun r => r = f_X7_sign p0)) 0 0 (fun _ => False) := by
  refine Met.ofW (cc := cX7_sign) (maxL := 1) (ret := (some .int)) (by decide) rfl ?_
  intro p e s m args below meth c s₁ B hml hv
  obtain ⟨rfl, hP, hK⟩ := hv
  have hl := lv_entry ([.int p0]) (n := 1) (Nat.le_of_ble_eq_true rfl)
  rw [lg_entry_eq]
  refine w_X7_sign B.exec B.bytes hml (findClass_of_methodNamed B.named) (atoms_spec (ws := wsX7_sign) B.pre) hK hP rfl (fun r pc ls er hd => ?_) _ hl
  exact W.iret B.exec B.bytes B.returns (fun t ht hW => ⟨r, rfl, er, ht⟩) (fun _ h => by cases h) hd B.notSynchronized
end
def f_X7_white (p0 : Int32) : Int32 :=
  (if (3 : Int32) ≤ p0 then (((2 : Int32) * p0) - (1 : Int32)) else ((2 : Int32) * p0))
theorem e_X7_white {p0 : Int32} : f_X7_white p0 = (if (3 : Int32) ≤ p0 then (((2 : Int32) * p0) - (1 : Int32)) else ((2 : Int32) * p0)) := rfl
section
variable {p : Program} {l : Launch} {e : Env} {s : State} {m : MethodId} {args : Array Value} {below : List Frame} {meth : Method} {c : Code} {Q : State → Prop} {H : Heap} {locs : List Loc} {dC : Nat → ClassId} {dI : Nat → Nat → Nat} {cI cJ : ClassId}
abbrev rm_X7_white : Room := { frames := 0, cells := 0, slots := 0, locals := 0 }
theorem hd_X7_white : yX7_white.cls ≠ "java/lang/invoke/MethodHandle" ∧ yX7_white.cls ≠ "java/lang/invoke/VarHandle" ∧ (parseMethodDescriptor yX7_white.desc).map (fun d => d.parameters.length) = some 1 := by decide +kernel
set_option maxHeartbeats 4000000 in
set_option maxRecDepth 100000 in
theorem w_X7_white {p0 : Int32} {F : Int32} (hx : p.tables.exec = Jvm.exec) (hb : c.code = cX7_white) (hml : c.maxLocals = 1) (hown : s.vm.findClass RX7 = some m.cls) (hts : ∀ w ∈ wsX7_white, w.before args s = true) (hK : va_K (dC, dI) vwCl [(cI, .int), (cJ, .long)] s) (hP : va_P (dC, dI) vwCl [] H) (hR : F = f_X7_white p0) (kR : ∀ (r : Int32) (pc : Nat) (ls : Array Slot), r = F → decode cX7_white pc = .ok (.ireturn, 1) → W p l e rm_X7_white s m args below meth c H locs 0 0 Q (F0 m pc ls [.int r])) (ls : Array Slot) (hl : lv_has ls 1 [(0, .int p0)]) : W p l e rm_X7_white s m args below meth c H locs 0 0 Q (F0 m 0 ls []) := by
  have hR := hR.trans e_X7_white
  refine lv_iload_n hx hb dX7_white_0 rfl (lv_at hl 0 rfl) ?_
  refine lv_iconst (v := (3 : Int32)) hx hb dX7_white_1 (by decide) ?_
  refine lv_icmp_ge (tgt := 11) hx hb dX7_white_2 (by decide) (fun c_1 => ?_) (fun c_1 => ?_)
  · have hR := hR.trans (if_pos c_1)
    refine lv_iconst (v := (2 : Int32)) hx hb dX7_white_11 (by decide) ?_
    refine lv_iload_n hx hb dX7_white_12 rfl (lv_at hl 0 rfl) ?_
    refine lv_imul hx hb dX7_white_13 ?_
    refine lv_iconst (v := (1 : Int32)) hx hb dX7_white_14 (by decide) ?_
    refine lv_isub hx hb dX7_white_15 ?_
    exact kR (((2 : Int32) * p0) - (1 : Int32)) 16 ls hR.symm dX7_white_16
  · have hR := hR.trans (if_neg c_1)
    refine lv_iconst (v := (2 : Int32)) hx hb dX7_white_5 (by decide) ?_
    refine lv_iload_n hx hb dX7_white_6 rfl (lv_at hl 0 rfl) ?_
    refine lv_imul hx hb dX7_white_7 ?_
    refine lv_goto (tgt := 16) hx hb dX7_white_8 (by decide) ?_
    exact kR ((2 : Int32) * p0) 16 ls hR.symm dX7_white_16
set_option maxHeartbeats 4000000 in
set_option maxRecDepth 100000 in
theorem m_X7_white (l : Launch) (dC : Nat → ClassId) (dI : Nat → Nat → Nat) (cI cJ : ClassId) (p0 : Int32) : Met l yX7_white wsX7_white rm_X7_white (va_Pc [.int p0] (fun U => va_P (dC, dI) vwCl [] U.heap ∧ va_K (dC, dI) vwCl [(cI, .int), (cJ, .long)] U)) (vp_Si (fun r => r = f_X7_white p0)) 0 0 (fun _ => False) := by
  refine Met.ofW (cc := cX7_white) (maxL := 1) (ret := (some .int)) (by decide) rfl ?_
  intro p e s m args below meth c s₁ B hml hv
  obtain ⟨rfl, hP, hK⟩ := hv
  have hl := lv_entry ([.int p0]) (n := 1) (Nat.le_of_ble_eq_true rfl)
  rw [lg_entry_eq]
  refine w_X7_white B.exec B.bytes hml (findClass_of_methodNamed B.named) (atoms_spec (ws := wsX7_white) B.pre) hK hP rfl (fun r pc ls er hd => ?_) _ hl
  exact W.iret B.exec B.bytes B.returns (fun t ht hW => ⟨r, rfl, er, ht⟩) (fun _ h => by cases h) hd B.notSynchronized
end
def f_X7_pitchOf (p0 : Int32) : Int32 :=
  ((((12 : Int32) * (idiv (p0 + (70 : Int32)) (7 : Int32))) - (120 : Int32)) + (f_X7_white (irem (p0 + (70 : Int32)) (7 : Int32))))
theorem e_X7_pitchOf {p0 : Int32} : f_X7_pitchOf p0 = ((((12 : Int32) * (idiv (p0 + (70 : Int32)) (7 : Int32))) - (120 : Int32)) + (f_X7_white (irem (p0 + (70 : Int32)) (7 : Int32)))) := rfl
section
variable {p : Program} {l : Launch} {e : Env} {s : State} {m : MethodId} {args : Array Value} {below : List Frame} {meth : Method} {c : Code} {Q : State → Prop} {H : Heap} {locs : List Loc} {dC : Nat → ClassId} {dI : Nat → Nat → Nat} {cI cJ : ClassId}
abbrev rm_X7_pitchOf : Room := { frames := 1, cells := 0, slots := 0, locals := 20 }
theorem hd_X7_pitchOf : yX7_pitchOf.cls ≠ "java/lang/invoke/MethodHandle" ∧ yX7_pitchOf.cls ≠ "java/lang/invoke/VarHandle" ∧ (parseMethodDescriptor yX7_pitchOf.desc).map (fun d => d.parameters.length) = some 1 := by decide +kernel
set_option maxHeartbeats 4000000 in
set_option maxRecDepth 100000 in
theorem w_X7_pitchOf {p0 : Int32} {F : Int32} (hx : p.tables.exec = Jvm.exec) (hb : c.code = cX7_pitchOf) (hml : c.maxLocals = 2) (hown : s.vm.findClass RX7 = some m.cls) (hts : ∀ w ∈ wsX7_pitchOf, w.before args s = true) (hK : va_K (dC, dI) vwCl [(cI, .int), (cJ, .long)] s) (hP : va_P (dC, dI) vwCl [] H) (hR : F = f_X7_pitchOf p0) (kR : ∀ (r : Int32) (pc : Nat) (ls : Array Slot), r = F → decode cX7_pitchOf pc = .ok (.ireturn, 1) → W p l e rm_X7_pitchOf s m args below meth c H locs 0 0 Q (F0 m pc ls [.int r])) (ls : Array Slot) (hl : lv_has ls 2 [(0, .int p0)]) : W p l e rm_X7_pitchOf s m args below meth c H locs 0 0 Q (F0 m 0 ls []) := by
  have hR := hR.trans e_X7_pitchOf
  refine lv_iload_n hx hb dX7_pitchOf_0 rfl (lv_at hl 0 rfl) ?_
  refine lv_bipush (v := (70 : Int32)) hx hb dX7_pitchOf_1 (by decide) ?_
  refine lv_iadd hx hb dX7_pitchOf_3 ?_
  refine lv_istore_n (lv' := [(1, .int (p0 + (70 : Int32))), (0, .int p0)]) hx hb dX7_pitchOf_4 rfl hl (by decide) rfl (fun ls hl => ?_)
  refine lv_bipush (v := (12 : Int32)) hx hb dX7_pitchOf_5 (by decide) ?_
  refine lv_iload_n hx hb dX7_pitchOf_7 rfl (lv_at hl 0 rfl) ?_
  refine lv_bipush (v := (7 : Int32)) hx hb dX7_pitchOf_8 (by decide) ?_
  refine w_idiv hx hb dX7_pitchOf_10 (by decide) ?_
  refine lv_imul hx hb dX7_pitchOf_11 ?_
  refine lv_bipush (v := (120 : Int32)) hx hb dX7_pitchOf_12 (by decide) ?_
  refine lv_isub hx hb dX7_pitchOf_14 ?_
  refine lv_iload_n hx hb dX7_pitchOf_15 rfl (lv_at hl 0 rfl) ?_
  refine lv_bipush (v := (7 : Int32)) hx hb dX7_pitchOf_16 (by decide) ?_
  refine w_irem hx hb dX7_pitchOf_18 (by decide) ?_
  refine rS_i (As := [.int (irem (p0 + (70 : Int32)) (7 : Int32))]) (rest := [.int (((12 : Int32) * (idiv (p0 + (70 : Int32)) (7 : Int32))) - (120 : Int32))]) ⟨hx, hb, hml, hown, hts⟩ (m_X7_white l dC dI cI cJ (irem (p0 + (70 : Int32)) (7 : Int32))) (va_cwS 1 hts (gi_S wm_646 wm_647 wm_633 wm_648) rfl rfl rfl hd_X7_white ⟨Nat.le_of_ble_eq_true rfl, Nat.le_of_ble_eq_true rfl⟩) hK (hP.sub [] rfl) rfl hl.1 rfl (Nat.le_of_ble_eq_true rfl) dX7_pitchOf_19 ⟨Nat.zero_le _, Nat.zero_le _⟩ ?_
  refine lv_iadd hx hb dX7_pitchOf_22 ?_
  exact kR ((((12 : Int32) * (idiv (p0 + (70 : Int32)) (7 : Int32))) - (120 : Int32)) + (f_X7_white (irem (p0 + (70 : Int32)) (7 : Int32)))) 23 ls hR.symm dX7_pitchOf_23
set_option maxHeartbeats 4000000 in
set_option maxRecDepth 100000 in
theorem m_X7_pitchOf (l : Launch) (dC : Nat → ClassId) (dI : Nat → Nat → Nat) (cI cJ : ClassId) (p0 : Int32) : Met l yX7_pitchOf wsX7_pitchOf rm_X7_pitchOf (va_Pc [.int p0] (fun U => va_P (dC, dI) vwCl [] U.heap ∧ va_K (dC, dI) vwCl [(cI, .int), (cJ, .long)] U)) (vp_Si (fun r => r = f_X7_pitchOf p0)) 0 0 (fun _ => False) := by
  refine Met.ofW (cc := cX7_pitchOf) (maxL := 2) (ret := (some .int)) (by decide) rfl ?_
  intro p e s m args below meth c s₁ B hml hv
  obtain ⟨rfl, hP, hK⟩ := hv
  have hl := lv_entry ([.int p0]) (n := 2) (Nat.le_of_ble_eq_true rfl)
  rw [lg_entry_eq]
  refine w_X7_pitchOf B.exec B.bytes hml (findClass_of_methodNamed B.named) (atoms_spec (ws := wsX7_pitchOf) B.pre) hK hP rfl (fun r pc ls er hd => ?_) _ hl
  exact W.iret B.exec B.bytes B.returns (fun t ht hW => ⟨r, rfl, er, ht⟩) (fun _ h => by cases h) hd B.notSynchronized
end
def f_X7_kind_j87 (v1 : Int32) (v2 : Int32) : Int32 :=
  (if v1 = 0 then (if v2 = 0 then (3 : Int32) else (2 : Int32)) else (2 : Int32))
theorem e_X7_kind_j87 {v1 : Int32} {v2 : Int32} : f_X7_kind_j87 v1 v2 = (if v1 = 0 then (if v2 = 0 then (3 : Int32) else (2 : Int32)) else (2 : Int32)) := rfl
def f_X7_kind_j72 (p0 : Int32) (p1 : Int32) (v1 : Int32) (v2 : Int32) : Int32 :=
  (if (irem (f_X7_size p0) (7 : Int32)) = (4 : Int32) then (if (irem (f_X7_size p1) (12 : Int32)) = (7 : Int32) then (1 : Int32) else f_X7_kind_j87 v1 v2) else f_X7_kind_j87 v1 v2)
theorem e_X7_kind_j72 {p0 : Int32} {p1 : Int32} {v1 : Int32} {v2 : Int32} : f_X7_kind_j72 p0 p1 v1 v2 = (if (irem (f_X7_size p0) (7 : Int32)) = (4 : Int32) then (if (irem (f_X7_size p1) (12 : Int32)) = (7 : Int32) then (1 : Int32) else f_X7_kind_j87 v1 v2) else f_X7_kind_j87 v1 v2) := rfl
def f_X7_kind_j58 (p0 : Int32) (p1 : Int32) (v1 : Int32) (v2 : Int32) : Int32 :=
  (if (irem (f_X7_size p0) (7 : Int32)) = 0 then (if (irem (f_X7_size p1) (12 : Int32)) = 0 then (0 : Int32) else f_X7_kind_j72 p0 p1 v1 v2) else f_X7_kind_j72 p0 p1 v1 v2)
theorem e_X7_kind_j58 {p0 : Int32} {p1 : Int32} {v1 : Int32} {v2 : Int32} : f_X7_kind_j58 p0 p1 v1 v2 = (if (irem (f_X7_size p0) (7 : Int32)) = 0 then (if (irem (f_X7_size p1) (12 : Int32)) = 0 then (0 : Int32) else f_X7_kind_j72 p0 p1 v1 v2) else f_X7_kind_j72 p0 p1 v1 v2) := rfl
def f_X7_kind_j57 (p0 : Int32) (p1 : Int32) (v1 : Int32) : Int32 :=
  f_X7_kind_j58 p0 p1 v1 (0 : Int32)
theorem e_X7_kind_j57 {p0 : Int32} {p1 : Int32} {v1 : Int32} : f_X7_kind_j57 p0 p1 v1 = f_X7_kind_j58 p0 p1 v1 (0 : Int32) := rfl
def f_X7_kind_j35 (p0 : Int32) (p1 : Int32) (v1 : Int32) : Int32 :=
  (if (irem (f_X7_size p0) (7 : Int32)) = (5 : Int32) then (if (f_X7_in (irem (f_X7_size p1) (12 : Int32)) (8 : Int32) (9 : Int32)) = 0 then f_X7_kind_j57 p0 p1 v1 else f_X7_kind_j58 p0 p1 v1 (1 : Int32)) else f_X7_kind_j57 p0 p1 v1)
theorem e_X7_kind_j35 {p0 : Int32} {p1 : Int32} {v1 : Int32} : f_X7_kind_j35 p0 p1 v1 = (if (irem (f_X7_size p0) (7 : Int32)) = (5 : Int32) then (if (f_X7_in (irem (f_X7_size p1) (12 : Int32)) (8 : Int32) (9 : Int32)) = 0 then f_X7_kind_j57 p0 p1 v1 else f_X7_kind_j58 p0 p1 v1 (1 : Int32)) else f_X7_kind_j57 p0 p1 v1) := rfl
def f_X7_kind_j34 (p0 : Int32) (p1 : Int32) : Int32 :=
  f_X7_kind_j35 p0 p1 (0 : Int32)
theorem e_X7_kind_j34 {p0 : Int32} {p1 : Int32} : f_X7_kind_j34 p0 p1 = f_X7_kind_j35 p0 p1 (0 : Int32) := rfl
def f_X7_kind (p0 : Int32) (p1 : Int32) : Int32 :=
  (if (irem (f_X7_size p0) (7 : Int32)) = (2 : Int32) then (if (f_X7_in (irem (f_X7_size p1) (12 : Int32)) (3 : Int32) (4 : Int32)) = 0 then f_X7_kind_j34 p0 p1 else f_X7_kind_j35 p0 p1 (1 : Int32)) else f_X7_kind_j34 p0 p1)
theorem e_X7_kind {p0 : Int32} {p1 : Int32} : f_X7_kind p0 p1 = (if (irem (f_X7_size p0) (7 : Int32)) = (2 : Int32) then (if (f_X7_in (irem (f_X7_size p1) (12 : Int32)) (3 : Int32) (4 : Int32)) = 0 then f_X7_kind_j34 p0 p1 else f_X7_kind_j35 p0 p1 (1 : Int32)) else f_X7_kind_j34 p0 p1) := rfl
section
variable {p : Program} {l : Launch} {e : Env} {s : State} {m : MethodId} {args : Array Value} {below : List Frame} {meth : Method} {c : Code} {Q : State → Prop} {H : Heap} {locs : List Loc} {dC : Nat → ClassId} {dI : Nat → Nat → Nat} {cI cJ : ClassId}
abbrev rm_X7_kind : Room := { frames := 1, cells := 0, slots := 0, locals := 22 }
theorem hd_X7_kind : yX7_kind.cls ≠ "java/lang/invoke/MethodHandle" ∧ yX7_kind.cls ≠ "java/lang/invoke/VarHandle" ∧ (parseMethodDescriptor yX7_kind.desc).map (fun d => d.parameters.length) = some 2 := by decide +kernel
set_option maxHeartbeats 4000000 in
set_option maxRecDepth 100000 in
theorem w_X7_kind {p0 : Int32} {p1 : Int32} {F : Int32} (hx : p.tables.exec = Jvm.exec) (hb : c.code = cX7_kind) (hml : c.maxLocals = 6) (hown : s.vm.findClass RX7 = some m.cls) (hts : ∀ w ∈ wsX7_kind, w.before args s = true) (hK : va_K (dC, dI) vwCl [(cI, .int), (cJ, .long)] s) (hP : va_P (dC, dI) vwCl [] H) (hR : F = f_X7_kind p0 p1) (kR : ∀ (r : Int32) (pc : Nat) (ls : Array Slot), r = F → decode cX7_kind pc = .ok (.ireturn, 1) → W p l e rm_X7_kind s m args below meth c H locs 0 0 Q (F0 m pc ls [.int r])) (ls : Array Slot) (hl : lv_has ls 6 [(0, .int p0), (1, .int p1)]) : W p l e rm_X7_kind s m args below meth c H locs 0 0 Q (F0 m 0 ls []) := by
  have hR := hR.trans e_X7_kind
  refine lv_iload_n hx hb dX7_kind_0 rfl (lv_at hl 0 rfl) ?_
  refine rS_i (As := [.int p0]) (rest := []) ⟨hx, hb, hml, hown, hts⟩ (m_X7_size l dC dI cI cJ p0) (va_cwS 1 hts (gi_S wm_659 wm_660 wm_633 wm_661) rfl rfl rfl hd_X7_size ⟨Nat.le_of_ble_eq_true rfl, Nat.le_of_ble_eq_true rfl⟩) hK (hP.sub [] rfl) rfl hl.1 rfl (Nat.le_of_ble_eq_true rfl) dX7_kind_1 ⟨Nat.zero_le _, Nat.zero_le _⟩ ?_
  refine lv_bipush (v := (7 : Int32)) hx hb dX7_kind_4 (by decide) ?_
  refine w_irem hx hb dX7_kind_6 (by decide) ?_
  refine lv_istore_n (lv' := [(2, .int (irem (f_X7_size p0) (7 : Int32))), (0, .int p0), (1, .int p1)]) hx hb dX7_kind_7 rfl hl (by decide) rfl (fun ls hl => ?_)
  refine lv_iload_n hx hb dX7_kind_8 rfl (lv_at hl 2 rfl) ?_
  refine rS_i (As := [.int p1]) (rest := []) ⟨hx, hb, hml, hown, hts⟩ (m_X7_size l dC dI cI cJ p1) (va_cwS 1 hts (gi_S wm_659 wm_660 wm_633 wm_661) rfl rfl rfl hd_X7_size ⟨Nat.le_of_ble_eq_true rfl, Nat.le_of_ble_eq_true rfl⟩) hK (hP.sub [] rfl) rfl hl.1 rfl (Nat.le_of_ble_eq_true rfl) dX7_kind_9 ⟨Nat.zero_le _, Nat.zero_le _⟩ ?_
  refine lv_bipush (v := (12 : Int32)) hx hb dX7_kind_12 (by decide) ?_
  refine w_irem hx hb dX7_kind_14 (by decide) ?_
  refine lv_istore_n (lv' := [(3, .int (irem (f_X7_size p1) (12 : Int32))), (2, .int (irem (f_X7_size p0) (7 : Int32))), (0, .int p0), (1, .int p1)]) hx hb dX7_kind_15 rfl hl (by decide) rfl (fun ls hl => ?_)
  refine lv_iload_n hx hb dX7_kind_16 rfl (lv_at hl 1 rfl) ?_
  refine lv_iconst (v := (2 : Int32)) hx hb dX7_kind_17 (by decide) ?_
  have J35 : ∀ (v1 : Int32) (ls : Array Slot), lv_has ls 6 [(2, .int (irem (f_X7_size p0) (7 : Int32))), (3, .int (irem (f_X7_size p1) (12 : Int32)))] → zb v1 → F = f_X7_kind_j35 p0 p1 v1 → W p l e rm_X7_kind s m args below meth c H locs 0 0 Q (F0 m 35 ls [.int v1]) := by
    intro v1 ls hl hz_v1 hR
    have hR := hR.trans e_X7_kind_j35
    refine lv_istore (lv' := [(4, .int v1), (2, .int (irem (f_X7_size p0) (7 : Int32))), (3, .int (irem (f_X7_size p1) (12 : Int32)))]) hx hb dX7_kind_35 hl (by decide) rfl (fun ls hl => ?_)
    refine lv_iload_n hx hb dX7_kind_37 rfl (lv_at hl 1 rfl) ?_
    refine lv_iconst (v := (5 : Int32)) hx hb dX7_kind_38 (by decide) ?_
    have J58 : ∀ (v2 : Int32) (ls : Array Slot), lv_has ls 6 [(2, .int (irem (f_X7_size p0) (7 : Int32))), (3, .int (irem (f_X7_size p1) (12 : Int32))), (4, .int v1)] → zb v2 → F = f_X7_kind_j58 p0 p1 v1 v2 → W p l e rm_X7_kind s m args below meth c H locs 0 0 Q (F0 m 58 ls [.int v2]) := by
      intro v2 ls hl hz_v2 hR
      have hR := hR.trans e_X7_kind_j58
      refine lv_istore (lv' := [(5, .int v2), (2, .int (irem (f_X7_size p0) (7 : Int32))), (3, .int (irem (f_X7_size p1) (12 : Int32))), (4, .int v1)]) hx hb dX7_kind_58 hl (by decide) rfl (fun ls hl => ?_)
      refine lv_iload_n hx hb dX7_kind_60 rfl (lv_at hl 1 rfl) ?_
      have J72 : ∀ (ls : Array Slot), lv_has ls 6 [(2, .int (irem (f_X7_size p0) (7 : Int32))), (3, .int (irem (f_X7_size p1) (12 : Int32))), (4, .int v1), (5, .int v2)] → F = f_X7_kind_j72 p0 p1 v1 v2 → W p l e rm_X7_kind s m args below meth c H locs 0 0 Q (F0 m 72 ls []) := by
        intro ls hl hR
        have hR := hR.trans e_X7_kind_j72
        refine lv_iload_n hx hb dX7_kind_72 rfl (lv_at hl 0 rfl) ?_
        refine lv_iconst (v := (4 : Int32)) hx hb dX7_kind_73 (by decide) ?_
        have J87 : ∀ (ls : Array Slot), lv_has ls 6 [(4, .int v1), (5, .int v2)] → F = f_X7_kind_j87 v1 v2 → W p l e rm_X7_kind s m args below meth c H locs 0 0 Q (F0 m 87 ls []) := by
          intro ls hl hR
          have hR := hR.trans e_X7_kind_j87
          refine lv_iload hx hb dX7_kind_87 (lv_at hl 0 rfl) ?_
          refine lv_if_ne (tgt := 97) hx hb dX7_kind_89 (by decide) (fun c_1 => ?_) (fun c_1 => ?_)
          · have hR := hR.trans (if_neg c_1)
            refine lv_iconst (v := (2 : Int32)) hx hb dX7_kind_97 (by decide) ?_
            refine lv_goto (tgt := 102) hx hb dX7_kind_98 (by decide) ?_
            exact kR (2 : Int32) 102 ls hR.symm dX7_kind_102
          · have hR := hR.trans (if_pos c_1)
            refine lv_iload hx hb dX7_kind_92 (lv_at hl 1 rfl) ?_
            refine lv_if_eq (tgt := 101) hx hb dX7_kind_94 (by decide) (fun c_2 => ?_) (fun c_2 => ?_)
            · have hR := hR.trans (if_pos c_2)
              refine lv_iconst (v := (3 : Int32)) hx hb dX7_kind_101 (by decide) ?_
              exact kR (3 : Int32) 102 ls hR.symm dX7_kind_102
            · have hR := hR.trans (if_neg c_2)
              refine lv_iconst (v := (2 : Int32)) hx hb dX7_kind_97 (by decide) ?_
              refine lv_goto (tgt := 102) hx hb dX7_kind_98 (by decide) ?_
              exact kR (2 : Int32) 102 ls hR.symm dX7_kind_102
        refine lv_icmp_ne (tgt := 87) hx hb dX7_kind_74 (by decide) (fun c_3 => ?_) (fun c_3 => ?_)
        · have hR := hR.trans (if_neg c_3)
          exact J87 ls (lv_sub hl [2, 3] rfl) hR
        · have hR := hR.trans (if_pos c_3)
          refine lv_iload_n hx hb dX7_kind_77 rfl (lv_at hl 1 rfl) ?_
          refine lv_bipush (v := (7 : Int32)) hx hb dX7_kind_78 (by decide) ?_
          refine lv_icmp_ne (tgt := 87) hx hb dX7_kind_80 (by decide) (fun c_4 => ?_) (fun c_4 => ?_)
          · have hR := hR.trans (if_neg c_4)
            exact J87 ls (lv_sub hl [2, 3] rfl) hR
          · have hR := hR.trans (if_pos c_4)
            refine lv_iconst (v := (1 : Int32)) hx hb dX7_kind_83 (by decide) ?_
            refine lv_goto (tgt := 102) hx hb dX7_kind_84 (by decide) ?_
            exact kR (1 : Int32) 102 ls hR.symm dX7_kind_102
      refine lv_if_ne (tgt := 72) hx hb dX7_kind_61 (by decide) (fun c_5 => ?_) (fun c_5 => ?_)
      · have hR := hR.trans (if_neg c_5)
        exact J72 ls (lv_sub hl [1, 2, 3, 0] rfl) hR
      · have hR := hR.trans (if_pos c_5)
        refine lv_iload_n hx hb dX7_kind_64 rfl (lv_at hl 2 rfl) ?_
        refine lv_if_ne (tgt := 72) hx hb dX7_kind_65 (by decide) (fun c_6 => ?_) (fun c_6 => ?_)
        · have hR := hR.trans (if_neg c_6)
          exact J72 ls (lv_sub hl [1, 2, 3, 0] rfl) hR
        · have hR := hR.trans (if_pos c_6)
          refine lv_iconst (v := (0 : Int32)) hx hb dX7_kind_68 (by decide) ?_
          refine lv_goto (tgt := 102) hx hb dX7_kind_69 (by decide) ?_
          exact kR (0 : Int32) 102 ls hR.symm dX7_kind_102
    have J57 : ∀ (ls : Array Slot), lv_has ls 6 [(2, .int (irem (f_X7_size p0) (7 : Int32))), (3, .int (irem (f_X7_size p1) (12 : Int32))), (4, .int v1)] → F = f_X7_kind_j57 p0 p1 v1 → W p l e rm_X7_kind s m args below meth c H locs 0 0 Q (F0 m 57 ls []) := by
      intro ls hl hR
      have hR := hR.trans e_X7_kind_j57
      refine lv_iconst (v := (0 : Int32)) hx hb dX7_kind_57 (by decide) ?_
      exact J58 (0 : Int32) ls (lv_sub hl [0, 1, 2] rfl) (by first | exact Or.inl rfl | exact Or.inr rfl) hR
    refine lv_icmp_ne (tgt := 57) hx hb dX7_kind_39 (by decide) (fun c_7 => ?_) (fun c_7 => ?_)
    · have hR := hR.trans (if_neg c_7)
      exact J57 ls (lv_sub hl [1, 2, 0] rfl) hR
    · have hR := hR.trans (if_pos c_7)
      refine lv_iload_n hx hb dX7_kind_42 rfl (lv_at hl 2 rfl) ?_
      refine lv_bipush (v := (8 : Int32)) hx hb dX7_kind_43 (by decide) ?_
      refine lv_bipush (v := (9 : Int32)) hx hb dX7_kind_45 (by decide) ?_
      refine rS_i (As := [.int (irem (f_X7_size p1) (12 : Int32)), .int (8 : Int32), .int (9 : Int32)]) (rest := []) ⟨hx, hb, hml, hown, hts⟩ (m_X7_in l dC dI cI cJ (irem (f_X7_size p1) (12 : Int32)) (8 : Int32) (9 : Int32)) (va_cwS 3 hts (gi_S wm_635 wm_636 wm_633 wm_637) rfl rfl rfl hd_X7_in ⟨Nat.le_of_ble_eq_true rfl, Nat.le_of_ble_eq_true rfl⟩) hK (hP.sub [] rfl) rfl hl.1 rfl (Nat.le_of_ble_eq_true rfl) dX7_kind_47 ⟨Nat.zero_le _, Nat.zero_le _⟩ ?_
      refine lv_if_eq (tgt := 57) hx hb dX7_kind_50 (by decide) (fun c_8 => ?_) (fun c_8 => ?_)
      · have hR := hR.trans (if_pos c_8)
        exact J57 ls (lv_sub hl [1, 2, 0] rfl) hR
      · have hR := hR.trans (if_neg c_8)
        refine lv_iconst (v := (1 : Int32)) hx hb dX7_kind_53 (by decide) ?_
        refine lv_goto (tgt := 58) hx hb dX7_kind_54 (by decide) ?_
        exact J58 (1 : Int32) ls (lv_sub hl [1, 2, 0] rfl) (by first | exact Or.inl rfl | exact Or.inr rfl) hR
  have J34 : ∀ (ls : Array Slot), lv_has ls 6 [(2, .int (irem (f_X7_size p0) (7 : Int32))), (3, .int (irem (f_X7_size p1) (12 : Int32)))] → F = f_X7_kind_j34 p0 p1 → W p l e rm_X7_kind s m args below meth c H locs 0 0 Q (F0 m 34 ls []) := by
    intro ls hl hR
    have hR := hR.trans e_X7_kind_j34
    refine lv_iconst (v := (0 : Int32)) hx hb dX7_kind_34 (by decide) ?_
    exact J35 (0 : Int32) ls (lv_sub hl [0, 1] rfl) (by first | exact Or.inl rfl | exact Or.inr rfl) hR
  refine lv_icmp_ne (tgt := 34) hx hb dX7_kind_18 (by decide) (fun c_9 => ?_) (fun c_9 => ?_)
  · have hR := hR.trans (if_neg c_9)
    exact J34 ls (lv_sub hl [1, 0] rfl) hR
  · have hR := hR.trans (if_pos c_9)
    refine lv_iload_n hx hb dX7_kind_21 rfl (lv_at hl 0 rfl) ?_
    refine lv_iconst (v := (3 : Int32)) hx hb dX7_kind_22 (by decide) ?_
    refine lv_iconst (v := (4 : Int32)) hx hb dX7_kind_23 (by decide) ?_
    refine rS_i (As := [.int (irem (f_X7_size p1) (12 : Int32)), .int (3 : Int32), .int (4 : Int32)]) (rest := []) ⟨hx, hb, hml, hown, hts⟩ (m_X7_in l dC dI cI cJ (irem (f_X7_size p1) (12 : Int32)) (3 : Int32) (4 : Int32)) (va_cwS 3 hts (gi_S wm_635 wm_636 wm_633 wm_637) rfl rfl rfl hd_X7_in ⟨Nat.le_of_ble_eq_true rfl, Nat.le_of_ble_eq_true rfl⟩) hK (hP.sub [] rfl) rfl hl.1 rfl (Nat.le_of_ble_eq_true rfl) dX7_kind_24 ⟨Nat.zero_le _, Nat.zero_le _⟩ ?_
    refine lv_if_eq (tgt := 34) hx hb dX7_kind_27 (by decide) (fun c_10 => ?_) (fun c_10 => ?_)
    · have hR := hR.trans (if_pos c_10)
      exact J34 ls (lv_sub hl [1, 0] rfl) hR
    · have hR := hR.trans (if_neg c_10)
      refine lv_iconst (v := (1 : Int32)) hx hb dX7_kind_30 (by decide) ?_
      refine lv_goto (tgt := 35) hx hb dX7_kind_31 (by decide) ?_
      exact J35 (1 : Int32) ls (lv_sub hl [1, 0] rfl) (by first | exact Or.inl rfl | exact Or.inr rfl) hR
set_option maxHeartbeats 4000000 in
set_option maxRecDepth 100000 in
theorem m_X7_kind (l : Launch) (dC : Nat → ClassId) (dI : Nat → Nat → Nat) (cI cJ : ClassId) (p0 : Int32) (p1 : Int32) : Met l yX7_kind wsX7_kind rm_X7_kind (va_Pc [.int p0, .int p1] (fun U => va_P (dC, dI) vwCl [] U.heap ∧ va_K (dC, dI) vwCl [(cI, .int), (cJ, .long)] U)) (vp_Si (fun r => r = f_X7_kind p0 p1)) 0 0 (fun _ => False) := by
  refine Met.ofW (cc := cX7_kind) (maxL := 6) (ret := (some .int)) (by decide) rfl ?_
  intro p e s m args below meth c s₁ B hml hv
  obtain ⟨rfl, hP, hK⟩ := hv
  have hl := lv_entry ([.int p0, .int p1]) (n := 6) (Nat.le_of_ble_eq_true rfl)
  rw [lg_entry_eq]
  refine w_X7_kind B.exec B.bytes hml (findClass_of_methodNamed B.named) (atoms_spec (ws := wsX7_kind) B.pre) hK hP rfl (fun r pc ls er hd => ?_) _ hl
  exact W.iret B.exec B.bytes B.returns (fun t ht hW => ⟨r, rfl, er, ht⟩) (fun _ h => by cases h) hd B.notSynchronized
end
def f_X7_letterOf (p0 : Int32) : Int32 :=
  (if p0 = 0 then (98 : Int32) else (if p0 = (1 : Int32) then (101 : Int32) else (if p0 = (2 : Int32) then (100 : Int32) else (if p0 = (3 : Int32) then (119 : Int32) else (if p0 = (4 : Int32) then (112 : Int32) else (if p0 = (5 : Int32) then (113 : Int32) else (if p0 = (6 : Int32) then (104 : Int32) else (if p0 = (7 : Int32) then (120 : Int32) else (if p0 = (8 : Int32) then (117 : Int32) else (if p0 = (9 : Int32) then (115 : Int32) else (if p0 = (10 : Int32) then (116 : Int32) else (114 : Int32))))))))))))
theorem e_X7_letterOf {p0 : Int32} : f_X7_letterOf p0 = (if p0 = 0 then (98 : Int32) else (if p0 = (1 : Int32) then (101 : Int32) else (if p0 = (2 : Int32) then (100 : Int32) else (if p0 = (3 : Int32) then (119 : Int32) else (if p0 = (4 : Int32) then (112 : Int32) else (if p0 = (5 : Int32) then (113 : Int32) else (if p0 = (6 : Int32) then (104 : Int32) else (if p0 = (7 : Int32) then (120 : Int32) else (if p0 = (8 : Int32) then (117 : Int32) else (if p0 = (9 : Int32) then (115 : Int32) else (if p0 = (10 : Int32) then (116 : Int32) else (114 : Int32)))))))))))) := rfl
section
variable {p : Program} {l : Launch} {e : Env} {s : State} {m : MethodId} {args : Array Value} {below : List Frame} {meth : Method} {c : Code} {Q : State → Prop} {H : Heap} {locs : List Loc} {dC : Nat → ClassId} {dI : Nat → Nat → Nat} {cI cJ : ClassId}
abbrev rm_X7_letterOf : Room := { frames := 0, cells := 0, slots := 0, locals := 0 }
theorem hd_X7_letterOf : yX7_letterOf.cls ≠ "java/lang/invoke/MethodHandle" ∧ yX7_letterOf.cls ≠ "java/lang/invoke/VarHandle" ∧ (parseMethodDescriptor yX7_letterOf.desc).map (fun d => d.parameters.length) = some 1 := by decide +kernel
set_option maxHeartbeats 4000000 in
set_option maxRecDepth 100000 in
theorem w_X7_letterOf {p0 : Int32} {F : Int32} (hx : p.tables.exec = Jvm.exec) (hb : c.code = cX7_letterOf) (hml : c.maxLocals = 1) (hown : s.vm.findClass RX7 = some m.cls) (hts : ∀ w ∈ wsX7_letterOf, w.before args s = true) (hK : va_K (dC, dI) vwCl [(cI, .int), (cJ, .long)] s) (hP : va_P (dC, dI) vwCl [] H) (hR : F = f_X7_letterOf p0) (kR : ∀ (r : Int32) (pc : Nat) (ls : Array Slot), narrow .char (.int r) = .int r → r = F → decode cX7_letterOf pc = .ok (.ireturn, 1) → W p l e rm_X7_letterOf s m args below meth c H locs 0 0 Q (F0 m pc ls [.int r])) (ls : Array Slot) (hl : lv_has ls 1 [(0, .int p0)]) : W p l e rm_X7_letterOf s m args below meth c H locs 0 0 Q (F0 m 0 ls []) := by
  have hR := hR.trans e_X7_letterOf
  refine lv_iload_n hx hb dX7_letterOf_0 rfl (lv_at hl 0 rfl) ?_
  refine lv_if_ne (tgt := 9) hx hb dX7_letterOf_1 (by decide) (fun c_1 => ?_) (fun c_1 => ?_)
  · have hR := hR.trans (if_neg c_1)
    refine lv_iload_n hx hb dX7_letterOf_9 rfl (lv_at hl 0 rfl) ?_
    refine lv_iconst (v := (1 : Int32)) hx hb dX7_letterOf_10 (by decide) ?_
    refine lv_icmp_ne (tgt := 19) hx hb dX7_letterOf_11 (by decide) (fun c_2 => ?_) (fun c_2 => ?_)
    · have hR := hR.trans (if_neg c_2)
      refine lv_iload_n hx hb dX7_letterOf_19 rfl (lv_at hl 0 rfl) ?_
      refine lv_iconst (v := (2 : Int32)) hx hb dX7_letterOf_20 (by decide) ?_
      refine lv_icmp_ne (tgt := 29) hx hb dX7_letterOf_21 (by decide) (fun c_3 => ?_) (fun c_3 => ?_)
      · have hR := hR.trans (if_neg c_3)
        refine lv_iload_n hx hb dX7_letterOf_29 rfl (lv_at hl 0 rfl) ?_
        refine lv_iconst (v := (3 : Int32)) hx hb dX7_letterOf_30 (by decide) ?_
        refine lv_icmp_ne (tgt := 39) hx hb dX7_letterOf_31 (by decide) (fun c_4 => ?_) (fun c_4 => ?_)
        · have hR := hR.trans (if_neg c_4)
          refine lv_iload_n hx hb dX7_letterOf_39 rfl (lv_at hl 0 rfl) ?_
          refine lv_iconst (v := (4 : Int32)) hx hb dX7_letterOf_40 (by decide) ?_
          refine lv_icmp_ne (tgt := 49) hx hb dX7_letterOf_41 (by decide) (fun c_5 => ?_) (fun c_5 => ?_)
          · have hR := hR.trans (if_neg c_5)
            refine lv_iload_n hx hb dX7_letterOf_49 rfl (lv_at hl 0 rfl) ?_
            refine lv_iconst (v := (5 : Int32)) hx hb dX7_letterOf_50 (by decide) ?_
            refine lv_icmp_ne (tgt := 59) hx hb dX7_letterOf_51 (by decide) (fun c_6 => ?_) (fun c_6 => ?_)
            · have hR := hR.trans (if_neg c_6)
              refine lv_iload_n hx hb dX7_letterOf_59 rfl (lv_at hl 0 rfl) ?_
              refine lv_bipush (v := (6 : Int32)) hx hb dX7_letterOf_60 (by decide) ?_
              refine lv_icmp_ne (tgt := 70) hx hb dX7_letterOf_62 (by decide) (fun c_7 => ?_) (fun c_7 => ?_)
              · have hR := hR.trans (if_neg c_7)
                refine lv_iload_n hx hb dX7_letterOf_70 rfl (lv_at hl 0 rfl) ?_
                refine lv_bipush (v := (7 : Int32)) hx hb dX7_letterOf_71 (by decide) ?_
                refine lv_icmp_ne (tgt := 81) hx hb dX7_letterOf_73 (by decide) (fun c_8 => ?_) (fun c_8 => ?_)
                · have hR := hR.trans (if_neg c_8)
                  refine lv_iload_n hx hb dX7_letterOf_81 rfl (lv_at hl 0 rfl) ?_
                  refine lv_bipush (v := (8 : Int32)) hx hb dX7_letterOf_82 (by decide) ?_
                  refine lv_icmp_ne (tgt := 92) hx hb dX7_letterOf_84 (by decide) (fun c_9 => ?_) (fun c_9 => ?_)
                  · have hR := hR.trans (if_neg c_9)
                    refine lv_iload_n hx hb dX7_letterOf_92 rfl (lv_at hl 0 rfl) ?_
                    refine lv_bipush (v := (9 : Int32)) hx hb dX7_letterOf_93 (by decide) ?_
                    refine lv_icmp_ne (tgt := 103) hx hb dX7_letterOf_95 (by decide) (fun c_10 => ?_) (fun c_10 => ?_)
                    · have hR := hR.trans (if_neg c_10)
                      refine lv_iload_n hx hb dX7_letterOf_103 rfl (lv_at hl 0 rfl) ?_
                      refine lv_bipush (v := (10 : Int32)) hx hb dX7_letterOf_104 (by decide) ?_
                      refine lv_icmp_ne (tgt := 114) hx hb dX7_letterOf_106 (by decide) (fun c_11 => ?_) (fun c_11 => ?_)
                      · have hR := hR.trans (if_neg c_11)
                        refine lv_bipush (v := (114 : Int32)) hx hb dX7_letterOf_114 (by decide) ?_
                        exact kR (114 : Int32) 116 ls rfl hR.symm dX7_letterOf_116
                      · have hR := hR.trans (if_pos c_11)
                        refine lv_bipush (v := (116 : Int32)) hx hb dX7_letterOf_109 (by decide) ?_
                        refine lv_goto (tgt := 116) hx hb dX7_letterOf_111 (by decide) ?_
                        exact kR (116 : Int32) 116 ls rfl hR.symm dX7_letterOf_116
                    · have hR := hR.trans (if_pos c_10)
                      refine lv_bipush (v := (115 : Int32)) hx hb dX7_letterOf_98 (by decide) ?_
                      refine lv_goto (tgt := 116) hx hb dX7_letterOf_100 (by decide) ?_
                      exact kR (115 : Int32) 116 ls rfl hR.symm dX7_letterOf_116
                  · have hR := hR.trans (if_pos c_9)
                    refine lv_bipush (v := (117 : Int32)) hx hb dX7_letterOf_87 (by decide) ?_
                    refine lv_goto (tgt := 116) hx hb dX7_letterOf_89 (by decide) ?_
                    exact kR (117 : Int32) 116 ls rfl hR.symm dX7_letterOf_116
                · have hR := hR.trans (if_pos c_8)
                  refine lv_bipush (v := (120 : Int32)) hx hb dX7_letterOf_76 (by decide) ?_
                  refine lv_goto (tgt := 116) hx hb dX7_letterOf_78 (by decide) ?_
                  exact kR (120 : Int32) 116 ls rfl hR.symm dX7_letterOf_116
              · have hR := hR.trans (if_pos c_7)
                refine lv_bipush (v := (104 : Int32)) hx hb dX7_letterOf_65 (by decide) ?_
                refine lv_goto (tgt := 116) hx hb dX7_letterOf_67 (by decide) ?_
                exact kR (104 : Int32) 116 ls rfl hR.symm dX7_letterOf_116
            · have hR := hR.trans (if_pos c_6)
              refine lv_bipush (v := (113 : Int32)) hx hb dX7_letterOf_54 (by decide) ?_
              refine lv_goto (tgt := 116) hx hb dX7_letterOf_56 (by decide) ?_
              exact kR (113 : Int32) 116 ls rfl hR.symm dX7_letterOf_116
          · have hR := hR.trans (if_pos c_5)
            refine lv_bipush (v := (112 : Int32)) hx hb dX7_letterOf_44 (by decide) ?_
            refine lv_goto (tgt := 116) hx hb dX7_letterOf_46 (by decide) ?_
            exact kR (112 : Int32) 116 ls rfl hR.symm dX7_letterOf_116
        · have hR := hR.trans (if_pos c_4)
          refine lv_bipush (v := (119 : Int32)) hx hb dX7_letterOf_34 (by decide) ?_
          refine lv_goto (tgt := 116) hx hb dX7_letterOf_36 (by decide) ?_
          exact kR (119 : Int32) 116 ls rfl hR.symm dX7_letterOf_116
      · have hR := hR.trans (if_pos c_3)
        refine lv_bipush (v := (100 : Int32)) hx hb dX7_letterOf_24 (by decide) ?_
        refine lv_goto (tgt := 116) hx hb dX7_letterOf_26 (by decide) ?_
        exact kR (100 : Int32) 116 ls rfl hR.symm dX7_letterOf_116
    · have hR := hR.trans (if_pos c_2)
      refine lv_bipush (v := (101 : Int32)) hx hb dX7_letterOf_14 (by decide) ?_
      refine lv_goto (tgt := 116) hx hb dX7_letterOf_16 (by decide) ?_
      exact kR (101 : Int32) 116 ls rfl hR.symm dX7_letterOf_116
  · have hR := hR.trans (if_pos c_1)
    refine lv_bipush (v := (98 : Int32)) hx hb dX7_letterOf_4 (by decide) ?_
    refine lv_goto (tgt := 116) hx hb dX7_letterOf_6 (by decide) ?_
    exact kR (98 : Int32) 116 ls rfl hR.symm dX7_letterOf_116
set_option maxHeartbeats 4000000 in
set_option maxRecDepth 100000 in
theorem m_X7_letterOf (l : Launch) (dC : Nat → ClassId) (dI : Nat → Nat → Nat) (cI cJ : ClassId) (p0 : Int32) : Met l yX7_letterOf wsX7_letterOf rm_X7_letterOf (va_Pc [.int p0] (fun U => va_P (dC, dI) vwCl [] U.heap ∧ va_K (dC, dI) vwCl [(cI, .int), (cJ, .long)] U)) (vp_Si (fun r => r = f_X7_letterOf p0)) 0 0 (fun _ => False) := by
  refine Met.ofW (cc := cX7_letterOf) (maxL := 1) (ret := (some .char)) (by decide) rfl ?_
  intro p e s m args below meth c s₁ B hml hv
  obtain ⟨rfl, hP, hK⟩ := hv
  have hl := lv_entry ([.int p0]) (n := 1) (Nat.le_of_ble_eq_true rfl)
  rw [lg_entry_eq]
  refine w_X7_letterOf B.exec B.bytes hml (findClass_of_methodNamed B.named) (atoms_spec (ws := wsX7_letterOf) B.pre) hK hP rfl (fun r pc ls hz er hd => ?_) _ hl
  exact W.zret B.exec B.bytes B.returns hz (fun t ht hW => ⟨r, rfl, er, ht⟩) (fun _ h => by cases h) hd B.notSynchronized
end
def f_X7_lawOf_j23 (v2 : Int32) (r_4 : Int32 → Int32 → Int32) (v3 : Int32) : Int32 :=
  r_4 v3 (v2 + (1 : Int32))
theorem e_X7_lawOf_j23 {v2 : Int32} {r_4 : Int32 → Int32 → Int32} {v3 : Int32} : f_X7_lawOf_j23 v2 r_4 v3 = r_4 v3 (v2 + (1 : Int32)) := rfl
def f_X7_lawOf_l4 (p0 : Int32) : Nat → Int32 → Int32 → Int32
  | 0, _, _ => default
  | fu + 1, v1, v2 =>
    (if (12 : Int32) ≤ v2 then v1 else (if (f_X7_letterOf v2) = p0 then f_X7_lawOf_j23 v2 (f_X7_lawOf_l4 p0 fu) v2 else f_X7_lawOf_j23 v2 (f_X7_lawOf_l4 p0 fu) v1))
theorem e_X7_lawOf_l4 {fu : Nat} {p0 : Int32} {v1 : Int32} {v2 : Int32} : f_X7_lawOf_l4 p0 (fu + 1) v1 v2 = (if (12 : Int32) ≤ v2 then v1 else (if (f_X7_letterOf v2) = p0 then f_X7_lawOf_j23 v2 (f_X7_lawOf_l4 p0 fu) v2 else f_X7_lawOf_j23 v2 (f_X7_lawOf_l4 p0 fu) v1)) := rfl
def f_X7_lawOf (p0 : Int32) : Int32 :=
  f_X7_lawOf_l4 p0 (13) (-1 : Int32) (0 : Int32)
theorem e_X7_lawOf {p0 : Int32} : f_X7_lawOf p0 = f_X7_lawOf_l4 p0 (13) (-1 : Int32) (0 : Int32) := rfl
section
variable {p : Program} {l : Launch} {e : Env} {s : State} {m : MethodId} {args : Array Value} {below : List Frame} {meth : Method} {c : Code} {Q : State → Prop} {H : Heap} {locs : List Loc} {dC : Nat → ClassId} {dI : Nat → Nat → Nat} {cI cJ : ClassId}
abbrev rm_X7_lawOf : Room := { frames := 1, cells := 0, slots := 0, locals := 20 }
theorem hd_X7_lawOf : yX7_lawOf.cls ≠ "java/lang/invoke/MethodHandle" ∧ yX7_lawOf.cls ≠ "java/lang/invoke/VarHandle" ∧ (parseMethodDescriptor yX7_lawOf.desc).map (fun d => d.parameters.length) = some 1 := by decide +kernel
set_option maxHeartbeats 4000000 in
set_option maxRecDepth 100000 in
theorem w_X7_lawOf {p0 : Int32} {F : Int32} (hx : p.tables.exec = Jvm.exec) (hb : c.code = cX7_lawOf) (hml : c.maxLocals = 3) (hown : s.vm.findClass RX7 = some m.cls) (hts : ∀ w ∈ wsX7_lawOf, w.before args s = true) (hK : va_K (dC, dI) vwCl [(cI, .int), (cJ, .long)] s) (hP : va_P (dC, dI) vwCl [] H) (hR : F = f_X7_lawOf p0) (kR : ∀ (r : Int32) (pc : Nat) (ls : Array Slot), r = F → decode cX7_lawOf pc = .ok (.ireturn, 1) → W p l e rm_X7_lawOf s m args below meth c H locs 0 0 Q (F0 m pc ls [.int r])) (ls : Array Slot) (hl : lv_has ls 3 [(0, .int p0)]) : W p l e rm_X7_lawOf s m args below meth c H locs 0 0 Q (F0 m 0 ls []) := by
  have hR := hR.trans e_X7_lawOf
  refine lv_iconst (v := (-1 : Int32)) hx hb dX7_lawOf_0 (by decide +kernel) ?_
  refine lv_istore_n (lv' := [(1, .int (-1 : Int32)), (0, .int p0)]) hx hb dX7_lawOf_1 rfl hl (by decide) rfl (fun ls hl => ?_)
  refine lv_iconst (v := (0 : Int32)) hx hb dX7_lawOf_2 (by decide) ?_
  refine lv_istore_n (lv' := [(2, .int (0 : Int32)), (1, .int (-1 : Int32)), (0, .int p0)]) hx hb dX7_lawOf_3 rfl hl (by decide) rfl (fun ls hl => ?_)
  have L4 : ∀ (fu4 : Nat) (v1 : Int32) (v2 : Int32), ∀ (ls : Array Slot), lv_has ls 3 [(0, .int p0), (1, .int v1), (2, .int v2)] → ((12 : Int32).toInt - v2.toInt).toNat < fu4 → F = f_X7_lawOf_l4 p0 fu4 v1 v2 → W p l e rm_X7_lawOf s m args below meth c H locs 0 0 Q (F0 m 4 ls []) := by
    intro fu4
    induction fu4 with
    | zero => intro v1 v2 ls hl hm; exact absurd hm (Nat.not_lt_zero _)
    | succ fu4 ih4 =>
      intro v1 v2 ls hl hm4 hR
      have hR := hR.trans e_X7_lawOf_l4
      refine lv_iload_n hx hb dX7_lawOf_4 rfl (lv_at hl 2 rfl) ?_
      refine lv_bipush (v := (12 : Int32)) hx hb dX7_lawOf_5 (by decide) ?_
      refine lv_icmp_ge (tgt := 30) hx hb dX7_lawOf_7 (by decide) (fun c_1 => ?_) (fun c_1 => ?_)
      · have hR := hR.trans (if_pos c_1)
        refine lv_iload_n hx hb dX7_lawOf_30 rfl (lv_at hl 1 rfl) ?_
        exact kR v1 31 ls hR.symm dX7_lawOf_31
      · have hR := hR.trans (if_neg c_1)
        refine lv_iload_n hx hb dX7_lawOf_10 rfl (lv_at hl 2 rfl) ?_
        refine rS_i (As := [.int v2]) (rest := []) ⟨hx, hb, hml, hown, hts⟩ (m_X7_letterOf l dC dI cI cJ v2) (va_cwS 1 hts (gi_S wm_673 wm_674 wm_633 wm_675) rfl rfl rfl hd_X7_letterOf ⟨Nat.le_of_ble_eq_true rfl, Nat.le_of_ble_eq_true rfl⟩) hK (hP.sub [] rfl) rfl hl.1 rfl (Nat.le_of_ble_eq_true rfl) dX7_lawOf_11 ⟨Nat.zero_le _, Nat.zero_le _⟩ ?_
        refine lv_iload_n hx hb dX7_lawOf_14 rfl (lv_at hl 0 rfl) ?_
        have J23 : ∀ (v3 : Int32) (ls : Array Slot), lv_has ls 3 [(0, .int p0), (2, .int v2)] → F = f_X7_lawOf_j23 v2 (f_X7_lawOf_l4 p0 fu4) v3 → W p l e rm_X7_lawOf s m args below meth c H locs 0 0 Q (F0 m 23 ls [.int v3]) := by
          intro v3 ls hl hR
          have hR := hR.trans e_X7_lawOf_j23
          refine lv_istore_n (lv' := [(1, .int v3), (0, .int p0), (2, .int v2)]) hx hb dX7_lawOf_23 rfl hl (by decide) rfl (fun ls hl => ?_)
          refine lv_iinc (v := (v2 + (1 : Int32))) (lv' := [(2, .int (v2 + (1 : Int32))), (1, .int v3), (0, .int p0)]) hx hb dX7_lawOf_24 hl (k := 2) rfl rfl (by decide) rfl (fun ls hl => ?_)
          refine lv_goto (tgt := 4) hx hb dX7_lawOf_27 (by decide) ?_
          exact ih4 v3 (v2 + (1 : Int32)) ls (lv_sub hl [2, 1, 0] rfl) (Nat.lt_of_lt_of_le (lp_up (by assumption)) (Nat.le_of_lt_succ hm4)) hR
        refine lv_icmp_ne (tgt := 22) hx hb dX7_lawOf_15 (by decide) (fun c_2 => ?_) (fun c_2 => ?_)
        · have hR := hR.trans (if_neg c_2)
          refine lv_iload_n hx hb dX7_lawOf_22 rfl (lv_at hl 1 rfl) ?_
          exact J23 v1 ls (lv_sub hl [0, 2] rfl) hR
        · have hR := hR.trans (if_pos c_2)
          refine lv_iload_n hx hb dX7_lawOf_18 rfl (lv_at hl 2 rfl) ?_
          refine lv_goto (tgt := 23) hx hb dX7_lawOf_19 (by decide) ?_
          exact J23 v2 ls (lv_sub hl [0, 2] rfl) hR
  exact L4 (13) (-1 : Int32) (0 : Int32) ls (lv_sub hl [2, 1, 0] rfl) (by decide +kernel) hR
set_option maxHeartbeats 4000000 in
set_option maxRecDepth 100000 in
theorem m_X7_lawOf (l : Launch) (dC : Nat → ClassId) (dI : Nat → Nat → Nat) (cI cJ : ClassId) (p0 : Int32) : Met l yX7_lawOf wsX7_lawOf rm_X7_lawOf (va_Pc [.int p0] (fun U => va_P (dC, dI) vwCl [] U.heap ∧ va_K (dC, dI) vwCl [(cI, .int), (cJ, .long)] U)) (vp_Si (fun r => r = f_X7_lawOf p0)) 0 0 (fun _ => False) := by
  refine Met.ofW (cc := cX7_lawOf) (maxL := 3) (ret := (some .int)) (by decide) rfl ?_
  intro p e s m args below meth c s₁ B hml hv
  obtain ⟨rfl, hP, hK⟩ := hv
  have hl := lv_entry ([.int p0]) (n := 3) (Nat.le_of_ble_eq_true rfl)
  rw [lg_entry_eq]
  refine w_X7_lawOf B.exec B.bytes hml (findClass_of_methodNamed B.named) (atoms_spec (ws := wsX7_lawOf) B.pre) hK hP rfl (fun r pc ls er hd => ?_) _ hl
  exact W.iret B.exec B.bytes B.returns (fun t ht hW => ⟨r, rfl, er, ht⟩) (fun _ h => by cases h) hd B.notSynchronized
end
def f_X7_isNote (p0 : Int32) : Int32 :=
  (f_X7_in p0 (0 : Int32) (27 : Int32))
theorem e_X7_isNote {p0 : Int32} : f_X7_isNote p0 = (f_X7_in p0 (0 : Int32) (27 : Int32)) := rfl
section
variable {p : Program} {l : Launch} {e : Env} {s : State} {m : MethodId} {args : Array Value} {below : List Frame} {meth : Method} {c : Code} {Q : State → Prop} {H : Heap} {locs : List Loc} {dC : Nat → ClassId} {dI : Nat → Nat → Nat} {cI cJ : ClassId}
abbrev rm_X7_isNote : Room := { frames := 1, cells := 0, slots := 0, locals := 22 }
theorem hd_X7_isNote : yX7_isNote.cls ≠ "java/lang/invoke/MethodHandle" ∧ yX7_isNote.cls ≠ "java/lang/invoke/VarHandle" ∧ (parseMethodDescriptor yX7_isNote.desc).map (fun d => d.parameters.length) = some 1 := by decide +kernel
set_option maxHeartbeats 4000000 in
set_option maxRecDepth 100000 in
theorem w_X7_isNote {p0 : Int32} {F : Int32} (hx : p.tables.exec = Jvm.exec) (hb : c.code = cX7_isNote) (hml : c.maxLocals = 1) (hown : s.vm.findClass RX7 = some m.cls) (hts : ∀ w ∈ wsX7_isNote, w.before args s = true) (hK : va_K (dC, dI) vwCl [(cI, .int), (cJ, .long)] s) (hP : va_P (dC, dI) vwCl [] H) (hR : F = f_X7_isNote p0) (kR : ∀ (r : Int32) (pc : Nat) (ls : Array Slot), zb r → r = F → decode cX7_isNote pc = .ok (.ireturn, 1) → W p l e rm_X7_isNote s m args below meth c H locs 0 0 Q (F0 m pc ls [.int r])) (ls : Array Slot) (hl : lv_has ls 1 [(0, .int p0)]) : W p l e rm_X7_isNote s m args below meth c H locs 0 0 Q (F0 m 0 ls []) := by
  have hR := hR.trans e_X7_isNote
  refine lv_iload_n hx hb dX7_isNote_0 rfl (lv_at hl 0 rfl) ?_
  refine lv_iconst (v := (0 : Int32)) hx hb dX7_isNote_1 (by decide) ?_
  refine lv_bipush (v := (27 : Int32)) hx hb dX7_isNote_2 (by decide) ?_
  refine rS_i (As := [.int p0, .int (0 : Int32), .int (27 : Int32)]) (rest := []) ⟨hx, hb, hml, hown, hts⟩ (m_X7_in l dC dI cI cJ p0 (0 : Int32) (27 : Int32)) (va_cwS 3 hts (gi_S wm_635 wm_636 wm_633 wm_637) rfl rfl rfl hd_X7_in ⟨Nat.le_of_ble_eq_true rfl, Nat.le_of_ble_eq_true rfl⟩) hK (hP.sub [] rfl) rfl hl.1 rfl (Nat.le_of_ble_eq_true rfl) dX7_isNote_4 ⟨Nat.zero_le _, Nat.zero_le _⟩ ?_
  exact kR (f_X7_in p0 (0 : Int32) (27 : Int32)) 7 ls zb_X7_in hR.symm dX7_isNote_7
set_option maxHeartbeats 4000000 in
set_option maxRecDepth 100000 in
theorem m_X7_isNote (l : Launch) (dC : Nat → ClassId) (dI : Nat → Nat → Nat) (cI cJ : ClassId) (p0 : Int32) : Met l yX7_isNote wsX7_isNote rm_X7_isNote (va_Pc [.int p0] (fun U => va_P (dC, dI) vwCl [] U.heap ∧ va_K (dC, dI) vwCl [(cI, .int), (cJ, .long)] U)) (vp_Si (fun r => r = f_X7_isNote p0)) 0 0 (fun _ => False) := by
  refine Met.ofW (cc := cX7_isNote) (maxL := 1) (ret := (some .boolean)) (by decide) rfl ?_
  intro p e s m args below meth c s₁ B hml hv
  obtain ⟨rfl, hP, hK⟩ := hv
  have hl := lv_entry ([.int p0]) (n := 1) (Nat.le_of_ble_eq_true rfl)
  rw [lg_entry_eq]
  refine w_X7_isNote B.exec B.bytes hml (findClass_of_methodNamed B.named) (atoms_spec (ws := wsX7_isNote) B.pre) hK hP rfl (fun r pc ls hz er hd => ?_) _ hl
  exact W.zret B.exec B.bytes B.returns (zb_n hz) (fun t ht hW => ⟨r, rfl, er, ht⟩) (fun _ h => by cases h) hd B.notSynchronized
end
def f_X7_styled_j94 (p0 : Int32) (p1 : Int32) (v1 : Int32) : Int32 :=
  (if p0 = (1 : Int32) then (10 : Int32) else (if v1 = 0 then (if p1 = (10 : Int32) then (3 : Int32) else (10 : Int32)) else (0 : Int32)))
theorem e_X7_styled_j94 {p0 : Int32} {p1 : Int32} {v1 : Int32} : f_X7_styled_j94 p0 p1 v1 = (if p0 = (1 : Int32) then (10 : Int32) else (if v1 = 0 then (if p1 = (10 : Int32) then (3 : Int32) else (10 : Int32)) else (0 : Int32))) := rfl
def f_X7_styled_j89 (p0 : Int32) (p1 : Int32) : Int32 :=
  f_X7_styled_j94 p0 p1 (1 : Int32)
theorem e_X7_styled_j89 {p0 : Int32} {p1 : Int32} : f_X7_styled_j89 p0 p1 = f_X7_styled_j94 p0 p1 (1 : Int32) := rfl
def f_X7_styled (p0 : Int32) (p1 : Int32) : Int32 :=
  (if p0 = 0 then (if p1 = (5 : Int32) then (5 : Int32) else (if p1 = (6 : Int32) then (3 : Int32) else (if p1 = (8 : Int32) then (2 : Int32) else (if p1 = (9 : Int32) then (1 : Int32) else (if p1 = (11 : Int32) then (4 : Int32) else (10 : Int32)))))) else (if p1 = 0 then f_X7_styled_j89 p0 p1 else (if p1 = (5 : Int32) then f_X7_styled_j89 p0 p1 else (if p1 = (6 : Int32) then f_X7_styled_j89 p0 p1 else (if p1 = (8 : Int32) then f_X7_styled_j89 p0 p1 else (if p1 = (9 : Int32) then f_X7_styled_j89 p0 p1 else (if p1 = (11 : Int32) then f_X7_styled_j89 p0 p1 else f_X7_styled_j94 p0 p1 (0 : Int32))))))))
theorem e_X7_styled {p0 : Int32} {p1 : Int32} : f_X7_styled p0 p1 = (if p0 = 0 then (if p1 = (5 : Int32) then (5 : Int32) else (if p1 = (6 : Int32) then (3 : Int32) else (if p1 = (8 : Int32) then (2 : Int32) else (if p1 = (9 : Int32) then (1 : Int32) else (if p1 = (11 : Int32) then (4 : Int32) else (10 : Int32)))))) else (if p1 = 0 then f_X7_styled_j89 p0 p1 else (if p1 = (5 : Int32) then f_X7_styled_j89 p0 p1 else (if p1 = (6 : Int32) then f_X7_styled_j89 p0 p1 else (if p1 = (8 : Int32) then f_X7_styled_j89 p0 p1 else (if p1 = (9 : Int32) then f_X7_styled_j89 p0 p1 else (if p1 = (11 : Int32) then f_X7_styled_j89 p0 p1 else f_X7_styled_j94 p0 p1 (0 : Int32)))))))) := rfl
section
variable {p : Program} {l : Launch} {e : Env} {s : State} {m : MethodId} {args : Array Value} {below : List Frame} {meth : Method} {c : Code} {Q : State → Prop} {H : Heap} {locs : List Loc} {dC : Nat → ClassId} {dI : Nat → Nat → Nat} {cI cJ : ClassId}
abbrev rm_X7_styled : Room := { frames := 0, cells := 0, slots := 0, locals := 0 }
theorem hd_X7_styled : yX7_styled.cls ≠ "java/lang/invoke/MethodHandle" ∧ yX7_styled.cls ≠ "java/lang/invoke/VarHandle" ∧ (parseMethodDescriptor yX7_styled.desc).map (fun d => d.parameters.length) = some 2 := by decide +kernel
set_option maxHeartbeats 4000000 in
set_option maxRecDepth 100000 in
theorem w_X7_styled {p0 : Int32} {p1 : Int32} {F : Int32} (hx : p.tables.exec = Jvm.exec) (hb : c.code = cX7_styled) (hml : c.maxLocals = 3) (hown : s.vm.findClass RX7 = some m.cls) (hts : ∀ w ∈ wsX7_styled, w.before args s = true) (hK : va_K (dC, dI) vwCl [(cI, .int), (cJ, .long)] s) (hP : va_P (dC, dI) vwCl [] H) (hR : F = f_X7_styled p0 p1) (kR : ∀ (r : Int32) (pc : Nat) (ls : Array Slot), r = F → decode cX7_styled pc = .ok (.ireturn, 1) → W p l e rm_X7_styled s m args below meth c H locs 0 0 Q (F0 m pc ls [.int r])) (ls : Array Slot) (hl : lv_has ls 3 [(0, .int p0), (1, .int p1)]) : W p l e rm_X7_styled s m args below meth c H locs 0 0 Q (F0 m 0 ls []) := by
  have hR := hR.trans e_X7_styled
  refine lv_iload_n hx hb dX7_styled_0 rfl (lv_at hl 0 rfl) ?_
  refine lv_if_ne (tgt := 56) hx hb dX7_styled_1 (by decide) (fun c_1 => ?_) (fun c_1 => ?_)
  · have hR := hR.trans (if_neg c_1)
    refine lv_iload_n hx hb dX7_styled_56 rfl (lv_at hl 1 rfl) ?_
    have J94 : ∀ (v1 : Int32) (ls : Array Slot), lv_has ls 3 [(0, .int p0), (1, .int p1)] → zb v1 → F = f_X7_styled_j94 p0 p1 v1 → W p l e rm_X7_styled s m args below meth c H locs 0 0 Q (F0 m 94 ls [.int v1]) := by
      intro v1 ls hl hz_v1 hR
      have hR := hR.trans e_X7_styled_j94
      refine lv_istore_n (lv' := [(2, .int v1), (0, .int p0), (1, .int p1)]) hx hb dX7_styled_94 rfl hl (by decide) rfl (fun ls hl => ?_)
      refine lv_iload_n hx hb dX7_styled_95 rfl (lv_at hl 1 rfl) ?_
      refine lv_iconst (v := (1 : Int32)) hx hb dX7_styled_96 (by decide) ?_
      refine lv_icmp_ne (tgt := 105) hx hb dX7_styled_97 (by decide) (fun c_2 => ?_) (fun c_2 => ?_)
      · have hR := hR.trans (if_neg c_2)
        refine lv_iload_n hx hb dX7_styled_105 rfl (lv_at hl 0 rfl) ?_
        refine lv_if_eq (tgt := 113) hx hb dX7_styled_106 (by decide) (fun c_3 => ?_) (fun c_3 => ?_)
        · have hR := hR.trans (if_pos c_3)
          refine lv_iload_n hx hb dX7_styled_113 rfl (lv_at hl 2 rfl) ?_
          refine lv_bipush (v := (10 : Int32)) hx hb dX7_styled_114 (by decide) ?_
          refine lv_icmp_ne (tgt := 123) hx hb dX7_styled_116 (by decide) (fun c_4 => ?_) (fun c_4 => ?_)
          · have hR := hR.trans (if_neg c_4)
            refine lv_bipush (v := (10 : Int32)) hx hb dX7_styled_123 (by decide) ?_
            exact kR (10 : Int32) 125 ls hR.symm dX7_styled_125
          · have hR := hR.trans (if_pos c_4)
            refine lv_iconst (v := (3 : Int32)) hx hb dX7_styled_119 (by decide) ?_
            refine lv_goto (tgt := 125) hx hb dX7_styled_120 (by decide) ?_
            exact kR (3 : Int32) 125 ls hR.symm dX7_styled_125
        · have hR := hR.trans (if_neg c_3)
          refine lv_iconst (v := (0 : Int32)) hx hb dX7_styled_109 (by decide) ?_
          refine lv_goto (tgt := 125) hx hb dX7_styled_110 (by decide) ?_
          exact kR (0 : Int32) 125 ls hR.symm dX7_styled_125
      · have hR := hR.trans (if_pos c_2)
        refine lv_bipush (v := (10 : Int32)) hx hb dX7_styled_100 (by decide) ?_
        refine lv_goto (tgt := 125) hx hb dX7_styled_102 (by decide) ?_
        exact kR (10 : Int32) 125 ls hR.symm dX7_styled_125
    have J89 : ∀ (ls : Array Slot), lv_has ls 3 [(0, .int p0), (1, .int p1)] → F = f_X7_styled_j89 p0 p1 → W p l e rm_X7_styled s m args below meth c H locs 0 0 Q (F0 m 89 ls []) := by
      intro ls hl hR
      have hR := hR.trans e_X7_styled_j89
      refine lv_iconst (v := (1 : Int32)) hx hb dX7_styled_89 (by decide) ?_
      refine lv_goto (tgt := 94) hx hb dX7_styled_90 (by decide) ?_
      exact J94 (1 : Int32) ls (lv_sub hl [0, 1] rfl) (by first | exact Or.inl rfl | exact Or.inr rfl) hR
    refine lv_if_eq (tgt := 89) hx hb dX7_styled_57 (by decide) (fun c_5 => ?_) (fun c_5 => ?_)
    · have hR := hR.trans (if_pos c_5)
      exact J89 ls (lv_sub hl [0, 1] rfl) hR
    · have hR := hR.trans (if_neg c_5)
      refine lv_iload_n hx hb dX7_styled_60 rfl (lv_at hl 1 rfl) ?_
      refine lv_iconst (v := (5 : Int32)) hx hb dX7_styled_61 (by decide) ?_
      refine lv_icmp_eq (tgt := 89) hx hb dX7_styled_62 (by decide) (fun c_6 => ?_) (fun c_6 => ?_)
      · have hR := hR.trans (if_pos c_6)
        exact J89 ls (lv_sub hl [0, 1] rfl) hR
      · have hR := hR.trans (if_neg c_6)
        refine lv_iload_n hx hb dX7_styled_65 rfl (lv_at hl 1 rfl) ?_
        refine lv_bipush (v := (6 : Int32)) hx hb dX7_styled_66 (by decide) ?_
        refine lv_icmp_eq (tgt := 89) hx hb dX7_styled_68 (by decide) (fun c_7 => ?_) (fun c_7 => ?_)
        · have hR := hR.trans (if_pos c_7)
          exact J89 ls (lv_sub hl [0, 1] rfl) hR
        · have hR := hR.trans (if_neg c_7)
          refine lv_iload_n hx hb dX7_styled_71 rfl (lv_at hl 1 rfl) ?_
          refine lv_bipush (v := (8 : Int32)) hx hb dX7_styled_72 (by decide) ?_
          refine lv_icmp_eq (tgt := 89) hx hb dX7_styled_74 (by decide) (fun c_8 => ?_) (fun c_8 => ?_)
          · have hR := hR.trans (if_pos c_8)
            exact J89 ls (lv_sub hl [0, 1] rfl) hR
          · have hR := hR.trans (if_neg c_8)
            refine lv_iload_n hx hb dX7_styled_77 rfl (lv_at hl 1 rfl) ?_
            refine lv_bipush (v := (9 : Int32)) hx hb dX7_styled_78 (by decide) ?_
            refine lv_icmp_eq (tgt := 89) hx hb dX7_styled_80 (by decide) (fun c_9 => ?_) (fun c_9 => ?_)
            · have hR := hR.trans (if_pos c_9)
              exact J89 ls (lv_sub hl [0, 1] rfl) hR
            · have hR := hR.trans (if_neg c_9)
              refine lv_iload_n hx hb dX7_styled_83 rfl (lv_at hl 1 rfl) ?_
              refine lv_bipush (v := (11 : Int32)) hx hb dX7_styled_84 (by decide) ?_
              refine lv_icmp_ne (tgt := 93) hx hb dX7_styled_86 (by decide) (fun c_10 => ?_) (fun c_10 => ?_)
              · have hR := hR.trans (if_neg c_10)
                refine lv_iconst (v := (0 : Int32)) hx hb dX7_styled_93 (by decide) ?_
                exact J94 (0 : Int32) ls (lv_sub hl [0, 1] rfl) (by first | exact Or.inl rfl | exact Or.inr rfl) hR
              · have hR := hR.trans (if_pos c_10)
                exact J89 ls (lv_sub hl [0, 1] rfl) hR
  · have hR := hR.trans (if_pos c_1)
    refine lv_iload_n hx hb dX7_styled_4 rfl (lv_at hl 1 rfl) ?_
    refine lv_iconst (v := (5 : Int32)) hx hb dX7_styled_5 (by decide) ?_
    refine lv_icmp_ne (tgt := 13) hx hb dX7_styled_6 (by decide) (fun c_11 => ?_) (fun c_11 => ?_)
    · have hR := hR.trans (if_neg c_11)
      refine lv_iload_n hx hb dX7_styled_13 rfl (lv_at hl 1 rfl) ?_
      refine lv_bipush (v := (6 : Int32)) hx hb dX7_styled_14 (by decide) ?_
      refine lv_icmp_ne (tgt := 23) hx hb dX7_styled_16 (by decide) (fun c_12 => ?_) (fun c_12 => ?_)
      · have hR := hR.trans (if_neg c_12)
        refine lv_iload_n hx hb dX7_styled_23 rfl (lv_at hl 1 rfl) ?_
        refine lv_bipush (v := (8 : Int32)) hx hb dX7_styled_24 (by decide) ?_
        refine lv_icmp_ne (tgt := 33) hx hb dX7_styled_26 (by decide) (fun c_13 => ?_) (fun c_13 => ?_)
        · have hR := hR.trans (if_neg c_13)
          refine lv_iload_n hx hb dX7_styled_33 rfl (lv_at hl 1 rfl) ?_
          refine lv_bipush (v := (9 : Int32)) hx hb dX7_styled_34 (by decide) ?_
          refine lv_icmp_ne (tgt := 43) hx hb dX7_styled_36 (by decide) (fun c_14 => ?_) (fun c_14 => ?_)
          · have hR := hR.trans (if_neg c_14)
            refine lv_iload_n hx hb dX7_styled_43 rfl (lv_at hl 1 rfl) ?_
            refine lv_bipush (v := (11 : Int32)) hx hb dX7_styled_44 (by decide) ?_
            refine lv_icmp_ne (tgt := 53) hx hb dX7_styled_46 (by decide) (fun c_15 => ?_) (fun c_15 => ?_)
            · have hR := hR.trans (if_neg c_15)
              refine lv_bipush (v := (10 : Int32)) hx hb dX7_styled_53 (by decide) ?_
              exact kR (10 : Int32) 55 ls hR.symm dX7_styled_55
            · have hR := hR.trans (if_pos c_15)
              refine lv_iconst (v := (4 : Int32)) hx hb dX7_styled_49 (by decide) ?_
              refine lv_goto (tgt := 55) hx hb dX7_styled_50 (by decide) ?_
              exact kR (4 : Int32) 55 ls hR.symm dX7_styled_55
          · have hR := hR.trans (if_pos c_14)
            refine lv_iconst (v := (1 : Int32)) hx hb dX7_styled_39 (by decide) ?_
            refine lv_goto (tgt := 55) hx hb dX7_styled_40 (by decide) ?_
            exact kR (1 : Int32) 55 ls hR.symm dX7_styled_55
        · have hR := hR.trans (if_pos c_13)
          refine lv_iconst (v := (2 : Int32)) hx hb dX7_styled_29 (by decide) ?_
          refine lv_goto (tgt := 55) hx hb dX7_styled_30 (by decide) ?_
          exact kR (2 : Int32) 55 ls hR.symm dX7_styled_55
      · have hR := hR.trans (if_pos c_12)
        refine lv_iconst (v := (3 : Int32)) hx hb dX7_styled_19 (by decide) ?_
        refine lv_goto (tgt := 55) hx hb dX7_styled_20 (by decide) ?_
        exact kR (3 : Int32) 55 ls hR.symm dX7_styled_55
    · have hR := hR.trans (if_pos c_11)
      refine lv_iconst (v := (5 : Int32)) hx hb dX7_styled_9 (by decide) ?_
      refine lv_goto (tgt := 55) hx hb dX7_styled_10 (by decide) ?_
      exact kR (5 : Int32) 55 ls hR.symm dX7_styled_55
set_option maxHeartbeats 4000000 in
set_option maxRecDepth 100000 in
theorem m_X7_styled (l : Launch) (dC : Nat → ClassId) (dI : Nat → Nat → Nat) (cI cJ : ClassId) (p0 : Int32) (p1 : Int32) : Met l yX7_styled wsX7_styled rm_X7_styled (va_Pc [.int p0, .int p1] (fun U => va_P (dC, dI) vwCl [] U.heap ∧ va_K (dC, dI) vwCl [(cI, .int), (cJ, .long)] U)) (vp_Si (fun r => r = f_X7_styled p0 p1)) 0 0 (fun _ => False) := by
  refine Met.ofW (cc := cX7_styled) (maxL := 3) (ret := (some .int)) (by decide) rfl ?_
  intro p e s m args below meth c s₁ B hml hv
  obtain ⟨rfl, hP, hK⟩ := hv
  have hl := lv_entry ([.int p0, .int p1]) (n := 3) (Nat.le_of_ble_eq_true rfl)
  rw [lg_entry_eq]
  refine w_X7_styled B.exec B.bytes hml (findClass_of_methodNamed B.named) (atoms_spec (ws := wsX7_styled) B.pre) hK hP rfl (fun r pc ls er hd => ?_) _ hl
  exact W.iret B.exec B.bytes B.returns (fun t ht hW => ⟨r, rfl, er, ht⟩) (fun _ h => by cases h) hd B.notSynchronized
end
def f_X7_thrown (mt : Int32) : Int32 :=
  mt
theorem e_X7_thrown {mt : Int32} : f_X7_thrown mt = mt := rfl
section
variable {p : Program} {l : Launch} {e : Env} {s : State} {m : MethodId} {args : Array Value} {below : List Frame} {meth : Method} {c : Code} {Q : State → Prop} {H : Heap} {locs : List Loc} {dC : Nat → ClassId} {dI : Nat → Nat → Nat} {cI cJ : ClassId}
abbrev rm_X7_thrown : Room := { frames := 0, cells := 0, slots := 0, locals := 0 }
theorem hd_X7_thrown : yX7_thrown.cls = RX7 ∧ yX7_thrown.cls ≠ "java/lang/invoke/MethodHandle" ∧ yX7_thrown.cls ≠ "java/lang/invoke/VarHandle" ∧ (parseMethodDescriptor yX7_thrown.desc).map (fun d => d.parameters.length) = some 0 := by decide +kernel
set_option maxHeartbeats 4000000 in
set_option maxRecDepth 100000 in
theorem w_X7_thrown {aM : Nat} {aMG : Nat} {aML : Nat} {aMW : Nat} {aME : Nat} {aMO : Nat} {mt : Int32} {mc : Int32} {mn : Int32} {mr : Int32} {mb : Int32} {mf : Int32} {mlo : Int32} {mhi : Int32} {mx : Int32} {mg : Nat → Int32} {ml : Nat → Int32} {mw : Nat → Int32} {me : Nat → Int32} {mo : Nat → Int64} {F : Int32} (hx : p.tables.exec = Jvm.exec) (hb : c.code = cX7_thrown) (hml : c.maxLocals = 1) (hown : s.vm.findClass RX7 = some m.cls) (hts : ∀ w ∈ wsX7_thrown, w.before args s = true) (hK : va_K (dC, dI) vwCl [(cI, .int), (cJ, .long)] s) (hP : va_P (dC, dI) vwCl [(aM, .inr (7, [.int mt, .ref aMG, .int mc, .ref aML, .int mn, .int mr, .int mb, .int mf, .int mlo, .int mhi, .ref aMW, .ref aME, .ref aMO, .int mx])), (aMG, .inl (cI, 14, .inl mg)), (aML, .inl (cI, 53, .inl ml)), (aMW, .inl (cI, 12, .inl mw)), (aME, .inl (cI, 2700, .inl me)), (aMO, .inl (cJ, 2700, .inr (.inl mo)))] H) (hR : F = f_X7_thrown mt) (kR : ∀ (r : Int32) (pc : Nat) (ls : Array Slot), r = F → decode cX7_thrown pc = .ok (.ireturn, 1) → W p l e rm_X7_thrown s m args below meth c H locs 0 0 Q (F0 m pc ls [.int r])) (ls : Array Slot) (hl : lv_has ls 1 [(0, .ref aM)]) : W p l e rm_X7_thrown s m args below meth c H locs 0 0 Q (F0 m 0 ls []) := by
  have hR := hR.trans e_X7_thrown
  refine lv_aload_n hx hb dX7_thrown_0 rfl (lv_at hl 0 rfl) ?_
  refine va_get (D := (dC, dI)) (ci := 7) (v := .int mt) (C := RX7) (T := TX7) (N := 14) hx hb hts inC_X7 hown hK hP 0 rfl rfl 0 (by decide) (hts (.fieldLink RX7 40 "CounterpointeryModel" "thrown" "I") (List.mem_cons_of_mem _ wm_642)) (fun _ h9 => h9) rfl dX7_thrown_1 ?_
  exact kR mt 4 ls hR.symm dX7_thrown_4
set_option maxHeartbeats 4000000 in
set_option maxRecDepth 100000 in
theorem m_X7_thrown (l : Launch) (dC : Nat → ClassId) (dI : Nat → Nat → Nat) (cI cJ : ClassId) (aM : Nat) (aMG : Nat) (aML : Nat) (aMW : Nat) (aME : Nat) (aMO : Nat) (mt : Int32) (mc : Int32) (mn : Int32) (mr : Int32) (mb : Int32) (mf : Int32) (mlo : Int32) (mhi : Int32) (mx : Int32) (mg : Nat → Int32) (ml : Nat → Int32) (mw : Nat → Int32) (me : Nat → Int32) (mo : Nat → Int64) : Met l yX7_thrown wsX7_thrown rm_X7_thrown (va_Pc [.ref aM] (fun U => va_P (dC, dI) vwCl [(aM, .inr (7, [.int mt, .ref aMG, .int mc, .ref aML, .int mn, .int mr, .int mb, .int mf, .int mlo, .int mhi, .ref aMW, .ref aME, .ref aMO, .int mx])), (aMG, .inl (cI, 14, .inl mg)), (aML, .inl (cI, 53, .inl ml)), (aMW, .inl (cI, 12, .inl mw)), (aME, .inl (cI, 2700, .inl me)), (aMO, .inl (cJ, 2700, .inr (.inl mo)))] U.heap ∧ va_K (dC, dI) vwCl [(cI, .int), (cJ, .long)] U)) (vp_Si (fun r => r = f_X7_thrown mt)) 0 0 (fun _ => False) := by
  refine Met.ofW (cc := cX7_thrown) (maxL := 1) (ret := (some .int)) (by decide) rfl ?_
  intro p e s m args below meth c s₁ B hml hv
  obtain ⟨rfl, hP, hK⟩ := hv
  have hl := lv_entry ([.ref aM]) (n := 1) (Nat.le_of_ble_eq_true rfl)
  rw [lg_entry_eq]
  refine w_X7_thrown B.exec B.bytes hml (findClass_of_methodNamed B.named) (atoms_spec (ws := wsX7_thrown) B.pre) hK hP rfl (fun r pc ls er hd => ?_) _ hl
  exact W.iret B.exec B.bytes B.returns (fun t ht hW => ⟨r, rfl, er, ht⟩) (fun _ h => by cases h) hd B.notSynchronized
end
def f_X7_most (mc : Int32) (mr : Int32) : Int32 :=
  (if mc = 0 then (0 : Int32) else ((mr * (mc - (1 : Int32))) + (1 : Int32)))
theorem e_X7_most {mc : Int32} {mr : Int32} : f_X7_most mc mr = (if mc = 0 then (0 : Int32) else ((mr * (mc - (1 : Int32))) + (1 : Int32))) := rfl
section
variable {p : Program} {l : Launch} {e : Env} {s : State} {m : MethodId} {args : Array Value} {below : List Frame} {meth : Method} {c : Code} {Q : State → Prop} {H : Heap} {locs : List Loc} {dC : Nat → ClassId} {dI : Nat → Nat → Nat} {cI cJ : ClassId}
abbrev rm_X7_most : Room := { frames := 0, cells := 0, slots := 0, locals := 0 }
theorem hd_X7_most : yX7_most.cls = RX7 ∧ yX7_most.cls ≠ "java/lang/invoke/MethodHandle" ∧ yX7_most.cls ≠ "java/lang/invoke/VarHandle" ∧ (parseMethodDescriptor yX7_most.desc).map (fun d => d.parameters.length) = some 0 := by decide +kernel
set_option maxHeartbeats 4000000 in
set_option maxRecDepth 100000 in
theorem w_X7_most {aM : Nat} {aMG : Nat} {aML : Nat} {aMW : Nat} {aME : Nat} {aMO : Nat} {mt : Int32} {mc : Int32} {mn : Int32} {mr : Int32} {mb : Int32} {mf : Int32} {mlo : Int32} {mhi : Int32} {mx : Int32} {mg : Nat → Int32} {ml : Nat → Int32} {mw : Nat → Int32} {me : Nat → Int32} {mo : Nat → Int64} {F : Int32} (hx : p.tables.exec = Jvm.exec) (hb : c.code = cX7_most) (hml : c.maxLocals = 1) (hown : s.vm.findClass RX7 = some m.cls) (hts : ∀ w ∈ wsX7_most, w.before args s = true) (hK : va_K (dC, dI) vwCl [(cI, .int), (cJ, .long)] s) (hP : va_P (dC, dI) vwCl [(aM, .inr (7, [.int mt, .ref aMG, .int mc, .ref aML, .int mn, .int mr, .int mb, .int mf, .int mlo, .int mhi, .ref aMW, .ref aME, .ref aMO, .int mx])), (aMG, .inl (cI, 14, .inl mg)), (aML, .inl (cI, 53, .inl ml)), (aMW, .inl (cI, 12, .inl mw)), (aME, .inl (cI, 2700, .inl me)), (aMO, .inl (cJ, 2700, .inr (.inl mo)))] H) (hR : F = f_X7_most mc mr) (kR : ∀ (r : Int32) (pc : Nat) (ls : Array Slot), r = F → decode cX7_most pc = .ok (.ireturn, 1) → W p l e rm_X7_most s m args below meth c H locs 0 0 Q (F0 m pc ls [.int r])) (ls : Array Slot) (hl : lv_has ls 1 [(0, .ref aM)]) : W p l e rm_X7_most s m args below meth c H locs 0 0 Q (F0 m 0 ls []) := by
  have hR := hR.trans e_X7_most
  refine lv_aload_n hx hb dX7_most_0 rfl (lv_at hl 0 rfl) ?_
  refine va_get (D := (dC, dI)) (ci := 7) (v := .int mc) (C := RX7) (T := TX7) (N := 14) hx hb hts inC_X7 hown hK hP 0 rfl rfl 2 (by decide) (hts (.fieldLink RX7 46 "CounterpointeryModel" "givens" "I") (List.mem_cons_of_mem _ wm_649)) (fun _ h9 => h9) rfl dX7_most_1 ?_
  refine lv_if_ne (tgt := 11) hx hb dX7_most_4 (by decide) (fun c_1 => ?_) (fun c_1 => ?_)
  · have hR := hR.trans (if_neg c_1)
    refine lv_aload_n hx hb dX7_most_11 rfl (lv_at hl 0 rfl) ?_
    refine va_get (D := (dC, dI)) (ci := 7) (v := .int mr) (C := RX7) (T := TX7) (N := 14) hx hb hts inC_X7 hown hK hP 0 rfl rfl 5 (by decide) (hts (.fieldLink RX7 16 "CounterpointeryModel" "ratio" "I") (List.mem_cons_of_mem _ wm_624)) (fun _ h9 => h9) rfl dX7_most_12 ?_
    refine lv_aload_n hx hb dX7_most_15 rfl (lv_at hl 0 rfl) ?_
    refine va_get (D := (dC, dI)) (ci := 7) (v := .int mc) (C := RX7) (T := TX7) (N := 14) hx hb hts inC_X7 hown hK hP 0 rfl rfl 2 (by decide) (hts (.fieldLink RX7 46 "CounterpointeryModel" "givens" "I") (List.mem_cons_of_mem _ wm_649)) (fun _ h9 => h9) rfl dX7_most_16 ?_
    refine lv_iconst (v := (1 : Int32)) hx hb dX7_most_19 (by decide) ?_
    refine lv_isub hx hb dX7_most_20 ?_
    refine lv_imul hx hb dX7_most_21 ?_
    refine lv_iconst (v := (1 : Int32)) hx hb dX7_most_22 (by decide) ?_
    refine lv_iadd hx hb dX7_most_23 ?_
    exact kR ((mr * (mc - (1 : Int32))) + (1 : Int32)) 24 ls hR.symm dX7_most_24
  · have hR := hR.trans (if_pos c_1)
    refine lv_iconst (v := (0 : Int32)) hx hb dX7_most_7 (by decide) ?_
    refine lv_goto (tgt := 24) hx hb dX7_most_8 (by decide) ?_
    exact kR (0 : Int32) 24 ls hR.symm dX7_most_24
set_option maxHeartbeats 4000000 in
set_option maxRecDepth 100000 in
theorem m_X7_most (l : Launch) (dC : Nat → ClassId) (dI : Nat → Nat → Nat) (cI cJ : ClassId) (aM : Nat) (aMG : Nat) (aML : Nat) (aMW : Nat) (aME : Nat) (aMO : Nat) (mt : Int32) (mc : Int32) (mn : Int32) (mr : Int32) (mb : Int32) (mf : Int32) (mlo : Int32) (mhi : Int32) (mx : Int32) (mg : Nat → Int32) (ml : Nat → Int32) (mw : Nat → Int32) (me : Nat → Int32) (mo : Nat → Int64) : Met l yX7_most wsX7_most rm_X7_most (va_Pc [.ref aM] (fun U => va_P (dC, dI) vwCl [(aM, .inr (7, [.int mt, .ref aMG, .int mc, .ref aML, .int mn, .int mr, .int mb, .int mf, .int mlo, .int mhi, .ref aMW, .ref aME, .ref aMO, .int mx])), (aMG, .inl (cI, 14, .inl mg)), (aML, .inl (cI, 53, .inl ml)), (aMW, .inl (cI, 12, .inl mw)), (aME, .inl (cI, 2700, .inl me)), (aMO, .inl (cJ, 2700, .inr (.inl mo)))] U.heap ∧ va_K (dC, dI) vwCl [(cI, .int), (cJ, .long)] U)) (vp_Si (fun r => r = f_X7_most mc mr)) 0 0 (fun _ => False) := by
  refine Met.ofW (cc := cX7_most) (maxL := 1) (ret := (some .int)) (by decide) rfl ?_
  intro p e s m args below meth c s₁ B hml hv
  obtain ⟨rfl, hP, hK⟩ := hv
  have hl := lv_entry ([.ref aM]) (n := 1) (Nat.le_of_ble_eq_true rfl)
  rw [lg_entry_eq]
  refine w_X7_most B.exec B.bytes hml (findClass_of_methodNamed B.named) (atoms_spec (ws := wsX7_most) B.pre) hK hP rfl (fun r pc ls er hd => ?_) _ hl
  exact W.iret B.exec B.bytes B.returns (fun t ht hW => ⟨r, rfl, er, ht⟩) (fun _ h => by cases h) hd B.notSynchronized
end
def f_X7_isWhole (mc : Int32) (mn : Int32) (mr : Int32) : Int32 :=
  (if mc ≤ (1 : Int32) then (0 : Int32) else (if mn = (f_X7_most mc mr) then (1 : Int32) else (0 : Int32)))
theorem e_X7_isWhole {mc : Int32} {mn : Int32} {mr : Int32} : f_X7_isWhole mc mn mr = (if mc ≤ (1 : Int32) then (0 : Int32) else (if mn = (f_X7_most mc mr) then (1 : Int32) else (0 : Int32))) := rfl
theorem zb_X7_isWhole {mc : Int32} {mn : Int32} {mr : Int32} : zb (f_X7_isWhole mc mn mr) := by
  repeat' (first | rw [e_X7_isWhole] | split | assumption | exact Or.inl (Eq.refl (0 : Int32)) | exact Or.inr (Eq.refl (1 : Int32)))
section
variable {p : Program} {l : Launch} {e : Env} {s : State} {m : MethodId} {args : Array Value} {below : List Frame} {meth : Method} {c : Code} {Q : State → Prop} {H : Heap} {locs : List Loc} {dC : Nat → ClassId} {dI : Nat → Nat → Nat} {cI cJ : ClassId}
abbrev rm_X7_isWhole : Room := { frames := 1, cells := 0, slots := 0, locals := 20 }
theorem hd_X7_isWhole : yX7_isWhole.cls = RX7 ∧ yX7_isWhole.cls ≠ "java/lang/invoke/MethodHandle" ∧ yX7_isWhole.cls ≠ "java/lang/invoke/VarHandle" ∧ (parseMethodDescriptor yX7_isWhole.desc).map (fun d => d.parameters.length) = some 0 := by decide +kernel
set_option maxHeartbeats 4000000 in
set_option maxRecDepth 100000 in
theorem w_X7_isWhole {aM : Nat} {aMG : Nat} {aML : Nat} {aMW : Nat} {aME : Nat} {aMO : Nat} {mt : Int32} {mc : Int32} {mn : Int32} {mr : Int32} {mb : Int32} {mf : Int32} {mlo : Int32} {mhi : Int32} {mx : Int32} {mg : Nat → Int32} {ml : Nat → Int32} {mw : Nat → Int32} {me : Nat → Int32} {mo : Nat → Int64} {F : Int32} (hx : p.tables.exec = Jvm.exec) (hb : c.code = cX7_isWhole) (hml : c.maxLocals = 1) (hown : s.vm.findClass RX7 = some m.cls) (hts : ∀ w ∈ wsX7_isWhole, w.before args s = true) (hK : va_K (dC, dI) vwCl [(cI, .int), (cJ, .long)] s) (hP : va_P (dC, dI) vwCl [(aM, .inr (7, [.int mt, .ref aMG, .int mc, .ref aML, .int mn, .int mr, .int mb, .int mf, .int mlo, .int mhi, .ref aMW, .ref aME, .ref aMO, .int mx])), (aMG, .inl (cI, 14, .inl mg)), (aML, .inl (cI, 53, .inl ml)), (aMW, .inl (cI, 12, .inl mw)), (aME, .inl (cI, 2700, .inl me)), (aMO, .inl (cJ, 2700, .inr (.inl mo)))] H) (hR : F = f_X7_isWhole mc mn mr) (kR : ∀ (r : Int32) (pc : Nat) (ls : Array Slot), zb r → r = F → decode cX7_isWhole pc = .ok (.ireturn, 1) → W p l e rm_X7_isWhole s m args below meth c H locs 0 0 Q (F0 m pc ls [.int r])) (ls : Array Slot) (hl : lv_has ls 1 [(0, .ref aM)]) : W p l e rm_X7_isWhole s m args below meth c H locs 0 0 Q (F0 m 0 ls []) := by
  have hR := hR.trans e_X7_isWhole
  refine lv_aload_n hx hb dX7_isWhole_0 rfl (lv_at hl 0 rfl) ?_
  refine va_get (D := (dC, dI)) (ci := 7) (v := .int mc) (C := RX7) (T := TX7) (N := 14) hx hb hts inC_X7 hown hK hP 0 rfl rfl 2 (by decide) (hts (.fieldLink RX7 46 "CounterpointeryModel" "givens" "I") (List.mem_cons_of_mem _ wm_649)) (fun _ h9 => h9) rfl dX7_isWhole_1 ?_
  refine lv_iconst (v := (1 : Int32)) hx hb dX7_isWhole_4 (by decide) ?_
  refine lv_icmp_le (tgt := 23) hx hb dX7_isWhole_5 (by decide) (fun c_1 => ?_) (fun c_1 => ?_)
  · have hR := hR.trans (if_pos c_1)
    refine lv_iconst (v := (0 : Int32)) hx hb dX7_isWhole_23 (by decide) ?_
    exact kR (0 : Int32) 24 ls (by first | exact Or.inl rfl | exact Or.inr rfl) hR.symm dX7_isWhole_24
  · have hR := hR.trans (if_neg c_1)
    refine lv_aload_n hx hb dX7_isWhole_8 rfl (lv_at hl 0 rfl) ?_
    refine va_get (D := (dC, dI)) (ci := 7) (v := .int mn) (C := RX7) (T := TX7) (N := 14) hx hb hts inC_X7 hown hK hP 0 rfl rfl 4 (by decide) (hts (.fieldLink RX7 49 "CounterpointeryModel" "notes" "I") (List.mem_cons_of_mem _ wm_650)) (fun _ h9 => h9) rfl dX7_isWhole_9 ?_
    refine lv_aload_n hx hb dX7_isWhole_12 rfl (lv_at hl 0 rfl) ?_
    refine rV_i (q0 := 0) (As := []) (rest := [.int mn]) ⟨hx, hb, hml, hown, hts⟩ (m_X7_most l dC dI cI cJ aM aMG aML aMW aME aMO mt mc mn mr mb mf mlo mhi mx mg ml mw me mo) (cwV 0 hts (gi_V wm_651 wm_652 wm_653 wm_633 wm_654) rfl rfl rfl hd_X7_most ⟨Nat.le_of_ble_eq_true rfl, Nat.le_of_ble_eq_true rfl⟩) hK (hP.sub [0, 1, 2, 3, 4, 5] rfl) rfl rfl rfl hl.1 rfl (Nat.le_of_ble_eq_true rfl) dX7_isWhole_13 ⟨Nat.zero_le _, Nat.zero_le _⟩ ?_
    refine lv_icmp_ne (tgt := 23) hx hb dX7_isWhole_16 (by decide) (fun c_2 => ?_) (fun c_2 => ?_)
    · have hR := hR.trans (if_neg c_2)
      refine lv_iconst (v := (0 : Int32)) hx hb dX7_isWhole_23 (by decide) ?_
      exact kR (0 : Int32) 24 ls (by first | exact Or.inl rfl | exact Or.inr rfl) hR.symm dX7_isWhole_24
    · have hR := hR.trans (if_pos c_2)
      refine lv_iconst (v := (1 : Int32)) hx hb dX7_isWhole_19 (by decide) ?_
      refine lv_goto (tgt := 24) hx hb dX7_isWhole_20 (by decide) ?_
      exact kR (1 : Int32) 24 ls (by first | exact Or.inl rfl | exact Or.inr rfl) hR.symm dX7_isWhole_24
set_option maxHeartbeats 4000000 in
set_option maxRecDepth 100000 in
theorem m_X7_isWhole (l : Launch) (dC : Nat → ClassId) (dI : Nat → Nat → Nat) (cI cJ : ClassId) (aM : Nat) (aMG : Nat) (aML : Nat) (aMW : Nat) (aME : Nat) (aMO : Nat) (mt : Int32) (mc : Int32) (mn : Int32) (mr : Int32) (mb : Int32) (mf : Int32) (mlo : Int32) (mhi : Int32) (mx : Int32) (mg : Nat → Int32) (ml : Nat → Int32) (mw : Nat → Int32) (me : Nat → Int32) (mo : Nat → Int64) : Met l yX7_isWhole wsX7_isWhole rm_X7_isWhole (va_Pc [.ref aM] (fun U => va_P (dC, dI) vwCl [(aM, .inr (7, [.int mt, .ref aMG, .int mc, .ref aML, .int mn, .int mr, .int mb, .int mf, .int mlo, .int mhi, .ref aMW, .ref aME, .ref aMO, .int mx])), (aMG, .inl (cI, 14, .inl mg)), (aML, .inl (cI, 53, .inl ml)), (aMW, .inl (cI, 12, .inl mw)), (aME, .inl (cI, 2700, .inl me)), (aMO, .inl (cJ, 2700, .inr (.inl mo)))] U.heap ∧ va_K (dC, dI) vwCl [(cI, .int), (cJ, .long)] U)) (vp_Si (fun r => r = f_X7_isWhole mc mn mr)) 0 0 (fun _ => False) := by
  refine Met.ofW (cc := cX7_isWhole) (maxL := 1) (ret := (some .boolean)) (by decide) rfl ?_
  intro p e s m args below meth c s₁ B hml hv
  obtain ⟨rfl, hP, hK⟩ := hv
  have hl := lv_entry ([.ref aM]) (n := 1) (Nat.le_of_ble_eq_true rfl)
  rw [lg_entry_eq]
  refine w_X7_isWhole B.exec B.bytes hml (findClass_of_methodNamed B.named) (atoms_spec (ws := wsX7_isWhole) B.pre) hK hP rfl (fun r pc ls hz er hd => ?_) _ hl
  exact W.zret B.exec B.bytes B.returns (zb_n hz) (fun t ht hW => ⟨r, rfl, er, ht⟩) (fun _ h => by cases h) hd B.notSynchronized
end
def f_X7_has (mn : Int32) (p0 : Int32) : Int32 :=
  (f_X7_in p0 (0 : Int32) (mn - (1 : Int32)))
theorem e_X7_has {mn : Int32} {p0 : Int32} : f_X7_has mn p0 = (f_X7_in p0 (0 : Int32) (mn - (1 : Int32))) := rfl
section
variable {p : Program} {l : Launch} {e : Env} {s : State} {m : MethodId} {args : Array Value} {below : List Frame} {meth : Method} {c : Code} {Q : State → Prop} {H : Heap} {locs : List Loc} {dC : Nat → ClassId} {dI : Nat → Nat → Nat} {cI cJ : ClassId}
abbrev rm_X7_has : Room := { frames := 1, cells := 0, slots := 0, locals := 22 }
theorem hd_X7_has : yX7_has.cls = RX7 ∧ yX7_has.cls ≠ "java/lang/invoke/MethodHandle" ∧ yX7_has.cls ≠ "java/lang/invoke/VarHandle" ∧ (parseMethodDescriptor yX7_has.desc).map (fun d => d.parameters.length) = some 1 := by decide +kernel
set_option maxHeartbeats 4000000 in
set_option maxRecDepth 100000 in
theorem w_X7_has {aM : Nat} {aMG : Nat} {aML : Nat} {aMW : Nat} {aME : Nat} {aMO : Nat} {mt : Int32} {mc : Int32} {mn : Int32} {mr : Int32} {mb : Int32} {mf : Int32} {mlo : Int32} {mhi : Int32} {mx : Int32} {mg : Nat → Int32} {ml : Nat → Int32} {mw : Nat → Int32} {me : Nat → Int32} {mo : Nat → Int64} {p0 : Int32} {F : Int32} (hx : p.tables.exec = Jvm.exec) (hb : c.code = cX7_has) (hml : c.maxLocals = 2) (hown : s.vm.findClass RX7 = some m.cls) (hts : ∀ w ∈ wsX7_has, w.before args s = true) (hK : va_K (dC, dI) vwCl [(cI, .int), (cJ, .long)] s) (hP : va_P (dC, dI) vwCl [(aM, .inr (7, [.int mt, .ref aMG, .int mc, .ref aML, .int mn, .int mr, .int mb, .int mf, .int mlo, .int mhi, .ref aMW, .ref aME, .ref aMO, .int mx])), (aMG, .inl (cI, 14, .inl mg)), (aML, .inl (cI, 53, .inl ml)), (aMW, .inl (cI, 12, .inl mw)), (aME, .inl (cI, 2700, .inl me)), (aMO, .inl (cJ, 2700, .inr (.inl mo)))] H) (hR : F = f_X7_has mn p0) (kR : ∀ (r : Int32) (pc : Nat) (ls : Array Slot), zb r → r = F → decode cX7_has pc = .ok (.ireturn, 1) → W p l e rm_X7_has s m args below meth c H locs 0 0 Q (F0 m pc ls [.int r])) (ls : Array Slot) (hl : lv_has ls 2 [(0, .ref aM), (1, .int p0)]) : W p l e rm_X7_has s m args below meth c H locs 0 0 Q (F0 m 0 ls []) := by
  have hR := hR.trans e_X7_has
  refine lv_iload_n hx hb dX7_has_0 rfl (lv_at hl 1 rfl) ?_
  refine lv_iconst (v := (0 : Int32)) hx hb dX7_has_1 (by decide) ?_
  refine lv_aload_n hx hb dX7_has_2 rfl (lv_at hl 0 rfl) ?_
  refine va_get (D := (dC, dI)) (ci := 7) (v := .int mn) (C := RX7) (T := TX7) (N := 14) hx hb hts inC_X7 hown hK hP 0 rfl rfl 4 (by decide) (hts (.fieldLink RX7 49 "CounterpointeryModel" "notes" "I") (List.mem_cons_of_mem _ wm_650)) (fun _ h9 => h9) rfl dX7_has_3 ?_
  refine lv_iconst (v := (1 : Int32)) hx hb dX7_has_6 (by decide) ?_
  refine lv_isub hx hb dX7_has_7 ?_
  refine rS_i (As := [.int p0, .int (0 : Int32), .int (mn - (1 : Int32))]) (rest := []) ⟨hx, hb, hml, hown, hts⟩ (m_X7_in l dC dI cI cJ p0 (0 : Int32) (mn - (1 : Int32))) (va_cwS 3 hts (gi_S wm_635 wm_636 wm_633 wm_637) rfl rfl rfl hd_X7_in ⟨Nat.le_of_ble_eq_true rfl, Nat.le_of_ble_eq_true rfl⟩) hK (hP.sub [] rfl) rfl hl.1 rfl (Nat.le_of_ble_eq_true rfl) dX7_has_8 ⟨Nat.zero_le _, Nat.zero_le _⟩ ?_
  exact kR (f_X7_in p0 (0 : Int32) (mn - (1 : Int32))) 11 ls zb_X7_in hR.symm dX7_has_11
set_option maxHeartbeats 4000000 in
set_option maxRecDepth 100000 in
theorem m_X7_has (l : Launch) (dC : Nat → ClassId) (dI : Nat → Nat → Nat) (cI cJ : ClassId) (aM : Nat) (aMG : Nat) (aML : Nat) (aMW : Nat) (aME : Nat) (aMO : Nat) (mt : Int32) (mc : Int32) (mn : Int32) (mr : Int32) (mb : Int32) (mf : Int32) (mlo : Int32) (mhi : Int32) (mx : Int32) (mg : Nat → Int32) (ml : Nat → Int32) (mw : Nat → Int32) (me : Nat → Int32) (mo : Nat → Int64) (p0 : Int32) : Met l yX7_has wsX7_has rm_X7_has (va_Pc [.ref aM, .int p0] (fun U => va_P (dC, dI) vwCl [(aM, .inr (7, [.int mt, .ref aMG, .int mc, .ref aML, .int mn, .int mr, .int mb, .int mf, .int mlo, .int mhi, .ref aMW, .ref aME, .ref aMO, .int mx])), (aMG, .inl (cI, 14, .inl mg)), (aML, .inl (cI, 53, .inl ml)), (aMW, .inl (cI, 12, .inl mw)), (aME, .inl (cI, 2700, .inl me)), (aMO, .inl (cJ, 2700, .inr (.inl mo)))] U.heap ∧ va_K (dC, dI) vwCl [(cI, .int), (cJ, .long)] U)) (vp_Si (fun r => r = f_X7_has mn p0)) 0 0 (fun _ => False) := by
  refine Met.ofW (cc := cX7_has) (maxL := 2) (ret := (some .boolean)) (by decide) rfl ?_
  intro p e s m args below meth c s₁ B hml hv
  obtain ⟨rfl, hP, hK⟩ := hv
  have hl := lv_entry ([.ref aM, .int p0]) (n := 2) (Nat.le_of_ble_eq_true rfl)
  rw [lg_entry_eq]
  refine w_X7_has B.exec B.bytes hml (findClass_of_methodNamed B.named) (atoms_spec (ws := wsX7_has) B.pre) hK hP rfl (fun r pc ls hz er hd => ?_) _ hl
  exact W.zret B.exec B.bytes B.returns (zb_n hz) (fun t ht hW => ⟨r, rfl, er, ht⟩) (fun _ h => by cases h) hd B.notSynchronized
end
def f_X7_searchFault (mc : Int32) (mr : Int32) : Int32 :=
  (if (2 : Int32) ≤ mc then (if mr = (4 : Int32) then (2 : Int32) else (0 : Int32)) else (1 : Int32))
theorem e_X7_searchFault {mc : Int32} {mr : Int32} : f_X7_searchFault mc mr = (if (2 : Int32) ≤ mc then (if mr = (4 : Int32) then (2 : Int32) else (0 : Int32)) else (1 : Int32)) := rfl
section
variable {p : Program} {l : Launch} {e : Env} {s : State} {m : MethodId} {args : Array Value} {below : List Frame} {meth : Method} {c : Code} {Q : State → Prop} {H : Heap} {locs : List Loc} {dC : Nat → ClassId} {dI : Nat → Nat → Nat} {cI cJ : ClassId}
abbrev rm_X7_searchFault : Room := { frames := 0, cells := 0, slots := 0, locals := 0 }
theorem hd_X7_searchFault : yX7_searchFault.cls = RX7 ∧ yX7_searchFault.cls ≠ "java/lang/invoke/MethodHandle" ∧ yX7_searchFault.cls ≠ "java/lang/invoke/VarHandle" ∧ (parseMethodDescriptor yX7_searchFault.desc).map (fun d => d.parameters.length) = some 0 := by decide +kernel
set_option maxHeartbeats 4000000 in
set_option maxRecDepth 100000 in
theorem w_X7_searchFault {aM : Nat} {aMG : Nat} {aML : Nat} {aMW : Nat} {aME : Nat} {aMO : Nat} {mt : Int32} {mc : Int32} {mn : Int32} {mr : Int32} {mb : Int32} {mf : Int32} {mlo : Int32} {mhi : Int32} {mx : Int32} {mg : Nat → Int32} {ml : Nat → Int32} {mw : Nat → Int32} {me : Nat → Int32} {mo : Nat → Int64} {F : Int32} (hx : p.tables.exec = Jvm.exec) (hb : c.code = cX7_searchFault) (hml : c.maxLocals = 1) (hown : s.vm.findClass RX7 = some m.cls) (hts : ∀ w ∈ wsX7_searchFault, w.before args s = true) (hK : va_K (dC, dI) vwCl [(cI, .int), (cJ, .long)] s) (hP : va_P (dC, dI) vwCl [(aM, .inr (7, [.int mt, .ref aMG, .int mc, .ref aML, .int mn, .int mr, .int mb, .int mf, .int mlo, .int mhi, .ref aMW, .ref aME, .ref aMO, .int mx])), (aMG, .inl (cI, 14, .inl mg)), (aML, .inl (cI, 53, .inl ml)), (aMW, .inl (cI, 12, .inl mw)), (aME, .inl (cI, 2700, .inl me)), (aMO, .inl (cJ, 2700, .inr (.inl mo)))] H) (hR : F = f_X7_searchFault mc mr) (kR : ∀ (r : Int32) (pc : Nat) (ls : Array Slot), r = F → decode cX7_searchFault pc = .ok (.ireturn, 1) → W p l e rm_X7_searchFault s m args below meth c H locs 0 0 Q (F0 m pc ls [.int r])) (ls : Array Slot) (hl : lv_has ls 1 [(0, .ref aM)]) : W p l e rm_X7_searchFault s m args below meth c H locs 0 0 Q (F0 m 0 ls []) := by
  have hR := hR.trans e_X7_searchFault
  refine lv_aload_n hx hb dX7_searchFault_0 rfl (lv_at hl 0 rfl) ?_
  refine va_get (D := (dC, dI)) (ci := 7) (v := .int mc) (C := RX7) (T := TX7) (N := 14) hx hb hts inC_X7 hown hK hP 0 rfl rfl 2 (by decide) (hts (.fieldLink RX7 46 "CounterpointeryModel" "givens" "I") (List.mem_cons_of_mem _ wm_649)) (fun _ h9 => h9) rfl dX7_searchFault_1 ?_
  refine lv_iconst (v := (2 : Int32)) hx hb dX7_searchFault_4 (by decide) ?_
  refine lv_icmp_ge (tgt := 12) hx hb dX7_searchFault_5 (by decide) (fun c_1 => ?_) (fun c_1 => ?_)
  · have hR := hR.trans (if_pos c_1)
    refine lv_aload_n hx hb dX7_searchFault_12 rfl (lv_at hl 0 rfl) ?_
    refine va_get (D := (dC, dI)) (ci := 7) (v := .int mr) (C := RX7) (T := TX7) (N := 14) hx hb hts inC_X7 hown hK hP 0 rfl rfl 5 (by decide) (hts (.fieldLink RX7 16 "CounterpointeryModel" "ratio" "I") (List.mem_cons_of_mem _ wm_624)) (fun _ h9 => h9) rfl dX7_searchFault_13 ?_
    refine lv_iconst (v := (4 : Int32)) hx hb dX7_searchFault_16 (by decide) ?_
    refine lv_icmp_ne (tgt := 24) hx hb dX7_searchFault_17 (by decide) (fun c_2 => ?_) (fun c_2 => ?_)
    · have hR := hR.trans (if_neg c_2)
      refine lv_iconst (v := (0 : Int32)) hx hb dX7_searchFault_24 (by decide) ?_
      exact kR (0 : Int32) 25 ls hR.symm dX7_searchFault_25
    · have hR := hR.trans (if_pos c_2)
      refine lv_iconst (v := (2 : Int32)) hx hb dX7_searchFault_20 (by decide) ?_
      refine lv_goto (tgt := 25) hx hb dX7_searchFault_21 (by decide) ?_
      exact kR (2 : Int32) 25 ls hR.symm dX7_searchFault_25
  · have hR := hR.trans (if_neg c_1)
    refine lv_iconst (v := (1 : Int32)) hx hb dX7_searchFault_8 (by decide) ?_
    refine lv_goto (tgt := 25) hx hb dX7_searchFault_9 (by decide) ?_
    exact kR (1 : Int32) 25 ls hR.symm dX7_searchFault_25
set_option maxHeartbeats 4000000 in
set_option maxRecDepth 100000 in
theorem m_X7_searchFault (l : Launch) (dC : Nat → ClassId) (dI : Nat → Nat → Nat) (cI cJ : ClassId) (aM : Nat) (aMG : Nat) (aML : Nat) (aMW : Nat) (aME : Nat) (aMO : Nat) (mt : Int32) (mc : Int32) (mn : Int32) (mr : Int32) (mb : Int32) (mf : Int32) (mlo : Int32) (mhi : Int32) (mx : Int32) (mg : Nat → Int32) (ml : Nat → Int32) (mw : Nat → Int32) (me : Nat → Int32) (mo : Nat → Int64) : Met l yX7_searchFault wsX7_searchFault rm_X7_searchFault (va_Pc [.ref aM] (fun U => va_P (dC, dI) vwCl [(aM, .inr (7, [.int mt, .ref aMG, .int mc, .ref aML, .int mn, .int mr, .int mb, .int mf, .int mlo, .int mhi, .ref aMW, .ref aME, .ref aMO, .int mx])), (aMG, .inl (cI, 14, .inl mg)), (aML, .inl (cI, 53, .inl ml)), (aMW, .inl (cI, 12, .inl mw)), (aME, .inl (cI, 2700, .inl me)), (aMO, .inl (cJ, 2700, .inr (.inl mo)))] U.heap ∧ va_K (dC, dI) vwCl [(cI, .int), (cJ, .long)] U)) (vp_Si (fun r => r = f_X7_searchFault mc mr)) 0 0 (fun _ => False) := by
  refine Met.ofW (cc := cX7_searchFault) (maxL := 1) (ret := (some .int)) (by decide) rfl ?_
  intro p e s m args below meth c s₁ B hml hv
  obtain ⟨rfl, hP, hK⟩ := hv
  have hl := lv_entry ([.ref aM]) (n := 1) (Nat.le_of_ble_eq_true rfl)
  rw [lg_entry_eq]
  refine w_X7_searchFault B.exec B.bytes hml (findClass_of_methodNamed B.named) (atoms_spec (ws := wsX7_searchFault) B.pre) hK hP rfl (fun r pc ls er hd => ?_) _ hl
  exact W.iret B.exec B.bytes B.returns (fun t ht hW => ⟨r, rfl, er, ht⟩) (fun _ h => by cases h) hd B.notSynchronized
end
def f_X7_goesOn (p0 : Int32) : Int32 × Int32 :=
  (if p0 = 0 then ((1 : Int32), p0) else ((0 : Int32), p0))
theorem e_X7_goesOn {p0 : Int32} : f_X7_goesOn p0 = (if p0 = 0 then ((1 : Int32), p0) else ((0 : Int32), p0)) := rfl
section
variable {p : Program} {l : Launch} {e : Env} {s : State} {m : MethodId} {args : Array Value} {below : List Frame} {meth : Method} {c : Code} {Q : State → Prop} {H : Heap} {locs : List Loc} {dC : Nat → ClassId} {dI : Nat → Nat → Nat} {cI cJ : ClassId}
abbrev rm_X7_goesOn : Room := { frames := 0, cells := 0, slots := 0, locals := 0 }
theorem hd_X7_goesOn : yX7_goesOn.cls = RX7 ∧ yX7_goesOn.cls ≠ "java/lang/invoke/MethodHandle" ∧ yX7_goesOn.cls ≠ "java/lang/invoke/VarHandle" ∧ (parseMethodDescriptor yX7_goesOn.desc).map (fun d => d.parameters.length) = some 1 := by decide +kernel
set_option maxHeartbeats 4000000 in
set_option maxRecDepth 100000 in
theorem w_X7_goesOn {aM : Nat} {aMG : Nat} {aML : Nat} {aMW : Nat} {aME : Nat} {aMO : Nat} {mt : Int32} {mc : Int32} {mn : Int32} {mr : Int32} {mb : Int32} {mf : Int32} {mlo : Int32} {mhi : Int32} {mx : Int32} {mg : Nat → Int32} {ml : Nat → Int32} {mw : Nat → Int32} {me : Nat → Int32} {mo : Nat → Int64} {p0 : Int32} {F : Int32 × Int32} (hx : p.tables.exec = Jvm.exec) (hb : c.code = cX7_goesOn) (hml : c.maxLocals = 2) (hown : s.vm.findClass RX7 = some m.cls) (hts : ∀ w ∈ wsX7_goesOn, w.before args s = true) (hK : va_K (dC, dI) vwCl [(cI, .int), (cJ, .long)] s) {A : Nat → Prop} {H0 : Heap} (hP : va_P (dC, dI) vwCl [(aM, .inr (7, [.int mt, .ref aMG, .int mc, .ref aML, .int mn, .int mr, .int mb, .int mf, .int mlo, .int mhi, .ref aMW, .ref aME, .ref aMO, .int mx])), (aMG, .inl (cI, 14, .inl mg)), (aML, .inl (cI, 53, .inl ml)), (aMW, .inl (cI, 12, .inl mw)), (aME, .inl (cI, 2700, .inl me)), (aMO, .inl (cJ, 2700, .inr (.inl mo)))] H) (hD : va_D A [(aM, .inr (7, [.int mt, .ref aMG, .int mc, .ref aML, .int mn, .int mr, .int mb, .int mf, .int mlo, .int mhi, .ref aMW, .ref aME, .ref aMO, .int mx])), (aMG, .inl (cI, 14, .inl mg)), (aML, .inl (cI, 53, .inl ml)), (aMW, .inl (cI, 12, .inl mw)), (aME, .inl (cI, 2700, .inl me)), (aMO, .inl (cJ, 2700, .inr (.inl mo)))]) (hS : va_S A H0 H locs) (hA : ∀ q, H0.size ≤ q → A q) (hR : F = f_X7_goesOn p0) (kR : ∀ (r : Int32) (pc : Nat) (ls : Array Slot) (H : Heap) (locs : List Loc), zb r → ∀ (mt' : Int32), va_P (dC, dI) vwCl [(aM, .inr (7, [.int mt', .ref aMG, .int mc, .ref aML, .int mn, .int mr, .int mb, .int mf, .int mlo, .int mhi, .ref aMW, .ref aME, .ref aMO, .int mx])), (aMG, .inl (cI, 14, .inl mg)), (aML, .inl (cI, 53, .inl ml)), (aMW, .inl (cI, 12, .inl mw)), (aME, .inl (cI, 2700, .inl me)), (aMO, .inl (cJ, 2700, .inr (.inl mo)))] H → va_D A [(aM, .inr (7, [.int mt', .ref aMG, .int mc, .ref aML, .int mn, .int mr, .int mb, .int mf, .int mlo, .int mhi, .ref aMW, .ref aME, .ref aMO, .int mx])), (aMG, .inl (cI, 14, .inl mg)), (aML, .inl (cI, 53, .inl ml)), (aMW, .inl (cI, 12, .inl mw)), (aME, .inl (cI, 2700, .inl me)), (aMO, .inl (cJ, 2700, .inr (.inl mo)))] → va_S A H0 H locs → (r, mt') = F → decode cX7_goesOn pc = .ok (.ireturn, 1) → W p l e rm_X7_goesOn s m args below meth c H locs 0 0 Q (F0 m pc ls [.int r])) (ls : Array Slot) (hl : lv_has ls 2 [(0, .ref aM), (1, .int p0)]) : W p l e rm_X7_goesOn s m args below meth c H locs 0 0 Q (F0 m 0 ls []) := by
  have hR := hR.trans e_X7_goesOn
  refine lv_aload_n hx hb dX7_goesOn_0 rfl (lv_at hl 0 rfl) ?_
  refine lv_iload_n hx hb dX7_goesOn_1 rfl (lv_at hl 1 rfl) ?_
  refine va_put (D := (dC, dI)) (ci := 7) (v := .int p0) (ty := .int) (C := RX7) (T := TX7) (N := 14) hx hb hts inC_X7 tyX7 tyX7_ok nmX7 hown hK hP hD hS 0 rfl rfl 0 (by decide) (hts (.fieldLink RX7 40 "CounterpointeryModel" "thrown" "I") (List.mem_cons_of_mem _ wm_642)) (fun _ h9 => h9) rfl (by decide +kernel) rfl rfl (Nat.le_of_ble_eq_true rfl) dX7_goesOn_2 (fun H locs hP hD hS => ?_)
  have hP : va_P (dC, dI) vwCl [(aM, .inr (7, [.int p0, .ref aMG, .int mc, .ref aML, .int mn, .int mr, .int mb, .int mf, .int mlo, .int mhi, .ref aMW, .ref aME, .ref aMO, .int mx])), (aMG, .inl (cI, 14, .inl mg)), (aML, .inl (cI, 53, .inl ml)), (aMW, .inl (cI, 12, .inl mw)), (aME, .inl (cI, 2700, .inl me)), (aMO, .inl (cJ, 2700, .inr (.inl mo)))] H := hP
  have hD : va_D A [(aM, .inr (7, [.int p0, .ref aMG, .int mc, .ref aML, .int mn, .int mr, .int mb, .int mf, .int mlo, .int mhi, .ref aMW, .ref aME, .ref aMO, .int mx])), (aMG, .inl (cI, 14, .inl mg)), (aML, .inl (cI, 53, .inl ml)), (aMW, .inl (cI, 12, .inl mw)), (aME, .inl (cI, 2700, .inl me)), (aMO, .inl (cJ, 2700, .inr (.inl mo)))] := hD
  refine lv_iload_n hx hb dX7_goesOn_5 rfl (lv_at hl 1 rfl) ?_
  refine lv_if_ne (tgt := 13) hx hb dX7_goesOn_6 (by decide) (fun c_1 => ?_) (fun c_1 => ?_)
  · have hR := hR.trans (if_neg c_1)
    refine lv_iconst (v := (0 : Int32)) hx hb dX7_goesOn_13 (by decide) ?_
    exact kR (0 : Int32) 14 ls H locs (by first | exact Or.inl rfl | exact Or.inr rfl) p0 hP hD hS hR.symm dX7_goesOn_14
  · have hR := hR.trans (if_pos c_1)
    refine lv_iconst (v := (1 : Int32)) hx hb dX7_goesOn_9 (by decide) ?_
    refine lv_goto (tgt := 14) hx hb dX7_goesOn_10 (by decide) ?_
    exact kR (1 : Int32) 14 ls H locs (by first | exact Or.inl rfl | exact Or.inr rfl) p0 hP hD hS hR.symm dX7_goesOn_14
set_option maxHeartbeats 4000000 in
set_option maxRecDepth 100000 in
theorem m_X7_goesOn (l : Launch) (dC : Nat → ClassId) (dI : Nat → Nat → Nat) (cI cJ : ClassId) (aM : Nat) (aMG : Nat) (aML : Nat) (aMW : Nat) (aME : Nat) (aMO : Nat) (mt : Int32) (mc : Int32) (mn : Int32) (mr : Int32) (mb : Int32) (mf : Int32) (mlo : Int32) (mhi : Int32) (mx : Int32) (mg : Nat → Int32) (ml : Nat → Int32) (mw : Nat → Int32) (me : Nat → Int32) (mo : Nat → Int64) (p0 : Int32) (sz : Nat) : Met l yX7_goesOn wsX7_goesOn rm_X7_goesOn (va_Pc [.ref aM, .int p0] (fun U => U.heap.size = sz ∧ va_P (dC, dI) vwCl [(aM, .inr (7, [.int mt, .ref aMG, .int mc, .ref aML, .int mn, .int mr, .int mb, .int mf, .int mlo, .int mhi, .ref aMW, .ref aME, .ref aMO, .int mx])), (aMG, .inl (cI, 14, .inl mg)), (aML, .inl (cI, 53, .inl ml)), (aMW, .inl (cI, 12, .inl mw)), (aME, .inl (cI, 2700, .inl me)), (aMO, .inl (cJ, 2700, .inr (.inl mo)))] U.heap ∧ va_K (dC, dI) vwCl [(cI, .int), (cJ, .long)] U ∧ va_D (fun _ => True) [(aM, .inr (7, [.int mt, .ref aMG, .int mc, .ref aML, .int mn, .int mr, .int mb, .int mf, .int mlo, .int mhi, .ref aMW, .ref aME, .ref aMO, .int mx])), (aMG, .inl (cI, 14, .inl mg)), (aML, .inl (cI, 53, .inl ml)), (aMW, .inl (cI, 12, .inl mw)), (aME, .inl (cI, 2700, .inl me)), (aMO, .inl (cJ, 2700, .inr (.inl mo)))])) (va_Qi (fun (r : Int32) (_ : Unit) => r = (f_X7_goesOn p0).1) (fun _ t => va_P (dC, dI) vwCl [(aM, .inr (7, [.int ((f_X7_goesOn p0).2), .ref aMG, .int mc, .ref aML, .int mn, .int mr, .int mb, .int mf, .int mlo, .int mhi, .ref aMW, .ref aME, .ref aMO, .int mx])), (aMG, .inl (cI, 14, .inl mg)), (aML, .inl (cI, 53, .inl ml)), (aMW, .inl (cI, 12, .inl mw)), (aME, .inl (cI, 2700, .inl me)), (aMO, .inl (cJ, 2700, .inr (.inl mo)))] t.heap ∧ va_K (dC, dI) vwCl [(cI, .int), (cJ, .long)] t ∧ va_D (va_A [(aM, .inr (7, [.int mt, .ref aMG, .int mc, .ref aML, .int mn, .int mr, .int mb, .int mf, .int mlo, .int mhi, .ref aMW, .ref aME, .ref aMO, .int mx])), (aMG, .inl (cI, 14, .inl mg)), (aML, .inl (cI, 53, .inl ml)), (aMW, .inl (cI, 12, .inl mw)), (aME, .inl (cI, 2700, .inl me)), (aMO, .inl (cJ, 2700, .inr (.inl mo)))] sz) [(aM, .inr (7, [.int ((f_X7_goesOn p0).2), .ref aMG, .int mc, .ref aML, .int mn, .int mr, .int mb, .int mf, .int mlo, .int mhi, .ref aMW, .ref aME, .ref aMO, .int mx])), (aMG, .inl (cI, 14, .inl mg)), (aML, .inl (cI, 53, .inl ml)), (aMW, .inl (cI, 12, .inl mw)), (aME, .inl (cI, 2700, .inl me)), (aMO, .inl (cJ, 2700, .inr (.inl mo)))]) (va_A [(aM, .inr (7, [.int mt, .ref aMG, .int mc, .ref aML, .int mn, .int mr, .int mb, .int mf, .int mlo, .int mhi, .ref aMW, .ref aME, .ref aMO, .int mx])), (aMG, .inl (cI, 14, .inl mg)), (aML, .inl (cI, 53, .inl ml)), (aMW, .inl (cI, 12, .inl mw)), (aME, .inl (cI, 2700, .inl me)), (aMO, .inl (cJ, 2700, .inr (.inl mo)))] sz)) 0 0 (va_A [(aM, .inr (7, [.int mt, .ref aMG, .int mc, .ref aML, .int mn, .int mr, .int mb, .int mf, .int mlo, .int mhi, .ref aMW, .ref aME, .ref aMO, .int mx])), (aMG, .inl (cI, 14, .inl mg)), (aML, .inl (cI, 53, .inl ml)), (aMW, .inl (cI, 12, .inl mw)), (aME, .inl (cI, 2700, .inl me)), (aMO, .inl (cJ, 2700, .inr (.inl mo)))] sz) := by
  refine Met.ofW (cc := cX7_goesOn) (maxL := 2) (ret := (some .boolean)) (by decide) rfl ?_
  intro p e s m args below meth c s₁ B hml hv
  obtain ⟨rfl, hsz, hP, hK, hD0⟩ := hv
  subst hsz
  have hl := lv_entry ([.ref aM, .int p0]) (n := 2) (Nat.le_of_ble_eq_true rfl)
  rw [lg_entry_eq]
  refine w_X7_goesOn B.exec B.bytes hml (findClass_of_methodNamed B.named) (atoms_spec (ws := wsX7_goesOn) B.pre) hK hP (hD0.self (sz := s.heap.size)) va_S.rf (fun q h => Or.inr h) rfl (fun r pc ls H locs hz mt' hP hD hS er hd => ?_) _ hl
  simp only [Prod.ext_iff] at er
  obtain ⟨e0, e1⟩ := er
  subst e0
  subst e1
  exact W.zret B.exec B.bytes B.returns (zb_n hz) (fun t ht hW => ⟨⟨_, (), rfl, rfl, by rw [ht]; exact hP, va_K.moved hW.alike hK, hD⟩, hS.F ht⟩) hS.2.2 hd B.notSynchronized
end
def f_X7_isStrong (mr : Int32) (p0 : Int32) : Int32 :=
  (if (irem p0 mr) = 0 then (1 : Int32) else (0 : Int32))
theorem e_X7_isStrong {mr : Int32} {p0 : Int32} : f_X7_isStrong mr p0 = (if (irem p0 mr) = 0 then (1 : Int32) else (0 : Int32)) := rfl
section
variable {p : Program} {l : Launch} {e : Env} {s : State} {m : MethodId} {args : Array Value} {below : List Frame} {meth : Method} {c : Code} {Q : State → Prop} {H : Heap} {locs : List Loc} {dC : Nat → ClassId} {dI : Nat → Nat → Nat} {cI cJ : ClassId}
abbrev rm_X7_isStrong : Room := { frames := 0, cells := 0, slots := 0, locals := 0 }
theorem hd_X7_isStrong : yX7_isStrong.cls = RX7 ∧ yX7_isStrong.cls ≠ "java/lang/invoke/MethodHandle" ∧ yX7_isStrong.cls ≠ "java/lang/invoke/VarHandle" ∧ (parseMethodDescriptor yX7_isStrong.desc).map (fun d => d.parameters.length) = some 1 := by decide +kernel
set_option maxHeartbeats 4000000 in
set_option maxRecDepth 100000 in
theorem w_X7_isStrong {aM : Nat} {aMG : Nat} {aML : Nat} {aMW : Nat} {aME : Nat} {aMO : Nat} {mt : Int32} {mc : Int32} {mn : Int32} {mr : Int32} {mb : Int32} {mf : Int32} {mlo : Int32} {mhi : Int32} {mx : Int32} {mg : Nat → Int32} {ml : Nat → Int32} {mw : Nat → Int32} {me : Nat → Int32} {mo : Nat → Int64} {p0 : Int32} (hm : mok mc mr) {F : Int32} (hx : p.tables.exec = Jvm.exec) (hb : c.code = cX7_isStrong) (hml : c.maxLocals = 2) (hown : s.vm.findClass RX7 = some m.cls) (hts : ∀ w ∈ wsX7_isStrong, w.before args s = true) (hK : va_K (dC, dI) vwCl [(cI, .int), (cJ, .long)] s) (hP : va_P (dC, dI) vwCl [(aM, .inr (7, [.int mt, .ref aMG, .int mc, .ref aML, .int mn, .int mr, .int mb, .int mf, .int mlo, .int mhi, .ref aMW, .ref aME, .ref aMO, .int mx])), (aMG, .inl (cI, 14, .inl mg)), (aML, .inl (cI, 53, .inl ml)), (aMW, .inl (cI, 12, .inl mw)), (aME, .inl (cI, 2700, .inl me)), (aMO, .inl (cJ, 2700, .inr (.inl mo)))] H) (hR : F = f_X7_isStrong mr p0) (kR : ∀ (r : Int32) (pc : Nat) (ls : Array Slot), zb r → r = F → decode cX7_isStrong pc = .ok (.ireturn, 1) → W p l e rm_X7_isStrong s m args below meth c H locs 0 0 Q (F0 m pc ls [.int r])) (ls : Array Slot) (hl : lv_has ls 2 [(0, .ref aM), (1, .int p0)]) : W p l e rm_X7_isStrong s m args below meth c H locs 0 0 Q (F0 m 0 ls []) := by
  have hR := hR.trans e_X7_isStrong
  refine lv_iload_n hx hb dX7_isStrong_0 rfl (lv_at hl 1 rfl) ?_
  refine lv_aload_n hx hb dX7_isStrong_1 rfl (lv_at hl 0 rfl) ?_
  refine va_get (D := (dC, dI)) (ci := 7) (v := .int mr) (C := RX7) (T := TX7) (N := 14) hx hb hts inC_X7 hown hK hP 0 rfl rfl 5 (by decide) (hts (.fieldLink RX7 16 "CounterpointeryModel" "ratio" "I") (List.mem_cons_of_mem _ wm_624)) (fun _ h9 => h9) rfl dX7_isStrong_2 ?_
  refine w_irem hx hb dX7_isStrong_5 (mx_nz hm) ?_
  refine lv_if_ne (tgt := 13) hx hb dX7_isStrong_6 (by decide) (fun c_1 => ?_) (fun c_1 => ?_)
  · have hR := hR.trans (if_neg c_1)
    refine lv_iconst (v := (0 : Int32)) hx hb dX7_isStrong_13 (by decide) ?_
    exact kR (0 : Int32) 14 ls (by first | exact Or.inl rfl | exact Or.inr rfl) hR.symm dX7_isStrong_14
  · have hR := hR.trans (if_pos c_1)
    refine lv_iconst (v := (1 : Int32)) hx hb dX7_isStrong_9 (by decide) ?_
    refine lv_goto (tgt := 14) hx hb dX7_isStrong_10 (by decide) ?_
    exact kR (1 : Int32) 14 ls (by first | exact Or.inl rfl | exact Or.inr rfl) hR.symm dX7_isStrong_14
set_option maxHeartbeats 4000000 in
set_option maxRecDepth 100000 in
theorem m_X7_isStrong (l : Launch) (dC : Nat → ClassId) (dI : Nat → Nat → Nat) (cI cJ : ClassId) (aM : Nat) (aMG : Nat) (aML : Nat) (aMW : Nat) (aME : Nat) (aMO : Nat) (mt : Int32) (mc : Int32) (mn : Int32) (mr : Int32) (mb : Int32) (mf : Int32) (mlo : Int32) (mhi : Int32) (mx : Int32) (mg : Nat → Int32) (ml : Nat → Int32) (mw : Nat → Int32) (me : Nat → Int32) (mo : Nat → Int64) (p0 : Int32) (hm : mok mc mr) : Met l yX7_isStrong wsX7_isStrong rm_X7_isStrong (va_Pc [.ref aM, .int p0] (fun U => va_P (dC, dI) vwCl [(aM, .inr (7, [.int mt, .ref aMG, .int mc, .ref aML, .int mn, .int mr, .int mb, .int mf, .int mlo, .int mhi, .ref aMW, .ref aME, .ref aMO, .int mx])), (aMG, .inl (cI, 14, .inl mg)), (aML, .inl (cI, 53, .inl ml)), (aMW, .inl (cI, 12, .inl mw)), (aME, .inl (cI, 2700, .inl me)), (aMO, .inl (cJ, 2700, .inr (.inl mo)))] U.heap ∧ va_K (dC, dI) vwCl [(cI, .int), (cJ, .long)] U)) (vp_Si (fun r => r = f_X7_isStrong mr p0)) 0 0 (fun _ => False) := by
  refine Met.ofW (cc := cX7_isStrong) (maxL := 2) (ret := (some .boolean)) (by decide) rfl ?_
  intro p e s m args below meth c s₁ B hml hv
  obtain ⟨rfl, hP, hK⟩ := hv
  have hl := lv_entry ([.ref aM, .int p0]) (n := 2) (Nat.le_of_ble_eq_true rfl)
  rw [lg_entry_eq]
  refine w_X7_isStrong hm B.exec B.bytes hml (findClass_of_methodNamed B.named) (atoms_spec (ws := wsX7_isStrong) B.pre) hK hP rfl (fun r pc ls hz er hd => ?_) _ hl
  exact W.zret B.exec B.bytes B.returns (zb_n hz) (fun t ht hW => ⟨r, rfl, er, ht⟩) (fun _ h => by cases h) hd B.notSynchronized
end
