def f_X1_size (gc : Int32) : Int32 :=
  gc
theorem e_X1_size {gc : Int32} : f_X1_size gc = gc := rfl
section
variable {p : Program} {l : Launch} {e : Env} {s : State} {m : MethodId} {args : Array Value} {below : List Frame} {meth : Method} {c : Code} {Q : State → Prop} {H : Heap} {locs : List Loc} {dC : Nat → ClassId} {dI : Nat → Nat → Nat} {cI cJ : ClassId}
abbrev rm_X1_size : Room := { frames := 0, cells := 0, slots := 0, locals := 0 }
theorem hd_X1_size : yX1_size.cls = RX1 ∧ yX1_size.cls ≠ "java/lang/invoke/MethodHandle" ∧ yX1_size.cls ≠ "java/lang/invoke/VarHandle" ∧ (parseMethodDescriptor yX1_size.desc).map (fun d => d.parameters.length) = some 0 := by decide +kernel
set_option maxHeartbeats 4000000 in
set_option maxRecDepth 100000 in
theorem w_X1_size {aG : Nat} {aV : Nat} {gc : Int32} {gs : Int32} {gb : Int32} {gf : Int32} {gl : Int32} {gh : Int32} {gn : Int32} {gv : Nat → Int32} {F : Int32} (hx : p.tables.exec = Jvm.exec) (hb : c.code = cX1_size) (hml : c.maxLocals = 1) (hown : s.vm.findClass RX1 = some m.cls) (hts : ∀ w ∈ wsX1_size, w.before args s = true) (hK : va_K (dC, dI) vwCl [(cI, .int), (cJ, .long)] s) (hP : va_P (dC, dI) vwCl [(aG, .inr (2, [.ref aV, .int gc, .int gs, .int gb, .int gf, .int gl, .int gh, .int gn])), (aV, .inl (cI, 14, .inl gv))] H) (hR : F = f_X1_size gc) (kR : ∀ (r : Int32) (pc : Nat) (ls : Array Slot), r = F → decode cX1_size pc = .ok (.ireturn, 1) → W p l e rm_X1_size s m args below meth c H locs 0 0 Q (F0 m pc ls [.int r])) (ls : Array Slot) (hl : lv_has ls 1 [(0, .ref aG)]) : W p l e rm_X1_size s m args below meth c H locs 0 0 Q (F0 m 0 ls []) := by
  have hR := hR.trans e_X1_size
  refine lv_aload_n hx hb dX1_size_0 rfl (lv_at hl 0 rfl) ?_
  refine va_get (D := (dC, dI)) (ci := 2) (v := .int gc) (C := RX1) (T := TX1) (N := 8) hx hb hts inC_X1 hown hK hP 0 rfl rfl 1 (by decide) (hts (.fieldLink RX1 20 "Counterpointery$Ground" "count" "I") (List.mem_cons_of_mem _ wm_57)) (fun _ h9 => h9) rfl dX1_size_1 ?_
  exact kR gc 4 ls hR.symm dX1_size_4
set_option maxHeartbeats 4000000 in
set_option maxRecDepth 100000 in
theorem m_X1_size (l : Launch) (dC : Nat → ClassId) (dI : Nat → Nat → Nat) (cI cJ : ClassId) (aG : Nat) (aV : Nat) (gc : Int32) (gs : Int32) (gb : Int32) (gf : Int32) (gl : Int32) (gh : Int32) (gn : Int32) (gv : Nat → Int32) : Met l yX1_size wsX1_size rm_X1_size (va_Pc [.ref aG] (fun U => va_P (dC, dI) vwCl [(aG, .inr (2, [.ref aV, .int gc, .int gs, .int gb, .int gf, .int gl, .int gh, .int gn])), (aV, .inl (cI, 14, .inl gv))] U.heap ∧ va_K (dC, dI) vwCl [(cI, .int), (cJ, .long)] U)) (vp_Si (fun r => r = f_X1_size gc)) 0 0 (fun _ => False) := by
  refine Met.ofW (cc := cX1_size) (maxL := 1) (ret := (some .int)) (by decide) rfl ?_
  intro p e s m args below meth c s₁ B hml hv
  obtain ⟨rfl, hP, hK⟩ := hv
  have hl := lv_entry ([.ref aG]) (n := 1) (Nat.le_of_ble_eq_true rfl)
  rw [lg_entry_eq]
  refine w_X1_size B.exec B.bytes hml (findClass_of_methodNamed B.named) (atoms_spec (ws := wsX1_size) B.pre) hK hP rfl (fun r pc ls er hd => ?_) _ hl
  exact W.iret B.exec B.bytes B.returns (fun t ht hW => ⟨r, rfl, er, ht⟩) (fun _ h => by cases h) hd B.notSynchronized
end
def f_X1_perGiven (gs : Int32) : Int32 :=
  (ishl (1 : Int32) gs)
theorem e_X1_perGiven {gs : Int32} : f_X1_perGiven gs = (ishl (1 : Int32) gs) := rfl
section
variable {p : Program} {l : Launch} {e : Env} {s : State} {m : MethodId} {args : Array Value} {below : List Frame} {meth : Method} {c : Code} {Q : State → Prop} {H : Heap} {locs : List Loc} {dC : Nat → ClassId} {dI : Nat → Nat → Nat} {cI cJ : ClassId}
abbrev rm_X1_perGiven : Room := { frames := 0, cells := 0, slots := 0, locals := 0 }
theorem hd_X1_perGiven : yX1_perGiven.cls = RX1 ∧ yX1_perGiven.cls ≠ "java/lang/invoke/MethodHandle" ∧ yX1_perGiven.cls ≠ "java/lang/invoke/VarHandle" ∧ (parseMethodDescriptor yX1_perGiven.desc).map (fun d => d.parameters.length) = some 0 := by decide +kernel
set_option maxHeartbeats 4000000 in
set_option maxRecDepth 100000 in
theorem w_X1_perGiven {aG : Nat} {aV : Nat} {gc : Int32} {gs : Int32} {gb : Int32} {gf : Int32} {gl : Int32} {gh : Int32} {gn : Int32} {gv : Nat → Int32} {F : Int32} (hx : p.tables.exec = Jvm.exec) (hb : c.code = cX1_perGiven) (hml : c.maxLocals = 1) (hown : s.vm.findClass RX1 = some m.cls) (hts : ∀ w ∈ wsX1_perGiven, w.before args s = true) (hK : va_K (dC, dI) vwCl [(cI, .int), (cJ, .long)] s) (hP : va_P (dC, dI) vwCl [(aG, .inr (2, [.ref aV, .int gc, .int gs, .int gb, .int gf, .int gl, .int gh, .int gn])), (aV, .inl (cI, 14, .inl gv))] H) (hR : F = f_X1_perGiven gs) (kR : ∀ (r : Int32) (pc : Nat) (ls : Array Slot), r = F → decode cX1_perGiven pc = .ok (.ireturn, 1) → W p l e rm_X1_perGiven s m args below meth c H locs 0 0 Q (F0 m pc ls [.int r])) (ls : Array Slot) (hl : lv_has ls 1 [(0, .ref aG)]) : W p l e rm_X1_perGiven s m args below meth c H locs 0 0 Q (F0 m 0 ls []) := by
  have hR := hR.trans e_X1_perGiven
  refine lv_iconst (v := (1 : Int32)) hx hb dX1_perGiven_0 (by decide) ?_
  refine lv_aload_n hx hb dX1_perGiven_1 rfl (lv_at hl 0 rfl) ?_
  refine va_get (D := (dC, dI)) (ci := 2) (v := .int gs) (C := RX1) (T := TX1) (N := 8) hx hb hts inC_X1 hown hK hP 0 rfl rfl 2 (by decide) (hts (.fieldLink RX1 26 "Counterpointery$Ground" "shift" "I") (List.mem_cons_of_mem _ wm_59)) (fun _ h9 => h9) rfl dX1_perGiven_2 ?_
  refine w_ishl hx hb dX1_perGiven_5 ?_
  exact kR (ishl (1 : Int32) gs) 6 ls hR.symm dX1_perGiven_6
set_option maxHeartbeats 4000000 in
set_option maxRecDepth 100000 in
theorem m_X1_perGiven (l : Launch) (dC : Nat → ClassId) (dI : Nat → Nat → Nat) (cI cJ : ClassId) (aG : Nat) (aV : Nat) (gc : Int32) (gs : Int32) (gb : Int32) (gf : Int32) (gl : Int32) (gh : Int32) (gn : Int32) (gv : Nat → Int32) : Met l yX1_perGiven wsX1_perGiven rm_X1_perGiven (va_Pc [.ref aG] (fun U => va_P (dC, dI) vwCl [(aG, .inr (2, [.ref aV, .int gc, .int gs, .int gb, .int gf, .int gl, .int gh, .int gn])), (aV, .inl (cI, 14, .inl gv))] U.heap ∧ va_K (dC, dI) vwCl [(cI, .int), (cJ, .long)] U)) (vp_Si (fun r => r = f_X1_perGiven gs)) 0 0 (fun _ => False) := by
  refine Met.ofW (cc := cX1_perGiven) (maxL := 1) (ret := (some .int)) (by decide) rfl ?_
  intro p e s m args below meth c s₁ B hml hv
  obtain ⟨rfl, hP, hK⟩ := hv
  have hl := lv_entry ([.ref aG]) (n := 1) (Nat.le_of_ble_eq_true rfl)
  rw [lg_entry_eq]
  refine w_X1_perGiven B.exec B.bytes hml (findClass_of_methodNamed B.named) (atoms_spec (ws := wsX1_perGiven) B.pre) hK hP rfl (fun r pc ls er hd => ?_) _ hl
  exact W.iret B.exec B.bytes B.returns (fun t ht hW => ⟨r, rfl, er, ht⟩) (fun _ h => by cases h) hd B.notSynchronized
end
def f_X1_lowest (gl : Int32) : Int32 :=
  gl
theorem e_X1_lowest {gl : Int32} : f_X1_lowest gl = gl := rfl
section
variable {p : Program} {l : Launch} {e : Env} {s : State} {m : MethodId} {args : Array Value} {below : List Frame} {meth : Method} {c : Code} {Q : State → Prop} {H : Heap} {locs : List Loc} {dC : Nat → ClassId} {dI : Nat → Nat → Nat} {cI cJ : ClassId}
abbrev rm_X1_lowest : Room := { frames := 0, cells := 0, slots := 0, locals := 0 }
theorem hd_X1_lowest : yX1_lowest.cls = RX1 ∧ yX1_lowest.cls ≠ "java/lang/invoke/MethodHandle" ∧ yX1_lowest.cls ≠ "java/lang/invoke/VarHandle" ∧ (parseMethodDescriptor yX1_lowest.desc).map (fun d => d.parameters.length) = some 0 := by decide +kernel
set_option maxHeartbeats 4000000 in
set_option maxRecDepth 100000 in
theorem w_X1_lowest {aG : Nat} {aV : Nat} {gc : Int32} {gs : Int32} {gb : Int32} {gf : Int32} {gl : Int32} {gh : Int32} {gn : Int32} {gv : Nat → Int32} {F : Int32} (hx : p.tables.exec = Jvm.exec) (hb : c.code = cX1_lowest) (hml : c.maxLocals = 1) (hown : s.vm.findClass RX1 = some m.cls) (hts : ∀ w ∈ wsX1_lowest, w.before args s = true) (hK : va_K (dC, dI) vwCl [(cI, .int), (cJ, .long)] s) (hP : va_P (dC, dI) vwCl [(aG, .inr (2, [.ref aV, .int gc, .int gs, .int gb, .int gf, .int gl, .int gh, .int gn])), (aV, .inl (cI, 14, .inl gv))] H) (hR : F = f_X1_lowest gl) (kR : ∀ (r : Int32) (pc : Nat) (ls : Array Slot), r = F → decode cX1_lowest pc = .ok (.ireturn, 1) → W p l e rm_X1_lowest s m args below meth c H locs 0 0 Q (F0 m pc ls [.int r])) (ls : Array Slot) (hl : lv_has ls 1 [(0, .ref aG)]) : W p l e rm_X1_lowest s m args below meth c H locs 0 0 Q (F0 m 0 ls []) := by
  have hR := hR.trans e_X1_lowest
  refine lv_aload_n hx hb dX1_lowest_0 rfl (lv_at hl 0 rfl) ?_
  refine va_get (D := (dC, dI)) (ci := 2) (v := .int gl) (C := RX1) (T := TX1) (N := 8) hx hb hts inC_X1 hown hK hP 0 rfl rfl 5 (by decide) (hts (.fieldLink RX1 13 "Counterpointery$Ground" "low" "I") (List.mem_cons_of_mem _ wm_55)) (fun _ h9 => h9) rfl dX1_lowest_1 ?_
  exact kR gl 4 ls hR.symm dX1_lowest_4
set_option maxHeartbeats 4000000 in
set_option maxRecDepth 100000 in
theorem m_X1_lowest (l : Launch) (dC : Nat → ClassId) (dI : Nat → Nat → Nat) (cI cJ : ClassId) (aG : Nat) (aV : Nat) (gc : Int32) (gs : Int32) (gb : Int32) (gf : Int32) (gl : Int32) (gh : Int32) (gn : Int32) (gv : Nat → Int32) : Met l yX1_lowest wsX1_lowest rm_X1_lowest (va_Pc [.ref aG] (fun U => va_P (dC, dI) vwCl [(aG, .inr (2, [.ref aV, .int gc, .int gs, .int gb, .int gf, .int gl, .int gh, .int gn])), (aV, .inl (cI, 14, .inl gv))] U.heap ∧ va_K (dC, dI) vwCl [(cI, .int), (cJ, .long)] U)) (vp_Si (fun r => r = f_X1_lowest gl)) 0 0 (fun _ => False) := by
  refine Met.ofW (cc := cX1_lowest) (maxL := 1) (ret := (some .int)) (by decide) rfl ?_
  intro p e s m args below meth c s₁ B hml hv
  obtain ⟨rfl, hP, hK⟩ := hv
  have hl := lv_entry ([.ref aG]) (n := 1) (Nat.le_of_ble_eq_true rfl)
  rw [lg_entry_eq]
  refine w_X1_lowest B.exec B.bytes hml (findClass_of_methodNamed B.named) (atoms_spec (ws := wsX1_lowest) B.pre) hK hP rfl (fun r pc ls er hd => ?_) _ hl
  exact W.iret B.exec B.bytes B.returns (fun t ht hW => ⟨r, rfl, er, ht⟩) (fun _ h => by cases h) hd B.notSynchronized
end
def f_X1_width (gl : Int32) (gh : Int32) : Int32 :=
  ((gh - gl) + (1 : Int32))
theorem e_X1_width {gl : Int32} {gh : Int32} : f_X1_width gl gh = ((gh - gl) + (1 : Int32)) := rfl
section
variable {p : Program} {l : Launch} {e : Env} {s : State} {m : MethodId} {args : Array Value} {below : List Frame} {meth : Method} {c : Code} {Q : State → Prop} {H : Heap} {locs : List Loc} {dC : Nat → ClassId} {dI : Nat → Nat → Nat} {cI cJ : ClassId}
abbrev rm_X1_width : Room := { frames := 0, cells := 0, slots := 0, locals := 0 }
theorem hd_X1_width : yX1_width.cls = RX1 ∧ yX1_width.cls ≠ "java/lang/invoke/MethodHandle" ∧ yX1_width.cls ≠ "java/lang/invoke/VarHandle" ∧ (parseMethodDescriptor yX1_width.desc).map (fun d => d.parameters.length) = some 0 := by decide +kernel
set_option maxHeartbeats 4000000 in
set_option maxRecDepth 100000 in
theorem w_X1_width {aG : Nat} {aV : Nat} {gc : Int32} {gs : Int32} {gb : Int32} {gf : Int32} {gl : Int32} {gh : Int32} {gn : Int32} {gv : Nat → Int32} {F : Int32} (hx : p.tables.exec = Jvm.exec) (hb : c.code = cX1_width) (hml : c.maxLocals = 1) (hown : s.vm.findClass RX1 = some m.cls) (hts : ∀ w ∈ wsX1_width, w.before args s = true) (hK : va_K (dC, dI) vwCl [(cI, .int), (cJ, .long)] s) (hP : va_P (dC, dI) vwCl [(aG, .inr (2, [.ref aV, .int gc, .int gs, .int gb, .int gf, .int gl, .int gh, .int gn])), (aV, .inl (cI, 14, .inl gv))] H) (hR : F = f_X1_width gl gh) (kR : ∀ (r : Int32) (pc : Nat) (ls : Array Slot), r = F → decode cX1_width pc = .ok (.ireturn, 1) → W p l e rm_X1_width s m args below meth c H locs 0 0 Q (F0 m pc ls [.int r])) (ls : Array Slot) (hl : lv_has ls 1 [(0, .ref aG)]) : W p l e rm_X1_width s m args below meth c H locs 0 0 Q (F0 m 0 ls []) := by
  have hR := hR.trans e_X1_width
  refine lv_aload_n hx hb dX1_width_0 rfl (lv_at hl 0 rfl) ?_
  refine va_get (D := (dC, dI)) (ci := 2) (v := .int gh) (C := RX1) (T := TX1) (N := 8) hx hb hts inC_X1 hown hK hP 0 rfl rfl 6 (by decide) (hts (.fieldLink RX1 17 "Counterpointery$Ground" "high" "I") (List.mem_cons_of_mem _ wm_56)) (fun _ h9 => h9) rfl dX1_width_1 ?_
  refine lv_aload_n hx hb dX1_width_4 rfl (lv_at hl 0 rfl) ?_
  refine va_get (D := (dC, dI)) (ci := 2) (v := .int gl) (C := RX1) (T := TX1) (N := 8) hx hb hts inC_X1 hown hK hP 0 rfl rfl 5 (by decide) (hts (.fieldLink RX1 13 "Counterpointery$Ground" "low" "I") (List.mem_cons_of_mem _ wm_55)) (fun _ h9 => h9) rfl dX1_width_5 ?_
  refine lv_isub hx hb dX1_width_8 ?_
  refine lv_iconst (v := (1 : Int32)) hx hb dX1_width_9 (by decide) ?_
  refine lv_iadd hx hb dX1_width_10 ?_
  exact kR ((gh - gl) + (1 : Int32)) 11 ls hR.symm dX1_width_11
set_option maxHeartbeats 4000000 in
set_option maxRecDepth 100000 in
theorem m_X1_width (l : Launch) (dC : Nat → ClassId) (dI : Nat → Nat → Nat) (cI cJ : ClassId) (aG : Nat) (aV : Nat) (gc : Int32) (gs : Int32) (gb : Int32) (gf : Int32) (gl : Int32) (gh : Int32) (gn : Int32) (gv : Nat → Int32) : Met l yX1_width wsX1_width rm_X1_width (va_Pc [.ref aG] (fun U => va_P (dC, dI) vwCl [(aG, .inr (2, [.ref aV, .int gc, .int gs, .int gb, .int gf, .int gl, .int gh, .int gn])), (aV, .inl (cI, 14, .inl gv))] U.heap ∧ va_K (dC, dI) vwCl [(cI, .int), (cJ, .long)] U)) (vp_Si (fun r => r = f_X1_width gl gh)) 0 0 (fun _ => False) := by
  refine Met.ofW (cc := cX1_width) (maxL := 1) (ret := (some .int)) (by decide) rfl ?_
  intro p e s m args below meth c s₁ B hml hv
  obtain ⟨rfl, hP, hK⟩ := hv
  have hl := lv_entry ([.ref aG]) (n := 1) (Nat.le_of_ble_eq_true rfl)
  rw [lg_entry_eq]
  refine w_X1_width B.exec B.bytes hml (findClass_of_methodNamed B.named) (atoms_spec (ws := wsX1_width) B.pre) hK hP rfl (fun r pc ls er hd => ?_) _ hl
  exact W.iret B.exec B.bytes B.returns (fun t ht hW => ⟨r, rfl, er, ht⟩) (fun _ h => by cases h) hd B.notSynchronized
end
def f_X1_changes (gn : Int32) : Int32 :=
  gn
theorem e_X1_changes {gn : Int32} : f_X1_changes gn = gn := rfl
section
variable {p : Program} {l : Launch} {e : Env} {s : State} {m : MethodId} {args : Array Value} {below : List Frame} {meth : Method} {c : Code} {Q : State → Prop} {H : Heap} {locs : List Loc} {dC : Nat → ClassId} {dI : Nat → Nat → Nat} {cI cJ : ClassId}
abbrev rm_X1_changes : Room := { frames := 0, cells := 0, slots := 0, locals := 0 }
theorem hd_X1_changes : yX1_changes.cls = RX1 ∧ yX1_changes.cls ≠ "java/lang/invoke/MethodHandle" ∧ yX1_changes.cls ≠ "java/lang/invoke/VarHandle" ∧ (parseMethodDescriptor yX1_changes.desc).map (fun d => d.parameters.length) = some 0 := by decide +kernel
set_option maxHeartbeats 4000000 in
set_option maxRecDepth 100000 in
theorem w_X1_changes {aG : Nat} {aV : Nat} {gc : Int32} {gs : Int32} {gb : Int32} {gf : Int32} {gl : Int32} {gh : Int32} {gn : Int32} {gv : Nat → Int32} {F : Int32} (hx : p.tables.exec = Jvm.exec) (hb : c.code = cX1_changes) (hml : c.maxLocals = 1) (hown : s.vm.findClass RX1 = some m.cls) (hts : ∀ w ∈ wsX1_changes, w.before args s = true) (hK : va_K (dC, dI) vwCl [(cI, .int), (cJ, .long)] s) (hP : va_P (dC, dI) vwCl [(aG, .inr (2, [.ref aV, .int gc, .int gs, .int gb, .int gf, .int gl, .int gh, .int gn])), (aV, .inl (cI, 14, .inl gv))] H) (hR : F = f_X1_changes gn) (kR : ∀ (r : Int32) (pc : Nat) (ls : Array Slot), r = F → decode cX1_changes pc = .ok (.ireturn, 1) → W p l e rm_X1_changes s m args below meth c H locs 0 0 Q (F0 m pc ls [.int r])) (ls : Array Slot) (hl : lv_has ls 1 [(0, .ref aG)]) : W p l e rm_X1_changes s m args below meth c H locs 0 0 Q (F0 m 0 ls []) := by
  have hR := hR.trans e_X1_changes
  refine lv_aload_n hx hb dX1_changes_0 rfl (lv_at hl 0 rfl) ?_
  refine va_get (D := (dC, dI)) (ci := 2) (v := .int gn) (C := RX1) (T := TX1) (N := 8) hx hb hts inC_X1 hown hK hP 0 rfl rfl 7 (by decide) (hts (.fieldLink RX1 23 "Counterpointery$Ground" "changes" "I") (List.mem_cons_of_mem _ wm_58)) (fun _ h9 => h9) rfl dX1_changes_1 ?_
  exact kR gn 4 ls hR.symm dX1_changes_4
set_option maxHeartbeats 4000000 in
set_option maxRecDepth 100000 in
theorem m_X1_changes (l : Launch) (dC : Nat → ClassId) (dI : Nat → Nat → Nat) (cI cJ : ClassId) (aG : Nat) (aV : Nat) (gc : Int32) (gs : Int32) (gb : Int32) (gf : Int32) (gl : Int32) (gh : Int32) (gn : Int32) (gv : Nat → Int32) : Met l yX1_changes wsX1_changes rm_X1_changes (va_Pc [.ref aG] (fun U => va_P (dC, dI) vwCl [(aG, .inr (2, [.ref aV, .int gc, .int gs, .int gb, .int gf, .int gl, .int gh, .int gn])), (aV, .inl (cI, 14, .inl gv))] U.heap ∧ va_K (dC, dI) vwCl [(cI, .int), (cJ, .long)] U)) (vp_Si (fun r => r = f_X1_changes gn)) 0 0 (fun _ => False) := by
  refine Met.ofW (cc := cX1_changes) (maxL := 1) (ret := (some .int)) (by decide) rfl ?_
  intro p e s m args below meth c s₁ B hml hv
  obtain ⟨rfl, hP, hK⟩ := hv
  have hl := lv_entry ([.ref aG]) (n := 1) (Nat.le_of_ble_eq_true rfl)
  rw [lg_entry_eq]
  refine w_X1_changes B.exec B.bytes hml (findClass_of_methodNamed B.named) (atoms_spec (ws := wsX1_changes) B.pre) hK hP rfl (fun r pc ls er hd => ?_) _ hl
  exact W.iret B.exec B.bytes B.returns (fun t ht hW => ⟨r, rfl, er, ht⟩) (fun _ h => by cases h) hd B.notSynchronized
end
def f_X1_room (gc : Int32) (gs : Int32) : Int32 :=
  (if gc = 0 then (0 : Int32) else ((ishl (gc - (1 : Int32)) gs) + (1 : Int32)))
theorem e_X1_room {gc : Int32} {gs : Int32} : f_X1_room gc gs = (if gc = 0 then (0 : Int32) else ((ishl (gc - (1 : Int32)) gs) + (1 : Int32))) := rfl
section
variable {p : Program} {l : Launch} {e : Env} {s : State} {m : MethodId} {args : Array Value} {below : List Frame} {meth : Method} {c : Code} {Q : State → Prop} {H : Heap} {locs : List Loc} {dC : Nat → ClassId} {dI : Nat → Nat → Nat} {cI cJ : ClassId}
abbrev rm_X1_room : Room := { frames := 0, cells := 0, slots := 0, locals := 0 }
theorem hd_X1_room : yX1_room.cls = RX1 ∧ yX1_room.cls ≠ "java/lang/invoke/MethodHandle" ∧ yX1_room.cls ≠ "java/lang/invoke/VarHandle" ∧ (parseMethodDescriptor yX1_room.desc).map (fun d => d.parameters.length) = some 0 := by decide +kernel
set_option maxHeartbeats 4000000 in
set_option maxRecDepth 100000 in
theorem w_X1_room {aG : Nat} {aV : Nat} {gc : Int32} {gs : Int32} {gb : Int32} {gf : Int32} {gl : Int32} {gh : Int32} {gn : Int32} {gv : Nat → Int32} {F : Int32} (hx : p.tables.exec = Jvm.exec) (hb : c.code = cX1_room) (hml : c.maxLocals = 1) (hown : s.vm.findClass RX1 = some m.cls) (hts : ∀ w ∈ wsX1_room, w.before args s = true) (hK : va_K (dC, dI) vwCl [(cI, .int), (cJ, .long)] s) (hP : va_P (dC, dI) vwCl [(aG, .inr (2, [.ref aV, .int gc, .int gs, .int gb, .int gf, .int gl, .int gh, .int gn])), (aV, .inl (cI, 14, .inl gv))] H) (hR : F = f_X1_room gc gs) (kR : ∀ (r : Int32) (pc : Nat) (ls : Array Slot), r = F → decode cX1_room pc = .ok (.ireturn, 1) → W p l e rm_X1_room s m args below meth c H locs 0 0 Q (F0 m pc ls [.int r])) (ls : Array Slot) (hl : lv_has ls 1 [(0, .ref aG)]) : W p l e rm_X1_room s m args below meth c H locs 0 0 Q (F0 m 0 ls []) := by
  have hR := hR.trans e_X1_room
  refine lv_aload_n hx hb dX1_room_0 rfl (lv_at hl 0 rfl) ?_
  refine va_get (D := (dC, dI)) (ci := 2) (v := .int gc) (C := RX1) (T := TX1) (N := 8) hx hb hts inC_X1 hown hK hP 0 rfl rfl 1 (by decide) (hts (.fieldLink RX1 20 "Counterpointery$Ground" "count" "I") (List.mem_cons_of_mem _ wm_57)) (fun _ h9 => h9) rfl dX1_room_1 ?_
  refine lv_if_ne (tgt := 11) hx hb dX1_room_4 (by decide) (fun c_1 => ?_) (fun c_1 => ?_)
  · have hR := hR.trans (if_neg c_1)
    refine lv_aload_n hx hb dX1_room_11 rfl (lv_at hl 0 rfl) ?_
    refine va_get (D := (dC, dI)) (ci := 2) (v := .int gc) (C := RX1) (T := TX1) (N := 8) hx hb hts inC_X1 hown hK hP 0 rfl rfl 1 (by decide) (hts (.fieldLink RX1 20 "Counterpointery$Ground" "count" "I") (List.mem_cons_of_mem _ wm_57)) (fun _ h9 => h9) rfl dX1_room_12 ?_
    refine lv_iconst (v := (1 : Int32)) hx hb dX1_room_15 (by decide) ?_
    refine lv_isub hx hb dX1_room_16 ?_
    refine lv_aload_n hx hb dX1_room_17 rfl (lv_at hl 0 rfl) ?_
    refine va_get (D := (dC, dI)) (ci := 2) (v := .int gs) (C := RX1) (T := TX1) (N := 8) hx hb hts inC_X1 hown hK hP 0 rfl rfl 2 (by decide) (hts (.fieldLink RX1 26 "Counterpointery$Ground" "shift" "I") (List.mem_cons_of_mem _ wm_59)) (fun _ h9 => h9) rfl dX1_room_18 ?_
    refine w_ishl hx hb dX1_room_21 ?_
    refine lv_iconst (v := (1 : Int32)) hx hb dX1_room_22 (by decide) ?_
    refine lv_iadd hx hb dX1_room_23 ?_
    exact kR ((ishl (gc - (1 : Int32)) gs) + (1 : Int32)) 24 ls hR.symm dX1_room_24
  · have hR := hR.trans (if_pos c_1)
    refine lv_iconst (v := (0 : Int32)) hx hb dX1_room_7 (by decide) ?_
    refine lv_goto (tgt := 24) hx hb dX1_room_8 (by decide) ?_
    exact kR (0 : Int32) 24 ls hR.symm dX1_room_24
set_option maxHeartbeats 4000000 in
set_option maxRecDepth 100000 in
theorem m_X1_room (l : Launch) (dC : Nat → ClassId) (dI : Nat → Nat → Nat) (cI cJ : ClassId) (aG : Nat) (aV : Nat) (gc : Int32) (gs : Int32) (gb : Int32) (gf : Int32) (gl : Int32) (gh : Int32) (gn : Int32) (gv : Nat → Int32) : Met l yX1_room wsX1_room rm_X1_room (va_Pc [.ref aG] (fun U => va_P (dC, dI) vwCl [(aG, .inr (2, [.ref aV, .int gc, .int gs, .int gb, .int gf, .int gl, .int gh, .int gn])), (aV, .inl (cI, 14, .inl gv))] U.heap ∧ va_K (dC, dI) vwCl [(cI, .int), (cJ, .long)] U)) (vp_Si (fun r => r = f_X1_room gc gs)) 0 0 (fun _ => False) := by
  refine Met.ofW (cc := cX1_room) (maxL := 1) (ret := (some .int)) (by decide) rfl ?_
  intro p e s m args below meth c s₁ B hml hv
  obtain ⟨rfl, hP, hK⟩ := hv
  have hl := lv_entry ([.ref aG]) (n := 1) (Nat.le_of_ble_eq_true rfl)
  rw [lg_entry_eq]
  refine w_X1_room B.exec B.bytes hml (findClass_of_methodNamed B.named) (atoms_spec (ws := wsX1_room) B.pre) hK hP rfl (fun r pc ls er hd => ?_) _ hl
  exact W.iret B.exec B.bytes B.returns (fun t ht hW => ⟨r, rfl, er, ht⟩) (fun _ h => by cases h) hd B.notSynchronized
end
def f_X1_isStrong (gs : Int32) (p0 : Int32) : Int32 :=
  (if (p0 &&& ((f_X1_perGiven gs) - (1 : Int32))) = 0 then (1 : Int32) else (0 : Int32))
theorem e_X1_isStrong {gs : Int32} {p0 : Int32} : f_X1_isStrong gs p0 = (if (p0 &&& ((f_X1_perGiven gs) - (1 : Int32))) = 0 then (1 : Int32) else (0 : Int32)) := rfl
section
variable {p : Program} {l : Launch} {e : Env} {s : State} {m : MethodId} {args : Array Value} {below : List Frame} {meth : Method} {c : Code} {Q : State → Prop} {H : Heap} {locs : List Loc} {dC : Nat → ClassId} {dI : Nat → Nat → Nat} {cI cJ : ClassId}
abbrev rm_X1_isStrong : Room := { frames := 1, cells := 0, slots := 0, locals := 20 }
theorem hd_X1_isStrong : yX1_isStrong.cls = RX1 ∧ yX1_isStrong.cls ≠ "java/lang/invoke/MethodHandle" ∧ yX1_isStrong.cls ≠ "java/lang/invoke/VarHandle" ∧ (parseMethodDescriptor yX1_isStrong.desc).map (fun d => d.parameters.length) = some 1 := by decide +kernel
set_option maxHeartbeats 4000000 in
set_option maxRecDepth 100000 in
theorem w_X1_isStrong {aG : Nat} {aV : Nat} {gc : Int32} {gs : Int32} {gb : Int32} {gf : Int32} {gl : Int32} {gh : Int32} {gn : Int32} {gv : Nat → Int32} {p0 : Int32} {F : Int32} (hx : p.tables.exec = Jvm.exec) (hb : c.code = cX1_isStrong) (hml : c.maxLocals = 2) (hown : s.vm.findClass RX1 = some m.cls) (hts : ∀ w ∈ wsX1_isStrong, w.before args s = true) (hK : va_K (dC, dI) vwCl [(cI, .int), (cJ, .long)] s) (hP : va_P (dC, dI) vwCl [(aG, .inr (2, [.ref aV, .int gc, .int gs, .int gb, .int gf, .int gl, .int gh, .int gn])), (aV, .inl (cI, 14, .inl gv))] H) (hR : F = f_X1_isStrong gs p0) (kR : ∀ (r : Int32) (pc : Nat) (ls : Array Slot), zb r → r = F → decode cX1_isStrong pc = .ok (.ireturn, 1) → W p l e rm_X1_isStrong s m args below meth c H locs 0 0 Q (F0 m pc ls [.int r])) (ls : Array Slot) (hl : lv_has ls 2 [(0, .ref aG), (1, .int p0)]) : W p l e rm_X1_isStrong s m args below meth c H locs 0 0 Q (F0 m 0 ls []) := by
  have hR := hR.trans e_X1_isStrong
  refine lv_iload_n hx hb dX1_isStrong_0 rfl (lv_at hl 1 rfl) ?_
  refine lv_aload_n hx hb dX1_isStrong_1 rfl (lv_at hl 0 rfl) ?_
  refine rV_i (q0 := 0) (As := []) (rest := [.int p0]) ⟨hx, hb, hml, hown, hts⟩ (m_X1_perGiven l dC dI cI cJ aG aV gc gs gb gf gl gh gn gv) (cwV 0 hts (gi_V wm_62 wm_63 wm_64 wm_65 wm_66) rfl rfl rfl hd_X1_perGiven ⟨Nat.le_of_ble_eq_true rfl, Nat.le_of_ble_eq_true rfl⟩) hK (hP.sub [0, 1] rfl) rfl rfl rfl hl.1 rfl (Nat.le_of_ble_eq_true rfl) dX1_isStrong_2 ⟨Nat.zero_le _, Nat.zero_le _⟩ ?_
  refine lv_iconst (v := (1 : Int32)) hx hb dX1_isStrong_5 (by decide) ?_
  refine lv_isub hx hb dX1_isStrong_6 ?_
  refine lv_iand hx hb dX1_isStrong_7 ?_
  refine lv_if_ne (tgt := 15) hx hb dX1_isStrong_8 (by decide) (fun c_1 => ?_) (fun c_1 => ?_)
  · have hR := hR.trans (if_neg c_1)
    refine lv_iconst (v := (0 : Int32)) hx hb dX1_isStrong_15 (by decide) ?_
    exact kR (0 : Int32) 16 ls (by first | exact Or.inl rfl | exact Or.inr rfl) hR.symm dX1_isStrong_16
  · have hR := hR.trans (if_pos c_1)
    refine lv_iconst (v := (1 : Int32)) hx hb dX1_isStrong_11 (by decide) ?_
    refine lv_goto (tgt := 16) hx hb dX1_isStrong_12 (by decide) ?_
    exact kR (1 : Int32) 16 ls (by first | exact Or.inl rfl | exact Or.inr rfl) hR.symm dX1_isStrong_16
set_option maxHeartbeats 4000000 in
set_option maxRecDepth 100000 in
theorem m_X1_isStrong (l : Launch) (dC : Nat → ClassId) (dI : Nat → Nat → Nat) (cI cJ : ClassId) (aG : Nat) (aV : Nat) (gc : Int32) (gs : Int32) (gb : Int32) (gf : Int32) (gl : Int32) (gh : Int32) (gn : Int32) (gv : Nat → Int32) (p0 : Int32) : Met l yX1_isStrong wsX1_isStrong rm_X1_isStrong (va_Pc [.ref aG, .int p0] (fun U => va_P (dC, dI) vwCl [(aG, .inr (2, [.ref aV, .int gc, .int gs, .int gb, .int gf, .int gl, .int gh, .int gn])), (aV, .inl (cI, 14, .inl gv))] U.heap ∧ va_K (dC, dI) vwCl [(cI, .int), (cJ, .long)] U)) (vp_Si (fun r => r = f_X1_isStrong gs p0)) 0 0 (fun _ => False) := by
  refine Met.ofW (cc := cX1_isStrong) (maxL := 2) (ret := (some .boolean)) (by decide) rfl ?_
  intro p e s m args below meth c s₁ B hml hv
  obtain ⟨rfl, hP, hK⟩ := hv
  have hl := lv_entry ([.ref aG, .int p0]) (n := 2) (Nat.le_of_ble_eq_true rfl)
  rw [lg_entry_eq]
  refine w_X1_isStrong B.exec B.bytes hml (findClass_of_methodNamed B.named) (atoms_spec (ws := wsX1_isStrong) B.pre) hK hP rfl (fun r pc ls hz er hd => ?_) _ hl
  exact W.zret B.exec B.bytes B.returns (zb_n hz) (fun t ht hW => ⟨r, rfl, er, ht⟩) (fun _ h => by cases h) hd B.notSynchronized
end
def f_X1_against (gc : Int32) (gs : Int32) (gv : Nat → Int32) (p0 : Int32) : Int32 :=
  (if (ishr p0 gs) < 0 then (0 : Int32) else (if gc ≤ (ishr p0 gs) then (0 : Int32) else (if (14 : Int32) ≤ (ishr p0 gs) then (0 : Int32) else (gv (ishr p0 gs).toNatClampNeg))))
theorem e_X1_against {gc : Int32} {gs : Int32} {gv : Nat → Int32} {p0 : Int32} : f_X1_against gc gs gv p0 = (if (ishr p0 gs) < 0 then (0 : Int32) else (if gc ≤ (ishr p0 gs) then (0 : Int32) else (if (14 : Int32) ≤ (ishr p0 gs) then (0 : Int32) else (gv (ishr p0 gs).toNatClampNeg)))) := rfl
section
variable {p : Program} {l : Launch} {e : Env} {s : State} {m : MethodId} {args : Array Value} {below : List Frame} {meth : Method} {c : Code} {Q : State → Prop} {H : Heap} {locs : List Loc} {dC : Nat → ClassId} {dI : Nat → Nat → Nat} {cI cJ : ClassId}
abbrev rm_X1_against : Room := { frames := 0, cells := 0, slots := 0, locals := 0 }
theorem hd_X1_against : yX1_against.cls = RX1 ∧ yX1_against.cls ≠ "java/lang/invoke/MethodHandle" ∧ yX1_against.cls ≠ "java/lang/invoke/VarHandle" ∧ (parseMethodDescriptor yX1_against.desc).map (fun d => d.parameters.length) = some 1 := by decide +kernel
set_option maxHeartbeats 4000000 in
set_option maxRecDepth 100000 in
theorem w_X1_against {aG : Nat} {aV : Nat} {gc : Int32} {gs : Int32} {gb : Int32} {gf : Int32} {gl : Int32} {gh : Int32} {gn : Int32} {gv : Nat → Int32} {p0 : Int32} {F : Int32} (hx : p.tables.exec = Jvm.exec) (hb : c.code = cX1_against) (hml : c.maxLocals = 3) (hown : s.vm.findClass RX1 = some m.cls) (hts : ∀ w ∈ wsX1_against, w.before args s = true) (hK : va_K (dC, dI) vwCl [(cI, .int), (cJ, .long)] s) (hP : va_P (dC, dI) vwCl [(aG, .inr (2, [.ref aV, .int gc, .int gs, .int gb, .int gf, .int gl, .int gh, .int gn])), (aV, .inl (cI, 14, .inl gv))] H) (hR : F = f_X1_against gc gs gv p0) (kR : ∀ (r : Int32) (pc : Nat) (ls : Array Slot), r = F → decode cX1_against pc = .ok (.ireturn, 1) → W p l e rm_X1_against s m args below meth c H locs 0 0 Q (F0 m pc ls [.int r])) (ls : Array Slot) (hl : lv_has ls 3 [(0, .ref aG), (1, .int p0)]) : W p l e rm_X1_against s m args below meth c H locs 0 0 Q (F0 m 0 ls []) := by
  have hR := hR.trans e_X1_against
  refine lv_iload_n hx hb dX1_against_0 rfl (lv_at hl 1 rfl) ?_
  refine lv_aload_n hx hb dX1_against_1 rfl (lv_at hl 0 rfl) ?_
  refine va_get (D := (dC, dI)) (ci := 2) (v := .int gs) (C := RX1) (T := TX1) (N := 8) hx hb hts inC_X1 hown hK hP 0 rfl rfl 2 (by decide) (hts (.fieldLink RX1 26 "Counterpointery$Ground" "shift" "I") (List.mem_cons_of_mem _ wm_59)) (fun _ h9 => h9) rfl dX1_against_2 ?_
  refine w_ishr hx hb dX1_against_5 ?_
  refine lv_istore_n (lv' := [(2, .int (ishr p0 gs)), (0, .ref aG), (1, .int p0)]) hx hb dX1_against_6 rfl hl (by decide) rfl (fun ls hl => ?_)
  refine lv_iload_n hx hb dX1_against_7 rfl (lv_at hl 0 rfl) ?_
  refine lv_if_lt (tgt := 37) hx hb dX1_against_8 (by decide) (fun c_1 => ?_) (fun c_1 => ?_)
  · have hR := hR.trans (if_pos c_1)
    refine lv_iconst (v := (0 : Int32)) hx hb dX1_against_37 (by decide) ?_
    exact kR (0 : Int32) 38 ls hR.symm dX1_against_38
  · have hR := hR.trans (if_neg c_1)
    refine lv_iload_n hx hb dX1_against_11 rfl (lv_at hl 0 rfl) ?_
    refine lv_aload_n hx hb dX1_against_12 rfl (lv_at hl 1 rfl) ?_
    refine va_get (D := (dC, dI)) (ci := 2) (v := .int gc) (C := RX1) (T := TX1) (N := 8) hx hb hts inC_X1 hown hK hP 0 rfl rfl 1 (by decide) (hts (.fieldLink RX1 20 "Counterpointery$Ground" "count" "I") (List.mem_cons_of_mem _ wm_57)) (fun _ h9 => h9) rfl dX1_against_13 ?_
    refine lv_icmp_ge (tgt := 37) hx hb dX1_against_16 (by decide) (fun c_2 => ?_) (fun c_2 => ?_)
    · have hR := hR.trans (if_pos c_2)
      refine lv_iconst (v := (0 : Int32)) hx hb dX1_against_37 (by decide) ?_
      exact kR (0 : Int32) 38 ls hR.symm dX1_against_38
    · have hR := hR.trans (if_neg c_2)
      refine lv_iload_n hx hb dX1_against_19 rfl (lv_at hl 0 rfl) ?_
      refine lv_aload_n hx hb dX1_against_20 rfl (lv_at hl 1 rfl) ?_
      refine va_get (D := (dC, dI)) (ci := 2) (v := .ref aV) (C := RX1) (T := TX1) (N := 8) hx hb hts inC_X1 hown hK hP 0 rfl rfl 0 (by decide) (hts (.fieldLink RX1 9 "Counterpointery$Ground" "givens" "[I") (List.mem_cons_of_mem _ wm_54)) (fun _ h9 => h9) rfl dX1_against_21 ?_
      refine va_alen (D := (dC, dI)) (v := (14 : Int32)) hx hb hK hP 1 0 rfl rfl rfl dX1_against_24 ?_
      refine lv_icmp_ge (tgt := 37) hx hb dX1_against_25 (by decide) (fun c_3 => ?_) (fun c_3 => ?_)
      · have hR := hR.trans (if_pos c_3)
        refine lv_iconst (v := (0 : Int32)) hx hb dX1_against_37 (by decide) ?_
        exact kR (0 : Int32) 38 ls hR.symm dX1_against_38
      · have hR := hR.trans (if_neg c_3)
        refine lv_aload_n hx hb dX1_against_28 rfl (lv_at hl 1 rfl) ?_
        refine va_get (D := (dC, dI)) (ci := 2) (v := .ref aV) (C := RX1) (T := TX1) (N := 8) hx hb hts inC_X1 hown hK hP 0 rfl rfl 0 (by decide) (hts (.fieldLink RX1 9 "Counterpointery$Ground" "givens" "[I") (List.mem_cons_of_mem _ wm_54)) (fun _ h9 => h9) rfl dX1_against_29 ?_
        refine lv_iload_n hx hb dX1_against_32 rfl (lv_at hl 0 rfl) ?_
        refine va_iald (D := (dC, dI)) hx hb hK hP 1 0 rfl rfl (by first | exact vi_a (N := (14 : Int32)) (by assumption) (by assumption) rfl | exact vi_b (N := (14 : Int32)) (by assumption) (by assumption) rfl | exact vi_c (N := (14 : Int32)) (by assumption) (by assumption) rfl) dX1_against_33 ?_
        refine lv_goto (tgt := 38) hx hb dX1_against_34 (by decide) ?_
        exact kR (gv (ishr p0 gs).toNatClampNeg) 38 ls hR.symm dX1_against_38
set_option maxHeartbeats 4000000 in
set_option maxRecDepth 100000 in
theorem m_X1_against (l : Launch) (dC : Nat → ClassId) (dI : Nat → Nat → Nat) (cI cJ : ClassId) (aG : Nat) (aV : Nat) (gc : Int32) (gs : Int32) (gb : Int32) (gf : Int32) (gl : Int32) (gh : Int32) (gn : Int32) (gv : Nat → Int32) (p0 : Int32) : Met l yX1_against wsX1_against rm_X1_against (va_Pc [.ref aG, .int p0] (fun U => va_P (dC, dI) vwCl [(aG, .inr (2, [.ref aV, .int gc, .int gs, .int gb, .int gf, .int gl, .int gh, .int gn])), (aV, .inl (cI, 14, .inl gv))] U.heap ∧ va_K (dC, dI) vwCl [(cI, .int), (cJ, .long)] U)) (vp_Si (fun r => r = f_X1_against gc gs gv p0)) 0 0 (fun _ => False) := by
  refine Met.ofW (cc := cX1_against) (maxL := 3) (ret := (some .int)) (by decide) rfl ?_
  intro p e s m args below meth c s₁ B hml hv
  obtain ⟨rfl, hP, hK⟩ := hv
  have hl := lv_entry ([.ref aG, .int p0]) (n := 3) (Nat.le_of_ble_eq_true rfl)
  rw [lg_entry_eq]
  refine w_X1_against B.exec B.bytes hml (findClass_of_methodNamed B.named) (atoms_spec (ws := wsX1_against) B.pre) hK hP rfl (fun r pc ls er hd => ?_) _ hl
  exact W.iret B.exec B.bytes B.returns (fun t ht hW => ⟨r, rfl, er, ht⟩) (fun _ h => by cases h) hd B.notSynchronized
end
def f_X1_stepTo (gc : Int32) (gs : Int32) (gv : Nat → Int32) (p0 : Int32) : Int32 :=
  (if (1 : Int32) ≤ p0 then ((f_X1_against gc gs gv p0) - (f_X1_against gc gs gv (p0 - (1 : Int32)))) else (0 : Int32))
theorem e_X1_stepTo {gc : Int32} {gs : Int32} {gv : Nat → Int32} {p0 : Int32} : f_X1_stepTo gc gs gv p0 = (if (1 : Int32) ≤ p0 then ((f_X1_against gc gs gv p0) - (f_X1_against gc gs gv (p0 - (1 : Int32)))) else (0 : Int32)) := rfl
section
variable {p : Program} {l : Launch} {e : Env} {s : State} {m : MethodId} {args : Array Value} {below : List Frame} {meth : Method} {c : Code} {Q : State → Prop} {H : Heap} {locs : List Loc} {dC : Nat → ClassId} {dI : Nat → Nat → Nat} {cI cJ : ClassId}
abbrev rm_X1_stepTo : Room := { frames := 1, cells := 0, slots := 0, locals := 22 }
theorem hd_X1_stepTo : yX1_stepTo.cls = RX1 ∧ yX1_stepTo.cls ≠ "java/lang/invoke/MethodHandle" ∧ yX1_stepTo.cls ≠ "java/lang/invoke/VarHandle" ∧ (parseMethodDescriptor yX1_stepTo.desc).map (fun d => d.parameters.length) = some 1 := by decide +kernel
set_option maxHeartbeats 4000000 in
set_option maxRecDepth 100000 in
theorem w_X1_stepTo {aG : Nat} {aV : Nat} {gc : Int32} {gs : Int32} {gb : Int32} {gf : Int32} {gl : Int32} {gh : Int32} {gn : Int32} {gv : Nat → Int32} {p0 : Int32} {F : Int32} (hx : p.tables.exec = Jvm.exec) (hb : c.code = cX1_stepTo) (hml : c.maxLocals = 2) (hown : s.vm.findClass RX1 = some m.cls) (hts : ∀ w ∈ wsX1_stepTo, w.before args s = true) (hK : va_K (dC, dI) vwCl [(cI, .int), (cJ, .long)] s) (hP : va_P (dC, dI) vwCl [(aG, .inr (2, [.ref aV, .int gc, .int gs, .int gb, .int gf, .int gl, .int gh, .int gn])), (aV, .inl (cI, 14, .inl gv))] H) (hR : F = f_X1_stepTo gc gs gv p0) (kR : ∀ (r : Int32) (pc : Nat) (ls : Array Slot), r = F → decode cX1_stepTo pc = .ok (.ireturn, 1) → W p l e rm_X1_stepTo s m args below meth c H locs 0 0 Q (F0 m pc ls [.int r])) (ls : Array Slot) (hl : lv_has ls 2 [(0, .ref aG), (1, .int p0)]) : W p l e rm_X1_stepTo s m args below meth c H locs 0 0 Q (F0 m 0 ls []) := by
  have hR := hR.trans e_X1_stepTo
  refine lv_iload_n hx hb dX1_stepTo_0 rfl (lv_at hl 1 rfl) ?_
  refine lv_iconst (v := (1 : Int32)) hx hb dX1_stepTo_1 (by decide) ?_
  refine lv_icmp_ge (tgt := 9) hx hb dX1_stepTo_2 (by decide) (fun c_1 => ?_) (fun c_1 => ?_)
  · have hR := hR.trans (if_pos c_1)
    refine lv_aload_n hx hb dX1_stepTo_9 rfl (lv_at hl 0 rfl) ?_
    refine lv_iload_n hx hb dX1_stepTo_10 rfl (lv_at hl 1 rfl) ?_
    refine rV_i (q0 := 0) (As := [.int p0]) (rest := []) ⟨hx, hb, hml, hown, hts⟩ (m_X1_against l dC dI cI cJ aG aV gc gs gb gf gl gh gn gv p0) (cwV 1 hts (gi_V wm_67 wm_68 wm_69 wm_65 wm_70) rfl rfl rfl hd_X1_against ⟨Nat.le_of_ble_eq_true rfl, Nat.le_of_ble_eq_true rfl⟩) hK (hP.sub [0, 1] rfl) rfl rfl rfl hl.1 rfl (Nat.le_of_ble_eq_true rfl) dX1_stepTo_11 ⟨Nat.zero_le _, Nat.zero_le _⟩ ?_
    refine lv_aload_n hx hb dX1_stepTo_14 rfl (lv_at hl 0 rfl) ?_
    refine lv_iload_n hx hb dX1_stepTo_15 rfl (lv_at hl 1 rfl) ?_
    refine lv_iconst (v := (1 : Int32)) hx hb dX1_stepTo_16 (by decide) ?_
    refine lv_isub hx hb dX1_stepTo_17 ?_
    refine rV_i (q0 := 0) (As := [.int (p0 - (1 : Int32))]) (rest := [.int (f_X1_against gc gs gv p0)]) ⟨hx, hb, hml, hown, hts⟩ (m_X1_against l dC dI cI cJ aG aV gc gs gb gf gl gh gn gv (p0 - (1 : Int32))) (cwV 1 hts (gi_V wm_67 wm_68 wm_69 wm_65 wm_70) rfl rfl rfl hd_X1_against ⟨Nat.le_of_ble_eq_true rfl, Nat.le_of_ble_eq_true rfl⟩) hK (hP.sub [0, 1] rfl) rfl rfl rfl hl.1 rfl (Nat.le_of_ble_eq_true rfl) dX1_stepTo_18 ⟨Nat.zero_le _, Nat.zero_le _⟩ ?_
    refine lv_isub hx hb dX1_stepTo_21 ?_
    exact kR ((f_X1_against gc gs gv p0) - (f_X1_against gc gs gv (p0 - (1 : Int32)))) 22 ls hR.symm dX1_stepTo_22
  · have hR := hR.trans (if_neg c_1)
    refine lv_iconst (v := (0 : Int32)) hx hb dX1_stepTo_5 (by decide) ?_
    refine lv_goto (tgt := 22) hx hb dX1_stepTo_6 (by decide) ?_
    exact kR (0 : Int32) 22 ls hR.symm dX1_stepTo_22
set_option maxHeartbeats 4000000 in
set_option maxRecDepth 100000 in
theorem m_X1_stepTo (l : Launch) (dC : Nat → ClassId) (dI : Nat → Nat → Nat) (cI cJ : ClassId) (aG : Nat) (aV : Nat) (gc : Int32) (gs : Int32) (gb : Int32) (gf : Int32) (gl : Int32) (gh : Int32) (gn : Int32) (gv : Nat → Int32) (p0 : Int32) : Met l yX1_stepTo wsX1_stepTo rm_X1_stepTo (va_Pc [.ref aG, .int p0] (fun U => va_P (dC, dI) vwCl [(aG, .inr (2, [.ref aV, .int gc, .int gs, .int gb, .int gf, .int gl, .int gh, .int gn])), (aV, .inl (cI, 14, .inl gv))] U.heap ∧ va_K (dC, dI) vwCl [(cI, .int), (cJ, .long)] U)) (vp_Si (fun r => r = f_X1_stepTo gc gs gv p0)) 0 0 (fun _ => False) := by
  refine Met.ofW (cc := cX1_stepTo) (maxL := 2) (ret := (some .int)) (by decide) rfl ?_
  intro p e s m args below meth c s₁ B hml hv
  obtain ⟨rfl, hP, hK⟩ := hv
  have hl := lv_entry ([.ref aG, .int p0]) (n := 2) (Nat.le_of_ble_eq_true rfl)
  rw [lg_entry_eq]
  refine w_X1_stepTo B.exec B.bytes hml (findClass_of_methodNamed B.named) (atoms_spec (ws := wsX1_stepTo) B.pre) hK hP rfl (fun r pc ls er hd => ?_) _ hl
  exact W.iret B.exec B.bytes B.returns (fun t ht hW => ⟨r, rfl, er, ht⟩) (fun _ h => by cases h) hd B.notSynchronized
end
def f_X1_isBelow (gb : Int32) : Int32 :=
  gb
theorem e_X1_isBelow {gb : Int32} : f_X1_isBelow gb = gb := rfl
section
variable {p : Program} {l : Launch} {e : Env} {s : State} {m : MethodId} {args : Array Value} {below : List Frame} {meth : Method} {c : Code} {Q : State → Prop} {H : Heap} {locs : List Loc} {dC : Nat → ClassId} {dI : Nat → Nat → Nat} {cI cJ : ClassId}
abbrev rm_X1_isBelow : Room := { frames := 0, cells := 0, slots := 0, locals := 0 }
theorem hd_X1_isBelow : yX1_isBelow.cls = RX1 ∧ yX1_isBelow.cls ≠ "java/lang/invoke/MethodHandle" ∧ yX1_isBelow.cls ≠ "java/lang/invoke/VarHandle" ∧ (parseMethodDescriptor yX1_isBelow.desc).map (fun d => d.parameters.length) = some 0 := by decide +kernel
set_option maxHeartbeats 4000000 in
set_option maxRecDepth 100000 in
theorem w_X1_isBelow {aG : Nat} {aV : Nat} {gc : Int32} {gs : Int32} {gb : Int32} {gf : Int32} {gl : Int32} {gh : Int32} {gn : Int32} {gv : Nat → Int32} (hz_gb : zb gb) {F : Int32} (hx : p.tables.exec = Jvm.exec) (hb : c.code = cX1_isBelow) (hml : c.maxLocals = 1) (hown : s.vm.findClass RX1 = some m.cls) (hts : ∀ w ∈ wsX1_isBelow, w.before args s = true) (hK : va_K (dC, dI) vwCl [(cI, .int), (cJ, .long)] s) (hP : va_P (dC, dI) vwCl [(aG, .inr (2, [.ref aV, .int gc, .int gs, .int gb, .int gf, .int gl, .int gh, .int gn])), (aV, .inl (cI, 14, .inl gv))] H) (hR : F = f_X1_isBelow gb) (kR : ∀ (r : Int32) (pc : Nat) (ls : Array Slot), zb r → r = F → decode cX1_isBelow pc = .ok (.ireturn, 1) → W p l e rm_X1_isBelow s m args below meth c H locs 0 0 Q (F0 m pc ls [.int r])) (ls : Array Slot) (hl : lv_has ls 1 [(0, .ref aG)]) : W p l e rm_X1_isBelow s m args below meth c H locs 0 0 Q (F0 m 0 ls []) := by
  have hR := hR.trans e_X1_isBelow
  refine lv_aload_n hx hb dX1_isBelow_0 rfl (lv_at hl 0 rfl) ?_
  refine va_get (D := (dC, dI)) (ci := 2) (v := .int gb) (C := RX1) (T := TX1) (N := 8) hx hb hts inC_X1 hown hK hP 0 rfl rfl 3 (by decide) (hts (.fieldLink RX1 29 "Counterpointery$Ground" "below" "Z") (List.mem_cons_of_mem _ wm_60)) (fun _ h9 => h9) rfl dX1_isBelow_1 ?_
  exact kR gb 4 ls hz_gb hR.symm dX1_isBelow_4
set_option maxHeartbeats 4000000 in
set_option maxRecDepth 100000 in
theorem m_X1_isBelow (l : Launch) (dC : Nat → ClassId) (dI : Nat → Nat → Nat) (cI cJ : ClassId) (aG : Nat) (aV : Nat) (gc : Int32) (gs : Int32) (gb : Int32) (gf : Int32) (gl : Int32) (gh : Int32) (gn : Int32) (gv : Nat → Int32) (hz_gb : zb gb) : Met l yX1_isBelow wsX1_isBelow rm_X1_isBelow (va_Pc [.ref aG] (fun U => va_P (dC, dI) vwCl [(aG, .inr (2, [.ref aV, .int gc, .int gs, .int gb, .int gf, .int gl, .int gh, .int gn])), (aV, .inl (cI, 14, .inl gv))] U.heap ∧ va_K (dC, dI) vwCl [(cI, .int), (cJ, .long)] U)) (vp_Si (fun r => r = f_X1_isBelow gb)) 0 0 (fun _ => False) := by
  refine Met.ofW (cc := cX1_isBelow) (maxL := 1) (ret := (some .boolean)) (by decide) rfl ?_
  intro p e s m args below meth c s₁ B hml hv
  obtain ⟨rfl, hP, hK⟩ := hv
  have hl := lv_entry ([.ref aG]) (n := 1) (Nat.le_of_ble_eq_true rfl)
  rw [lg_entry_eq]
  refine w_X1_isBelow hz_gb B.exec B.bytes hml (findClass_of_methodNamed B.named) (atoms_spec (ws := wsX1_isBelow) B.pre) hK hP rfl (fun r pc ls hz er hd => ?_) _ hl
  exact W.zret B.exec B.bytes B.returns (zb_n hz) (fun t ht hW => ⟨r, rfl, er, ht⟩) (fun _ h => by cases h) hd B.notSynchronized
end
def f_X1_isFeigning (gf : Int32) : Int32 :=
  gf
theorem e_X1_isFeigning {gf : Int32} : f_X1_isFeigning gf = gf := rfl
section
variable {p : Program} {l : Launch} {e : Env} {s : State} {m : MethodId} {args : Array Value} {below : List Frame} {meth : Method} {c : Code} {Q : State → Prop} {H : Heap} {locs : List Loc} {dC : Nat → ClassId} {dI : Nat → Nat → Nat} {cI cJ : ClassId}
abbrev rm_X1_isFeigning : Room := { frames := 0, cells := 0, slots := 0, locals := 0 }
theorem hd_X1_isFeigning : yX1_isFeigning.cls = RX1 ∧ yX1_isFeigning.cls ≠ "java/lang/invoke/MethodHandle" ∧ yX1_isFeigning.cls ≠ "java/lang/invoke/VarHandle" ∧ (parseMethodDescriptor yX1_isFeigning.desc).map (fun d => d.parameters.length) = some 0 := by decide +kernel
set_option maxHeartbeats 4000000 in
set_option maxRecDepth 100000 in
theorem w_X1_isFeigning {aG : Nat} {aV : Nat} {gc : Int32} {gs : Int32} {gb : Int32} {gf : Int32} {gl : Int32} {gh : Int32} {gn : Int32} {gv : Nat → Int32} (hz_gf : zb gf) {F : Int32} (hx : p.tables.exec = Jvm.exec) (hb : c.code = cX1_isFeigning) (hml : c.maxLocals = 1) (hown : s.vm.findClass RX1 = some m.cls) (hts : ∀ w ∈ wsX1_isFeigning, w.before args s = true) (hK : va_K (dC, dI) vwCl [(cI, .int), (cJ, .long)] s) (hP : va_P (dC, dI) vwCl [(aG, .inr (2, [.ref aV, .int gc, .int gs, .int gb, .int gf, .int gl, .int gh, .int gn])), (aV, .inl (cI, 14, .inl gv))] H) (hR : F = f_X1_isFeigning gf) (kR : ∀ (r : Int32) (pc : Nat) (ls : Array Slot), zb r → r = F → decode cX1_isFeigning pc = .ok (.ireturn, 1) → W p l e rm_X1_isFeigning s m args below meth c H locs 0 0 Q (F0 m pc ls [.int r])) (ls : Array Slot) (hl : lv_has ls 1 [(0, .ref aG)]) : W p l e rm_X1_isFeigning s m args below meth c H locs 0 0 Q (F0 m 0 ls []) := by
  have hR := hR.trans e_X1_isFeigning
  refine lv_aload_n hx hb dX1_isFeigning_0 rfl (lv_at hl 0 rfl) ?_
  refine va_get (D := (dC, dI)) (ci := 2) (v := .int gf) (C := RX1) (T := TX1) (N := 8) hx hb hts inC_X1 hown hK hP 0 rfl rfl 4 (by decide) (hts (.fieldLink RX1 33 "Counterpointery$Ground" "feigning" "Z") (List.mem_cons_of_mem _ wm_61)) (fun _ h9 => h9) rfl dX1_isFeigning_1 ?_
  exact kR gf 4 ls hz_gf hR.symm dX1_isFeigning_4
set_option maxHeartbeats 4000000 in
set_option maxRecDepth 100000 in
theorem m_X1_isFeigning (l : Launch) (dC : Nat → ClassId) (dI : Nat → Nat → Nat) (cI cJ : ClassId) (aG : Nat) (aV : Nat) (gc : Int32) (gs : Int32) (gb : Int32) (gf : Int32) (gl : Int32) (gh : Int32) (gn : Int32) (gv : Nat → Int32) (hz_gf : zb gf) : Met l yX1_isFeigning wsX1_isFeigning rm_X1_isFeigning (va_Pc [.ref aG] (fun U => va_P (dC, dI) vwCl [(aG, .inr (2, [.ref aV, .int gc, .int gs, .int gb, .int gf, .int gl, .int gh, .int gn])), (aV, .inl (cI, 14, .inl gv))] U.heap ∧ va_K (dC, dI) vwCl [(cI, .int), (cJ, .long)] U)) (vp_Si (fun r => r = f_X1_isFeigning gf)) 0 0 (fun _ => False) := by
  refine Met.ofW (cc := cX1_isFeigning) (maxL := 1) (ret := (some .boolean)) (by decide) rfl ?_
  intro p e s m args below meth c s₁ B hml hv
  obtain ⟨rfl, hP, hK⟩ := hv
  have hl := lv_entry ([.ref aG]) (n := 1) (Nat.le_of_ble_eq_true rfl)
  rw [lg_entry_eq]
  refine w_X1_isFeigning hz_gf B.exec B.bytes hml (findClass_of_methodNamed B.named) (atoms_spec (ws := wsX1_isFeigning) B.pre) hK hP rfl (fun r pc ls hz er hd => ?_) _ hl
  exact W.zret B.exec B.bytes B.returns (zb_n hz) (fun t ht hW => ⟨r, rfl, er, ht⟩) (fun _ h => by cases h) hd B.notSynchronized
end
def f_X1_append (gc : Int32) (gn : Int32) (gv : Nat → Int32) (p0 : Int32) : (Nat → Int32) × Int32 × Int32 :=
  (if (14 : Int32) ≤ gc then (gv, gc, gn) else ((upd gv gc.toNatClampNeg p0), (gc + (1 : Int32)), (gn + (1 : Int32))))
theorem e_X1_append {gc : Int32} {gn : Int32} {gv : Nat → Int32} {p0 : Int32} : f_X1_append gc gn gv p0 = (if (14 : Int32) ≤ gc then (gv, gc, gn) else ((upd gv gc.toNatClampNeg p0), (gc + (1 : Int32)), (gn + (1 : Int32)))) := rfl
section
variable {p : Program} {l : Launch} {e : Env} {s : State} {m : MethodId} {args : Array Value} {below : List Frame} {meth : Method} {c : Code} {Q : State → Prop} {H : Heap} {locs : List Loc} {dC : Nat → ClassId} {dI : Nat → Nat → Nat} {cI cJ : ClassId}
abbrev rm_X1_append : Room := { frames := 0, cells := 0, slots := 0, locals := 0 }
theorem hd_X1_append : yX1_append.cls = RX1 ∧ yX1_append.cls ≠ "java/lang/invoke/MethodHandle" ∧ yX1_append.cls ≠ "java/lang/invoke/VarHandle" ∧ (parseMethodDescriptor yX1_append.desc).map (fun d => d.parameters.length) = some 1 := by decide +kernel
set_option maxHeartbeats 4000000 in
set_option maxRecDepth 100000 in
theorem w_X1_append {aG : Nat} {aV : Nat} {gc : Int32} {gs : Int32} {gb : Int32} {gf : Int32} {gl : Int32} {gh : Int32} {gn : Int32} {gv : Nat → Int32} {p0 : Int32} (h_gc : 0 ≤ gc) {F : (Nat → Int32) × Int32 × Int32} (hx : p.tables.exec = Jvm.exec) (hb : c.code = cX1_append) (hml : c.maxLocals = 2) (hown : s.vm.findClass RX1 = some m.cls) (hts : ∀ w ∈ wsX1_append, w.before args s = true) (hK : va_K (dC, dI) vwCl [(cI, .int), (cJ, .long)] s) {A : Nat → Prop} {H0 : Heap} (hP : va_P (dC, dI) vwCl [(aG, .inr (2, [.ref aV, .int gc, .int gs, .int gb, .int gf, .int gl, .int gh, .int gn])), (aV, .inl (cI, 14, .inl gv))] H) (hD : va_D A [(aG, .inr (2, [.ref aV, .int gc, .int gs, .int gb, .int gf, .int gl, .int gh, .int gn])), (aV, .inl (cI, 14, .inl gv))]) (hS : va_S A H0 H locs) (hA : ∀ q, H0.size ≤ q → A q) (hR : F = f_X1_append gc gn gv p0) (kR : ∀ (pc : Nat) (ls : Array Slot) (H : Heap) (locs : List Loc) (gv' : Nat → Int32) (gc' : Int32) (gn' : Int32), va_P (dC, dI) vwCl [(aG, .inr (2, [.ref aV, .int gc', .int gs, .int gb, .int gf, .int gl, .int gh, .int gn'])), (aV, .inl (cI, 14, .inl gv'))] H → va_D A [(aG, .inr (2, [.ref aV, .int gc', .int gs, .int gb, .int gf, .int gl, .int gh, .int gn'])), (aV, .inl (cI, 14, .inl gv'))] → va_S A H0 H locs → (gv', gc', gn') = F → decode cX1_append pc = .ok (.return_, 1) → W p l e rm_X1_append s m args below meth c H locs 0 0 Q (F0 m pc ls [])) (ls : Array Slot) (hl : lv_has ls 2 [(0, .ref aG), (1, .int p0)]) : W p l e rm_X1_append s m args below meth c H locs 0 0 Q (F0 m 0 ls []) := by
  have hR := hR.trans e_X1_append
  refine lv_aload_n hx hb dX1_append_0 rfl (lv_at hl 0 rfl) ?_
  refine va_get (D := (dC, dI)) (ci := 2) (v := .int gc) (C := RX1) (T := TX1) (N := 8) hx hb hts inC_X1 hown hK hP 0 rfl rfl 1 (by decide) (hts (.fieldLink RX1 20 "Counterpointery$Ground" "count" "I") (List.mem_cons_of_mem _ wm_57)) (fun _ h9 => h9) rfl dX1_append_1 ?_
  refine lv_aload_n hx hb dX1_append_4 rfl (lv_at hl 0 rfl) ?_
  refine va_get (D := (dC, dI)) (ci := 2) (v := .ref aV) (C := RX1) (T := TX1) (N := 8) hx hb hts inC_X1 hown hK hP 0 rfl rfl 0 (by decide) (hts (.fieldLink RX1 9 "Counterpointery$Ground" "givens" "[I") (List.mem_cons_of_mem _ wm_54)) (fun _ h9 => h9) rfl dX1_append_5 ?_
  refine va_alen (D := (dC, dI)) (v := (14 : Int32)) hx hb hK hP 1 0 rfl rfl rfl dX1_append_8 ?_
  refine lv_icmp_ge (tgt := 42) hx hb dX1_append_9 (by decide) (fun c_1 => ?_) (fun c_1 => ?_)
  · have hR := hR.trans (if_pos c_1)
    exact kR 42 ls H locs gv gc gn hP hD hS hR.symm dX1_append_42
  · have hR := hR.trans (if_neg c_1)
    refine lv_aload_n hx hb dX1_append_12 rfl (lv_at hl 0 rfl) ?_
    refine va_get (D := (dC, dI)) (ci := 2) (v := .ref aV) (C := RX1) (T := TX1) (N := 8) hx hb hts inC_X1 hown hK hP 0 rfl rfl 0 (by decide) (hts (.fieldLink RX1 9 "Counterpointery$Ground" "givens" "[I") (List.mem_cons_of_mem _ wm_54)) (fun _ h9 => h9) rfl dX1_append_13 ?_
    refine lv_aload_n hx hb dX1_append_16 rfl (lv_at hl 0 rfl) ?_
    refine va_get (D := (dC, dI)) (ci := 2) (v := .int gc) (C := RX1) (T := TX1) (N := 8) hx hb hts inC_X1 hown hK hP 0 rfl rfl 1 (by decide) (hts (.fieldLink RX1 20 "Counterpointery$Ground" "count" "I") (List.mem_cons_of_mem _ wm_57)) (fun _ h9 => h9) rfl dX1_append_17 ?_
    refine lv_iload_n hx hb dX1_append_20 rfl (lv_at hl 1 rfl) ?_
    refine va_iast (D := (dC, dI)) hx hb hK hP hD hS 1 0 rfl rfl (by first | exact vi_a (N := (14 : Int32)) (by assumption) (by assumption) rfl | exact vi_b (N := (14 : Int32)) (by assumption) (by assumption) rfl | exact vi_c (N := (14 : Int32)) (by assumption) (by assumption) rfl) dX1_append_21 (fun H locs hP hD hS => ?_)
    have hP : va_P (dC, dI) vwCl [(aG, .inr (2, [.ref aV, .int gc, .int gs, .int gb, .int gf, .int gl, .int gh, .int gn])), (aV, .inl (cI, 14, .inl (upd gv gc.toNatClampNeg p0)))] H := hP
    have hD : va_D A [(aG, .inr (2, [.ref aV, .int gc, .int gs, .int gb, .int gf, .int gl, .int gh, .int gn])), (aV, .inl (cI, 14, .inl (upd gv gc.toNatClampNeg p0)))] := hD
    refine lv_aload_n hx hb dX1_append_22 rfl (lv_at hl 0 rfl) ?_
    refine lv_dup hx hb dX1_append_23 rfl ?_
    refine va_get (D := (dC, dI)) (ci := 2) (v := .int gc) (C := RX1) (T := TX1) (N := 8) hx hb hts inC_X1 hown hK hP 0 rfl rfl 1 (by decide) (hts (.fieldLink RX1 20 "Counterpointery$Ground" "count" "I") (List.mem_cons_of_mem _ wm_57)) (fun _ h9 => h9) rfl dX1_append_24 ?_
    refine lv_iconst (v := (1 : Int32)) hx hb dX1_append_27 (by decide) ?_
    refine lv_iadd hx hb dX1_append_28 ?_
    refine va_put (D := (dC, dI)) (ci := 2) (v := .int (gc + (1 : Int32))) (ty := .int) (C := RX1) (T := TX1) (N := 8) hx hb hts inC_X1 tyX1 tyX1_ok nmX1 hown hK hP hD hS 0 rfl rfl 1 (by decide) (hts (.fieldLink RX1 20 "Counterpointery$Ground" "count" "I") (List.mem_cons_of_mem _ wm_57)) (fun _ h9 => h9) rfl (by decide +kernel) rfl rfl (Nat.le_of_ble_eq_true rfl) dX1_append_29 (fun H locs hP hD hS => ?_)
    have hP : va_P (dC, dI) vwCl [(aG, .inr (2, [.ref aV, .int (gc + (1 : Int32)), .int gs, .int gb, .int gf, .int gl, .int gh, .int gn])), (aV, .inl (cI, 14, .inl (upd gv gc.toNatClampNeg p0)))] H := hP
    have hD : va_D A [(aG, .inr (2, [.ref aV, .int (gc + (1 : Int32)), .int gs, .int gb, .int gf, .int gl, .int gh, .int gn])), (aV, .inl (cI, 14, .inl (upd gv gc.toNatClampNeg p0)))] := hD
    refine lv_aload_n hx hb dX1_append_32 rfl (lv_at hl 0 rfl) ?_
    refine lv_dup hx hb dX1_append_33 rfl ?_
    refine va_get (D := (dC, dI)) (ci := 2) (v := .int gn) (C := RX1) (T := TX1) (N := 8) hx hb hts inC_X1 hown hK hP 0 rfl rfl 7 (by decide) (hts (.fieldLink RX1 23 "Counterpointery$Ground" "changes" "I") (List.mem_cons_of_mem _ wm_58)) (fun _ h9 => h9) rfl dX1_append_34 ?_
    refine lv_iconst (v := (1 : Int32)) hx hb dX1_append_37 (by decide) ?_
    refine lv_iadd hx hb dX1_append_38 ?_
    refine va_put (D := (dC, dI)) (ci := 2) (v := .int (gn + (1 : Int32))) (ty := .int) (C := RX1) (T := TX1) (N := 8) hx hb hts inC_X1 tyX1 tyX1_ok nmX1 hown hK hP hD hS 0 rfl rfl 7 (by decide) (hts (.fieldLink RX1 23 "Counterpointery$Ground" "changes" "I") (List.mem_cons_of_mem _ wm_58)) (fun _ h9 => h9) rfl (by decide +kernel) rfl rfl (Nat.le_of_ble_eq_true rfl) dX1_append_39 (fun H locs hP hD hS => ?_)
    have hP : va_P (dC, dI) vwCl [(aG, .inr (2, [.ref aV, .int (gc + (1 : Int32)), .int gs, .int gb, .int gf, .int gl, .int gh, .int (gn + (1 : Int32))])), (aV, .inl (cI, 14, .inl (upd gv gc.toNatClampNeg p0)))] H := hP
    have hD : va_D A [(aG, .inr (2, [.ref aV, .int (gc + (1 : Int32)), .int gs, .int gb, .int gf, .int gl, .int gh, .int (gn + (1 : Int32))])), (aV, .inl (cI, 14, .inl (upd gv gc.toNatClampNeg p0)))] := hD
    exact kR 42 ls H locs (upd gv gc.toNatClampNeg p0) (gc + (1 : Int32)) (gn + (1 : Int32)) hP hD hS hR.symm dX1_append_42
set_option maxHeartbeats 4000000 in
set_option maxRecDepth 100000 in
theorem m_X1_append (l : Launch) (dC : Nat → ClassId) (dI : Nat → Nat → Nat) (cI cJ : ClassId) (aG : Nat) (aV : Nat) (gc : Int32) (gs : Int32) (gb : Int32) (gf : Int32) (gl : Int32) (gh : Int32) (gn : Int32) (gv : Nat → Int32) (p0 : Int32) (h_gc : 0 ≤ gc) (sz : Nat) : Met l yX1_append wsX1_append rm_X1_append (va_Pc [.ref aG, .int p0] (fun U => U.heap.size = sz ∧ va_P (dC, dI) vwCl [(aG, .inr (2, [.ref aV, .int gc, .int gs, .int gb, .int gf, .int gl, .int gh, .int gn])), (aV, .inl (cI, 14, .inl gv))] U.heap ∧ va_K (dC, dI) vwCl [(cI, .int), (cJ, .long)] U ∧ va_D (fun _ => True) [(aG, .inr (2, [.ref aV, .int gc, .int gs, .int gb, .int gf, .int gl, .int gh, .int gn])), (aV, .inl (cI, 14, .inl gv))])) (va_Qv (fun _ : Unit => True) (fun _ t => va_P (dC, dI) vwCl [(aG, .inr (2, [.ref aV, .int ((f_X1_append gc gn gv p0).2.1), .int gs, .int gb, .int gf, .int gl, .int gh, .int ((f_X1_append gc gn gv p0).2.2)])), (aV, .inl (cI, 14, .inl ((f_X1_append gc gn gv p0).1)))] t.heap ∧ va_K (dC, dI) vwCl [(cI, .int), (cJ, .long)] t ∧ va_D (va_A [(aG, .inr (2, [.ref aV, .int gc, .int gs, .int gb, .int gf, .int gl, .int gh, .int gn])), (aV, .inl (cI, 14, .inl gv))] sz) [(aG, .inr (2, [.ref aV, .int ((f_X1_append gc gn gv p0).2.1), .int gs, .int gb, .int gf, .int gl, .int gh, .int ((f_X1_append gc gn gv p0).2.2)])), (aV, .inl (cI, 14, .inl ((f_X1_append gc gn gv p0).1)))]) (va_A [(aG, .inr (2, [.ref aV, .int gc, .int gs, .int gb, .int gf, .int gl, .int gh, .int gn])), (aV, .inl (cI, 14, .inl gv))] sz)) 0 0 (va_A [(aG, .inr (2, [.ref aV, .int gc, .int gs, .int gb, .int gf, .int gl, .int gh, .int gn])), (aV, .inl (cI, 14, .inl gv))] sz) := by
  refine Met.ofW (cc := cX1_append) (maxL := 2) (ret := none) (by decide) rfl ?_
  intro p e s m args below meth c s₁ B hml hv
  obtain ⟨rfl, hsz, hP, hK, hD0⟩ := hv
  subst hsz
  have hl := lv_entry ([.ref aG, .int p0]) (n := 2) (Nat.le_of_ble_eq_true rfl)
  rw [lg_entry_eq]
  refine w_X1_append h_gc B.exec B.bytes hml (findClass_of_methodNamed B.named) (atoms_spec (ws := wsX1_append) B.pre) hK hP (hD0.self (sz := s.heap.size)) va_S.rf (fun q h => Or.inr h) rfl (fun pc ls H locs gv' gc' gn' hP hD hS er hd => ?_) _ hl
  simp only [Prod.ext_iff] at er
  obtain ⟨e0, e1, e2⟩ := er
  subst e0
  subst e1
  subst e2
  exact W.vret B.exec B.bytes B.returns (fun t ht hW => ⟨⟨(), rfl, trivial, by rw [ht]; exact hP, va_K.moved hW.alike hK, hD⟩, hS.F ht⟩) hS.2.2 hd B.notSynchronized
end
def f_X1_empty (gn : Int32) : Int32 × Int32 :=
  ((0 : Int32), (gn + (1 : Int32)))
theorem e_X1_empty {gn : Int32} : f_X1_empty gn = ((0 : Int32), (gn + (1 : Int32))) := rfl
section
variable {p : Program} {l : Launch} {e : Env} {s : State} {m : MethodId} {args : Array Value} {below : List Frame} {meth : Method} {c : Code} {Q : State → Prop} {H : Heap} {locs : List Loc} {dC : Nat → ClassId} {dI : Nat → Nat → Nat} {cI cJ : ClassId}
abbrev rm_X1_empty : Room := { frames := 0, cells := 0, slots := 0, locals := 0 }
theorem hd_X1_empty : yX1_empty.cls = RX1 ∧ yX1_empty.cls ≠ "java/lang/invoke/MethodHandle" ∧ yX1_empty.cls ≠ "java/lang/invoke/VarHandle" ∧ (parseMethodDescriptor yX1_empty.desc).map (fun d => d.parameters.length) = some 0 := by decide +kernel
set_option maxHeartbeats 4000000 in
set_option maxRecDepth 100000 in
theorem w_X1_empty {aG : Nat} {aV : Nat} {gc : Int32} {gs : Int32} {gb : Int32} {gf : Int32} {gl : Int32} {gh : Int32} {gn : Int32} {gv : Nat → Int32} {F : Int32 × Int32} (hx : p.tables.exec = Jvm.exec) (hb : c.code = cX1_empty) (hml : c.maxLocals = 1) (hown : s.vm.findClass RX1 = some m.cls) (hts : ∀ w ∈ wsX1_empty, w.before args s = true) (hK : va_K (dC, dI) vwCl [(cI, .int), (cJ, .long)] s) {A : Nat → Prop} {H0 : Heap} (hP : va_P (dC, dI) vwCl [(aG, .inr (2, [.ref aV, .int gc, .int gs, .int gb, .int gf, .int gl, .int gh, .int gn])), (aV, .inl (cI, 14, .inl gv))] H) (hD : va_D A [(aG, .inr (2, [.ref aV, .int gc, .int gs, .int gb, .int gf, .int gl, .int gh, .int gn])), (aV, .inl (cI, 14, .inl gv))]) (hS : va_S A H0 H locs) (hA : ∀ q, H0.size ≤ q → A q) (hR : F = f_X1_empty gn) (kR : ∀ (pc : Nat) (ls : Array Slot) (H : Heap) (locs : List Loc) (gc' : Int32) (gn' : Int32), va_P (dC, dI) vwCl [(aG, .inr (2, [.ref aV, .int gc', .int gs, .int gb, .int gf, .int gl, .int gh, .int gn'])), (aV, .inl (cI, 14, .inl gv))] H → va_D A [(aG, .inr (2, [.ref aV, .int gc', .int gs, .int gb, .int gf, .int gl, .int gh, .int gn'])), (aV, .inl (cI, 14, .inl gv))] → va_S A H0 H locs → (gc', gn') = F → decode cX1_empty pc = .ok (.return_, 1) → W p l e rm_X1_empty s m args below meth c H locs 0 0 Q (F0 m pc ls [])) (ls : Array Slot) (hl : lv_has ls 1 [(0, .ref aG)]) : W p l e rm_X1_empty s m args below meth c H locs 0 0 Q (F0 m 0 ls []) := by
  have hR := hR.trans e_X1_empty
  refine lv_aload_n hx hb dX1_empty_0 rfl (lv_at hl 0 rfl) ?_
  refine lv_iconst (v := (0 : Int32)) hx hb dX1_empty_1 (by decide) ?_
  refine va_put (D := (dC, dI)) (ci := 2) (v := .int (0 : Int32)) (ty := .int) (C := RX1) (T := TX1) (N := 8) hx hb hts inC_X1 tyX1 tyX1_ok nmX1 hown hK hP hD hS 0 rfl rfl 1 (by decide) (hts (.fieldLink RX1 20 "Counterpointery$Ground" "count" "I") (List.mem_cons_of_mem _ wm_57)) (fun _ h9 => h9) rfl (by decide +kernel) rfl rfl (Nat.le_of_ble_eq_true rfl) dX1_empty_2 (fun H locs hP hD hS => ?_)
  have hP : va_P (dC, dI) vwCl [(aG, .inr (2, [.ref aV, .int (0 : Int32), .int gs, .int gb, .int gf, .int gl, .int gh, .int gn])), (aV, .inl (cI, 14, .inl gv))] H := hP
  have hD : va_D A [(aG, .inr (2, [.ref aV, .int (0 : Int32), .int gs, .int gb, .int gf, .int gl, .int gh, .int gn])), (aV, .inl (cI, 14, .inl gv))] := hD
  refine lv_aload_n hx hb dX1_empty_5 rfl (lv_at hl 0 rfl) ?_
  refine lv_dup hx hb dX1_empty_6 rfl ?_
  refine va_get (D := (dC, dI)) (ci := 2) (v := .int gn) (C := RX1) (T := TX1) (N := 8) hx hb hts inC_X1 hown hK hP 0 rfl rfl 7 (by decide) (hts (.fieldLink RX1 23 "Counterpointery$Ground" "changes" "I") (List.mem_cons_of_mem _ wm_58)) (fun _ h9 => h9) rfl dX1_empty_7 ?_
  refine lv_iconst (v := (1 : Int32)) hx hb dX1_empty_10 (by decide) ?_
  refine lv_iadd hx hb dX1_empty_11 ?_
  refine va_put (D := (dC, dI)) (ci := 2) (v := .int (gn + (1 : Int32))) (ty := .int) (C := RX1) (T := TX1) (N := 8) hx hb hts inC_X1 tyX1 tyX1_ok nmX1 hown hK hP hD hS 0 rfl rfl 7 (by decide) (hts (.fieldLink RX1 23 "Counterpointery$Ground" "changes" "I") (List.mem_cons_of_mem _ wm_58)) (fun _ h9 => h9) rfl (by decide +kernel) rfl rfl (Nat.le_of_ble_eq_true rfl) dX1_empty_12 (fun H locs hP hD hS => ?_)
  have hP : va_P (dC, dI) vwCl [(aG, .inr (2, [.ref aV, .int (0 : Int32), .int gs, .int gb, .int gf, .int gl, .int gh, .int (gn + (1 : Int32))])), (aV, .inl (cI, 14, .inl gv))] H := hP
  have hD : va_D A [(aG, .inr (2, [.ref aV, .int (0 : Int32), .int gs, .int gb, .int gf, .int gl, .int gh, .int (gn + (1 : Int32))])), (aV, .inl (cI, 14, .inl gv))] := hD
  exact kR 15 ls H locs (0 : Int32) (gn + (1 : Int32)) hP hD hS hR.symm dX1_empty_15
set_option maxHeartbeats 4000000 in
set_option maxRecDepth 100000 in
theorem m_X1_empty (l : Launch) (dC : Nat → ClassId) (dI : Nat → Nat → Nat) (cI cJ : ClassId) (aG : Nat) (aV : Nat) (gc : Int32) (gs : Int32) (gb : Int32) (gf : Int32) (gl : Int32) (gh : Int32) (gn : Int32) (gv : Nat → Int32) (sz : Nat) : Met l yX1_empty wsX1_empty rm_X1_empty (va_Pc [.ref aG] (fun U => U.heap.size = sz ∧ va_P (dC, dI) vwCl [(aG, .inr (2, [.ref aV, .int gc, .int gs, .int gb, .int gf, .int gl, .int gh, .int gn])), (aV, .inl (cI, 14, .inl gv))] U.heap ∧ va_K (dC, dI) vwCl [(cI, .int), (cJ, .long)] U ∧ va_D (fun _ => True) [(aG, .inr (2, [.ref aV, .int gc, .int gs, .int gb, .int gf, .int gl, .int gh, .int gn])), (aV, .inl (cI, 14, .inl gv))])) (va_Qv (fun _ : Unit => True) (fun _ t => va_P (dC, dI) vwCl [(aG, .inr (2, [.ref aV, .int ((f_X1_empty gn).1), .int gs, .int gb, .int gf, .int gl, .int gh, .int ((f_X1_empty gn).2)])), (aV, .inl (cI, 14, .inl gv))] t.heap ∧ va_K (dC, dI) vwCl [(cI, .int), (cJ, .long)] t ∧ va_D (va_A [(aG, .inr (2, [.ref aV, .int gc, .int gs, .int gb, .int gf, .int gl, .int gh, .int gn])), (aV, .inl (cI, 14, .inl gv))] sz) [(aG, .inr (2, [.ref aV, .int ((f_X1_empty gn).1), .int gs, .int gb, .int gf, .int gl, .int gh, .int ((f_X1_empty gn).2)])), (aV, .inl (cI, 14, .inl gv))]) (va_A [(aG, .inr (2, [.ref aV, .int gc, .int gs, .int gb, .int gf, .int gl, .int gh, .int gn])), (aV, .inl (cI, 14, .inl gv))] sz)) 0 0 (va_A [(aG, .inr (2, [.ref aV, .int gc, .int gs, .int gb, .int gf, .int gl, .int gh, .int gn])), (aV, .inl (cI, 14, .inl gv))] sz) := by
  refine Met.ofW (cc := cX1_empty) (maxL := 1) (ret := none) (by decide) rfl ?_
  intro p e s m args below meth c s₁ B hml hv
  obtain ⟨rfl, hsz, hP, hK, hD0⟩ := hv
  subst hsz
  have hl := lv_entry ([.ref aG]) (n := 1) (Nat.le_of_ble_eq_true rfl)
  rw [lg_entry_eq]
  refine w_X1_empty B.exec B.bytes hml (findClass_of_methodNamed B.named) (atoms_spec (ws := wsX1_empty) B.pre) hK hP (hD0.self (sz := s.heap.size)) va_S.rf (fun q h => Or.inr h) rfl (fun pc ls H locs gc' gn' hP hD hS er hd => ?_) _ hl
  simp only [Prod.ext_iff] at er
  obtain ⟨e0, e1⟩ := er
  subst e0
  subst e1
  exact W.vret B.exec B.bytes B.returns (fun t ht hW => ⟨⟨(), rfl, trivial, by rw [ht]; exact hP, va_K.moved hW.alike hK, hD⟩, hS.F ht⟩) hS.2.2 hd B.notSynchronized
end
def f_X1_setPerGiven_j20 (gn : Int32) (v1 : Int32) : Int32 × Int32 :=
  (v1, (gn + (1 : Int32)))
theorem e_X1_setPerGiven_j20 {gn : Int32} {v1 : Int32} : f_X1_setPerGiven_j20 gn v1 = (v1, (gn + (1 : Int32))) := rfl
def f_X1_setPerGiven (gn : Int32) (p0 : Int32) : Int32 × Int32 :=
  (if p0 = (4 : Int32) then f_X1_setPerGiven_j20 gn (2 : Int32) else (if p0 = (2 : Int32) then f_X1_setPerGiven_j20 gn (1 : Int32) else f_X1_setPerGiven_j20 gn (0 : Int32)))
theorem e_X1_setPerGiven {gn : Int32} {p0 : Int32} : f_X1_setPerGiven gn p0 = (if p0 = (4 : Int32) then f_X1_setPerGiven_j20 gn (2 : Int32) else (if p0 = (2 : Int32) then f_X1_setPerGiven_j20 gn (1 : Int32) else f_X1_setPerGiven_j20 gn (0 : Int32))) := rfl
section
variable {p : Program} {l : Launch} {e : Env} {s : State} {m : MethodId} {args : Array Value} {below : List Frame} {meth : Method} {c : Code} {Q : State → Prop} {H : Heap} {locs : List Loc} {dC : Nat → ClassId} {dI : Nat → Nat → Nat} {cI cJ : ClassId}
abbrev rm_X1_setPerGiven : Room := { frames := 0, cells := 0, slots := 0, locals := 0 }
theorem hd_X1_setPerGiven : yX1_setPerGiven.cls = RX1 ∧ yX1_setPerGiven.cls ≠ "java/lang/invoke/MethodHandle" ∧ yX1_setPerGiven.cls ≠ "java/lang/invoke/VarHandle" ∧ (parseMethodDescriptor yX1_setPerGiven.desc).map (fun d => d.parameters.length) = some 1 := by decide +kernel
set_option maxHeartbeats 4000000 in
set_option maxRecDepth 100000 in
theorem w_X1_setPerGiven {aG : Nat} {aV : Nat} {gc : Int32} {gs : Int32} {gb : Int32} {gf : Int32} {gl : Int32} {gh : Int32} {gn : Int32} {gv : Nat → Int32} {p0 : Int32} {F : Int32 × Int32} (hx : p.tables.exec = Jvm.exec) (hb : c.code = cX1_setPerGiven) (hml : c.maxLocals = 2) (hown : s.vm.findClass RX1 = some m.cls) (hts : ∀ w ∈ wsX1_setPerGiven, w.before args s = true) (hK : va_K (dC, dI) vwCl [(cI, .int), (cJ, .long)] s) {A : Nat → Prop} {H0 : Heap} (hP : va_P (dC, dI) vwCl [(aG, .inr (2, [.ref aV, .int gc, .int gs, .int gb, .int gf, .int gl, .int gh, .int gn])), (aV, .inl (cI, 14, .inl gv))] H) (hD : va_D A [(aG, .inr (2, [.ref aV, .int gc, .int gs, .int gb, .int gf, .int gl, .int gh, .int gn])), (aV, .inl (cI, 14, .inl gv))]) (hS : va_S A H0 H locs) (hA : ∀ q, H0.size ≤ q → A q) (hR : F = f_X1_setPerGiven gn p0) (kR : ∀ (pc : Nat) (ls : Array Slot) (H : Heap) (locs : List Loc) (gs' : Int32) (gn' : Int32), va_P (dC, dI) vwCl [(aG, .inr (2, [.ref aV, .int gc, .int gs', .int gb, .int gf, .int gl, .int gh, .int gn'])), (aV, .inl (cI, 14, .inl gv))] H → va_D A [(aG, .inr (2, [.ref aV, .int gc, .int gs', .int gb, .int gf, .int gl, .int gh, .int gn'])), (aV, .inl (cI, 14, .inl gv))] → va_S A H0 H locs → (gs', gn') = F → decode cX1_setPerGiven pc = .ok (.return_, 1) → W p l e rm_X1_setPerGiven s m args below meth c H locs 0 0 Q (F0 m pc ls [])) (ls : Array Slot) (hl : lv_has ls 2 [(0, .ref aG), (1, .int p0)]) : W p l e rm_X1_setPerGiven s m args below meth c H locs 0 0 Q (F0 m 0 ls []) := by
  have hR := hR.trans e_X1_setPerGiven
  refine lv_aload_n hx hb dX1_setPerGiven_0 rfl (lv_at hl 0 rfl) ?_
  refine lv_iload_n hx hb dX1_setPerGiven_1 rfl (lv_at hl 1 rfl) ?_
  refine lv_iconst (v := (4 : Int32)) hx hb dX1_setPerGiven_2 (by decide) ?_
  have J20 : ∀ (v1 : Int32) (H : Heap) (locs : List Loc), va_P (dC, dI) vwCl [(aG, .inr (2, [.ref aV, .int gc, .int gs, .int gb, .int gf, .int gl, .int gh, .int gn])), (aV, .inl (cI, 14, .inl gv))] H → va_D A [(aG, .inr (2, [.ref aV, .int gc, .int gs, .int gb, .int gf, .int gl, .int gh, .int gn])), (aV, .inl (cI, 14, .inl gv))] → va_S A H0 H locs → ∀ (ls : Array Slot), lv_has ls 2 [(0, .ref aG)] → F = f_X1_setPerGiven_j20 gn v1 → W p l e rm_X1_setPerGiven s m args below meth c H locs 0 0 Q (F0 m 20 ls [.int v1, .ref aG]) := by
    intro v1 H locs hP hD hS ls hl hR
    have hR := hR.trans e_X1_setPerGiven_j20
    refine va_put (D := (dC, dI)) (ci := 2) (v := .int v1) (ty := .int) (C := RX1) (T := TX1) (N := 8) hx hb hts inC_X1 tyX1 tyX1_ok nmX1 hown hK hP hD hS 0 rfl rfl 2 (by decide) (hts (.fieldLink RX1 26 "Counterpointery$Ground" "shift" "I") (List.mem_cons_of_mem _ wm_59)) (fun _ h9 => h9) rfl (by decide +kernel) rfl rfl (Nat.le_of_ble_eq_true rfl) dX1_setPerGiven_20 (fun H locs hP hD hS => ?_)
    have hP : va_P (dC, dI) vwCl [(aG, .inr (2, [.ref aV, .int gc, .int v1, .int gb, .int gf, .int gl, .int gh, .int gn])), (aV, .inl (cI, 14, .inl gv))] H := hP
    have hD : va_D A [(aG, .inr (2, [.ref aV, .int gc, .int v1, .int gb, .int gf, .int gl, .int gh, .int gn])), (aV, .inl (cI, 14, .inl gv))] := hD
    refine lv_aload_n hx hb dX1_setPerGiven_23 rfl (lv_at hl 0 rfl) ?_
    refine lv_dup hx hb dX1_setPerGiven_24 rfl ?_
    refine va_get (D := (dC, dI)) (ci := 2) (v := .int gn) (C := RX1) (T := TX1) (N := 8) hx hb hts inC_X1 hown hK hP 0 rfl rfl 7 (by decide) (hts (.fieldLink RX1 23 "Counterpointery$Ground" "changes" "I") (List.mem_cons_of_mem _ wm_58)) (fun _ h9 => h9) rfl dX1_setPerGiven_25 ?_
    refine lv_iconst (v := (1 : Int32)) hx hb dX1_setPerGiven_28 (by decide) ?_
    refine lv_iadd hx hb dX1_setPerGiven_29 ?_
    refine va_put (D := (dC, dI)) (ci := 2) (v := .int (gn + (1 : Int32))) (ty := .int) (C := RX1) (T := TX1) (N := 8) hx hb hts inC_X1 tyX1 tyX1_ok nmX1 hown hK hP hD hS 0 rfl rfl 7 (by decide) (hts (.fieldLink RX1 23 "Counterpointery$Ground" "changes" "I") (List.mem_cons_of_mem _ wm_58)) (fun _ h9 => h9) rfl (by decide +kernel) rfl rfl (Nat.le_of_ble_eq_true rfl) dX1_setPerGiven_30 (fun H locs hP hD hS => ?_)
    have hP : va_P (dC, dI) vwCl [(aG, .inr (2, [.ref aV, .int gc, .int v1, .int gb, .int gf, .int gl, .int gh, .int (gn + (1 : Int32))])), (aV, .inl (cI, 14, .inl gv))] H := hP
    have hD : va_D A [(aG, .inr (2, [.ref aV, .int gc, .int v1, .int gb, .int gf, .int gl, .int gh, .int (gn + (1 : Int32))])), (aV, .inl (cI, 14, .inl gv))] := hD
    exact kR 33 ls H locs v1 (gn + (1 : Int32)) hP hD hS hR.symm dX1_setPerGiven_33
  refine lv_icmp_ne (tgt := 10) hx hb dX1_setPerGiven_3 (by decide) (fun c_1 => ?_) (fun c_1 => ?_)
  · have hR := hR.trans (if_neg c_1)
    refine lv_iload_n hx hb dX1_setPerGiven_10 rfl (lv_at hl 1 rfl) ?_
    refine lv_iconst (v := (2 : Int32)) hx hb dX1_setPerGiven_11 (by decide) ?_
    refine lv_icmp_ne (tgt := 19) hx hb dX1_setPerGiven_12 (by decide) (fun c_2 => ?_) (fun c_2 => ?_)
    · have hR := hR.trans (if_neg c_2)
      refine lv_iconst (v := (0 : Int32)) hx hb dX1_setPerGiven_19 (by decide) ?_
      exact J20 (0 : Int32) H locs hP hD hS ls (lv_sub hl [0] rfl) hR
    · have hR := hR.trans (if_pos c_2)
      refine lv_iconst (v := (1 : Int32)) hx hb dX1_setPerGiven_15 (by decide) ?_
      refine lv_goto (tgt := 20) hx hb dX1_setPerGiven_16 (by decide) ?_
      exact J20 (1 : Int32) H locs hP hD hS ls (lv_sub hl [0] rfl) hR
  · have hR := hR.trans (if_pos c_1)
    refine lv_iconst (v := (2 : Int32)) hx hb dX1_setPerGiven_6 (by decide) ?_
    refine lv_goto (tgt := 20) hx hb dX1_setPerGiven_7 (by decide) ?_
    exact J20 (2 : Int32) H locs hP hD hS ls (lv_sub hl [0] rfl) hR
set_option maxHeartbeats 4000000 in
set_option maxRecDepth 100000 in
theorem m_X1_setPerGiven (l : Launch) (dC : Nat → ClassId) (dI : Nat → Nat → Nat) (cI cJ : ClassId) (aG : Nat) (aV : Nat) (gc : Int32) (gs : Int32) (gb : Int32) (gf : Int32) (gl : Int32) (gh : Int32) (gn : Int32) (gv : Nat → Int32) (p0 : Int32) (sz : Nat) : Met l yX1_setPerGiven wsX1_setPerGiven rm_X1_setPerGiven (va_Pc [.ref aG, .int p0] (fun U => U.heap.size = sz ∧ va_P (dC, dI) vwCl [(aG, .inr (2, [.ref aV, .int gc, .int gs, .int gb, .int gf, .int gl, .int gh, .int gn])), (aV, .inl (cI, 14, .inl gv))] U.heap ∧ va_K (dC, dI) vwCl [(cI, .int), (cJ, .long)] U ∧ va_D (fun _ => True) [(aG, .inr (2, [.ref aV, .int gc, .int gs, .int gb, .int gf, .int gl, .int gh, .int gn])), (aV, .inl (cI, 14, .inl gv))])) (va_Qv (fun _ : Unit => True) (fun _ t => va_P (dC, dI) vwCl [(aG, .inr (2, [.ref aV, .int gc, .int ((f_X1_setPerGiven gn p0).1), .int gb, .int gf, .int gl, .int gh, .int ((f_X1_setPerGiven gn p0).2)])), (aV, .inl (cI, 14, .inl gv))] t.heap ∧ va_K (dC, dI) vwCl [(cI, .int), (cJ, .long)] t ∧ va_D (va_A [(aG, .inr (2, [.ref aV, .int gc, .int gs, .int gb, .int gf, .int gl, .int gh, .int gn])), (aV, .inl (cI, 14, .inl gv))] sz) [(aG, .inr (2, [.ref aV, .int gc, .int ((f_X1_setPerGiven gn p0).1), .int gb, .int gf, .int gl, .int gh, .int ((f_X1_setPerGiven gn p0).2)])), (aV, .inl (cI, 14, .inl gv))]) (va_A [(aG, .inr (2, [.ref aV, .int gc, .int gs, .int gb, .int gf, .int gl, .int gh, .int gn])), (aV, .inl (cI, 14, .inl gv))] sz)) 0 0 (va_A [(aG, .inr (2, [.ref aV, .int gc, .int gs, .int gb, .int gf, .int gl, .int gh, .int gn])), (aV, .inl (cI, 14, .inl gv))] sz) := by
  refine Met.ofW (cc := cX1_setPerGiven) (maxL := 2) (ret := none) (by decide) rfl ?_
  intro p e s m args below meth c s₁ B hml hv
  obtain ⟨rfl, hsz, hP, hK, hD0⟩ := hv
  subst hsz
  have hl := lv_entry ([.ref aG, .int p0]) (n := 2) (Nat.le_of_ble_eq_true rfl)
  rw [lg_entry_eq]
  refine w_X1_setPerGiven B.exec B.bytes hml (findClass_of_methodNamed B.named) (atoms_spec (ws := wsX1_setPerGiven) B.pre) hK hP (hD0.self (sz := s.heap.size)) va_S.rf (fun q h => Or.inr h) rfl (fun pc ls H locs gs' gn' hP hD hS er hd => ?_) _ hl
  simp only [Prod.ext_iff] at er
  obtain ⟨e0, e1⟩ := er
  subst e0
  subst e1
  exact W.vret B.exec B.bytes B.returns (fun t ht hW => ⟨⟨(), rfl, trivial, by rw [ht]; exact hP, va_K.moved hW.alike hK, hD⟩, hS.F ht⟩) hS.2.2 hd B.notSynchronized
end
def f_X1_setBelow (gn : Int32) (p0 : Int32) : Int32 × Int32 :=
  (p0, (gn + (1 : Int32)))
theorem e_X1_setBelow {gn : Int32} {p0 : Int32} : f_X1_setBelow gn p0 = (p0, (gn + (1 : Int32))) := rfl
section
variable {p : Program} {l : Launch} {e : Env} {s : State} {m : MethodId} {args : Array Value} {below : List Frame} {meth : Method} {c : Code} {Q : State → Prop} {H : Heap} {locs : List Loc} {dC : Nat → ClassId} {dI : Nat → Nat → Nat} {cI cJ : ClassId}
abbrev rm_X1_setBelow : Room := { frames := 0, cells := 0, slots := 0, locals := 0 }
theorem hd_X1_setBelow : yX1_setBelow.cls = RX1 ∧ yX1_setBelow.cls ≠ "java/lang/invoke/MethodHandle" ∧ yX1_setBelow.cls ≠ "java/lang/invoke/VarHandle" ∧ (parseMethodDescriptor yX1_setBelow.desc).map (fun d => d.parameters.length) = some 1 := by decide +kernel
set_option maxHeartbeats 4000000 in
set_option maxRecDepth 100000 in
theorem w_X1_setBelow {aG : Nat} {aV : Nat} {gc : Int32} {gs : Int32} {gb : Int32} {gf : Int32} {gl : Int32} {gh : Int32} {gn : Int32} {gv : Nat → Int32} {p0 : Int32} (hz_p0 : zb p0) {F : Int32 × Int32} (hx : p.tables.exec = Jvm.exec) (hb : c.code = cX1_setBelow) (hml : c.maxLocals = 2) (hown : s.vm.findClass RX1 = some m.cls) (hts : ∀ w ∈ wsX1_setBelow, w.before args s = true) (hK : va_K (dC, dI) vwCl [(cI, .int), (cJ, .long)] s) {A : Nat → Prop} {H0 : Heap} (hP : va_P (dC, dI) vwCl [(aG, .inr (2, [.ref aV, .int gc, .int gs, .int gb, .int gf, .int gl, .int gh, .int gn])), (aV, .inl (cI, 14, .inl gv))] H) (hD : va_D A [(aG, .inr (2, [.ref aV, .int gc, .int gs, .int gb, .int gf, .int gl, .int gh, .int gn])), (aV, .inl (cI, 14, .inl gv))]) (hS : va_S A H0 H locs) (hA : ∀ q, H0.size ≤ q → A q) (hR : F = f_X1_setBelow gn p0) (kR : ∀ (pc : Nat) (ls : Array Slot) (H : Heap) (locs : List Loc) (gb' : Int32) (gn' : Int32), va_P (dC, dI) vwCl [(aG, .inr (2, [.ref aV, .int gc, .int gs, .int gb', .int gf, .int gl, .int gh, .int gn'])), (aV, .inl (cI, 14, .inl gv))] H → va_D A [(aG, .inr (2, [.ref aV, .int gc, .int gs, .int gb', .int gf, .int gl, .int gh, .int gn'])), (aV, .inl (cI, 14, .inl gv))] → va_S A H0 H locs → (gb', gn') = F → decode cX1_setBelow pc = .ok (.return_, 1) → W p l e rm_X1_setBelow s m args below meth c H locs 0 0 Q (F0 m pc ls [])) (ls : Array Slot) (hl : lv_has ls 2 [(0, .ref aG), (1, .int p0)]) : W p l e rm_X1_setBelow s m args below meth c H locs 0 0 Q (F0 m 0 ls []) := by
  have hR := hR.trans e_X1_setBelow
  refine lv_aload_n hx hb dX1_setBelow_0 rfl (lv_at hl 0 rfl) ?_
  refine lv_iload_n hx hb dX1_setBelow_1 rfl (lv_at hl 1 rfl) ?_
  refine va_put (D := (dC, dI)) (ci := 2) (v := .int p0) (ty := .boolean) (C := RX1) (T := TX1) (N := 8) hx hb hts inC_X1 tyX1 tyX1_ok nmX1 hown hK hP hD hS 0 rfl rfl 3 (by decide) (hts (.fieldLink RX1 29 "Counterpointery$Ground" "below" "Z") (List.mem_cons_of_mem _ wm_60)) (fun _ h9 => h9) rfl (by decide +kernel) (zb_n hz_p0) (zb_f hz_p0) (Nat.le_of_ble_eq_true rfl) dX1_setBelow_2 (fun H locs hP hD hS => ?_)
  have hP : va_P (dC, dI) vwCl [(aG, .inr (2, [.ref aV, .int gc, .int gs, .int p0, .int gf, .int gl, .int gh, .int gn])), (aV, .inl (cI, 14, .inl gv))] H := hP
  have hD : va_D A [(aG, .inr (2, [.ref aV, .int gc, .int gs, .int p0, .int gf, .int gl, .int gh, .int gn])), (aV, .inl (cI, 14, .inl gv))] := hD
  refine lv_aload_n hx hb dX1_setBelow_5 rfl (lv_at hl 0 rfl) ?_
  refine lv_dup hx hb dX1_setBelow_6 rfl ?_
  refine va_get (D := (dC, dI)) (ci := 2) (v := .int gn) (C := RX1) (T := TX1) (N := 8) hx hb hts inC_X1 hown hK hP 0 rfl rfl 7 (by decide) (hts (.fieldLink RX1 23 "Counterpointery$Ground" "changes" "I") (List.mem_cons_of_mem _ wm_58)) (fun _ h9 => h9) rfl dX1_setBelow_7 ?_
  refine lv_iconst (v := (1 : Int32)) hx hb dX1_setBelow_10 (by decide) ?_
  refine lv_iadd hx hb dX1_setBelow_11 ?_
  refine va_put (D := (dC, dI)) (ci := 2) (v := .int (gn + (1 : Int32))) (ty := .int) (C := RX1) (T := TX1) (N := 8) hx hb hts inC_X1 tyX1 tyX1_ok nmX1 hown hK hP hD hS 0 rfl rfl 7 (by decide) (hts (.fieldLink RX1 23 "Counterpointery$Ground" "changes" "I") (List.mem_cons_of_mem _ wm_58)) (fun _ h9 => h9) rfl (by decide +kernel) rfl rfl (Nat.le_of_ble_eq_true rfl) dX1_setBelow_12 (fun H locs hP hD hS => ?_)
  have hP : va_P (dC, dI) vwCl [(aG, .inr (2, [.ref aV, .int gc, .int gs, .int p0, .int gf, .int gl, .int gh, .int (gn + (1 : Int32))])), (aV, .inl (cI, 14, .inl gv))] H := hP
  have hD : va_D A [(aG, .inr (2, [.ref aV, .int gc, .int gs, .int p0, .int gf, .int gl, .int gh, .int (gn + (1 : Int32))])), (aV, .inl (cI, 14, .inl gv))] := hD
  exact kR 15 ls H locs p0 (gn + (1 : Int32)) hP hD hS hR.symm dX1_setBelow_15
set_option maxHeartbeats 4000000 in
set_option maxRecDepth 100000 in
theorem m_X1_setBelow (l : Launch) (dC : Nat → ClassId) (dI : Nat → Nat → Nat) (cI cJ : ClassId) (aG : Nat) (aV : Nat) (gc : Int32) (gs : Int32) (gb : Int32) (gf : Int32) (gl : Int32) (gh : Int32) (gn : Int32) (gv : Nat → Int32) (p0 : Int32) (hz_p0 : zb p0) (sz : Nat) : Met l yX1_setBelow wsX1_setBelow rm_X1_setBelow (va_Pc [.ref aG, .int p0] (fun U => U.heap.size = sz ∧ va_P (dC, dI) vwCl [(aG, .inr (2, [.ref aV, .int gc, .int gs, .int gb, .int gf, .int gl, .int gh, .int gn])), (aV, .inl (cI, 14, .inl gv))] U.heap ∧ va_K (dC, dI) vwCl [(cI, .int), (cJ, .long)] U ∧ va_D (fun _ => True) [(aG, .inr (2, [.ref aV, .int gc, .int gs, .int gb, .int gf, .int gl, .int gh, .int gn])), (aV, .inl (cI, 14, .inl gv))])) (va_Qv (fun _ : Unit => True) (fun _ t => va_P (dC, dI) vwCl [(aG, .inr (2, [.ref aV, .int gc, .int gs, .int ((f_X1_setBelow gn p0).1), .int gf, .int gl, .int gh, .int ((f_X1_setBelow gn p0).2)])), (aV, .inl (cI, 14, .inl gv))] t.heap ∧ va_K (dC, dI) vwCl [(cI, .int), (cJ, .long)] t ∧ va_D (va_A [(aG, .inr (2, [.ref aV, .int gc, .int gs, .int gb, .int gf, .int gl, .int gh, .int gn])), (aV, .inl (cI, 14, .inl gv))] sz) [(aG, .inr (2, [.ref aV, .int gc, .int gs, .int ((f_X1_setBelow gn p0).1), .int gf, .int gl, .int gh, .int ((f_X1_setBelow gn p0).2)])), (aV, .inl (cI, 14, .inl gv))]) (va_A [(aG, .inr (2, [.ref aV, .int gc, .int gs, .int gb, .int gf, .int gl, .int gh, .int gn])), (aV, .inl (cI, 14, .inl gv))] sz)) 0 0 (va_A [(aG, .inr (2, [.ref aV, .int gc, .int gs, .int gb, .int gf, .int gl, .int gh, .int gn])), (aV, .inl (cI, 14, .inl gv))] sz) := by
  refine Met.ofW (cc := cX1_setBelow) (maxL := 2) (ret := none) (by decide) rfl ?_
  intro p e s m args below meth c s₁ B hml hv
  obtain ⟨rfl, hsz, hP, hK, hD0⟩ := hv
  subst hsz
  have hl := lv_entry ([.ref aG, .int p0]) (n := 2) (Nat.le_of_ble_eq_true rfl)
  rw [lg_entry_eq]
  refine w_X1_setBelow hz_p0 B.exec B.bytes hml (findClass_of_methodNamed B.named) (atoms_spec (ws := wsX1_setBelow) B.pre) hK hP (hD0.self (sz := s.heap.size)) va_S.rf (fun q h => Or.inr h) rfl (fun pc ls H locs gb' gn' hP hD hS er hd => ?_) _ hl
  simp only [Prod.ext_iff] at er
  obtain ⟨e0, e1⟩ := er
  subst e0
  subst e1
  exact W.vret B.exec B.bytes B.returns (fun t ht hW => ⟨⟨(), rfl, trivial, by rw [ht]; exact hP, va_K.moved hW.alike hK, hD⟩, hS.F ht⟩) hS.2.2 hd B.notSynchronized
end
def f_X1_setFeigning (gn : Int32) (p0 : Int32) : Int32 × Int32 :=
  (p0, (gn + (1 : Int32)))
theorem e_X1_setFeigning {gn : Int32} {p0 : Int32} : f_X1_setFeigning gn p0 = (p0, (gn + (1 : Int32))) := rfl
section
variable {p : Program} {l : Launch} {e : Env} {s : State} {m : MethodId} {args : Array Value} {below : List Frame} {meth : Method} {c : Code} {Q : State → Prop} {H : Heap} {locs : List Loc} {dC : Nat → ClassId} {dI : Nat → Nat → Nat} {cI cJ : ClassId}
abbrev rm_X1_setFeigning : Room := { frames := 0, cells := 0, slots := 0, locals := 0 }
theorem hd_X1_setFeigning : yX1_setFeigning.cls = RX1 ∧ yX1_setFeigning.cls ≠ "java/lang/invoke/MethodHandle" ∧ yX1_setFeigning.cls ≠ "java/lang/invoke/VarHandle" ∧ (parseMethodDescriptor yX1_setFeigning.desc).map (fun d => d.parameters.length) = some 1 := by decide +kernel
set_option maxHeartbeats 4000000 in
set_option maxRecDepth 100000 in
theorem w_X1_setFeigning {aG : Nat} {aV : Nat} {gc : Int32} {gs : Int32} {gb : Int32} {gf : Int32} {gl : Int32} {gh : Int32} {gn : Int32} {gv : Nat → Int32} {p0 : Int32} (hz_p0 : zb p0) {F : Int32 × Int32} (hx : p.tables.exec = Jvm.exec) (hb : c.code = cX1_setFeigning) (hml : c.maxLocals = 2) (hown : s.vm.findClass RX1 = some m.cls) (hts : ∀ w ∈ wsX1_setFeigning, w.before args s = true) (hK : va_K (dC, dI) vwCl [(cI, .int), (cJ, .long)] s) {A : Nat → Prop} {H0 : Heap} (hP : va_P (dC, dI) vwCl [(aG, .inr (2, [.ref aV, .int gc, .int gs, .int gb, .int gf, .int gl, .int gh, .int gn])), (aV, .inl (cI, 14, .inl gv))] H) (hD : va_D A [(aG, .inr (2, [.ref aV, .int gc, .int gs, .int gb, .int gf, .int gl, .int gh, .int gn])), (aV, .inl (cI, 14, .inl gv))]) (hS : va_S A H0 H locs) (hA : ∀ q, H0.size ≤ q → A q) (hR : F = f_X1_setFeigning gn p0) (kR : ∀ (pc : Nat) (ls : Array Slot) (H : Heap) (locs : List Loc) (gf' : Int32) (gn' : Int32), va_P (dC, dI) vwCl [(aG, .inr (2, [.ref aV, .int gc, .int gs, .int gb, .int gf', .int gl, .int gh, .int gn'])), (aV, .inl (cI, 14, .inl gv))] H → va_D A [(aG, .inr (2, [.ref aV, .int gc, .int gs, .int gb, .int gf', .int gl, .int gh, .int gn'])), (aV, .inl (cI, 14, .inl gv))] → va_S A H0 H locs → (gf', gn') = F → decode cX1_setFeigning pc = .ok (.return_, 1) → W p l e rm_X1_setFeigning s m args below meth c H locs 0 0 Q (F0 m pc ls [])) (ls : Array Slot) (hl : lv_has ls 2 [(0, .ref aG), (1, .int p0)]) : W p l e rm_X1_setFeigning s m args below meth c H locs 0 0 Q (F0 m 0 ls []) := by
  have hR := hR.trans e_X1_setFeigning
  refine lv_aload_n hx hb dX1_setFeigning_0 rfl (lv_at hl 0 rfl) ?_
  refine lv_iload_n hx hb dX1_setFeigning_1 rfl (lv_at hl 1 rfl) ?_
  refine va_put (D := (dC, dI)) (ci := 2) (v := .int p0) (ty := .boolean) (C := RX1) (T := TX1) (N := 8) hx hb hts inC_X1 tyX1 tyX1_ok nmX1 hown hK hP hD hS 0 rfl rfl 4 (by decide) (hts (.fieldLink RX1 33 "Counterpointery$Ground" "feigning" "Z") (List.mem_cons_of_mem _ wm_61)) (fun _ h9 => h9) rfl (by decide +kernel) (zb_n hz_p0) (zb_f hz_p0) (Nat.le_of_ble_eq_true rfl) dX1_setFeigning_2 (fun H locs hP hD hS => ?_)
  have hP : va_P (dC, dI) vwCl [(aG, .inr (2, [.ref aV, .int gc, .int gs, .int gb, .int p0, .int gl, .int gh, .int gn])), (aV, .inl (cI, 14, .inl gv))] H := hP
  have hD : va_D A [(aG, .inr (2, [.ref aV, .int gc, .int gs, .int gb, .int p0, .int gl, .int gh, .int gn])), (aV, .inl (cI, 14, .inl gv))] := hD
  refine lv_aload_n hx hb dX1_setFeigning_5 rfl (lv_at hl 0 rfl) ?_
  refine lv_dup hx hb dX1_setFeigning_6 rfl ?_
  refine va_get (D := (dC, dI)) (ci := 2) (v := .int gn) (C := RX1) (T := TX1) (N := 8) hx hb hts inC_X1 hown hK hP 0 rfl rfl 7 (by decide) (hts (.fieldLink RX1 23 "Counterpointery$Ground" "changes" "I") (List.mem_cons_of_mem _ wm_58)) (fun _ h9 => h9) rfl dX1_setFeigning_7 ?_
  refine lv_iconst (v := (1 : Int32)) hx hb dX1_setFeigning_10 (by decide) ?_
  refine lv_iadd hx hb dX1_setFeigning_11 ?_
  refine va_put (D := (dC, dI)) (ci := 2) (v := .int (gn + (1 : Int32))) (ty := .int) (C := RX1) (T := TX1) (N := 8) hx hb hts inC_X1 tyX1 tyX1_ok nmX1 hown hK hP hD hS 0 rfl rfl 7 (by decide) (hts (.fieldLink RX1 23 "Counterpointery$Ground" "changes" "I") (List.mem_cons_of_mem _ wm_58)) (fun _ h9 => h9) rfl (by decide +kernel) rfl rfl (Nat.le_of_ble_eq_true rfl) dX1_setFeigning_12 (fun H locs hP hD hS => ?_)
  have hP : va_P (dC, dI) vwCl [(aG, .inr (2, [.ref aV, .int gc, .int gs, .int gb, .int p0, .int gl, .int gh, .int (gn + (1 : Int32))])), (aV, .inl (cI, 14, .inl gv))] H := hP
  have hD : va_D A [(aG, .inr (2, [.ref aV, .int gc, .int gs, .int gb, .int p0, .int gl, .int gh, .int (gn + (1 : Int32))])), (aV, .inl (cI, 14, .inl gv))] := hD
  exact kR 15 ls H locs p0 (gn + (1 : Int32)) hP hD hS hR.symm dX1_setFeigning_15
set_option maxHeartbeats 4000000 in
set_option maxRecDepth 100000 in
theorem m_X1_setFeigning (l : Launch) (dC : Nat → ClassId) (dI : Nat → Nat → Nat) (cI cJ : ClassId) (aG : Nat) (aV : Nat) (gc : Int32) (gs : Int32) (gb : Int32) (gf : Int32) (gl : Int32) (gh : Int32) (gn : Int32) (gv : Nat → Int32) (p0 : Int32) (hz_p0 : zb p0) (sz : Nat) : Met l yX1_setFeigning wsX1_setFeigning rm_X1_setFeigning (va_Pc [.ref aG, .int p0] (fun U => U.heap.size = sz ∧ va_P (dC, dI) vwCl [(aG, .inr (2, [.ref aV, .int gc, .int gs, .int gb, .int gf, .int gl, .int gh, .int gn])), (aV, .inl (cI, 14, .inl gv))] U.heap ∧ va_K (dC, dI) vwCl [(cI, .int), (cJ, .long)] U ∧ va_D (fun _ => True) [(aG, .inr (2, [.ref aV, .int gc, .int gs, .int gb, .int gf, .int gl, .int gh, .int gn])), (aV, .inl (cI, 14, .inl gv))])) (va_Qv (fun _ : Unit => True) (fun _ t => va_P (dC, dI) vwCl [(aG, .inr (2, [.ref aV, .int gc, .int gs, .int gb, .int ((f_X1_setFeigning gn p0).1), .int gl, .int gh, .int ((f_X1_setFeigning gn p0).2)])), (aV, .inl (cI, 14, .inl gv))] t.heap ∧ va_K (dC, dI) vwCl [(cI, .int), (cJ, .long)] t ∧ va_D (va_A [(aG, .inr (2, [.ref aV, .int gc, .int gs, .int gb, .int gf, .int gl, .int gh, .int gn])), (aV, .inl (cI, 14, .inl gv))] sz) [(aG, .inr (2, [.ref aV, .int gc, .int gs, .int gb, .int ((f_X1_setFeigning gn p0).1), .int gl, .int gh, .int ((f_X1_setFeigning gn p0).2)])), (aV, .inl (cI, 14, .inl gv))]) (va_A [(aG, .inr (2, [.ref aV, .int gc, .int gs, .int gb, .int gf, .int gl, .int gh, .int gn])), (aV, .inl (cI, 14, .inl gv))] sz)) 0 0 (va_A [(aG, .inr (2, [.ref aV, .int gc, .int gs, .int gb, .int gf, .int gl, .int gh, .int gn])), (aV, .inl (cI, 14, .inl gv))] sz) := by
  refine Met.ofW (cc := cX1_setFeigning) (maxL := 2) (ret := none) (by decide) rfl ?_
  intro p e s m args below meth c s₁ B hml hv
  obtain ⟨rfl, hsz, hP, hK, hD0⟩ := hv
  subst hsz
  have hl := lv_entry ([.ref aG, .int p0]) (n := 2) (Nat.le_of_ble_eq_true rfl)
  rw [lg_entry_eq]
  refine w_X1_setFeigning hz_p0 B.exec B.bytes hml (findClass_of_methodNamed B.named) (atoms_spec (ws := wsX1_setFeigning) B.pre) hK hP (hD0.self (sz := s.heap.size)) va_S.rf (fun q h => Or.inr h) rfl (fun pc ls H locs gf' gn' hP hD hS er hd => ?_) _ hl
  simp only [Prod.ext_iff] at er
  obtain ⟨e0, e1⟩ := er
  subst e0
  subst e1
  exact W.vret B.exec B.bytes B.returns (fun t ht hW => ⟨⟨(), rfl, trivial, by rw [ht]; exact hP, va_K.moved hW.alike hK, hD⟩, hS.F ht⟩) hS.2.2 hd B.notSynchronized
end
def f_X1_setRange (gn : Int32) (p0 : Int32) (p1 : Int32) : Int32 × Int32 × Int32 :=
  (p0, p1, (gn + (1 : Int32)))
theorem e_X1_setRange {gn : Int32} {p0 : Int32} {p1 : Int32} : f_X1_setRange gn p0 p1 = (p0, p1, (gn + (1 : Int32))) := rfl
section
variable {p : Program} {l : Launch} {e : Env} {s : State} {m : MethodId} {args : Array Value} {below : List Frame} {meth : Method} {c : Code} {Q : State → Prop} {H : Heap} {locs : List Loc} {dC : Nat → ClassId} {dI : Nat → Nat → Nat} {cI cJ : ClassId}
abbrev rm_X1_setRange : Room := { frames := 0, cells := 0, slots := 0, locals := 0 }
theorem hd_X1_setRange : yX1_setRange.cls = RX1 ∧ yX1_setRange.cls ≠ "java/lang/invoke/MethodHandle" ∧ yX1_setRange.cls ≠ "java/lang/invoke/VarHandle" ∧ (parseMethodDescriptor yX1_setRange.desc).map (fun d => d.parameters.length) = some 2 := by decide +kernel
set_option maxHeartbeats 4000000 in
set_option maxRecDepth 100000 in
theorem w_X1_setRange {aG : Nat} {aV : Nat} {gc : Int32} {gs : Int32} {gb : Int32} {gf : Int32} {gl : Int32} {gh : Int32} {gn : Int32} {gv : Nat → Int32} {p0 : Int32} {p1 : Int32} {F : Int32 × Int32 × Int32} (hx : p.tables.exec = Jvm.exec) (hb : c.code = cX1_setRange) (hml : c.maxLocals = 3) (hown : s.vm.findClass RX1 = some m.cls) (hts : ∀ w ∈ wsX1_setRange, w.before args s = true) (hK : va_K (dC, dI) vwCl [(cI, .int), (cJ, .long)] s) {A : Nat → Prop} {H0 : Heap} (hP : va_P (dC, dI) vwCl [(aG, .inr (2, [.ref aV, .int gc, .int gs, .int gb, .int gf, .int gl, .int gh, .int gn])), (aV, .inl (cI, 14, .inl gv))] H) (hD : va_D A [(aG, .inr (2, [.ref aV, .int gc, .int gs, .int gb, .int gf, .int gl, .int gh, .int gn])), (aV, .inl (cI, 14, .inl gv))]) (hS : va_S A H0 H locs) (hA : ∀ q, H0.size ≤ q → A q) (hR : F = f_X1_setRange gn p0 p1) (kR : ∀ (pc : Nat) (ls : Array Slot) (H : Heap) (locs : List Loc) (gl' : Int32) (gh' : Int32) (gn' : Int32), va_P (dC, dI) vwCl [(aG, .inr (2, [.ref aV, .int gc, .int gs, .int gb, .int gf, .int gl', .int gh', .int gn'])), (aV, .inl (cI, 14, .inl gv))] H → va_D A [(aG, .inr (2, [.ref aV, .int gc, .int gs, .int gb, .int gf, .int gl', .int gh', .int gn'])), (aV, .inl (cI, 14, .inl gv))] → va_S A H0 H locs → (gl', gh', gn') = F → decode cX1_setRange pc = .ok (.return_, 1) → W p l e rm_X1_setRange s m args below meth c H locs 0 0 Q (F0 m pc ls [])) (ls : Array Slot) (hl : lv_has ls 3 [(0, .ref aG), (1, .int p0), (2, .int p1)]) : W p l e rm_X1_setRange s m args below meth c H locs 0 0 Q (F0 m 0 ls []) := by
  have hR := hR.trans e_X1_setRange
  refine lv_aload_n hx hb dX1_setRange_0 rfl (lv_at hl 0 rfl) ?_
  refine lv_iload_n hx hb dX1_setRange_1 rfl (lv_at hl 1 rfl) ?_
  refine va_put (D := (dC, dI)) (ci := 2) (v := .int p0) (ty := .int) (C := RX1) (T := TX1) (N := 8) hx hb hts inC_X1 tyX1 tyX1_ok nmX1 hown hK hP hD hS 0 rfl rfl 5 (by decide) (hts (.fieldLink RX1 13 "Counterpointery$Ground" "low" "I") (List.mem_cons_of_mem _ wm_55)) (fun _ h9 => h9) rfl (by decide +kernel) rfl rfl (Nat.le_of_ble_eq_true rfl) dX1_setRange_2 (fun H locs hP hD hS => ?_)
  have hP : va_P (dC, dI) vwCl [(aG, .inr (2, [.ref aV, .int gc, .int gs, .int gb, .int gf, .int p0, .int gh, .int gn])), (aV, .inl (cI, 14, .inl gv))] H := hP
  have hD : va_D A [(aG, .inr (2, [.ref aV, .int gc, .int gs, .int gb, .int gf, .int p0, .int gh, .int gn])), (aV, .inl (cI, 14, .inl gv))] := hD
  refine lv_aload_n hx hb dX1_setRange_5 rfl (lv_at hl 0 rfl) ?_
  refine lv_iload_n hx hb dX1_setRange_6 rfl (lv_at hl 2 rfl) ?_
  refine va_put (D := (dC, dI)) (ci := 2) (v := .int p1) (ty := .int) (C := RX1) (T := TX1) (N := 8) hx hb hts inC_X1 tyX1 tyX1_ok nmX1 hown hK hP hD hS 0 rfl rfl 6 (by decide) (hts (.fieldLink RX1 17 "Counterpointery$Ground" "high" "I") (List.mem_cons_of_mem _ wm_56)) (fun _ h9 => h9) rfl (by decide +kernel) rfl rfl (Nat.le_of_ble_eq_true rfl) dX1_setRange_7 (fun H locs hP hD hS => ?_)
  have hP : va_P (dC, dI) vwCl [(aG, .inr (2, [.ref aV, .int gc, .int gs, .int gb, .int gf, .int p0, .int p1, .int gn])), (aV, .inl (cI, 14, .inl gv))] H := hP
  have hD : va_D A [(aG, .inr (2, [.ref aV, .int gc, .int gs, .int gb, .int gf, .int p0, .int p1, .int gn])), (aV, .inl (cI, 14, .inl gv))] := hD
  refine lv_aload_n hx hb dX1_setRange_10 rfl (lv_at hl 0 rfl) ?_
  refine lv_dup hx hb dX1_setRange_11 rfl ?_
  refine va_get (D := (dC, dI)) (ci := 2) (v := .int gn) (C := RX1) (T := TX1) (N := 8) hx hb hts inC_X1 hown hK hP 0 rfl rfl 7 (by decide) (hts (.fieldLink RX1 23 "Counterpointery$Ground" "changes" "I") (List.mem_cons_of_mem _ wm_58)) (fun _ h9 => h9) rfl dX1_setRange_12 ?_
  refine lv_iconst (v := (1 : Int32)) hx hb dX1_setRange_15 (by decide) ?_
  refine lv_iadd hx hb dX1_setRange_16 ?_
  refine va_put (D := (dC, dI)) (ci := 2) (v := .int (gn + (1 : Int32))) (ty := .int) (C := RX1) (T := TX1) (N := 8) hx hb hts inC_X1 tyX1 tyX1_ok nmX1 hown hK hP hD hS 0 rfl rfl 7 (by decide) (hts (.fieldLink RX1 23 "Counterpointery$Ground" "changes" "I") (List.mem_cons_of_mem _ wm_58)) (fun _ h9 => h9) rfl (by decide +kernel) rfl rfl (Nat.le_of_ble_eq_true rfl) dX1_setRange_17 (fun H locs hP hD hS => ?_)
  have hP : va_P (dC, dI) vwCl [(aG, .inr (2, [.ref aV, .int gc, .int gs, .int gb, .int gf, .int p0, .int p1, .int (gn + (1 : Int32))])), (aV, .inl (cI, 14, .inl gv))] H := hP
  have hD : va_D A [(aG, .inr (2, [.ref aV, .int gc, .int gs, .int gb, .int gf, .int p0, .int p1, .int (gn + (1 : Int32))])), (aV, .inl (cI, 14, .inl gv))] := hD
  exact kR 20 ls H locs p0 p1 (gn + (1 : Int32)) hP hD hS hR.symm dX1_setRange_20
set_option maxHeartbeats 4000000 in
set_option maxRecDepth 100000 in
theorem m_X1_setRange (l : Launch) (dC : Nat → ClassId) (dI : Nat → Nat → Nat) (cI cJ : ClassId) (aG : Nat) (aV : Nat) (gc : Int32) (gs : Int32) (gb : Int32) (gf : Int32) (gl : Int32) (gh : Int32) (gn : Int32) (gv : Nat → Int32) (p0 : Int32) (p1 : Int32) (sz : Nat) : Met l yX1_setRange wsX1_setRange rm_X1_setRange (va_Pc [.ref aG, .int p0, .int p1] (fun U => U.heap.size = sz ∧ va_P (dC, dI) vwCl [(aG, .inr (2, [.ref aV, .int gc, .int gs, .int gb, .int gf, .int gl, .int gh, .int gn])), (aV, .inl (cI, 14, .inl gv))] U.heap ∧ va_K (dC, dI) vwCl [(cI, .int), (cJ, .long)] U ∧ va_D (fun _ => True) [(aG, .inr (2, [.ref aV, .int gc, .int gs, .int gb, .int gf, .int gl, .int gh, .int gn])), (aV, .inl (cI, 14, .inl gv))])) (va_Qv (fun _ : Unit => True) (fun _ t => va_P (dC, dI) vwCl [(aG, .inr (2, [.ref aV, .int gc, .int gs, .int gb, .int gf, .int ((f_X1_setRange gn p0 p1).1), .int ((f_X1_setRange gn p0 p1).2.1), .int ((f_X1_setRange gn p0 p1).2.2)])), (aV, .inl (cI, 14, .inl gv))] t.heap ∧ va_K (dC, dI) vwCl [(cI, .int), (cJ, .long)] t ∧ va_D (va_A [(aG, .inr (2, [.ref aV, .int gc, .int gs, .int gb, .int gf, .int gl, .int gh, .int gn])), (aV, .inl (cI, 14, .inl gv))] sz) [(aG, .inr (2, [.ref aV, .int gc, .int gs, .int gb, .int gf, .int ((f_X1_setRange gn p0 p1).1), .int ((f_X1_setRange gn p0 p1).2.1), .int ((f_X1_setRange gn p0 p1).2.2)])), (aV, .inl (cI, 14, .inl gv))]) (va_A [(aG, .inr (2, [.ref aV, .int gc, .int gs, .int gb, .int gf, .int gl, .int gh, .int gn])), (aV, .inl (cI, 14, .inl gv))] sz)) 0 0 (va_A [(aG, .inr (2, [.ref aV, .int gc, .int gs, .int gb, .int gf, .int gl, .int gh, .int gn])), (aV, .inl (cI, 14, .inl gv))] sz) := by
  refine Met.ofW (cc := cX1_setRange) (maxL := 3) (ret := none) (by decide) rfl ?_
  intro p e s m args below meth c s₁ B hml hv
  obtain ⟨rfl, hsz, hP, hK, hD0⟩ := hv
  subst hsz
  have hl := lv_entry ([.ref aG, .int p0, .int p1]) (n := 3) (Nat.le_of_ble_eq_true rfl)
  rw [lg_entry_eq]
  refine w_X1_setRange B.exec B.bytes hml (findClass_of_methodNamed B.named) (atoms_spec (ws := wsX1_setRange) B.pre) hK hP (hD0.self (sz := s.heap.size)) va_S.rf (fun q h => Or.inr h) rfl (fun pc ls H locs gl' gh' gn' hP hD hS er hd => ?_) _ hl
  simp only [Prod.ext_iff] at er
  obtain ⟨e0, e1, e2⟩ := er
  subst e0
  subst e1
  subst e2
  exact W.vret B.exec B.bytes B.returns (fun t ht hW => ⟨⟨(), rfl, trivial, by rw [ht]; exact hP, va_K.moved hW.alike hK, hD⟩, hS.F ht⟩) hS.2.2 hd B.notSynchronized
end
