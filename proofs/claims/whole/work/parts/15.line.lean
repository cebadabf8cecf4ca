def f_X3_length (tc : Int32) : Int32 :=
  tc
theorem e_X3_length {tc : Int32} : f_X3_length tc = tc := rfl
section
variable {p : Program} {l : Launch} {e : Env} {s : State} {m : MethodId} {args : Array Value} {below : List Frame} {meth : Method} {c : Code} {Q : State → Prop} {H : Heap} {locs : List Loc} {dC : Nat → ClassId} {dI : Nat → Nat → Nat} {cI cJ : ClassId}
abbrev rm_X3_length : Room := { frames := 0, cells := 0, slots := 0, locals := 0 }
theorem hd_X3_length : yX3_length.cls = RX3 ∧ yX3_length.cls ≠ "java/lang/invoke/MethodHandle" ∧ yX3_length.cls ≠ "java/lang/invoke/VarHandle" ∧ (parseMethodDescriptor yX3_length.desc).map (fun d => d.parameters.length) = some 0 := by decide +kernel
set_option maxHeartbeats 4000000 in
set_option maxRecDepth 100000 in
theorem w_X3_length {aL : Nat} {aG : Nat} {aT : Nat} {aV : Nat} {tc : Int32} {tv : Nat → Int32} {gc : Int32} {gs : Int32} {gb : Int32} {gf : Int32} {gl : Int32} {gh : Int32} {gn : Int32} {gv : Nat → Int32} {F : Int32} (hx : p.tables.exec = Jvm.exec) (hb : c.code = cX3_length) (hml : c.maxLocals = 1) (hown : s.vm.findClass RX3 = some m.cls) (hts : ∀ w ∈ wsX3_length, w.before args s = true) (hK : va_K (dC, dI) vwCl [(cI, .int), (cJ, .long)] s) (hP : va_P (dC, dI) vwCl [(aL, .inr (4, [.ref aG, .ref aT, .int tc])), (aT, .inl (cI, 53, .inl tv)), (aG, .inr (2, [.ref aV, .int gc, .int gs, .int gb, .int gf, .int gl, .int gh, .int gn])), (aV, .inl (cI, 14, .inl gv))] H) (hR : F = f_X3_length tc) (kR : ∀ (r : Int32) (pc : Nat) (ls : Array Slot), r = F → decode cX3_length pc = .ok (.ireturn, 1) → W p l e rm_X3_length s m args below meth c H locs 0 0 Q (F0 m pc ls [.int r])) (ls : Array Slot) (hl : lv_has ls 1 [(0, .ref aL)]) : W p l e rm_X3_length s m args below meth c H locs 0 0 Q (F0 m 0 ls []) := by
  have hR := hR.trans e_X3_length
  refine lv_aload_n hx hb dX3_length_0 rfl (lv_at hl 0 rfl) ?_
  refine va_get (D := (dC, dI)) (ci := 4) (v := .int tc) (C := RX3) (T := TX3) (N := 3) hx hb hts inC_X3 hown hK hP 0 rfl rfl 2 (by decide) (hts (.fieldLink RX3 17 "Counterpointery$Line" "count" "I") (List.mem_cons_of_mem _ wm_5)) (fun _ h9 => h9) rfl dX3_length_1 ?_
  exact kR tc 4 ls hR.symm dX3_length_4
set_option maxHeartbeats 4000000 in
set_option maxRecDepth 100000 in
theorem m_X3_length (l : Launch) (dC : Nat → ClassId) (dI : Nat → Nat → Nat) (cI cJ : ClassId) (aL : Nat) (aG : Nat) (aT : Nat) (aV : Nat) (tc : Int32) (tv : Nat → Int32) (gc : Int32) (gs : Int32) (gb : Int32) (gf : Int32) (gl : Int32) (gh : Int32) (gn : Int32) (gv : Nat → Int32) : Met l yX3_length wsX3_length rm_X3_length (va_Pc [.ref aL] (fun U => va_P (dC, dI) vwCl [(aL, .inr (4, [.ref aG, .ref aT, .int tc])), (aT, .inl (cI, 53, .inl tv)), (aG, .inr (2, [.ref aV, .int gc, .int gs, .int gb, .int gf, .int gl, .int gh, .int gn])), (aV, .inl (cI, 14, .inl gv))] U.heap ∧ va_K (dC, dI) vwCl [(cI, .int), (cJ, .long)] U)) (vp_Si (fun r => r = f_X3_length tc)) 0 0 (fun _ => False) := by
  refine Met.ofW (cc := cX3_length) (maxL := 1) (ret := (some .int)) (by decide) rfl ?_
  intro p e s m args below meth c s₁ B hml hv
  obtain ⟨rfl, hP, hK⟩ := hv
  have hl := lv_entry ([.ref aL]) (n := 1) (Nat.le_of_ble_eq_true rfl)
  rw [lg_entry_eq]
  refine w_X3_length B.exec B.bytes hml (findClass_of_methodNamed B.named) (atoms_spec (ws := wsX3_length) B.pre) hK hP rfl (fun r pc ls er hd => ?_) _ hl
  exact W.iret B.exec B.bytes B.returns (fun t ht hW => ⟨r, rfl, er, ht⟩) (fun _ h => by cases h) hd B.notSynchronized
end
def f_X3_has (tc : Int32) (p0 : Int32) : Int32 :=
  (if p0 < 0 then (0 : Int32) else (if tc ≤ p0 then (0 : Int32) else (1 : Int32)))
theorem e_X3_has {tc : Int32} {p0 : Int32} : f_X3_has tc p0 = (if p0 < 0 then (0 : Int32) else (if tc ≤ p0 then (0 : Int32) else (1 : Int32))) := rfl
section
variable {p : Program} {l : Launch} {e : Env} {s : State} {m : MethodId} {args : Array Value} {below : List Frame} {meth : Method} {c : Code} {Q : State → Prop} {H : Heap} {locs : List Loc} {dC : Nat → ClassId} {dI : Nat → Nat → Nat} {cI cJ : ClassId}
abbrev rm_X3_has : Room := { frames := 0, cells := 0, slots := 0, locals := 0 }
theorem hd_X3_has : yX3_has.cls = RX3 ∧ yX3_has.cls ≠ "java/lang/invoke/MethodHandle" ∧ yX3_has.cls ≠ "java/lang/invoke/VarHandle" ∧ (parseMethodDescriptor yX3_has.desc).map (fun d => d.parameters.length) = some 1 := by decide +kernel
set_option maxHeartbeats 4000000 in
set_option maxRecDepth 100000 in
theorem w_X3_has {aL : Nat} {aG : Nat} {aT : Nat} {aV : Nat} {tc : Int32} {tv : Nat → Int32} {gc : Int32} {gs : Int32} {gb : Int32} {gf : Int32} {gl : Int32} {gh : Int32} {gn : Int32} {gv : Nat → Int32} {p0 : Int32} {F : Int32} (hx : p.tables.exec = Jvm.exec) (hb : c.code = cX3_has) (hml : c.maxLocals = 2) (hown : s.vm.findClass RX3 = some m.cls) (hts : ∀ w ∈ wsX3_has, w.before args s = true) (hK : va_K (dC, dI) vwCl [(cI, .int), (cJ, .long)] s) (hP : va_P (dC, dI) vwCl [(aL, .inr (4, [.ref aG, .ref aT, .int tc])), (aT, .inl (cI, 53, .inl tv)), (aG, .inr (2, [.ref aV, .int gc, .int gs, .int gb, .int gf, .int gl, .int gh, .int gn])), (aV, .inl (cI, 14, .inl gv))] H) (hR : F = f_X3_has tc p0) (kR : ∀ (r : Int32) (pc : Nat) (ls : Array Slot), zb r → r = F → decode cX3_has pc = .ok (.ireturn, 1) → W p l e rm_X3_has s m args below meth c H locs 0 0 Q (F0 m pc ls [.int r])) (ls : Array Slot) (hl : lv_has ls 2 [(0, .ref aL), (1, .int p0)]) : W p l e rm_X3_has s m args below meth c H locs 0 0 Q (F0 m 0 ls []) := by
  have hR := hR.trans e_X3_has
  refine lv_iload_n hx hb dX3_has_0 rfl (lv_at hl 1 rfl) ?_
  refine lv_if_lt (tgt := 16) hx hb dX3_has_1 (by decide) (fun c_1 => ?_) (fun c_1 => ?_)
  · have hR := hR.trans (if_pos c_1)
    refine lv_iconst (v := (0 : Int32)) hx hb dX3_has_16 (by decide) ?_
    exact kR (0 : Int32) 17 ls (by first | exact Or.inl rfl | exact Or.inr rfl) hR.symm dX3_has_17
  · have hR := hR.trans (if_neg c_1)
    refine lv_iload_n hx hb dX3_has_4 rfl (lv_at hl 1 rfl) ?_
    refine lv_aload_n hx hb dX3_has_5 rfl (lv_at hl 0 rfl) ?_
    refine va_get (D := (dC, dI)) (ci := 4) (v := .int tc) (C := RX3) (T := TX3) (N := 3) hx hb hts inC_X3 hown hK hP 0 rfl rfl 2 (by decide) (hts (.fieldLink RX3 17 "Counterpointery$Line" "count" "I") (List.mem_cons_of_mem _ wm_5)) (fun _ h9 => h9) rfl dX3_has_6 ?_
    refine lv_icmp_ge (tgt := 16) hx hb dX3_has_9 (by decide) (fun c_2 => ?_) (fun c_2 => ?_)
    · have hR := hR.trans (if_pos c_2)
      refine lv_iconst (v := (0 : Int32)) hx hb dX3_has_16 (by decide) ?_
      exact kR (0 : Int32) 17 ls (by first | exact Or.inl rfl | exact Or.inr rfl) hR.symm dX3_has_17
    · have hR := hR.trans (if_neg c_2)
      refine lv_iconst (v := (1 : Int32)) hx hb dX3_has_12 (by decide) ?_
      refine lv_goto (tgt := 17) hx hb dX3_has_13 (by decide) ?_
      exact kR (1 : Int32) 17 ls (by first | exact Or.inl rfl | exact Or.inr rfl) hR.symm dX3_has_17
set_option maxHeartbeats 4000000 in
set_option maxRecDepth 100000 in
theorem m_X3_has (l : Launch) (dC : Nat → ClassId) (dI : Nat → Nat → Nat) (cI cJ : ClassId) (aL : Nat) (aG : Nat) (aT : Nat) (aV : Nat) (tc : Int32) (tv : Nat → Int32) (gc : Int32) (gs : Int32) (gb : Int32) (gf : Int32) (gl : Int32) (gh : Int32) (gn : Int32) (gv : Nat → Int32) (p0 : Int32) : Met l yX3_has wsX3_has rm_X3_has (va_Pc [.ref aL, .int p0] (fun U => va_P (dC, dI) vwCl [(aL, .inr (4, [.ref aG, .ref aT, .int tc])), (aT, .inl (cI, 53, .inl tv)), (aG, .inr (2, [.ref aV, .int gc, .int gs, .int gb, .int gf, .int gl, .int gh, .int gn])), (aV, .inl (cI, 14, .inl gv))] U.heap ∧ va_K (dC, dI) vwCl [(cI, .int), (cJ, .long)] U)) (vp_Si (fun r => r = f_X3_has tc p0)) 0 0 (fun _ => False) := by
  refine Met.ofW (cc := cX3_has) (maxL := 2) (ret := (some .boolean)) (by decide) rfl ?_
  intro p e s m args below meth c s₁ B hml hv
  obtain ⟨rfl, hP, hK⟩ := hv
  have hl := lv_entry ([.ref aL, .int p0]) (n := 2) (Nat.le_of_ble_eq_true rfl)
  rw [lg_entry_eq]
  refine w_X3_has B.exec B.bytes hml (findClass_of_methodNamed B.named) (atoms_spec (ws := wsX3_has) B.pre) hK hP rfl (fun r pc ls hz er hd => ?_) _ hl
  exact W.zret B.exec B.bytes B.returns (zb_n hz) (fun t ht hW => ⟨r, rfl, er, ht⟩) (fun _ h => by cases h) hd B.notSynchronized
end
def f_X3_isFull (tc : Int32) (gc : Int32) (gs : Int32) : Int32 :=
  (if tc < (f_X1_room gc gs) then (0 : Int32) else (1 : Int32))
theorem e_X3_isFull {tc : Int32} {gc : Int32} {gs : Int32} : f_X3_isFull tc gc gs = (if tc < (f_X1_room gc gs) then (0 : Int32) else (1 : Int32)) := rfl
section
variable {p : Program} {l : Launch} {e : Env} {s : State} {m : MethodId} {args : Array Value} {below : List Frame} {meth : Method} {c : Code} {Q : State → Prop} {H : Heap} {locs : List Loc} {dC : Nat → ClassId} {dI : Nat → Nat → Nat} {cI cJ : ClassId}
abbrev rm_X3_isFull : Room := { frames := 1, cells := 0, slots := 0, locals := 20 }
theorem hd_X3_isFull : yX3_isFull.cls = RX3 ∧ yX3_isFull.cls ≠ "java/lang/invoke/MethodHandle" ∧ yX3_isFull.cls ≠ "java/lang/invoke/VarHandle" ∧ (parseMethodDescriptor yX3_isFull.desc).map (fun d => d.parameters.length) = some 0 := by decide +kernel
set_option maxHeartbeats 4000000 in
set_option maxRecDepth 100000 in
theorem w_X3_isFull {aL : Nat} {aG : Nat} {aT : Nat} {aV : Nat} {tc : Int32} {tv : Nat → Int32} {gc : Int32} {gs : Int32} {gb : Int32} {gf : Int32} {gl : Int32} {gh : Int32} {gn : Int32} {gv : Nat → Int32} {F : Int32} (hx : p.tables.exec = Jvm.exec) (hb : c.code = cX3_isFull) (hml : c.maxLocals = 1) (hown : s.vm.findClass RX3 = some m.cls) (hts : ∀ w ∈ wsX3_isFull, w.before args s = true) (hK : va_K (dC, dI) vwCl [(cI, .int), (cJ, .long)] s) (hP : va_P (dC, dI) vwCl [(aL, .inr (4, [.ref aG, .ref aT, .int tc])), (aT, .inl (cI, 53, .inl tv)), (aG, .inr (2, [.ref aV, .int gc, .int gs, .int gb, .int gf, .int gl, .int gh, .int gn])), (aV, .inl (cI, 14, .inl gv))] H) (hR : F = f_X3_isFull tc gc gs) (kR : ∀ (r : Int32) (pc : Nat) (ls : Array Slot), zb r → r = F → decode cX3_isFull pc = .ok (.ireturn, 1) → W p l e rm_X3_isFull s m args below meth c H locs 0 0 Q (F0 m pc ls [.int r])) (ls : Array Slot) (hl : lv_has ls 1 [(0, .ref aL)]) : W p l e rm_X3_isFull s m args below meth c H locs 0 0 Q (F0 m 0 ls []) := by
  have hR := hR.trans e_X3_isFull
  refine lv_aload_n hx hb dX3_isFull_0 rfl (lv_at hl 0 rfl) ?_
  refine va_get (D := (dC, dI)) (ci := 4) (v := .int tc) (C := RX3) (T := TX3) (N := 3) hx hb hts inC_X3 hown hK hP 0 rfl rfl 2 (by decide) (hts (.fieldLink RX3 17 "Counterpointery$Line" "count" "I") (List.mem_cons_of_mem _ wm_5)) (fun _ h9 => h9) rfl dX3_isFull_1 ?_
  refine lv_aload_n hx hb dX3_isFull_4 rfl (lv_at hl 0 rfl) ?_
  refine va_get (D := (dC, dI)) (ci := 4) (v := .ref aG) (C := RX3) (T := TX3) (N := 3) hx hb hts inC_X3 hown hK hP 0 rfl rfl 0 (by decide) (hts (.fieldLink RX3 7 "Counterpointery$Line" "ground" "LCounterpointery$Ground;") (List.mem_cons_of_mem _ wm_138)) (fun _ h9 => h9) rfl dX3_isFull_5 ?_
  refine rV_i (q0 := 0) (As := []) (rest := [.int tc]) ⟨hx, hb, hml, hown, hts⟩ (m_X1_room l dC dI cI cJ aG aV gc gs gb gf gl gh gn gv) (cwV 0 hts (gi_V wm_139 wm_140 wm_141 wm_65 wm_142) rfl rfl rfl hd_X1_room ⟨Nat.le_of_ble_eq_true rfl, Nat.le_of_ble_eq_true rfl⟩) hK (hP.sub [2, 3] rfl) rfl rfl rfl hl.1 rfl (Nat.le_of_ble_eq_true rfl) dX3_isFull_8 ⟨Nat.zero_le _, Nat.zero_le _⟩ ?_
  refine lv_icmp_lt (tgt := 18) hx hb dX3_isFull_11 (by decide) (fun c_1 => ?_) (fun c_1 => ?_)
  · have hR := hR.trans (if_pos c_1)
    refine lv_iconst (v := (0 : Int32)) hx hb dX3_isFull_18 (by decide) ?_
    exact kR (0 : Int32) 19 ls (by first | exact Or.inl rfl | exact Or.inr rfl) hR.symm dX3_isFull_19
  · have hR := hR.trans (if_neg c_1)
    refine lv_iconst (v := (1 : Int32)) hx hb dX3_isFull_14 (by decide) ?_
    refine lv_goto (tgt := 19) hx hb dX3_isFull_15 (by decide) ?_
    exact kR (1 : Int32) 19 ls (by first | exact Or.inl rfl | exact Or.inr rfl) hR.symm dX3_isFull_19
set_option maxHeartbeats 4000000 in
set_option maxRecDepth 100000 in
theorem m_X3_isFull (l : Launch) (dC : Nat → ClassId) (dI : Nat → Nat → Nat) (cI cJ : ClassId) (aL : Nat) (aG : Nat) (aT : Nat) (aV : Nat) (tc : Int32) (tv : Nat → Int32) (gc : Int32) (gs : Int32) (gb : Int32) (gf : Int32) (gl : Int32) (gh : Int32) (gn : Int32) (gv : Nat → Int32) : Met l yX3_isFull wsX3_isFull rm_X3_isFull (va_Pc [.ref aL] (fun U => va_P (dC, dI) vwCl [(aL, .inr (4, [.ref aG, .ref aT, .int tc])), (aT, .inl (cI, 53, .inl tv)), (aG, .inr (2, [.ref aV, .int gc, .int gs, .int gb, .int gf, .int gl, .int gh, .int gn])), (aV, .inl (cI, 14, .inl gv))] U.heap ∧ va_K (dC, dI) vwCl [(cI, .int), (cJ, .long)] U)) (vp_Si (fun r => r = f_X3_isFull tc gc gs)) 0 0 (fun _ => False) := by
  refine Met.ofW (cc := cX3_isFull) (maxL := 1) (ret := (some .boolean)) (by decide) rfl ?_
  intro p e s m args below meth c s₁ B hml hv
  obtain ⟨rfl, hP, hK⟩ := hv
  have hl := lv_entry ([.ref aL]) (n := 1) (Nat.le_of_ble_eq_true rfl)
  rw [lg_entry_eq]
  refine w_X3_isFull B.exec B.bytes hml (findClass_of_methodNamed B.named) (atoms_spec (ws := wsX3_isFull) B.pre) hK hP rfl (fun r pc ls hz er hd => ?_) _ hl
  exact W.zret B.exec B.bytes B.returns (zb_n hz) (fun t ht hW => ⟨r, rfl, er, ht⟩) (fun _ h => by cases h) hd B.notSynchronized
end
def f_X3_isWhole (tc : Int32) (gc : Int32) (gs : Int32) : Int32 :=
  (if (f_X1_size gc) < (2 : Int32) then (0 : Int32) else (if tc = (f_X1_room gc gs) then (1 : Int32) else (0 : Int32)))
theorem e_X3_isWhole {tc : Int32} {gc : Int32} {gs : Int32} : f_X3_isWhole tc gc gs = (if (f_X1_size gc) < (2 : Int32) then (0 : Int32) else (if tc = (f_X1_room gc gs) then (1 : Int32) else (0 : Int32))) := rfl
section
variable {p : Program} {l : Launch} {e : Env} {s : State} {m : MethodId} {args : Array Value} {below : List Frame} {meth : Method} {c : Code} {Q : State → Prop} {H : Heap} {locs : List Loc} {dC : Nat → ClassId} {dI : Nat → Nat → Nat} {cI cJ : ClassId}
abbrev rm_X3_isWhole : Room := { frames := 1, cells := 0, slots := 0, locals := 20 }
theorem hd_X3_isWhole : yX3_isWhole.cls = RX3 ∧ yX3_isWhole.cls ≠ "java/lang/invoke/MethodHandle" ∧ yX3_isWhole.cls ≠ "java/lang/invoke/VarHandle" ∧ (parseMethodDescriptor yX3_isWhole.desc).map (fun d => d.parameters.length) = some 0 := by decide +kernel
set_option maxHeartbeats 4000000 in
set_option maxRecDepth 100000 in
theorem w_X3_isWhole {aL : Nat} {aG : Nat} {aT : Nat} {aV : Nat} {tc : Int32} {tv : Nat → Int32} {gc : Int32} {gs : Int32} {gb : Int32} {gf : Int32} {gl : Int32} {gh : Int32} {gn : Int32} {gv : Nat → Int32} {F : Int32} (hx : p.tables.exec = Jvm.exec) (hb : c.code = cX3_isWhole) (hml : c.maxLocals = 1) (hown : s.vm.findClass RX3 = some m.cls) (hts : ∀ w ∈ wsX3_isWhole, w.before args s = true) (hK : va_K (dC, dI) vwCl [(cI, .int), (cJ, .long)] s) (hP : va_P (dC, dI) vwCl [(aL, .inr (4, [.ref aG, .ref aT, .int tc])), (aT, .inl (cI, 53, .inl tv)), (aG, .inr (2, [.ref aV, .int gc, .int gs, .int gb, .int gf, .int gl, .int gh, .int gn])), (aV, .inl (cI, 14, .inl gv))] H) (hR : F = f_X3_isWhole tc gc gs) (kR : ∀ (r : Int32) (pc : Nat) (ls : Array Slot), zb r → r = F → decode cX3_isWhole pc = .ok (.ireturn, 1) → W p l e rm_X3_isWhole s m args below meth c H locs 0 0 Q (F0 m pc ls [.int r])) (ls : Array Slot) (hl : lv_has ls 1 [(0, .ref aL)]) : W p l e rm_X3_isWhole s m args below meth c H locs 0 0 Q (F0 m 0 ls []) := by
  have hR := hR.trans e_X3_isWhole
  refine lv_aload_n hx hb dX3_isWhole_0 rfl (lv_at hl 0 rfl) ?_
  refine va_get (D := (dC, dI)) (ci := 4) (v := .ref aG) (C := RX3) (T := TX3) (N := 3) hx hb hts inC_X3 hown hK hP 0 rfl rfl 0 (by decide) (hts (.fieldLink RX3 7 "Counterpointery$Line" "ground" "LCounterpointery$Ground;") (List.mem_cons_of_mem _ wm_138)) (fun _ h9 => h9) rfl dX3_isWhole_1 ?_
  refine rV_i (q0 := 0) (As := []) (rest := []) ⟨hx, hb, hml, hown, hts⟩ (m_X1_size l dC dI cI cJ aG aV gc gs gb gf gl gh gn gv) (cwV 0 hts (gi_V wm_143 wm_144 wm_145 wm_65 wm_146) rfl rfl rfl hd_X1_size ⟨Nat.le_of_ble_eq_true rfl, Nat.le_of_ble_eq_true rfl⟩) hK (hP.sub [2, 3] rfl) rfl rfl rfl hl.1 rfl (Nat.le_of_ble_eq_true rfl) dX3_isWhole_4 ⟨Nat.zero_le _, Nat.zero_le _⟩ ?_
  refine lv_iconst (v := (2 : Int32)) hx hb dX3_isWhole_7 (by decide) ?_
  refine lv_icmp_lt (tgt := 29) hx hb dX3_isWhole_8 (by decide) (fun c_1 => ?_) (fun c_1 => ?_)
  · have hR := hR.trans (if_pos c_1)
    refine lv_iconst (v := (0 : Int32)) hx hb dX3_isWhole_29 (by decide) ?_
    exact kR (0 : Int32) 30 ls (by first | exact Or.inl rfl | exact Or.inr rfl) hR.symm dX3_isWhole_30
  · have hR := hR.trans (if_neg c_1)
    refine lv_aload_n hx hb dX3_isWhole_11 rfl (lv_at hl 0 rfl) ?_
    refine va_get (D := (dC, dI)) (ci := 4) (v := .int tc) (C := RX3) (T := TX3) (N := 3) hx hb hts inC_X3 hown hK hP 0 rfl rfl 2 (by decide) (hts (.fieldLink RX3 17 "Counterpointery$Line" "count" "I") (List.mem_cons_of_mem _ wm_5)) (fun _ h9 => h9) rfl dX3_isWhole_12 ?_
    refine lv_aload_n hx hb dX3_isWhole_15 rfl (lv_at hl 0 rfl) ?_
    refine va_get (D := (dC, dI)) (ci := 4) (v := .ref aG) (C := RX3) (T := TX3) (N := 3) hx hb hts inC_X3 hown hK hP 0 rfl rfl 0 (by decide) (hts (.fieldLink RX3 7 "Counterpointery$Line" "ground" "LCounterpointery$Ground;") (List.mem_cons_of_mem _ wm_138)) (fun _ h9 => h9) rfl dX3_isWhole_16 ?_
    refine rV_i (q0 := 0) (As := []) (rest := [.int tc]) ⟨hx, hb, hml, hown, hts⟩ (m_X1_room l dC dI cI cJ aG aV gc gs gb gf gl gh gn gv) (cwV 0 hts (gi_V wm_139 wm_140 wm_141 wm_65 wm_142) rfl rfl rfl hd_X1_room ⟨Nat.le_of_ble_eq_true rfl, Nat.le_of_ble_eq_true rfl⟩) hK (hP.sub [2, 3] rfl) rfl rfl rfl hl.1 rfl (Nat.le_of_ble_eq_true rfl) dX3_isWhole_19 ⟨Nat.zero_le _, Nat.zero_le _⟩ ?_
    refine lv_icmp_ne (tgt := 29) hx hb dX3_isWhole_22 (by decide) (fun c_2 => ?_) (fun c_2 => ?_)
    · have hR := hR.trans (if_neg c_2)
      refine lv_iconst (v := (0 : Int32)) hx hb dX3_isWhole_29 (by decide) ?_
      exact kR (0 : Int32) 30 ls (by first | exact Or.inl rfl | exact Or.inr rfl) hR.symm dX3_isWhole_30
    · have hR := hR.trans (if_pos c_2)
      refine lv_iconst (v := (1 : Int32)) hx hb dX3_isWhole_25 (by decide) ?_
      refine lv_goto (tgt := 30) hx hb dX3_isWhole_26 (by decide) ?_
      exact kR (1 : Int32) 30 ls (by first | exact Or.inl rfl | exact Or.inr rfl) hR.symm dX3_isWhole_30
set_option maxHeartbeats 4000000 in
set_option maxRecDepth 100000 in
theorem m_X3_isWhole (l : Launch) (dC : Nat → ClassId) (dI : Nat → Nat → Nat) (cI cJ : ClassId) (aL : Nat) (aG : Nat) (aT : Nat) (aV : Nat) (tc : Int32) (tv : Nat → Int32) (gc : Int32) (gs : Int32) (gb : Int32) (gf : Int32) (gl : Int32) (gh : Int32) (gn : Int32) (gv : Nat → Int32) : Met l yX3_isWhole wsX3_isWhole rm_X3_isWhole (va_Pc [.ref aL] (fun U => va_P (dC, dI) vwCl [(aL, .inr (4, [.ref aG, .ref aT, .int tc])), (aT, .inl (cI, 53, .inl tv)), (aG, .inr (2, [.ref aV, .int gc, .int gs, .int gb, .int gf, .int gl, .int gh, .int gn])), (aV, .inl (cI, 14, .inl gv))] U.heap ∧ va_K (dC, dI) vwCl [(cI, .int), (cJ, .long)] U)) (vp_Si (fun r => r = f_X3_isWhole tc gc gs)) 0 0 (fun _ => False) := by
  refine Met.ofW (cc := cX3_isWhole) (maxL := 1) (ret := (some .boolean)) (by decide) rfl ?_
  intro p e s m args below meth c s₁ B hml hv
  obtain ⟨rfl, hP, hK⟩ := hv
  have hl := lv_entry ([.ref aL]) (n := 1) (Nat.le_of_ble_eq_true rfl)
  rw [lg_entry_eq]
  refine w_X3_isWhole B.exec B.bytes hml (findClass_of_methodNamed B.named) (atoms_spec (ws := wsX3_isWhole) B.pre) hK hP rfl (fun r pc ls hz er hd => ?_) _ hl
  exact W.zret B.exec B.bytes B.returns (zb_n hz) (fun t ht hW => ⟨r, rfl, er, ht⟩) (fun _ h => by cases h) hd B.notSynchronized
end
def f_X3_toneAt (tv : Nat → Int32) (p0 : Int32) : Int32 :=
  (if p0 < 0 then (0 : Int32) else (if (53 : Int32) ≤ p0 then (0 : Int32) else (tv p0.toNatClampNeg)))
theorem e_X3_toneAt {tv : Nat → Int32} {p0 : Int32} : f_X3_toneAt tv p0 = (if p0 < 0 then (0 : Int32) else (if (53 : Int32) ≤ p0 then (0 : Int32) else (tv p0.toNatClampNeg))) := rfl
section
variable {p : Program} {l : Launch} {e : Env} {s : State} {m : MethodId} {args : Array Value} {below : List Frame} {meth : Method} {c : Code} {Q : State → Prop} {H : Heap} {locs : List Loc} {dC : Nat → ClassId} {dI : Nat → Nat → Nat} {cI cJ : ClassId}
abbrev rm_X3_toneAt : Room := { frames := 0, cells := 0, slots := 0, locals := 0 }
theorem hd_X3_toneAt : yX3_toneAt.cls = RX3 ∧ yX3_toneAt.cls ≠ "java/lang/invoke/MethodHandle" ∧ yX3_toneAt.cls ≠ "java/lang/invoke/VarHandle" ∧ (parseMethodDescriptor yX3_toneAt.desc).map (fun d => d.parameters.length) = some 1 := by decide +kernel
set_option maxHeartbeats 4000000 in
set_option maxRecDepth 100000 in
theorem w_X3_toneAt {aL : Nat} {aG : Nat} {aT : Nat} {aV : Nat} {tc : Int32} {tv : Nat → Int32} {gc : Int32} {gs : Int32} {gb : Int32} {gf : Int32} {gl : Int32} {gh : Int32} {gn : Int32} {gv : Nat → Int32} {p0 : Int32} {F : Int32} (hx : p.tables.exec = Jvm.exec) (hb : c.code = cX3_toneAt) (hml : c.maxLocals = 2) (hown : s.vm.findClass RX3 = some m.cls) (hts : ∀ w ∈ wsX3_toneAt, w.before args s = true) (hK : va_K (dC, dI) vwCl [(cI, .int), (cJ, .long)] s) (hP : va_P (dC, dI) vwCl [(aL, .inr (4, [.ref aG, .ref aT, .int tc])), (aT, .inl (cI, 53, .inl tv)), (aG, .inr (2, [.ref aV, .int gc, .int gs, .int gb, .int gf, .int gl, .int gh, .int gn])), (aV, .inl (cI, 14, .inl gv))] H) (hR : F = f_X3_toneAt tv p0) (kR : ∀ (r : Int32) (pc : Nat) (ls : Array Slot), r = F → decode cX3_toneAt pc = .ok (.ireturn, 1) → W p l e rm_X3_toneAt s m args below meth c H locs 0 0 Q (F0 m pc ls [.int r])) (ls : Array Slot) (hl : lv_has ls 2 [(0, .ref aL), (1, .int p0)]) : W p l e rm_X3_toneAt s m args below meth c H locs 0 0 Q (F0 m 0 ls []) := by
  have hR := hR.trans e_X3_toneAt
  refine lv_iload_n hx hb dX3_toneAt_0 rfl (lv_at hl 1 rfl) ?_
  refine lv_if_lt (tgt := 22) hx hb dX3_toneAt_1 (by decide) (fun c_1 => ?_) (fun c_1 => ?_)
  · have hR := hR.trans (if_pos c_1)
    refine lv_iconst (v := (0 : Int32)) hx hb dX3_toneAt_22 (by decide) ?_
    exact kR (0 : Int32) 23 ls hR.symm dX3_toneAt_23
  · have hR := hR.trans (if_neg c_1)
    refine lv_iload_n hx hb dX3_toneAt_4 rfl (lv_at hl 1 rfl) ?_
    refine lv_aload_n hx hb dX3_toneAt_5 rfl (lv_at hl 0 rfl) ?_
    refine va_get (D := (dC, dI)) (ci := 4) (v := .ref aT) (C := RX3) (T := TX3) (N := 3) hx hb hts inC_X3 hown hK hP 0 rfl rfl 1 (by decide) (hts (.fieldLink RX3 13 "Counterpointery$Line" "tones" "[I") (List.mem_cons_of_mem _ wm_10)) (fun _ h9 => h9) rfl dX3_toneAt_6 ?_
    refine va_alen (D := (dC, dI)) (v := (53 : Int32)) hx hb hK hP 1 0 rfl rfl rfl dX3_toneAt_9 ?_
    refine lv_icmp_ge (tgt := 22) hx hb dX3_toneAt_10 (by decide) (fun c_2 => ?_) (fun c_2 => ?_)
    · have hR := hR.trans (if_pos c_2)
      refine lv_iconst (v := (0 : Int32)) hx hb dX3_toneAt_22 (by decide) ?_
      exact kR (0 : Int32) 23 ls hR.symm dX3_toneAt_23
    · have hR := hR.trans (if_neg c_2)
      refine lv_aload_n hx hb dX3_toneAt_13 rfl (lv_at hl 0 rfl) ?_
      refine va_get (D := (dC, dI)) (ci := 4) (v := .ref aT) (C := RX3) (T := TX3) (N := 3) hx hb hts inC_X3 hown hK hP 0 rfl rfl 1 (by decide) (hts (.fieldLink RX3 13 "Counterpointery$Line" "tones" "[I") (List.mem_cons_of_mem _ wm_10)) (fun _ h9 => h9) rfl dX3_toneAt_14 ?_
      refine lv_iload_n hx hb dX3_toneAt_17 rfl (lv_at hl 1 rfl) ?_
      refine va_iald (D := (dC, dI)) hx hb hK hP 1 0 rfl rfl (by first | exact vi_a (N := (53 : Int32)) (by assumption) (by assumption) rfl | exact vi_b (N := (53 : Int32)) (by assumption) (by assumption) rfl | exact vi_c (N := (53 : Int32)) (by assumption) (by assumption) rfl) dX3_toneAt_18 ?_
      refine lv_goto (tgt := 23) hx hb dX3_toneAt_19 (by decide) ?_
      exact kR (tv p0.toNatClampNeg) 23 ls hR.symm dX3_toneAt_23
set_option maxHeartbeats 4000000 in
set_option maxRecDepth 100000 in
theorem m_X3_toneAt (l : Launch) (dC : Nat → ClassId) (dI : Nat → Nat → Nat) (cI cJ : ClassId) (aL : Nat) (aG : Nat) (aT : Nat) (aV : Nat) (tc : Int32) (tv : Nat → Int32) (gc : Int32) (gs : Int32) (gb : Int32) (gf : Int32) (gl : Int32) (gh : Int32) (gn : Int32) (gv : Nat → Int32) (p0 : Int32) : Met l yX3_toneAt wsX3_toneAt rm_X3_toneAt (va_Pc [.ref aL, .int p0] (fun U => va_P (dC, dI) vwCl [(aL, .inr (4, [.ref aG, .ref aT, .int tc])), (aT, .inl (cI, 53, .inl tv)), (aG, .inr (2, [.ref aV, .int gc, .int gs, .int gb, .int gf, .int gl, .int gh, .int gn])), (aV, .inl (cI, 14, .inl gv))] U.heap ∧ va_K (dC, dI) vwCl [(cI, .int), (cJ, .long)] U)) (vp_Si (fun r => r = f_X3_toneAt tv p0)) 0 0 (fun _ => False) := by
  refine Met.ofW (cc := cX3_toneAt) (maxL := 2) (ret := (some .int)) (by decide) rfl ?_
  intro p e s m args below meth c s₁ B hml hv
  obtain ⟨rfl, hP, hK⟩ := hv
  have hl := lv_entry ([.ref aL, .int p0]) (n := 2) (Nat.le_of_ble_eq_true rfl)
  rw [lg_entry_eq]
  refine w_X3_toneAt B.exec B.bytes hml (findClass_of_methodNamed B.named) (atoms_spec (ws := wsX3_toneAt) B.pre) hK hP rfl (fun r pc ls er hd => ?_) _ hl
  exact W.iret B.exec B.bytes B.returns (fun t ht hW => ⟨r, rfl, er, ht⟩) (fun _ h => by cases h) hd B.notSynchronized
end
def f_X3_stepTo (tv : Nat → Int32) (p0 : Int32) : Int32 :=
  (if (1 : Int32) ≤ p0 then ((f_X3_toneAt tv p0) - (f_X3_toneAt tv (p0 - (1 : Int32)))) else (0 : Int32))
theorem e_X3_stepTo {tv : Nat → Int32} {p0 : Int32} : f_X3_stepTo tv p0 = (if (1 : Int32) ≤ p0 then ((f_X3_toneAt tv p0) - (f_X3_toneAt tv (p0 - (1 : Int32)))) else (0 : Int32)) := rfl
section
variable {p : Program} {l : Launch} {e : Env} {s : State} {m : MethodId} {args : Array Value} {below : List Frame} {meth : Method} {c : Code} {Q : State → Prop} {H : Heap} {locs : List Loc} {dC : Nat → ClassId} {dI : Nat → Nat → Nat} {cI cJ : ClassId}
abbrev rm_X3_stepTo : Room := { frames := 1, cells := 0, slots := 0, locals := 21 }
theorem hd_X3_stepTo : yX3_stepTo.cls = RX3 ∧ yX3_stepTo.cls ≠ "java/lang/invoke/MethodHandle" ∧ yX3_stepTo.cls ≠ "java/lang/invoke/VarHandle" ∧ (parseMethodDescriptor yX3_stepTo.desc).map (fun d => d.parameters.length) = some 1 := by decide +kernel
set_option maxHeartbeats 4000000 in
set_option maxRecDepth 100000 in
theorem w_X3_stepTo {aL : Nat} {aG : Nat} {aT : Nat} {aV : Nat} {tc : Int32} {tv : Nat → Int32} {gc : Int32} {gs : Int32} {gb : Int32} {gf : Int32} {gl : Int32} {gh : Int32} {gn : Int32} {gv : Nat → Int32} {p0 : Int32} {F : Int32} (hx : p.tables.exec = Jvm.exec) (hb : c.code = cX3_stepTo) (hml : c.maxLocals = 2) (hown : s.vm.findClass RX3 = some m.cls) (hts : ∀ w ∈ wsX3_stepTo, w.before args s = true) (hK : va_K (dC, dI) vwCl [(cI, .int), (cJ, .long)] s) (hP : va_P (dC, dI) vwCl [(aL, .inr (4, [.ref aG, .ref aT, .int tc])), (aT, .inl (cI, 53, .inl tv)), (aG, .inr (2, [.ref aV, .int gc, .int gs, .int gb, .int gf, .int gl, .int gh, .int gn])), (aV, .inl (cI, 14, .inl gv))] H) (hR : F = f_X3_stepTo tv p0) (kR : ∀ (r : Int32) (pc : Nat) (ls : Array Slot), r = F → decode cX3_stepTo pc = .ok (.ireturn, 1) → W p l e rm_X3_stepTo s m args below meth c H locs 0 0 Q (F0 m pc ls [.int r])) (ls : Array Slot) (hl : lv_has ls 2 [(0, .ref aL), (1, .int p0)]) : W p l e rm_X3_stepTo s m args below meth c H locs 0 0 Q (F0 m 0 ls []) := by
  have hR := hR.trans e_X3_stepTo
  refine lv_iload_n hx hb dX3_stepTo_0 rfl (lv_at hl 1 rfl) ?_
  refine lv_iconst (v := (1 : Int32)) hx hb dX3_stepTo_1 (by decide) ?_
  refine lv_icmp_ge (tgt := 9) hx hb dX3_stepTo_2 (by decide) (fun c_1 => ?_) (fun c_1 => ?_)
  · have hR := hR.trans (if_pos c_1)
    refine lv_aload_n hx hb dX3_stepTo_9 rfl (lv_at hl 0 rfl) ?_
    refine lv_iload_n hx hb dX3_stepTo_10 rfl (lv_at hl 1 rfl) ?_
    refine rV_i (q0 := 0) (As := [.int p0]) (rest := []) ⟨hx, hb, hml, hown, hts⟩ (m_X3_toneAt l dC dI cI cJ aL aG aT aV tc tv gc gs gb gf gl gh gn gv p0) (cwV 1 hts (gi_V wm_38 wm_7 wm_8 wm_3 wm_9) rfl rfl rfl hd_X3_toneAt ⟨Nat.le_of_ble_eq_true rfl, Nat.le_of_ble_eq_true rfl⟩) hK (hP.sub [0, 1, 2, 3] rfl) rfl rfl rfl hl.1 rfl (Nat.le_of_ble_eq_true rfl) dX3_stepTo_11 ⟨Nat.zero_le _, Nat.zero_le _⟩ ?_
    refine lv_aload_n hx hb dX3_stepTo_14 rfl (lv_at hl 0 rfl) ?_
    refine lv_iload_n hx hb dX3_stepTo_15 rfl (lv_at hl 1 rfl) ?_
    refine lv_iconst (v := (1 : Int32)) hx hb dX3_stepTo_16 (by decide) ?_
    refine lv_isub hx hb dX3_stepTo_17 ?_
    refine rV_i (q0 := 0) (As := [.int (p0 - (1 : Int32))]) (rest := [.int (f_X3_toneAt tv p0)]) ⟨hx, hb, hml, hown, hts⟩ (m_X3_toneAt l dC dI cI cJ aL aG aT aV tc tv gc gs gb gf gl gh gn gv (p0 - (1 : Int32))) (cwV 1 hts (gi_V wm_38 wm_7 wm_8 wm_3 wm_9) rfl rfl rfl hd_X3_toneAt ⟨Nat.le_of_ble_eq_true rfl, Nat.le_of_ble_eq_true rfl⟩) hK (hP.sub [0, 1, 2, 3] rfl) rfl rfl rfl hl.1 rfl (Nat.le_of_ble_eq_true rfl) dX3_stepTo_18 ⟨Nat.zero_le _, Nat.zero_le _⟩ ?_
    refine lv_isub hx hb dX3_stepTo_21 ?_
    exact kR ((f_X3_toneAt tv p0) - (f_X3_toneAt tv (p0 - (1 : Int32)))) 22 ls hR.symm dX3_stepTo_22
  · have hR := hR.trans (if_neg c_1)
    refine lv_iconst (v := (0 : Int32)) hx hb dX3_stepTo_5 (by decide) ?_
    refine lv_goto (tgt := 22) hx hb dX3_stepTo_6 (by decide) ?_
    exact kR (0 : Int32) 22 ls hR.symm dX3_stepTo_22
set_option maxHeartbeats 4000000 in
set_option maxRecDepth 100000 in
theorem m_X3_stepTo (l : Launch) (dC : Nat → ClassId) (dI : Nat → Nat → Nat) (cI cJ : ClassId) (aL : Nat) (aG : Nat) (aT : Nat) (aV : Nat) (tc : Int32) (tv : Nat → Int32) (gc : Int32) (gs : Int32) (gb : Int32) (gf : Int32) (gl : Int32) (gh : Int32) (gn : Int32) (gv : Nat → Int32) (p0 : Int32) : Met l yX3_stepTo wsX3_stepTo rm_X3_stepTo (va_Pc [.ref aL, .int p0] (fun U => va_P (dC, dI) vwCl [(aL, .inr (4, [.ref aG, .ref aT, .int tc])), (aT, .inl (cI, 53, .inl tv)), (aG, .inr (2, [.ref aV, .int gc, .int gs, .int gb, .int gf, .int gl, .int gh, .int gn])), (aV, .inl (cI, 14, .inl gv))] U.heap ∧ va_K (dC, dI) vwCl [(cI, .int), (cJ, .long)] U)) (vp_Si (fun r => r = f_X3_stepTo tv p0)) 0 0 (fun _ => False) := by
  refine Met.ofW (cc := cX3_stepTo) (maxL := 2) (ret := (some .int)) (by decide) rfl ?_
  intro p e s m args below meth c s₁ B hml hv
  obtain ⟨rfl, hP, hK⟩ := hv
  have hl := lv_entry ([.ref aL, .int p0]) (n := 2) (Nat.le_of_ble_eq_true rfl)
  rw [lg_entry_eq]
  refine w_X3_stepTo B.exec B.bytes hml (findClass_of_methodNamed B.named) (atoms_spec (ws := wsX3_stepTo) B.pre) hK hP rfl (fun r pc ls er hd => ?_) _ hl
  exact W.iret B.exec B.bytes B.returns (fun t ht hW => ⟨r, rfl, er, ht⟩) (fun _ h => by cases h) hd B.notSynchronized
end
def f_X3_heightAt_j79 (tv : Nat → Int32) (p0 : Int32) (v1 : Int32) : Int32 :=
  (if v1 = 0 then (f_X5_heightOf (f_X3_toneAt tv p0)) else ((f_X5_heightOf (f_X3_toneAt tv p0)) + (1 : Int32)))
theorem e_X3_heightAt_j79 {tv : Nat → Int32} {p0 : Int32} {v1 : Int32} : f_X3_heightAt_j79 tv p0 v1 = (if v1 = 0 then (f_X5_heightOf (f_X3_toneAt tv p0)) else ((f_X5_heightOf (f_X3_toneAt tv p0)) + (1 : Int32))) := rfl
def f_X3_heightAt_j78 (tv : Nat → Int32) (p0 : Int32) : Int32 :=
  f_X3_heightAt_j79 tv p0 (0 : Int32)
theorem e_X3_heightAt_j78 {tv : Nat → Int32} {p0 : Int32} : f_X3_heightAt_j78 tv p0 = f_X3_heightAt_j79 tv p0 (0 : Int32) := rfl
def f_X3_heightAt (tc : Int32) (tv : Nat → Int32) (gc : Int32) (gs : Int32) (gf : Int32) (p0 : Int32) : Int32 :=
  (if (f_X1_isFeigning gf) = 0 then (f_X5_heightOf (f_X3_toneAt tv p0)) else (if p0 = (tc - (2 : Int32)) then (if tc = (f_X1_room gc gs) then (if ((f_X3_toneAt tv (p0 + (1 : Int32))) - (f_X3_toneAt tv p0)) = (1 : Int32) then (if ((f_X5_heightOf (f_X3_toneAt tv (p0 + (1 : Int32)))) - (f_X5_heightOf (f_X3_toneAt tv p0))) = (2 : Int32) then f_X3_heightAt_j79 tv p0 (1 : Int32) else f_X3_heightAt_j78 tv p0) else f_X3_heightAt_j78 tv p0) else (f_X5_heightOf (f_X3_toneAt tv p0))) else (f_X5_heightOf (f_X3_toneAt tv p0))))
theorem e_X3_heightAt {tc : Int32} {tv : Nat → Int32} {gc : Int32} {gs : Int32} {gf : Int32} {p0 : Int32} : f_X3_heightAt tc tv gc gs gf p0 = (if (f_X1_isFeigning gf) = 0 then (f_X5_heightOf (f_X3_toneAt tv p0)) else (if p0 = (tc - (2 : Int32)) then (if tc = (f_X1_room gc gs) then (if ((f_X3_toneAt tv (p0 + (1 : Int32))) - (f_X3_toneAt tv p0)) = (1 : Int32) then (if ((f_X5_heightOf (f_X3_toneAt tv (p0 + (1 : Int32)))) - (f_X5_heightOf (f_X3_toneAt tv p0))) = (2 : Int32) then f_X3_heightAt_j79 tv p0 (1 : Int32) else f_X3_heightAt_j78 tv p0) else f_X3_heightAt_j78 tv p0) else (f_X5_heightOf (f_X3_toneAt tv p0))) else (f_X5_heightOf (f_X3_toneAt tv p0)))) := rfl
section
variable {p : Program} {l : Launch} {e : Env} {s : State} {m : MethodId} {args : Array Value} {below : List Frame} {meth : Method} {c : Code} {Q : State → Prop} {H : Heap} {locs : List Loc} {dC : Nat → ClassId} {dI : Nat → Nat → Nat} {cI cJ : ClassId}
abbrev rm_X3_heightAt : Room := { frames := 1, cells := 0, slots := 0, locals := 22 }
theorem hd_X3_heightAt : yX3_heightAt.cls = RX3 ∧ yX3_heightAt.cls ≠ "java/lang/invoke/MethodHandle" ∧ yX3_heightAt.cls ≠ "java/lang/invoke/VarHandle" ∧ (parseMethodDescriptor yX3_heightAt.desc).map (fun d => d.parameters.length) = some 1 := by decide +kernel
set_option maxHeartbeats 4000000 in
set_option maxRecDepth 100000 in
theorem w_X3_heightAt {aL : Nat} {aG : Nat} {aT : Nat} {aV : Nat} {tc : Int32} {tv : Nat → Int32} {gc : Int32} {gs : Int32} {gb : Int32} {gf : Int32} {gl : Int32} {gh : Int32} {gn : Int32} {gv : Nat → Int32} {p0 : Int32} (hz_gb : zb gb) (hz_gf : zb gf) {F : Int32} (hx : p.tables.exec = Jvm.exec) (hb : c.code = cX3_heightAt) (hml : c.maxLocals = 5) (hown : s.vm.findClass RX3 = some m.cls) (hts : ∀ w ∈ wsX3_heightAt, w.before args s = true) (hK : va_K (dC, dI) vwCl [(cI, .int), (cJ, .long)] s) (hP : va_P (dC, dI) vwCl [(aL, .inr (4, [.ref aG, .ref aT, .int tc])), (aT, .inl (cI, 53, .inl tv)), (aG, .inr (2, [.ref aV, .int gc, .int gs, .int gb, .int gf, .int gl, .int gh, .int gn])), (aV, .inl (cI, 14, .inl gv))] H) (hR : F = f_X3_heightAt tc tv gc gs gf p0) (kR : ∀ (r : Int32) (pc : Nat) (ls : Array Slot), r = F → decode cX3_heightAt pc = .ok (.ireturn, 1) → W p l e rm_X3_heightAt s m args below meth c H locs 0 0 Q (F0 m pc ls [.int r])) (ls : Array Slot) (hl : lv_has ls 5 [(0, .ref aL), (1, .int p0)]) : W p l e rm_X3_heightAt s m args below meth c H locs 0 0 Q (F0 m 0 ls []) := by
  have hR := hR.trans e_X3_heightAt
  refine lv_aload_n hx hb dX3_heightAt_0 rfl (lv_at hl 0 rfl) ?_
  refine lv_iload_n hx hb dX3_heightAt_1 rfl (lv_at hl 1 rfl) ?_
  refine rV_i (q0 := 0) (As := [.int p0]) (rest := []) ⟨hx, hb, hml, hown, hts⟩ (m_X3_toneAt l dC dI cI cJ aL aG aT aV tc tv gc gs gb gf gl gh gn gv p0) (cwV 1 hts (gi_V wm_38 wm_7 wm_8 wm_3 wm_9) rfl rfl rfl hd_X3_toneAt ⟨Nat.le_of_ble_eq_true rfl, Nat.le_of_ble_eq_true rfl⟩) hK (hP.sub [0, 1, 2, 3] rfl) rfl rfl rfl hl.1 rfl (Nat.le_of_ble_eq_true rfl) dX3_heightAt_2 ⟨Nat.zero_le _, Nat.zero_le _⟩ ?_
  refine rS_i (As := [.int (f_X3_toneAt tv p0)]) (rest := []) ⟨hx, hb, hml, hown, hts⟩ (m_X5_heightOf l dC dI cI cJ (f_X3_toneAt tv p0)) (va_cwS 1 hts (gi_S wm_151 wm_16 wm_13 wm_17) rfl rfl rfl hd_X5_heightOf ⟨Nat.le_of_ble_eq_true rfl, Nat.le_of_ble_eq_true rfl⟩) hK (hP.sub [] rfl) rfl hl.1 rfl (Nat.le_of_ble_eq_true rfl) dX3_heightAt_5 ⟨Nat.zero_le _, Nat.zero_le _⟩ ?_
  refine lv_istore_n (lv' := [(2, .int (f_X5_heightOf (f_X3_toneAt tv p0))), (0, .ref aL), (1, .int p0)]) hx hb dX3_heightAt_8 rfl hl (by decide) rfl (fun ls hl => ?_)
  refine lv_aload_n hx hb dX3_heightAt_9 rfl (lv_at hl 1 rfl) ?_
  refine va_get (D := (dC, dI)) (ci := 4) (v := .ref aG) (C := RX3) (T := TX3) (N := 3) hx hb hts inC_X3 hown hK hP 0 rfl rfl 0 (by decide) (hts (.fieldLink RX3 7 "Counterpointery$Line" "ground" "LCounterpointery$Ground;") (List.mem_cons_of_mem _ wm_138)) (fun _ h9 => h9) rfl dX3_heightAt_10 ?_
  refine rV_i (q0 := 0) (As := []) (rest := []) ⟨hx, hb, hml, hown, hts⟩ (m_X1_isFeigning l dC dI cI cJ aG aV gc gs gb gf gl gh gn gv hz_gf) (cwV 0 hts (gi_V wm_152 wm_153 wm_154 wm_65 wm_155) rfl rfl rfl hd_X1_isFeigning ⟨Nat.le_of_ble_eq_true rfl, Nat.le_of_ble_eq_true rfl⟩) hK (hP.sub [2, 3] rfl) rfl rfl rfl hl.1 rfl (Nat.le_of_ble_eq_true rfl) dX3_heightAt_13 ⟨Nat.zero_le _, Nat.zero_le _⟩ ?_
  refine lv_if_eq (tgt := 43) hx hb dX3_heightAt_16 (by decide) (fun c_1 => ?_) (fun c_1 => ?_)
  · have hR := hR.trans (if_pos c_1)
    refine lv_iload_n hx hb dX3_heightAt_43 rfl (lv_at hl 0 rfl) ?_
    exact kR (f_X5_heightOf (f_X3_toneAt tv p0)) 44 ls hR.symm dX3_heightAt_44
  · have hR := hR.trans (if_neg c_1)
    refine lv_iload_n hx hb dX3_heightAt_19 rfl (lv_at hl 2 rfl) ?_
    refine lv_aload_n hx hb dX3_heightAt_20 rfl (lv_at hl 1 rfl) ?_
    refine va_get (D := (dC, dI)) (ci := 4) (v := .int tc) (C := RX3) (T := TX3) (N := 3) hx hb hts inC_X3 hown hK hP 0 rfl rfl 2 (by decide) (hts (.fieldLink RX3 17 "Counterpointery$Line" "count" "I") (List.mem_cons_of_mem _ wm_5)) (fun _ h9 => h9) rfl dX3_heightAt_21 ?_
    refine lv_iconst (v := (2 : Int32)) hx hb dX3_heightAt_24 (by decide) ?_
    refine lv_isub hx hb dX3_heightAt_25 ?_
    refine lv_icmp_ne (tgt := 43) hx hb dX3_heightAt_26 (by decide) (fun c_2 => ?_) (fun c_2 => ?_)
    · have hR := hR.trans (if_neg c_2)
      refine lv_iload_n hx hb dX3_heightAt_43 rfl (lv_at hl 0 rfl) ?_
      exact kR (f_X5_heightOf (f_X3_toneAt tv p0)) 44 ls hR.symm dX3_heightAt_44
    · have hR := hR.trans (if_pos c_2)
      refine lv_aload_n hx hb dX3_heightAt_29 rfl (lv_at hl 1 rfl) ?_
      refine va_get (D := (dC, dI)) (ci := 4) (v := .int tc) (C := RX3) (T := TX3) (N := 3) hx hb hts inC_X3 hown hK hP 0 rfl rfl 2 (by decide) (hts (.fieldLink RX3 17 "Counterpointery$Line" "count" "I") (List.mem_cons_of_mem _ wm_5)) (fun _ h9 => h9) rfl dX3_heightAt_30 ?_
      refine lv_aload_n hx hb dX3_heightAt_33 rfl (lv_at hl 1 rfl) ?_
      refine va_get (D := (dC, dI)) (ci := 4) (v := .ref aG) (C := RX3) (T := TX3) (N := 3) hx hb hts inC_X3 hown hK hP 0 rfl rfl 0 (by decide) (hts (.fieldLink RX3 7 "Counterpointery$Line" "ground" "LCounterpointery$Ground;") (List.mem_cons_of_mem _ wm_138)) (fun _ h9 => h9) rfl dX3_heightAt_34 ?_
      refine rV_i (q0 := 0) (As := []) (rest := [.int tc]) ⟨hx, hb, hml, hown, hts⟩ (m_X1_room l dC dI cI cJ aG aV gc gs gb gf gl gh gn gv) (cwV 0 hts (gi_V wm_139 wm_140 wm_141 wm_65 wm_142) rfl rfl rfl hd_X1_room ⟨Nat.le_of_ble_eq_true rfl, Nat.le_of_ble_eq_true rfl⟩) hK (hP.sub [2, 3] rfl) rfl rfl rfl hl.1 rfl (Nat.le_of_ble_eq_true rfl) dX3_heightAt_37 ⟨Nat.zero_le _, Nat.zero_le _⟩ ?_
      refine lv_icmp_eq (tgt := 45) hx hb dX3_heightAt_40 (by decide) (fun c_3 => ?_) (fun c_3 => ?_)
      · have hR := hR.trans (if_pos c_3)
        refine lv_aload_n hx hb dX3_heightAt_45 rfl (lv_at hl 1 rfl) ?_
        refine lv_iload_n hx hb dX3_heightAt_46 rfl (lv_at hl 2 rfl) ?_
        refine lv_iconst (v := (1 : Int32)) hx hb dX3_heightAt_47 (by decide) ?_
        refine lv_iadd hx hb dX3_heightAt_48 ?_
        refine rV_i (q0 := 0) (As := [.int (p0 + (1 : Int32))]) (rest := []) ⟨hx, hb, hml, hown, hts⟩ (m_X3_toneAt l dC dI cI cJ aL aG aT aV tc tv gc gs gb gf gl gh gn gv (p0 + (1 : Int32))) (cwV 1 hts (gi_V wm_38 wm_7 wm_8 wm_3 wm_9) rfl rfl rfl hd_X3_toneAt ⟨Nat.le_of_ble_eq_true rfl, Nat.le_of_ble_eq_true rfl⟩) hK (hP.sub [0, 1, 2, 3] rfl) rfl rfl rfl hl.1 rfl (Nat.le_of_ble_eq_true rfl) dX3_heightAt_49 ⟨Nat.zero_le _, Nat.zero_le _⟩ ?_
        refine lv_istore_n (lv' := [(3, .int (f_X3_toneAt tv (p0 + (1 : Int32)))), (2, .int (f_X5_heightOf (f_X3_toneAt tv p0))), (0, .ref aL), (1, .int p0)]) hx hb dX3_heightAt_52 rfl hl (by decide) rfl (fun ls hl => ?_)
        refine lv_iload_n hx hb dX3_heightAt_53 rfl (lv_at hl 0 rfl) ?_
        refine lv_aload_n hx hb dX3_heightAt_54 rfl (lv_at hl 2 rfl) ?_
        refine lv_iload_n hx hb dX3_heightAt_55 rfl (lv_at hl 3 rfl) ?_
        refine rV_i (q0 := 0) (As := [.int p0]) (rest := [.int (f_X3_toneAt tv (p0 + (1 : Int32)))]) ⟨hx, hb, hml, hown, hts⟩ (m_X3_toneAt l dC dI cI cJ aL aG aT aV tc tv gc gs gb gf gl gh gn gv p0) (cwV 1 hts (gi_V wm_38 wm_7 wm_8 wm_3 wm_9) rfl rfl rfl hd_X3_toneAt ⟨Nat.le_of_ble_eq_true rfl, Nat.le_of_ble_eq_true rfl⟩) hK (hP.sub [0, 1, 2, 3] rfl) rfl rfl rfl hl.1 rfl (Nat.le_of_ble_eq_true rfl) dX3_heightAt_56 ⟨Nat.zero_le _, Nat.zero_le _⟩ ?_
        refine lv_isub hx hb dX3_heightAt_59 ?_
        refine lv_iconst (v := (1 : Int32)) hx hb dX3_heightAt_60 (by decide) ?_
        have J79 : ∀ (v1 : Int32) (ls : Array Slot), lv_has ls 5 [(2, .int (f_X5_heightOf (f_X3_toneAt tv p0)))] → zb v1 → F = f_X3_heightAt_j79 tv p0 v1 → W p l e rm_X3_heightAt s m args below meth c H locs 0 0 Q (F0 m 79 ls [.int v1]) := by
          intro v1 ls hl hz_v1 hR
          have hR := hR.trans e_X3_heightAt_j79
          refine lv_istore (lv' := [(4, .int v1), (2, .int (f_X5_heightOf (f_X3_toneAt tv p0)))]) hx hb dX3_heightAt_79 hl (by decide) rfl (fun ls hl => ?_)
          refine lv_iload hx hb dX3_heightAt_81 (lv_at hl 0 rfl) ?_
          refine lv_if_eq (tgt := 92) hx hb dX3_heightAt_83 (by decide) (fun c_4 => ?_) (fun c_4 => ?_)
          · have hR := hR.trans (if_pos c_4)
            refine lv_iload_n hx hb dX3_heightAt_92 rfl (lv_at hl 1 rfl) ?_
            exact kR (f_X5_heightOf (f_X3_toneAt tv p0)) 93 ls hR.symm dX3_heightAt_93
          · have hR := hR.trans (if_neg c_4)
            refine lv_iload_n hx hb dX3_heightAt_86 rfl (lv_at hl 1 rfl) ?_
            refine lv_iconst (v := (1 : Int32)) hx hb dX3_heightAt_87 (by decide) ?_
            refine lv_iadd hx hb dX3_heightAt_88 ?_
            refine lv_goto (tgt := 93) hx hb dX3_heightAt_89 (by decide) ?_
            exact kR ((f_X5_heightOf (f_X3_toneAt tv p0)) + (1 : Int32)) 93 ls hR.symm dX3_heightAt_93
        have J78 : ∀ (ls : Array Slot), lv_has ls 5 [(2, .int (f_X5_heightOf (f_X3_toneAt tv p0)))] → F = f_X3_heightAt_j78 tv p0 → W p l e rm_X3_heightAt s m args below meth c H locs 0 0 Q (F0 m 78 ls []) := by
          intro ls hl hR
          have hR := hR.trans e_X3_heightAt_j78
          refine lv_iconst (v := (0 : Int32)) hx hb dX3_heightAt_78 (by decide) ?_
          exact J79 (0 : Int32) ls (lv_sub hl [0] rfl) (by first | exact Or.inl rfl | exact Or.inr rfl) hR
        refine lv_icmp_ne (tgt := 78) hx hb dX3_heightAt_61 (by decide) (fun c_5 => ?_) (fun c_5 => ?_)
        · have hR := hR.trans (if_neg c_5)
          exact J78 ls (lv_sub hl [1] rfl) hR
        · have hR := hR.trans (if_pos c_5)
          refine lv_iload_n hx hb dX3_heightAt_64 rfl (lv_at hl 0 rfl) ?_
          refine rS_i (As := [.int (f_X3_toneAt tv (p0 + (1 : Int32)))]) (rest := []) ⟨hx, hb, hml, hown, hts⟩ (m_X5_heightOf l dC dI cI cJ (f_X3_toneAt tv (p0 + (1 : Int32)))) (va_cwS 1 hts (gi_S wm_151 wm_16 wm_13 wm_17) rfl rfl rfl hd_X5_heightOf ⟨Nat.le_of_ble_eq_true rfl, Nat.le_of_ble_eq_true rfl⟩) hK (hP.sub [] rfl) rfl hl.1 rfl (Nat.le_of_ble_eq_true rfl) dX3_heightAt_65 ⟨Nat.zero_le _, Nat.zero_le _⟩ ?_
          refine lv_iload_n hx hb dX3_heightAt_68 rfl (lv_at hl 1 rfl) ?_
          refine lv_isub hx hb dX3_heightAt_69 ?_
          refine lv_iconst (v := (2 : Int32)) hx hb dX3_heightAt_70 (by decide) ?_
          refine lv_icmp_ne (tgt := 78) hx hb dX3_heightAt_71 (by decide) (fun c_6 => ?_) (fun c_6 => ?_)
          · have hR := hR.trans (if_neg c_6)
            exact J78 ls (lv_sub hl [1] rfl) hR
          · have hR := hR.trans (if_pos c_6)
            refine lv_iconst (v := (1 : Int32)) hx hb dX3_heightAt_74 (by decide) ?_
            refine lv_goto (tgt := 79) hx hb dX3_heightAt_75 (by decide) ?_
            exact J79 (1 : Int32) ls (lv_sub hl [1] rfl) (by first | exact Or.inl rfl | exact Or.inr rfl) hR
      · have hR := hR.trans (if_neg c_3)
        refine lv_iload_n hx hb dX3_heightAt_43 rfl (lv_at hl 0 rfl) ?_
        exact kR (f_X5_heightOf (f_X3_toneAt tv p0)) 44 ls hR.symm dX3_heightAt_44
set_option maxHeartbeats 4000000 in
set_option maxRecDepth 100000 in
theorem m_X3_heightAt (l : Launch) (dC : Nat → ClassId) (dI : Nat → Nat → Nat) (cI cJ : ClassId) (aL : Nat) (aG : Nat) (aT : Nat) (aV : Nat) (tc : Int32) (tv : Nat → Int32) (gc : Int32) (gs : Int32) (gb : Int32) (gf : Int32) (gl : Int32) (gh : Int32) (gn : Int32) (gv : Nat → Int32) (p0 : Int32) (hz_gb : zb gb) (hz_gf : zb gf) : Met l yX3_heightAt wsX3_heightAt rm_X3_heightAt (va_Pc [.ref aL, .int p0] (fun U => va_P (dC, dI) vwCl [(aL, .inr (4, [.ref aG, .ref aT, .int tc])), (aT, .inl (cI, 53, .inl tv)), (aG, .inr (2, [.ref aV, .int gc, .int gs, .int gb, .int gf, .int gl, .int gh, .int gn])), (aV, .inl (cI, 14, .inl gv))] U.heap ∧ va_K (dC, dI) vwCl [(cI, .int), (cJ, .long)] U)) (vp_Si (fun r => r = f_X3_heightAt tc tv gc gs gf p0)) 0 0 (fun _ => False) := by
  refine Met.ofW (cc := cX3_heightAt) (maxL := 5) (ret := (some .int)) (by decide) rfl ?_
  intro p e s m args below meth c s₁ B hml hv
  obtain ⟨rfl, hP, hK⟩ := hv
  have hl := lv_entry ([.ref aL, .int p0]) (n := 5) (Nat.le_of_ble_eq_true rfl)
  rw [lg_entry_eq]
  refine w_X3_heightAt hz_gb hz_gf B.exec B.bytes hml (findClass_of_methodNamed B.named) (atoms_spec (ws := wsX3_heightAt) B.pre) hK hP rfl (fun r pc ls er hd => ?_) _ hl
  exact W.iret B.exec B.bytes B.returns (fun t ht hW => ⟨r, rfl, er, ht⟩) (fun _ h => by cases h) hd B.notSynchronized
end
def f_X3_gapAt (tc : Int32) (tv : Nat → Int32) (gc : Int32) (gs : Int32) (gf : Int32) (gv : Nat → Int32) (p0 : Int32) : Int32 :=
  (f_X5_gap ((f_X3_toneAt tv p0) - (f_X1_against gc gs gv p0)) ((f_X3_heightAt tc tv gc gs gf p0) - (f_X5_heightOf (f_X1_against gc gs gv p0))))
theorem e_X3_gapAt {tc : Int32} {tv : Nat → Int32} {gc : Int32} {gs : Int32} {gf : Int32} {gv : Nat → Int32} {p0 : Int32} : f_X3_gapAt tc tv gc gs gf gv p0 = (f_X5_gap ((f_X3_toneAt tv p0) - (f_X1_against gc gs gv p0)) ((f_X3_heightAt tc tv gc gs gf p0) - (f_X5_heightOf (f_X1_against gc gs gv p0)))) := rfl
section
variable {p : Program} {l : Launch} {e : Env} {s : State} {m : MethodId} {args : Array Value} {below : List Frame} {meth : Method} {c : Code} {Q : State → Prop} {H : Heap} {locs : List Loc} {dC : Nat → ClassId} {dI : Nat → Nat → Nat} {cI cJ : ClassId}
abbrev rm_X3_gapAt : Room := { frames := 2, cells := 0, slots := 0, locals := 46 }
theorem hd_X3_gapAt : yX3_gapAt.cls = RX3 ∧ yX3_gapAt.cls ≠ "java/lang/invoke/MethodHandle" ∧ yX3_gapAt.cls ≠ "java/lang/invoke/VarHandle" ∧ (parseMethodDescriptor yX3_gapAt.desc).map (fun d => d.parameters.length) = some 1 := by decide +kernel
set_option maxHeartbeats 4000000 in
set_option maxRecDepth 100000 in
theorem w_X3_gapAt {aL : Nat} {aG : Nat} {aT : Nat} {aV : Nat} {tc : Int32} {tv : Nat → Int32} {gc : Int32} {gs : Int32} {gb : Int32} {gf : Int32} {gl : Int32} {gh : Int32} {gn : Int32} {gv : Nat → Int32} {p0 : Int32} (hz_gb : zb gb) (hz_gf : zb gf) {F : Int32} (hx : p.tables.exec = Jvm.exec) (hb : c.code = cX3_gapAt) (hml : c.maxLocals = 3) (hown : s.vm.findClass RX3 = some m.cls) (hts : ∀ w ∈ wsX3_gapAt, w.before args s = true) (hK : va_K (dC, dI) vwCl [(cI, .int), (cJ, .long)] s) (hP : va_P (dC, dI) vwCl [(aL, .inr (4, [.ref aG, .ref aT, .int tc])), (aT, .inl (cI, 53, .inl tv)), (aG, .inr (2, [.ref aV, .int gc, .int gs, .int gb, .int gf, .int gl, .int gh, .int gn])), (aV, .inl (cI, 14, .inl gv))] H) (hR : F = f_X3_gapAt tc tv gc gs gf gv p0) (kR : ∀ (r : Int32) (pc : Nat) (ls : Array Slot), r = F → decode cX3_gapAt pc = .ok (.ireturn, 1) → W p l e rm_X3_gapAt s m args below meth c H locs 0 0 Q (F0 m pc ls [.int r])) (ls : Array Slot) (hl : lv_has ls 3 [(0, .ref aL), (1, .int p0)]) : W p l e rm_X3_gapAt s m args below meth c H locs 0 0 Q (F0 m 0 ls []) := by
  have hR := hR.trans e_X3_gapAt
  refine lv_aload_n hx hb dX3_gapAt_0 rfl (lv_at hl 0 rfl) ?_
  refine va_get (D := (dC, dI)) (ci := 4) (v := .ref aG) (C := RX3) (T := TX3) (N := 3) hx hb hts inC_X3 hown hK hP 0 rfl rfl 0 (by decide) (hts (.fieldLink RX3 7 "Counterpointery$Line" "ground" "LCounterpointery$Ground;") (List.mem_cons_of_mem _ wm_138)) (fun _ h9 => h9) rfl dX3_gapAt_1 ?_
  refine lv_iload_n hx hb dX3_gapAt_4 rfl (lv_at hl 1 rfl) ?_
  refine rV_i (q0 := 0) (As := [.int p0]) (rest := []) ⟨hx, hb, hml, hown, hts⟩ (m_X1_against l dC dI cI cJ aG aV gc gs gb gf gl gh gn gv p0) (cwV 1 hts (gi_V wm_156 wm_68 wm_69 wm_65 wm_70) rfl rfl rfl hd_X1_against ⟨Nat.le_of_ble_eq_true rfl, Nat.le_of_ble_eq_true rfl⟩) hK (hP.sub [2, 3] rfl) rfl rfl rfl hl.1 rfl (Nat.le_of_ble_eq_true rfl) dX3_gapAt_5 ⟨Nat.zero_le _, Nat.zero_le _⟩ ?_
  refine lv_istore_n (lv' := [(2, .int (f_X1_against gc gs gv p0)), (0, .ref aL), (1, .int p0)]) hx hb dX3_gapAt_8 rfl hl (by decide) rfl (fun ls hl => ?_)
  refine lv_aload_n hx hb dX3_gapAt_9 rfl (lv_at hl 1 rfl) ?_
  refine lv_iload_n hx hb dX3_gapAt_10 rfl (lv_at hl 2 rfl) ?_
  refine rV_i (q0 := 0) (As := [.int p0]) (rest := []) ⟨hx, hb, hml, hown, hts⟩ (m_X3_toneAt l dC dI cI cJ aL aG aT aV tc tv gc gs gb gf gl gh gn gv p0) (cwV 1 hts (gi_V wm_38 wm_7 wm_8 wm_3 wm_9) rfl rfl rfl hd_X3_toneAt ⟨Nat.le_of_ble_eq_true rfl, Nat.le_of_ble_eq_true rfl⟩) hK (hP.sub [0, 1, 2, 3] rfl) rfl rfl rfl hl.1 rfl (Nat.le_of_ble_eq_true rfl) dX3_gapAt_11 ⟨Nat.zero_le _, Nat.zero_le _⟩ ?_
  refine lv_iload_n hx hb dX3_gapAt_14 rfl (lv_at hl 0 rfl) ?_
  refine lv_isub hx hb dX3_gapAt_15 ?_
  refine lv_aload_n hx hb dX3_gapAt_16 rfl (lv_at hl 1 rfl) ?_
  refine lv_iload_n hx hb dX3_gapAt_17 rfl (lv_at hl 2 rfl) ?_
  refine rV_i (q0 := 0) (As := [.int p0]) (rest := [.int ((f_X3_toneAt tv p0) - (f_X1_against gc gs gv p0))]) ⟨hx, hb, hml, hown, hts⟩ (m_X3_heightAt l dC dI cI cJ aL aG aT aV tc tv gc gs gb gf gl gh gn gv p0 hz_gb hz_gf) (cwV 1 hts (gi_V wm_157 wm_158 wm_159 wm_3 wm_160) rfl rfl rfl hd_X3_heightAt ⟨Nat.le_of_ble_eq_true rfl, Nat.le_of_ble_eq_true rfl⟩) hK (hP.sub [0, 1, 2, 3] rfl) rfl rfl rfl hl.1 rfl (Nat.le_of_ble_eq_true rfl) dX3_gapAt_18 ⟨Nat.zero_le _, Nat.zero_le _⟩ ?_
  refine lv_iload_n hx hb dX3_gapAt_21 rfl (lv_at hl 0 rfl) ?_
  refine rS_i (As := [.int (f_X1_against gc gs gv p0)]) (rest := [.int (f_X3_heightAt tc tv gc gs gf p0), .int ((f_X3_toneAt tv p0) - (f_X1_against gc gs gv p0))]) ⟨hx, hb, hml, hown, hts⟩ (m_X5_heightOf l dC dI cI cJ (f_X1_against gc gs gv p0)) (va_cwS 1 hts (gi_S wm_151 wm_16 wm_13 wm_17) rfl rfl rfl hd_X5_heightOf ⟨Nat.le_of_ble_eq_true rfl, Nat.le_of_ble_eq_true rfl⟩) hK (hP.sub [] rfl) rfl hl.1 rfl (Nat.le_of_ble_eq_true rfl) dX3_gapAt_22 ⟨Nat.zero_le _, Nat.zero_le _⟩ ?_
  refine lv_isub hx hb dX3_gapAt_25 ?_
  refine rS_i (As := [.int ((f_X3_toneAt tv p0) - (f_X1_against gc gs gv p0)), .int ((f_X3_heightAt tc tv gc gs gf p0) - (f_X5_heightOf (f_X1_against gc gs gv p0)))]) (rest := []) ⟨hx, hb, hml, hown, hts⟩ (m_X5_gap l dC dI cI cJ ((f_X3_toneAt tv p0) - (f_X1_against gc gs gv p0)) ((f_X3_heightAt tc tv gc gs gf p0) - (f_X5_heightOf (f_X1_against gc gs gv p0)))) (va_cwS 2 hts (gi_S wm_161 wm_19 wm_13 wm_20) rfl rfl rfl hd_X5_gap ⟨Nat.le_of_ble_eq_true rfl, Nat.le_of_ble_eq_true rfl⟩) hK (hP.sub [] rfl) rfl hl.1 rfl (Nat.le_of_ble_eq_true rfl) dX3_gapAt_26 ⟨Nat.zero_le _, Nat.zero_le _⟩ ?_
  exact kR (f_X5_gap ((f_X3_toneAt tv p0) - (f_X1_against gc gs gv p0)) ((f_X3_heightAt tc tv gc gs gf p0) - (f_X5_heightOf (f_X1_against gc gs gv p0)))) 29 ls hR.symm dX3_gapAt_29
set_option maxHeartbeats 4000000 in
set_option maxRecDepth 100000 in
theorem m_X3_gapAt (l : Launch) (dC : Nat → ClassId) (dI : Nat → Nat → Nat) (cI cJ : ClassId) (aL : Nat) (aG : Nat) (aT : Nat) (aV : Nat) (tc : Int32) (tv : Nat → Int32) (gc : Int32) (gs : Int32) (gb : Int32) (gf : Int32) (gl : Int32) (gh : Int32) (gn : Int32) (gv : Nat → Int32) (p0 : Int32) (hz_gb : zb gb) (hz_gf : zb gf) : Met l yX3_gapAt wsX3_gapAt rm_X3_gapAt (va_Pc [.ref aL, .int p0] (fun U => va_P (dC, dI) vwCl [(aL, .inr (4, [.ref aG, .ref aT, .int tc])), (aT, .inl (cI, 53, .inl tv)), (aG, .inr (2, [.ref aV, .int gc, .int gs, .int gb, .int gf, .int gl, .int gh, .int gn])), (aV, .inl (cI, 14, .inl gv))] U.heap ∧ va_K (dC, dI) vwCl [(cI, .int), (cJ, .long)] U)) (vp_Si (fun r => r = f_X3_gapAt tc tv gc gs gf gv p0)) 0 0 (fun _ => False) := by
  refine Met.ofW (cc := cX3_gapAt) (maxL := 3) (ret := (some .int)) (by decide) rfl ?_
  intro p e s m args below meth c s₁ B hml hv
  obtain ⟨rfl, hP, hK⟩ := hv
  have hl := lv_entry ([.ref aL, .int p0]) (n := 3) (Nat.le_of_ble_eq_true rfl)
  rw [lg_entry_eq]
  refine w_X3_gapAt hz_gb hz_gf B.exec B.bytes hml (findClass_of_methodNamed B.named) (atoms_spec (ws := wsX3_gapAt) B.pre) hK hP rfl (fun r pc ls er hd => ?_) _ hl
  exact W.iret B.exec B.bytes B.returns (fun t ht hW => ⟨r, rfl, er, ht⟩) (fun _ h => by cases h) hd B.notSynchronized
end
def f_X3_parallels_j78 (v1 : Int32) (v2 : Int32) (v3 : Int32) : Int32 :=
  (if v2 = v3 then (v1 ||| (64 : Int32)) else v1)
theorem e_X3_parallels_j78 {v1 : Int32} {v2 : Int32} {v3 : Int32} : f_X3_parallels_j78 v1 v2 v3 = (if v2 = v3 then (v1 ||| (64 : Int32)) else v1) := rfl
def f_X3_parallels_j68 (gc : Int32) (gs : Int32) (gv : Nat → Int32) (p0 : Int32) (v1 : Int32) (v2 : Int32) : Int32 :=
  (if (f_X1_stepTo gc gs gv p0) ≤ 0 then f_X3_parallels_j78 v1 v2 (0 : Int32) else f_X3_parallels_j78 v1 v2 (1 : Int32))
theorem e_X3_parallels_j68 {gc : Int32} {gs : Int32} {gv : Nat → Int32} {p0 : Int32} {v1 : Int32} {v2 : Int32} : f_X3_parallels_j68 gc gs gv p0 v1 v2 = (if (f_X1_stepTo gc gs gv p0) ≤ 0 then f_X3_parallels_j78 v1 v2 (0 : Int32) else f_X3_parallels_j78 v1 v2 (1 : Int32)) := rfl
def f_X3_parallels_j47 (tv : Nat → Int32) (gc : Int32) (gs : Int32) (gv : Nat → Int32) (p0 : Int32) (v1 : Int32) : Int32 :=
  (if (iabs (f_X3_stepTo tv p0)) ≤ (1 : Int32) then v1 else (if (f_X3_stepTo tv p0) ≤ 0 then f_X3_parallels_j68 gc gs gv p0 v1 (0 : Int32) else f_X3_parallels_j68 gc gs gv p0 v1 (1 : Int32)))
theorem e_X3_parallels_j47 {tv : Nat → Int32} {gc : Int32} {gs : Int32} {gv : Nat → Int32} {p0 : Int32} {v1 : Int32} : f_X3_parallels_j47 tv gc gs gv p0 v1 = (if (iabs (f_X3_stepTo tv p0)) ≤ (1 : Int32) then v1 else (if (f_X3_stepTo tv p0) ≤ 0 then f_X3_parallels_j68 gc gs gv p0 v1 (0 : Int32) else f_X3_parallels_j68 gc gs gv p0 v1 (1 : Int32))) := rfl
def f_X3_parallels (tv : Nat → Int32) (gc : Int32) (gs : Int32) (gv : Nat → Int32) (p0 : Int32) (p1 : Int32) (p2 : Int32) : Int32 :=
  (if (f_X5_isPerfect p1) = 0 then (0 : Int32) else (if (f_X3_stepTo tv p0) = 0 then (0 : Int32) else (if (f_X1_stepTo gc gs gv p0) = 0 then (0 : Int32) else (if p1 = p2 then f_X3_parallels_j47 tv gc gs gv p0 (16 : Int32) else f_X3_parallels_j47 tv gc gs gv p0 (0 : Int32)))))
theorem e_X3_parallels {tv : Nat → Int32} {gc : Int32} {gs : Int32} {gv : Nat → Int32} {p0 : Int32} {p1 : Int32} {p2 : Int32} : f_X3_parallels tv gc gs gv p0 p1 p2 = (if (f_X5_isPerfect p1) = 0 then (0 : Int32) else (if (f_X3_stepTo tv p0) = 0 then (0 : Int32) else (if (f_X1_stepTo gc gs gv p0) = 0 then (0 : Int32) else (if p1 = p2 then f_X3_parallels_j47 tv gc gs gv p0 (16 : Int32) else f_X3_parallels_j47 tv gc gs gv p0 (0 : Int32))))) := rfl
section
variable {p : Program} {l : Launch} {e : Env} {s : State} {m : MethodId} {args : Array Value} {below : List Frame} {meth : Method} {c : Code} {Q : State → Prop} {H : Heap} {locs : List Loc} {dC : Nat → ClassId} {dI : Nat → Nat → Nat} {cI cJ : ClassId}
abbrev rm_X3_parallels : Room := { frames := 2, cells := 0, slots := 0, locals := 43 }
theorem hd_X3_parallels : yX3_parallels.cls = RX3 ∧ yX3_parallels.cls ≠ "java/lang/invoke/MethodHandle" ∧ yX3_parallels.cls ≠ "java/lang/invoke/VarHandle" ∧ (parseMethodDescriptor yX3_parallels.desc).map (fun d => d.parameters.length) = some 3 := by decide +kernel
set_option maxHeartbeats 4000000 in
set_option maxRecDepth 100000 in
theorem w_X3_parallels {aL : Nat} {aG : Nat} {aT : Nat} {aV : Nat} {tc : Int32} {tv : Nat → Int32} {gc : Int32} {gs : Int32} {gb : Int32} {gf : Int32} {gl : Int32} {gh : Int32} {gn : Int32} {gv : Nat → Int32} {p0 : Int32} {p1 : Int32} {p2 : Int32} (hz_gb : zb gb) (hz_gf : zb gf) {F : Int32} (hx : p.tables.exec = Jvm.exec) (hb : c.code = cX3_parallels) (hml : c.maxLocals = 7) (hown : s.vm.findClass RX3 = some m.cls) (hts : ∀ w ∈ wsX3_parallels, w.before args s = true) (hK : va_K (dC, dI) vwCl [(cI, .int), (cJ, .long)] s) (hP : va_P (dC, dI) vwCl [(aL, .inr (4, [.ref aG, .ref aT, .int tc])), (aT, .inl (cI, 53, .inl tv)), (aG, .inr (2, [.ref aV, .int gc, .int gs, .int gb, .int gf, .int gl, .int gh, .int gn])), (aV, .inl (cI, 14, .inl gv))] H) (hR : F = f_X3_parallels tv gc gs gv p0 p1 p2) (kR : ∀ (r : Int32) (pc : Nat) (ls : Array Slot), r = F → decode cX3_parallels pc = .ok (.ireturn, 1) → W p l e rm_X3_parallels s m args below meth c H locs 0 0 Q (F0 m pc ls [.int r])) (ls : Array Slot) (hl : lv_has ls 7 [(0, .ref aL), (1, .int p0), (2, .int p1), (3, .int p2)]) : W p l e rm_X3_parallels s m args below meth c H locs 0 0 Q (F0 m 0 ls []) := by
  have hR := hR.trans e_X3_parallels
  refine lv_aload_n hx hb dX3_parallels_0 rfl (lv_at hl 0 rfl) ?_
  refine lv_iload_n hx hb dX3_parallels_1 rfl (lv_at hl 1 rfl) ?_
  refine rV_i (q0 := 0) (As := [.int p0]) (rest := []) ⟨hx, hb, hml, hown, hts⟩ (m_X3_stepTo l dC dI cI cJ aL aG aT aV tc tv gc gs gb gf gl gh gn gv p0) (cwV 1 hts (gi_V wm_175 wm_35 wm_36 wm_3 wm_37) rfl rfl rfl hd_X3_stepTo ⟨Nat.le_of_ble_eq_true rfl, Nat.le_of_ble_eq_true rfl⟩) hK (hP.sub [0, 1, 2, 3] rfl) rfl rfl rfl hl.1 rfl (Nat.le_of_ble_eq_true rfl) dX3_parallels_2 ⟨Nat.zero_le _, Nat.zero_le _⟩ ?_
  refine lv_istore (lv' := [(4, .int (f_X3_stepTo tv p0)), (0, .ref aL), (1, .int p0), (2, .int p1), (3, .int p2)]) hx hb dX3_parallels_5 hl (by decide) rfl (fun ls hl => ?_)
  refine lv_aload_n hx hb dX3_parallels_7 rfl (lv_at hl 1 rfl) ?_
  refine va_get (D := (dC, dI)) (ci := 4) (v := .ref aG) (C := RX3) (T := TX3) (N := 3) hx hb hts inC_X3 hown hK hP 0 rfl rfl 0 (by decide) (hts (.fieldLink RX3 7 "Counterpointery$Line" "ground" "LCounterpointery$Ground;") (List.mem_cons_of_mem _ wm_138)) (fun _ h9 => h9) rfl dX3_parallels_8 ?_
  refine lv_iload_n hx hb dX3_parallels_11 rfl (lv_at hl 2 rfl) ?_
  refine rV_i (q0 := 0) (As := [.int p0]) (rest := []) ⟨hx, hb, hml, hown, hts⟩ (m_X1_stepTo l dC dI cI cJ aG aV gc gs gb gf gl gh gn gv p0) (cwV 1 hts (gi_V wm_176 wm_177 wm_178 wm_65 wm_179) rfl rfl rfl hd_X1_stepTo ⟨Nat.le_of_ble_eq_true rfl, Nat.le_of_ble_eq_true rfl⟩) hK (hP.sub [2, 3] rfl) rfl rfl rfl hl.1 rfl (Nat.le_of_ble_eq_true rfl) dX3_parallels_12 ⟨Nat.zero_le _, Nat.zero_le _⟩ ?_
  refine lv_istore (lv' := [(5, .int (f_X1_stepTo gc gs gv p0)), (4, .int (f_X3_stepTo tv p0)), (0, .ref aL), (1, .int p0), (2, .int p1), (3, .int p2)]) hx hb dX3_parallels_15 hl (by decide) rfl (fun ls hl => ?_)
  refine lv_iload_n hx hb dX3_parallels_17 rfl (lv_at hl 4 rfl) ?_
  refine rS_i (As := [.int p1]) (rest := []) ⟨hx, hb, hml, hown, hts⟩ (m_X5_isPerfect l dC dI cI cJ p1) (va_cwS 1 hts (gi_S wm_180 wm_29 wm_13 wm_30) rfl rfl rfl hd_X5_isPerfect ⟨Nat.le_of_ble_eq_true rfl, Nat.le_of_ble_eq_true rfl⟩) hK (hP.sub [] rfl) rfl hl.1 rfl (Nat.le_of_ble_eq_true rfl) dX3_parallels_18 ⟨Nat.zero_le _, Nat.zero_le _⟩ ?_
  refine lv_if_eq (tgt := 34) hx hb dX3_parallels_21 (by decide) (fun c_1 => ?_) (fun c_1 => ?_)
  · have hR := hR.trans (if_pos c_1)
    refine lv_iconst (v := (0 : Int32)) hx hb dX3_parallels_34 (by decide) ?_
    exact kR (0 : Int32) 35 ls hR.symm dX3_parallels_35
  · have hR := hR.trans (if_neg c_1)
    refine lv_iload hx hb dX3_parallels_24 (lv_at hl 1 rfl) ?_
    refine lv_if_eq (tgt := 34) hx hb dX3_parallels_26 (by decide) (fun c_2 => ?_) (fun c_2 => ?_)
    · have hR := hR.trans (if_pos c_2)
      refine lv_iconst (v := (0 : Int32)) hx hb dX3_parallels_34 (by decide) ?_
      exact kR (0 : Int32) 35 ls hR.symm dX3_parallels_35
    · have hR := hR.trans (if_neg c_2)
      refine lv_iload hx hb dX3_parallels_29 (lv_at hl 0 rfl) ?_
      refine lv_if_ne (tgt := 36) hx hb dX3_parallels_31 (by decide) (fun c_3 => ?_) (fun c_3 => ?_)
      · have hR := hR.trans (if_neg c_3)
        refine lv_iload_n hx hb dX3_parallels_36 rfl (lv_at hl 4 rfl) ?_
        refine lv_iload_n hx hb dX3_parallels_37 rfl (lv_at hl 5 rfl) ?_
        have J47 : ∀ (v1 : Int32) (ls : Array Slot), lv_has ls 7 [(4, .int (f_X3_stepTo tv p0)), (5, .int (f_X1_stepTo gc gs gv p0))] → F = f_X3_parallels_j47 tv gc gs gv p0 v1 → W p l e rm_X3_parallels s m args below meth c H locs 0 0 Q (F0 m 47 ls [.int v1]) := by
          intro v1 ls hl hR
          have hR := hR.trans e_X3_parallels_j47
          refine lv_istore (lv' := [(6, .int v1), (4, .int (f_X3_stepTo tv p0)), (5, .int (f_X1_stepTo gc gs gv p0))]) hx hb dX3_parallels_47 hl (by decide) rfl (fun ls hl => ?_)
          refine lv_iload hx hb dX3_parallels_49 (lv_at hl 1 rfl) ?_
          refine w_abs hx hb (hml.trans hl.1.symm) hown (hts (.methodLink RX3 104 Lib.Math.abs.name) (List.mem_cons_of_mem _ wm_174)) (hts (.static Lib.Math.abs.name) (List.mem_cons_of_mem _ wm_22)) (hts (.initialized "java/lang/Math") (List.mem_cons_of_mem _ wm_23)) (hts (.code Lib.Math.abs.name Lib.Math.abs.code 1 (some .int)) (List.mem_cons_of_mem _ wm_24)) (Nat.le_of_ble_eq_true rfl) (Nat.le_of_ble_eq_true rfl) (Nat.zero_le _) (Nat.zero_le _) dX3_parallels_51 ?_
          refine lv_iconst (v := (1 : Int32)) hx hb dX3_parallels_54 (by decide) ?_
          refine lv_icmp_le (tgt := 88) hx hb dX3_parallels_55 (by decide) (fun c_4 => ?_) (fun c_4 => ?_)
          · have hR := hR.trans (if_pos c_4)
            refine lv_iload hx hb dX3_parallels_88 (lv_at hl 0 rfl) ?_
            exact kR v1 90 ls hR.symm dX3_parallels_90
          · have hR := hR.trans (if_neg c_4)
            refine lv_iload hx hb dX3_parallels_58 (lv_at hl 1 rfl) ?_
            have J68 : ∀ (v2 : Int32) (ls : Array Slot), lv_has ls 7 [(5, .int (f_X1_stepTo gc gs gv p0)), (6, .int v1)] → zb v2 → F = f_X3_parallels_j68 gc gs gv p0 v1 v2 → W p l e rm_X3_parallels s m args below meth c H locs 0 0 Q (F0 m 68 ls [.int v2]) := by
              intro v2 ls hl hz_v2 hR
              have hR := hR.trans e_X3_parallels_j68
              refine lv_iload hx hb dX3_parallels_68 (lv_at hl 0 rfl) ?_
              have J78 : ∀ (v3 : Int32) (ls : Array Slot), lv_has ls 7 [(6, .int v1)] → zb v3 → F = f_X3_parallels_j78 v1 v2 v3 → W p l e rm_X3_parallels s m args below meth c H locs 0 0 Q (F0 m 78 ls [.int v3, .int v2]) := by
                intro v3 ls hl hz_v3 hR
                have hR := hR.trans e_X3_parallels_j78
                refine lv_icmp_ne (tgt := 88) hx hb dX3_parallels_78 (by decide) (fun c_5 => ?_) (fun c_5 => ?_)
                · have hR := hR.trans (if_neg c_5)
                  refine lv_iload hx hb dX3_parallels_88 (lv_at hl 0 rfl) ?_
                  exact kR v1 90 ls hR.symm dX3_parallels_90
                · have hR := hR.trans (if_pos c_5)
                  refine lv_iload hx hb dX3_parallels_81 (lv_at hl 0 rfl) ?_
                  refine lv_bipush (v := (64 : Int32)) hx hb dX3_parallels_83 (by decide) ?_
                  refine lv_ior hx hb dX3_parallels_85 ?_
                  refine lv_istore (lv' := [(6, .int (v1 ||| (64 : Int32)))]) hx hb dX3_parallels_86 hl (by decide) rfl (fun ls hl => ?_)
                  refine lv_iload hx hb dX3_parallels_88 (lv_at hl 0 rfl) ?_
                  exact kR (v1 ||| (64 : Int32)) 90 ls hR.symm dX3_parallels_90
              refine lv_if_le (tgt := 77) hx hb dX3_parallels_70 (by decide) (fun c_6 => ?_) (fun c_6 => ?_)
              · have hR := hR.trans (if_pos c_6)
                refine lv_iconst (v := (0 : Int32)) hx hb dX3_parallels_77 (by decide) ?_
                exact J78 (0 : Int32) ls (lv_sub hl [1] rfl) (by first | exact Or.inl rfl | exact Or.inr rfl) hR
              · have hR := hR.trans (if_neg c_6)
                refine lv_iconst (v := (1 : Int32)) hx hb dX3_parallels_73 (by decide) ?_
                refine lv_goto (tgt := 78) hx hb dX3_parallels_74 (by decide) ?_
                exact J78 (1 : Int32) ls (lv_sub hl [1] rfl) (by first | exact Or.inl rfl | exact Or.inr rfl) hR
            refine lv_if_le (tgt := 67) hx hb dX3_parallels_60 (by decide) (fun c_7 => ?_) (fun c_7 => ?_)
            · have hR := hR.trans (if_pos c_7)
              refine lv_iconst (v := (0 : Int32)) hx hb dX3_parallels_67 (by decide) ?_
              exact J68 (0 : Int32) ls (lv_sub hl [2, 0] rfl) (by first | exact Or.inl rfl | exact Or.inr rfl) hR
            · have hR := hR.trans (if_neg c_7)
              refine lv_iconst (v := (1 : Int32)) hx hb dX3_parallels_63 (by decide) ?_
              refine lv_goto (tgt := 68) hx hb dX3_parallels_64 (by decide) ?_
              exact J68 (1 : Int32) ls (lv_sub hl [2, 0] rfl) (by first | exact Or.inl rfl | exact Or.inr rfl) hR
        refine lv_icmp_ne (tgt := 46) hx hb dX3_parallels_38 (by decide) (fun c_8 => ?_) (fun c_8 => ?_)
        · have hR := hR.trans (if_neg c_8)
          refine lv_iconst (v := (0 : Int32)) hx hb dX3_parallels_46 (by decide) ?_
          exact J47 (0 : Int32) ls (lv_sub hl [1, 0] rfl) hR
        · have hR := hR.trans (if_pos c_8)
          refine lv_bipush (v := (16 : Int32)) hx hb dX3_parallels_41 (by decide) ?_
          refine lv_goto (tgt := 47) hx hb dX3_parallels_43 (by decide) ?_
          exact J47 (16 : Int32) ls (lv_sub hl [1, 0] rfl) hR
      · have hR := hR.trans (if_pos c_3)
        refine lv_iconst (v := (0 : Int32)) hx hb dX3_parallels_34 (by decide) ?_
        exact kR (0 : Int32) 35 ls hR.symm dX3_parallels_35
set_option maxHeartbeats 4000000 in
set_option maxRecDepth 100000 in
theorem m_X3_parallels (l : Launch) (dC : Nat → ClassId) (dI : Nat → Nat → Nat) (cI cJ : ClassId) (aL : Nat) (aG : Nat) (aT : Nat) (aV : Nat) (tc : Int32) (tv : Nat → Int32) (gc : Int32) (gs : Int32) (gb : Int32) (gf : Int32) (gl : Int32) (gh : Int32) (gn : Int32) (gv : Nat → Int32) (p0 : Int32) (p1 : Int32) (p2 : Int32) (hz_gb : zb gb) (hz_gf : zb gf) : Met l yX3_parallels wsX3_parallels rm_X3_parallels (va_Pc [.ref aL, .int p0, .int p1, .int p2] (fun U => va_P (dC, dI) vwCl [(aL, .inr (4, [.ref aG, .ref aT, .int tc])), (aT, .inl (cI, 53, .inl tv)), (aG, .inr (2, [.ref aV, .int gc, .int gs, .int gb, .int gf, .int gl, .int gh, .int gn])), (aV, .inl (cI, 14, .inl gv))] U.heap ∧ va_K (dC, dI) vwCl [(cI, .int), (cJ, .long)] U)) (vp_Si (fun r => r = f_X3_parallels tv gc gs gv p0 p1 p2)) 0 0 (fun _ => False) := by
  refine Met.ofW (cc := cX3_parallels) (maxL := 7) (ret := (some .int)) (by decide) rfl ?_
  intro p e s m args below meth c s₁ B hml hv
  obtain ⟨rfl, hP, hK⟩ := hv
  have hl := lv_entry ([.ref aL, .int p0, .int p1, .int p2]) (n := 7) (Nat.le_of_ble_eq_true rfl)
  rw [lg_entry_eq]
  refine w_X3_parallels hz_gb hz_gf B.exec B.bytes hml (findClass_of_methodNamed B.named) (atoms_spec (ws := wsX3_parallels) B.pre) hK hP rfl (fun r pc ls er hd => ?_) _ hl
  exact W.iret B.exec B.bytes B.returns (fun t ht hW => ⟨r, rfl, er, ht⟩) (fun _ h => by cases h) hd B.notSynchronized
end
def f_X3_moves_j49 (tv : Nat → Int32) (p0 : Int32) (v1 : Int32) : Int32 :=
  (if (iabs (f_X3_stepTo tv p0)) ≤ (1 : Int32) then (0 : Int32) else (if (iabs (f_X3_stepTo tv p0)) = (6 : Int32) then (1024 : Int32) else (if (7 : Int32) < (iabs (f_X3_stepTo tv p0)) then (1024 : Int32) else (if v1 = 0 then (0 : Int32) else (1024 : Int32)))))
theorem e_X3_moves_j49 {tv : Nat → Int32} {p0 : Int32} {v1 : Int32} : f_X3_moves_j49 tv p0 v1 = (if (iabs (f_X3_stepTo tv p0)) ≤ (1 : Int32) then (0 : Int32) else (if (iabs (f_X3_stepTo tv p0)) = (6 : Int32) then (1024 : Int32) else (if (7 : Int32) < (iabs (f_X3_stepTo tv p0)) then (1024 : Int32) else (if v1 = 0 then (0 : Int32) else (1024 : Int32))))) := rfl
def f_X3_moves_j44 (tv : Nat → Int32) (p0 : Int32) : Int32 :=
  f_X3_moves_j49 tv p0 (1 : Int32)
theorem e_X3_moves_j44 {tv : Nat → Int32} {p0 : Int32} : f_X3_moves_j44 tv p0 = f_X3_moves_j49 tv p0 (1 : Int32) := rfl
def f_X3_moves (tv : Nat → Int32) (p0 : Int32) (p1 : Int32) : Int32 :=
  (if (iabs (f_X3_stepTo tv p0)) = 0 then (512 : Int32) else (if (iabs p1) = (6 : Int32) then f_X3_moves_j44 tv p0 else (if (iabs p1) = (10 : Int32) then f_X3_moves_j44 tv p0 else (if (iabs p1) = (11 : Int32) then f_X3_moves_j44 tv p0 else f_X3_moves_j49 tv p0 (0 : Int32)))))
theorem e_X3_moves {tv : Nat → Int32} {p0 : Int32} {p1 : Int32} : f_X3_moves tv p0 p1 = (if (iabs (f_X3_stepTo tv p0)) = 0 then (512 : Int32) else (if (iabs p1) = (6 : Int32) then f_X3_moves_j44 tv p0 else (if (iabs p1) = (10 : Int32) then f_X3_moves_j44 tv p0 else (if (iabs p1) = (11 : Int32) then f_X3_moves_j44 tv p0 else f_X3_moves_j49 tv p0 (0 : Int32))))) := rfl
section
variable {p : Program} {l : Launch} {e : Env} {s : State} {m : MethodId} {args : Array Value} {below : List Frame} {meth : Method} {c : Code} {Q : State → Prop} {H : Heap} {locs : List Loc} {dC : Nat → ClassId} {dI : Nat → Nat → Nat} {cI cJ : ClassId}
abbrev rm_X3_moves : Room := { frames := 2, cells := 0, slots := 0, locals := 42 }
theorem hd_X3_moves : yX3_moves.cls = RX3 ∧ yX3_moves.cls ≠ "java/lang/invoke/MethodHandle" ∧ yX3_moves.cls ≠ "java/lang/invoke/VarHandle" ∧ (parseMethodDescriptor yX3_moves.desc).map (fun d => d.parameters.length) = some 2 := by decide +kernel
set_option maxHeartbeats 4000000 in
set_option maxRecDepth 100000 in
theorem w_X3_moves {aL : Nat} {aG : Nat} {aT : Nat} {aV : Nat} {tc : Int32} {tv : Nat → Int32} {gc : Int32} {gs : Int32} {gb : Int32} {gf : Int32} {gl : Int32} {gh : Int32} {gn : Int32} {gv : Nat → Int32} {p0 : Int32} {p1 : Int32} (hz_gb : zb gb) (hz_gf : zb gf) {F : Int32} (hx : p.tables.exec = Jvm.exec) (hb : c.code = cX3_moves) (hml : c.maxLocals = 6) (hown : s.vm.findClass RX3 = some m.cls) (hts : ∀ w ∈ wsX3_moves, w.before args s = true) (hK : va_K (dC, dI) vwCl [(cI, .int), (cJ, .long)] s) (hP : va_P (dC, dI) vwCl [(aL, .inr (4, [.ref aG, .ref aT, .int tc])), (aT, .inl (cI, 53, .inl tv)), (aG, .inr (2, [.ref aV, .int gc, .int gs, .int gb, .int gf, .int gl, .int gh, .int gn])), (aV, .inl (cI, 14, .inl gv))] H) (hR : F = f_X3_moves tv p0 p1) (kR : ∀ (r : Int32) (pc : Nat) (ls : Array Slot), r = F → decode cX3_moves pc = .ok (.ireturn, 1) → W p l e rm_X3_moves s m args below meth c H locs 0 0 Q (F0 m pc ls [.int r])) (ls : Array Slot) (hl : lv_has ls 6 [(0, .ref aL), (1, .int p0), (2, .int p1)]) : W p l e rm_X3_moves s m args below meth c H locs 0 0 Q (F0 m 0 ls []) := by
  have hR := hR.trans e_X3_moves
  refine lv_aload_n hx hb dX3_moves_0 rfl (lv_at hl 0 rfl) ?_
  refine lv_iload_n hx hb dX3_moves_1 rfl (lv_at hl 1 rfl) ?_
  refine rV_i (q0 := 0) (As := [.int p0]) (rest := []) ⟨hx, hb, hml, hown, hts⟩ (m_X3_stepTo l dC dI cI cJ aL aG aT aV tc tv gc gs gb gf gl gh gn gv p0) (cwV 1 hts (gi_V wm_175 wm_35 wm_36 wm_3 wm_37) rfl rfl rfl hd_X3_stepTo ⟨Nat.le_of_ble_eq_true rfl, Nat.le_of_ble_eq_true rfl⟩) hK (hP.sub [0, 1, 2, 3] rfl) rfl rfl rfl hl.1 rfl (Nat.le_of_ble_eq_true rfl) dX3_moves_2 ⟨Nat.zero_le _, Nat.zero_le _⟩ ?_
  refine w_abs hx hb (hml.trans hl.1.symm) hown (hts (.methodLink RX3 104 Lib.Math.abs.name) (List.mem_cons_of_mem _ wm_174)) (hts (.static Lib.Math.abs.name) (List.mem_cons_of_mem _ wm_22)) (hts (.initialized "java/lang/Math") (List.mem_cons_of_mem _ wm_23)) (hts (.code Lib.Math.abs.name Lib.Math.abs.code 1 (some .int)) (List.mem_cons_of_mem _ wm_24)) (Nat.le_of_ble_eq_true rfl) (Nat.le_of_ble_eq_true rfl) (Nat.zero_le _) (Nat.zero_le _) dX3_moves_5 ?_
  refine lv_istore_n (lv' := [(3, .int (iabs (f_X3_stepTo tv p0))), (0, .ref aL), (1, .int p0), (2, .int p1)]) hx hb dX3_moves_8 rfl hl (by decide) rfl (fun ls hl => ?_)
  refine lv_iload_n hx hb dX3_moves_9 rfl (lv_at hl 0 rfl) ?_
  refine lv_if_ne (tgt := 17) hx hb dX3_moves_10 (by decide) (fun c_1 => ?_) (fun c_1 => ?_)
  · have hR := hR.trans (if_neg c_1)
    refine lv_iload_n hx hb dX3_moves_17 rfl (lv_at hl 3 rfl) ?_
    refine w_abs hx hb (hml.trans hl.1.symm) hown (hts (.methodLink RX3 104 Lib.Math.abs.name) (List.mem_cons_of_mem _ wm_174)) (hts (.static Lib.Math.abs.name) (List.mem_cons_of_mem _ wm_22)) (hts (.initialized "java/lang/Math") (List.mem_cons_of_mem _ wm_23)) (hts (.code Lib.Math.abs.name Lib.Math.abs.code 1 (some .int)) (List.mem_cons_of_mem _ wm_24)) (Nat.le_of_ble_eq_true rfl) (Nat.le_of_ble_eq_true rfl) (Nat.zero_le _) (Nat.zero_le _) dX3_moves_18 ?_
    refine lv_istore (lv' := [(4, .int (iabs p1)), (3, .int (iabs (f_X3_stepTo tv p0))), (0, .ref aL), (1, .int p0), (2, .int p1)]) hx hb dX3_moves_21 hl (by decide) rfl (fun ls hl => ?_)
    refine lv_iload hx hb dX3_moves_23 (lv_at hl 0 rfl) ?_
    refine lv_bipush (v := (6 : Int32)) hx hb dX3_moves_25 (by decide) ?_
    have J49 : ∀ (v1 : Int32) (ls : Array Slot), lv_has ls 6 [(3, .int (iabs (f_X3_stepTo tv p0)))] → zb v1 → F = f_X3_moves_j49 tv p0 v1 → W p l e rm_X3_moves s m args below meth c H locs 0 0 Q (F0 m 49 ls [.int v1]) := by
      intro v1 ls hl hz_v1 hR
      have hR := hR.trans e_X3_moves_j49
      refine lv_istore (lv' := [(5, .int v1), (3, .int (iabs (f_X3_stepTo tv p0)))]) hx hb dX3_moves_49 hl (by decide) rfl (fun ls hl => ?_)
      refine lv_iload_n hx hb dX3_moves_51 rfl (lv_at hl 1 rfl) ?_
      refine lv_iconst (v := (1 : Int32)) hx hb dX3_moves_52 (by decide) ?_
      refine lv_icmp_le (tgt := 79) hx hb dX3_moves_53 (by decide) (fun c_2 => ?_) (fun c_2 => ?_)
      · have hR := hR.trans (if_pos c_2)
        refine lv_iconst (v := (0 : Int32)) hx hb dX3_moves_79 (by decide) ?_
        exact kR (0 : Int32) 80 ls hR.symm dX3_moves_80
      · have hR := hR.trans (if_neg c_2)
        refine lv_iload_n hx hb dX3_moves_56 rfl (lv_at hl 1 rfl) ?_
        refine lv_bipush (v := (6 : Int32)) hx hb dX3_moves_57 (by decide) ?_
        refine lv_icmp_eq (tgt := 73) hx hb dX3_moves_59 (by decide) (fun c_3 => ?_) (fun c_3 => ?_)
        · have hR := hR.trans (if_pos c_3)
          refine lv_sipush (v := (1024 : Int32)) hx hb dX3_moves_73 (by decide +kernel) ?_
          refine lv_goto (tgt := 80) hx hb dX3_moves_76 (by decide) ?_
          exact kR (1024 : Int32) 80 ls hR.symm dX3_moves_80
        · have hR := hR.trans (if_neg c_3)
          refine lv_iload_n hx hb dX3_moves_62 rfl (lv_at hl 1 rfl) ?_
          refine lv_bipush (v := (7 : Int32)) hx hb dX3_moves_63 (by decide) ?_
          refine lv_icmp_gt (tgt := 73) hx hb dX3_moves_65 (by decide) (fun c_4 => ?_) (fun c_4 => ?_)
          · have hR := hR.trans (if_pos c_4)
            refine lv_sipush (v := (1024 : Int32)) hx hb dX3_moves_73 (by decide +kernel) ?_
            refine lv_goto (tgt := 80) hx hb dX3_moves_76 (by decide) ?_
            exact kR (1024 : Int32) 80 ls hR.symm dX3_moves_80
          · have hR := hR.trans (if_neg c_4)
            refine lv_iload hx hb dX3_moves_68 (lv_at hl 0 rfl) ?_
            refine lv_if_eq (tgt := 79) hx hb dX3_moves_70 (by decide) (fun c_5 => ?_) (fun c_5 => ?_)
            · have hR := hR.trans (if_pos c_5)
              refine lv_iconst (v := (0 : Int32)) hx hb dX3_moves_79 (by decide) ?_
              exact kR (0 : Int32) 80 ls hR.symm dX3_moves_80
            · have hR := hR.trans (if_neg c_5)
              refine lv_sipush (v := (1024 : Int32)) hx hb dX3_moves_73 (by decide +kernel) ?_
              refine lv_goto (tgt := 80) hx hb dX3_moves_76 (by decide) ?_
              exact kR (1024 : Int32) 80 ls hR.symm dX3_moves_80
    have J44 : ∀ (ls : Array Slot), lv_has ls 6 [(3, .int (iabs (f_X3_stepTo tv p0)))] → F = f_X3_moves_j44 tv p0 → W p l e rm_X3_moves s m args below meth c H locs 0 0 Q (F0 m 44 ls []) := by
      intro ls hl hR
      have hR := hR.trans e_X3_moves_j44
      refine lv_iconst (v := (1 : Int32)) hx hb dX3_moves_44 (by decide) ?_
      refine lv_goto (tgt := 49) hx hb dX3_moves_45 (by decide) ?_
      exact J49 (1 : Int32) ls (lv_sub hl [0] rfl) (by first | exact Or.inl rfl | exact Or.inr rfl) hR
    refine lv_icmp_eq (tgt := 44) hx hb dX3_moves_27 (by decide) (fun c_6 => ?_) (fun c_6 => ?_)
    · have hR := hR.trans (if_pos c_6)
      exact J44 ls (lv_sub hl [1] rfl) hR
    · have hR := hR.trans (if_neg c_6)
      refine lv_iload hx hb dX3_moves_30 (lv_at hl 0 rfl) ?_
      refine lv_bipush (v := (10 : Int32)) hx hb dX3_moves_32 (by decide) ?_
      refine lv_icmp_eq (tgt := 44) hx hb dX3_moves_34 (by decide) (fun c_7 => ?_) (fun c_7 => ?_)
      · have hR := hR.trans (if_pos c_7)
        exact J44 ls (lv_sub hl [1] rfl) hR
      · have hR := hR.trans (if_neg c_7)
        refine lv_iload hx hb dX3_moves_37 (lv_at hl 0 rfl) ?_
        refine lv_bipush (v := (11 : Int32)) hx hb dX3_moves_39 (by decide) ?_
        refine lv_icmp_ne (tgt := 48) hx hb dX3_moves_41 (by decide) (fun c_8 => ?_) (fun c_8 => ?_)
        · have hR := hR.trans (if_neg c_8)
          refine lv_iconst (v := (0 : Int32)) hx hb dX3_moves_48 (by decide) ?_
          exact J49 (0 : Int32) ls (lv_sub hl [1] rfl) (by first | exact Or.inl rfl | exact Or.inr rfl) hR
        · have hR := hR.trans (if_pos c_8)
          exact J44 ls (lv_sub hl [1] rfl) hR
  · have hR := hR.trans (if_pos c_1)
    refine lv_sipush (v := (512 : Int32)) hx hb dX3_moves_13 (by decide +kernel) ?_
    exact kR (512 : Int32) 16 ls hR.symm dX3_moves_16
set_option maxHeartbeats 4000000 in
set_option maxRecDepth 100000 in
theorem m_X3_moves (l : Launch) (dC : Nat → ClassId) (dI : Nat → Nat → Nat) (cI cJ : ClassId) (aL : Nat) (aG : Nat) (aT : Nat) (aV : Nat) (tc : Int32) (tv : Nat → Int32) (gc : Int32) (gs : Int32) (gb : Int32) (gf : Int32) (gl : Int32) (gh : Int32) (gn : Int32) (gv : Nat → Int32) (p0 : Int32) (p1 : Int32) (hz_gb : zb gb) (hz_gf : zb gf) : Met l yX3_moves wsX3_moves rm_X3_moves (va_Pc [.ref aL, .int p0, .int p1] (fun U => va_P (dC, dI) vwCl [(aL, .inr (4, [.ref aG, .ref aT, .int tc])), (aT, .inl (cI, 53, .inl tv)), (aG, .inr (2, [.ref aV, .int gc, .int gs, .int gb, .int gf, .int gl, .int gh, .int gn])), (aV, .inl (cI, 14, .inl gv))] U.heap ∧ va_K (dC, dI) vwCl [(cI, .int), (cJ, .long)] U)) (vp_Si (fun r => r = f_X3_moves tv p0 p1)) 0 0 (fun _ => False) := by
  refine Met.ofW (cc := cX3_moves) (maxL := 6) (ret := (some .int)) (by decide) rfl ?_
  intro p e s m args below meth c s₁ B hml hv
  obtain ⟨rfl, hP, hK⟩ := hv
  have hl := lv_entry ([.ref aL, .int p0, .int p1]) (n := 6) (Nat.le_of_ble_eq_true rfl)
  rw [lg_entry_eq]
  refine w_X3_moves hz_gb hz_gf B.exec B.bytes hml (findClass_of_methodNamed B.named) (atoms_spec (ws := wsX3_moves) B.pre) hK hP rfl (fun r pc ls er hd => ?_) _ hl
  exact W.iret B.exec B.bytes B.returns (fun t ht hW => ⟨r, rfl, er, ht⟩) (fun _ h => by cases h) hd B.notSynchronized
end
def f_X3_comesByContrarySteps (tv : Nat → Int32) (gc : Int32) (gs : Int32) (gv : Nat → Int32) (p0 : Int32) : Int32 :=
  (if (iabs (f_X3_stepTo tv p0)) = (1 : Int32) then (if (f_X1_stepTo gc gs gv p0) = (-(f_X3_stepTo tv p0)) then (1 : Int32) else (0 : Int32)) else (0 : Int32))
theorem e_X3_comesByContrarySteps {tv : Nat → Int32} {gc : Int32} {gs : Int32} {gv : Nat → Int32} {p0 : Int32} : f_X3_comesByContrarySteps tv gc gs gv p0 = (if (iabs (f_X3_stepTo tv p0)) = (1 : Int32) then (if (f_X1_stepTo gc gs gv p0) = (-(f_X3_stepTo tv p0)) then (1 : Int32) else (0 : Int32)) else (0 : Int32)) := rfl
section
variable {p : Program} {l : Launch} {e : Env} {s : State} {m : MethodId} {args : Array Value} {below : List Frame} {meth : Method} {c : Code} {Q : State → Prop} {H : Heap} {locs : List Loc} {dC : Nat → ClassId} {dI : Nat → Nat → Nat} {cI cJ : ClassId}
abbrev rm_X3_comesByContrarySteps : Room := { frames := 2, cells := 0, slots := 0, locals := 43 }
theorem hd_X3_comesByContrarySteps : yX3_comesByContrarySteps.cls = RX3 ∧ yX3_comesByContrarySteps.cls ≠ "java/lang/invoke/MethodHandle" ∧ yX3_comesByContrarySteps.cls ≠ "java/lang/invoke/VarHandle" ∧ (parseMethodDescriptor yX3_comesByContrarySteps.desc).map (fun d => d.parameters.length) = some 1 := by decide +kernel
set_option maxHeartbeats 4000000 in
set_option maxRecDepth 100000 in
theorem w_X3_comesByContrarySteps {aL : Nat} {aG : Nat} {aT : Nat} {aV : Nat} {tc : Int32} {tv : Nat → Int32} {gc : Int32} {gs : Int32} {gb : Int32} {gf : Int32} {gl : Int32} {gh : Int32} {gn : Int32} {gv : Nat → Int32} {p0 : Int32} (hz_gb : zb gb) (hz_gf : zb gf) {F : Int32} (hx : p.tables.exec = Jvm.exec) (hb : c.code = cX3_comesByContrarySteps) (hml : c.maxLocals = 3) (hown : s.vm.findClass RX3 = some m.cls) (hts : ∀ w ∈ wsX3_comesByContrarySteps, w.before args s = true) (hK : va_K (dC, dI) vwCl [(cI, .int), (cJ, .long)] s) (hP : va_P (dC, dI) vwCl [(aL, .inr (4, [.ref aG, .ref aT, .int tc])), (aT, .inl (cI, 53, .inl tv)), (aG, .inr (2, [.ref aV, .int gc, .int gs, .int gb, .int gf, .int gl, .int gh, .int gn])), (aV, .inl (cI, 14, .inl gv))] H) (hR : F = f_X3_comesByContrarySteps tv gc gs gv p0) (kR : ∀ (r : Int32) (pc : Nat) (ls : Array Slot), zb r → r = F → decode cX3_comesByContrarySteps pc = .ok (.ireturn, 1) → W p l e rm_X3_comesByContrarySteps s m args below meth c H locs 0 0 Q (F0 m pc ls [.int r])) (ls : Array Slot) (hl : lv_has ls 3 [(0, .ref aL), (1, .int p0)]) : W p l e rm_X3_comesByContrarySteps s m args below meth c H locs 0 0 Q (F0 m 0 ls []) := by
  have hR := hR.trans e_X3_comesByContrarySteps
  refine lv_aload_n hx hb dX3_comesByContrarySteps_0 rfl (lv_at hl 0 rfl) ?_
  refine lv_iload_n hx hb dX3_comesByContrarySteps_1 rfl (lv_at hl 1 rfl) ?_
  refine rV_i (q0 := 0) (As := [.int p0]) (rest := []) ⟨hx, hb, hml, hown, hts⟩ (m_X3_stepTo l dC dI cI cJ aL aG aT aV tc tv gc gs gb gf gl gh gn gv p0) (cwV 1 hts (gi_V wm_175 wm_35 wm_36 wm_3 wm_37) rfl rfl rfl hd_X3_stepTo ⟨Nat.le_of_ble_eq_true rfl, Nat.le_of_ble_eq_true rfl⟩) hK (hP.sub [0, 1, 2, 3] rfl) rfl rfl rfl hl.1 rfl (Nat.le_of_ble_eq_true rfl) dX3_comesByContrarySteps_2 ⟨Nat.zero_le _, Nat.zero_le _⟩ ?_
  refine lv_istore_n (lv' := [(2, .int (f_X3_stepTo tv p0)), (0, .ref aL), (1, .int p0)]) hx hb dX3_comesByContrarySteps_5 rfl hl (by decide) rfl (fun ls hl => ?_)
  refine lv_iload_n hx hb dX3_comesByContrarySteps_6 rfl (lv_at hl 0 rfl) ?_
  refine w_abs hx hb (hml.trans hl.1.symm) hown (hts (.methodLink RX3 104 Lib.Math.abs.name) (List.mem_cons_of_mem _ wm_174)) (hts (.static Lib.Math.abs.name) (List.mem_cons_of_mem _ wm_22)) (hts (.initialized "java/lang/Math") (List.mem_cons_of_mem _ wm_23)) (hts (.code Lib.Math.abs.name Lib.Math.abs.code 1 (some .int)) (List.mem_cons_of_mem _ wm_24)) (Nat.le_of_ble_eq_true rfl) (Nat.le_of_ble_eq_true rfl) (Nat.zero_le _) (Nat.zero_le _) dX3_comesByContrarySteps_7 ?_
  refine lv_iconst (v := (1 : Int32)) hx hb dX3_comesByContrarySteps_10 (by decide) ?_
  refine lv_icmp_ne (tgt := 31) hx hb dX3_comesByContrarySteps_11 (by decide) (fun c_1 => ?_) (fun c_1 => ?_)
  · have hR := hR.trans (if_neg c_1)
    refine lv_iconst (v := (0 : Int32)) hx hb dX3_comesByContrarySteps_31 (by decide) ?_
    exact kR (0 : Int32) 32 ls (by first | exact Or.inl rfl | exact Or.inr rfl) hR.symm dX3_comesByContrarySteps_32
  · have hR := hR.trans (if_pos c_1)
    refine lv_aload_n hx hb dX3_comesByContrarySteps_14 rfl (lv_at hl 1 rfl) ?_
    refine va_get (D := (dC, dI)) (ci := 4) (v := .ref aG) (C := RX3) (T := TX3) (N := 3) hx hb hts inC_X3 hown hK hP 0 rfl rfl 0 (by decide) (hts (.fieldLink RX3 7 "Counterpointery$Line" "ground" "LCounterpointery$Ground;") (List.mem_cons_of_mem _ wm_138)) (fun _ h9 => h9) rfl dX3_comesByContrarySteps_15 ?_
    refine lv_iload_n hx hb dX3_comesByContrarySteps_18 rfl (lv_at hl 2 rfl) ?_
    refine rV_i (q0 := 0) (As := [.int p0]) (rest := []) ⟨hx, hb, hml, hown, hts⟩ (m_X1_stepTo l dC dI cI cJ aG aV gc gs gb gf gl gh gn gv p0) (cwV 1 hts (gi_V wm_176 wm_177 wm_178 wm_65 wm_179) rfl rfl rfl hd_X1_stepTo ⟨Nat.le_of_ble_eq_true rfl, Nat.le_of_ble_eq_true rfl⟩) hK (hP.sub [2, 3] rfl) rfl rfl rfl hl.1 rfl (Nat.le_of_ble_eq_true rfl) dX3_comesByContrarySteps_19 ⟨Nat.zero_le _, Nat.zero_le _⟩ ?_
    refine lv_iload_n hx hb dX3_comesByContrarySteps_22 rfl (lv_at hl 0 rfl) ?_
    refine lv_ineg hx hb dX3_comesByContrarySteps_23 ?_
    refine lv_icmp_ne (tgt := 31) hx hb dX3_comesByContrarySteps_24 (by decide) (fun c_2 => ?_) (fun c_2 => ?_)
    · have hR := hR.trans (if_neg c_2)
      refine lv_iconst (v := (0 : Int32)) hx hb dX3_comesByContrarySteps_31 (by decide) ?_
      exact kR (0 : Int32) 32 ls (by first | exact Or.inl rfl | exact Or.inr rfl) hR.symm dX3_comesByContrarySteps_32
    · have hR := hR.trans (if_pos c_2)
      refine lv_iconst (v := (1 : Int32)) hx hb dX3_comesByContrarySteps_27 (by decide) ?_
      refine lv_goto (tgt := 32) hx hb dX3_comesByContrarySteps_28 (by decide) ?_
      exact kR (1 : Int32) 32 ls (by first | exact Or.inl rfl | exact Or.inr rfl) hR.symm dX3_comesByContrarySteps_32
set_option maxHeartbeats 4000000 in
set_option maxRecDepth 100000 in
theorem m_X3_comesByContrarySteps (l : Launch) (dC : Nat → ClassId) (dI : Nat → Nat → Nat) (cI cJ : ClassId) (aL : Nat) (aG : Nat) (aT : Nat) (aV : Nat) (tc : Int32) (tv : Nat → Int32) (gc : Int32) (gs : Int32) (gb : Int32) (gf : Int32) (gl : Int32) (gh : Int32) (gn : Int32) (gv : Nat → Int32) (p0 : Int32) (hz_gb : zb gb) (hz_gf : zb gf) : Met l yX3_comesByContrarySteps wsX3_comesByContrarySteps rm_X3_comesByContrarySteps (va_Pc [.ref aL, .int p0] (fun U => va_P (dC, dI) vwCl [(aL, .inr (4, [.ref aG, .ref aT, .int tc])), (aT, .inl (cI, 53, .inl tv)), (aG, .inr (2, [.ref aV, .int gc, .int gs, .int gb, .int gf, .int gl, .int gh, .int gn])), (aV, .inl (cI, 14, .inl gv))] U.heap ∧ va_K (dC, dI) vwCl [(cI, .int), (cJ, .long)] U)) (vp_Si (fun r => r = f_X3_comesByContrarySteps tv gc gs gv p0)) 0 0 (fun _ => False) := by
  refine Met.ofW (cc := cX3_comesByContrarySteps) (maxL := 3) (ret := (some .boolean)) (by decide) rfl ?_
  intro p e s m args below meth c s₁ B hml hv
  obtain ⟨rfl, hP, hK⟩ := hv
  have hl := lv_entry ([.ref aL, .int p0]) (n := 3) (Nat.le_of_ble_eq_true rfl)
  rw [lg_entry_eq]
  refine w_X3_comesByContrarySteps hz_gb hz_gf B.exec B.bytes hml (findClass_of_methodNamed B.named) (atoms_spec (ws := wsX3_comesByContrarySteps) B.pre) hK hP rfl (fun r pc ls hz er hd => ?_) _ hl
  exact W.zret B.exec B.bytes B.returns (zb_n hz) (fun t ht hW => ⟨r, rfl, er, ht⟩) (fun _ h => by cases h) hd B.notSynchronized
end
def f_X3_nearFaults_j187 (tv : Nat → Int32) (gc : Int32) (gs : Int32) (gv : Nat → Int32) (p0 : Int32) (v1 : Int32) (v5 : Int32) : Int32 :=
  (if ((f_X3_toneAt tv p0) - (f_X1_against gc gs gv p0)) = 0 then (if p0 ≤ 0 then v5 else (if v1 = 0 then (v5 ||| (256 : Int32)) else v5)) else v5)
theorem e_X3_nearFaults_j187 {tv : Nat → Int32} {gc : Int32} {gs : Int32} {gv : Nat → Int32} {p0 : Int32} {v1 : Int32} {v5 : Int32} : f_X3_nearFaults_j187 tv gc gs gv p0 v1 v5 = (if ((f_X3_toneAt tv p0) - (f_X1_against gc gs gv p0)) = 0 then (if p0 ≤ 0 then v5 else (if v1 = 0 then (v5 ||| (256 : Int32)) else v5)) else v5) := rfl
def f_X3_nearFaults_j179 (tv : Nat → Int32) (gc : Int32) (gs : Int32) (gv : Nat → Int32) (p0 : Int32) (v1 : Int32) (v4 : Int32) : Int32 :=
  f_X3_nearFaults_j187 tv gc gs gv p0 v1 (v4 ||| (128 : Int32))
theorem e_X3_nearFaults_j179 {tv : Nat → Int32} {gc : Int32} {gs : Int32} {gv : Nat → Int32} {p0 : Int32} {v1 : Int32} {v4 : Int32} : f_X3_nearFaults_j179 tv gc gs gv p0 v1 v4 = f_X3_nearFaults_j187 tv gc gs gv p0 v1 (v4 ||| (128 : Int32)) := rfl
def f_X3_nearFaults_j156 (tv : Nat → Int32) (gc : Int32) (gs : Int32) (gb : Int32) (gv : Nat → Int32) (p0 : Int32) (v1 : Int32) (v4 : Int32) : Int32 :=
  (if (f_X1_isBelow gb) = 0 then (if 0 ≤ ((f_X3_toneAt tv p0) - (f_X1_against gc gs gv p0)) then f_X3_nearFaults_j187 tv gc gs gv p0 v1 v4 else f_X3_nearFaults_j179 tv gc gs gv p0 v1 v4) else (if ((f_X3_toneAt tv p0) - (f_X1_against gc gs gv p0)) ≤ 0 then f_X3_nearFaults_j187 tv gc gs gv p0 v1 v4 else f_X3_nearFaults_j179 tv gc gs gv p0 v1 v4))
theorem e_X3_nearFaults_j156 {tv : Nat → Int32} {gc : Int32} {gs : Int32} {gb : Int32} {gv : Nat → Int32} {p0 : Int32} {v1 : Int32} {v4 : Int32} : f_X3_nearFaults_j156 tv gc gs gb gv p0 v1 v4 = (if (f_X1_isBelow gb) = 0 then (if 0 ≤ ((f_X3_toneAt tv p0) - (f_X1_against gc gs gv p0)) then f_X3_nearFaults_j187 tv gc gs gv p0 v1 v4 else f_X3_nearFaults_j179 tv gc gs gv p0 v1 v4) else (if ((f_X3_toneAt tv p0) - (f_X1_against gc gs gv p0)) ≤ 0 then f_X3_nearFaults_j187 tv gc gs gv p0 v1 v4 else f_X3_nearFaults_j179 tv gc gs gv p0 v1 v4)) := rfl
def f_X3_nearFaults_j132 (tc : Int32) (tv : Nat → Int32) (gc : Int32) (gs : Int32) (gb : Int32) (gf : Int32) (gv : Nat → Int32) (p0 : Int32) (v1 : Int32) (v3 : Int32) : Int32 :=
  (if (f_X1_isStrong gs p0) = 0 then f_X3_nearFaults_j156 tv gc gs gb gv p0 v1 v3 else (if (f_X5_isDissonant (f_X3_gapAt tc tv gc gs gf gv p0)) = 0 then f_X3_nearFaults_j156 tv gc gs gb gv p0 v1 v3 else f_X3_nearFaults_j156 tv gc gs gb gv p0 v1 (v3 ||| (4 : Int32))))
theorem e_X3_nearFaults_j132 {tc : Int32} {tv : Nat → Int32} {gc : Int32} {gs : Int32} {gb : Int32} {gf : Int32} {gv : Nat → Int32} {p0 : Int32} {v1 : Int32} {v3 : Int32} : f_X3_nearFaults_j132 tc tv gc gs gb gf gv p0 v1 v3 = (if (f_X1_isStrong gs p0) = 0 then f_X3_nearFaults_j156 tv gc gs gb gv p0 v1 v3 else (if (f_X5_isDissonant (f_X3_gapAt tc tv gc gs gf gv p0)) = 0 then f_X3_nearFaults_j156 tv gc gs gb gv p0 v1 v3 else f_X3_nearFaults_j156 tv gc gs gb gv p0 v1 (v3 ||| (4 : Int32)))) := rfl
def f_X3_nearFaults_j126 (tc : Int32) (tv : Nat → Int32) (gc : Int32) (gs : Int32) (gb : Int32) (gf : Int32) (gv : Nat → Int32) (p0 : Int32) (v1 : Int32) (v2 : Int32) : Int32 :=
  f_X3_nearFaults_j132 tc tv gc gs gb gf gv p0 v1 (v2 ||| (2 : Int32))
theorem e_X3_nearFaults_j126 {tc : Int32} {tv : Nat → Int32} {gc : Int32} {gs : Int32} {gb : Int32} {gf : Int32} {gv : Nat → Int32} {p0 : Int32} {v1 : Int32} {v2 : Int32} : f_X3_nearFaults_j126 tc tv gc gs gb gf gv p0 v1 v2 = f_X3_nearFaults_j132 tc tv gc gs gb gf gv p0 v1 (v2 ||| (2 : Int32)) := rfl
def f_X3_nearFaults_j107 (tc : Int32) (tv : Nat → Int32) (gc : Int32) (gs : Int32) (gb : Int32) (gf : Int32) (gv : Nat → Int32) (p0 : Int32) (v1 : Int32) (v2 : Int32) : Int32 :=
  (if v1 = 0 then f_X3_nearFaults_j132 tc tv gc gs gb gf gv p0 v1 v2 else (if (f_X5_isUnison (f_X3_gapAt tc tv gc gs gf gv p0)) = 0 then f_X3_nearFaults_j126 tc tv gc gs gb gf gv p0 v1 v2 else (if (f_X3_comesByContrarySteps tv gc gs gv p0) = 0 then f_X3_nearFaults_j126 tc tv gc gs gb gf gv p0 v1 v2 else f_X3_nearFaults_j132 tc tv gc gs gb gf gv p0 v1 v2)))
theorem e_X3_nearFaults_j107 {tc : Int32} {tv : Nat → Int32} {gc : Int32} {gs : Int32} {gb : Int32} {gf : Int32} {gv : Nat → Int32} {p0 : Int32} {v1 : Int32} {v2 : Int32} : f_X3_nearFaults_j107 tc tv gc gs gb gf gv p0 v1 v2 = (if v1 = 0 then f_X3_nearFaults_j132 tc tv gc gs gb gf gv p0 v1 v2 else (if (f_X5_isUnison (f_X3_gapAt tc tv gc gs gf gv p0)) = 0 then f_X3_nearFaults_j126 tc tv gc gs gb gf gv p0 v1 v2 else (if (f_X3_comesByContrarySteps tv gc gs gv p0) = 0 then f_X3_nearFaults_j126 tc tv gc gs gb gf gv p0 v1 v2 else f_X3_nearFaults_j132 tc tv gc gs gb gf gv p0 v1 v2))) := rfl
def f_X3_nearFaults_j104 (tc : Int32) (tv : Nat → Int32) (gc : Int32) (gs : Int32) (gb : Int32) (gf : Int32) (gv : Nat → Int32) (p0 : Int32) (v1 : Int32) : Int32 :=
  f_X3_nearFaults_j107 tc tv gc gs gb gf gv p0 v1 (1 : Int32)
theorem e_X3_nearFaults_j104 {tc : Int32} {tv : Nat → Int32} {gc : Int32} {gs : Int32} {gb : Int32} {gf : Int32} {gv : Nat → Int32} {p0 : Int32} {v1 : Int32} : f_X3_nearFaults_j104 tc tv gc gs gb gf gv p0 v1 = f_X3_nearFaults_j107 tc tv gc gs gb gf gv p0 v1 (1 : Int32) := rfl
def f_X3_nearFaults_j24 (tc : Int32) (tv : Nat → Int32) (gc : Int32) (gs : Int32) (gb : Int32) (gf : Int32) (gv : Nat → Int32) (p0 : Int32) (v1 : Int32) : Int32 :=
  (if p0 ≤ 0 then (if (f_X5_isPerfect (f_X3_gapAt tc tv gc gs gf gv p0)) = 0 then f_X3_nearFaults_j104 tc tv gc gs gb gf gv p0 v1 else (if (f_X5_isFifth (f_X3_gapAt tc tv gc gs gf gv p0)) = 0 then f_X3_nearFaults_j107 tc tv gc gs gb gf gv p0 v1 (0 : Int32) else (if 0 ≤ ((f_X3_toneAt tv p0) - (f_X1_against gc gs gv p0)) then f_X3_nearFaults_j107 tc tv gc gs gb gf gv p0 v1 (0 : Int32) else f_X3_nearFaults_j104 tc tv gc gs gb gf gv p0 v1))) else f_X3_nearFaults_j107 tc tv gc gs gb gf gv p0 v1 ((f_X3_parallels tv gc gs gv p0 (f_X3_gapAt tc tv gc gs gf gv p0) (f_X3_gapAt tc tv gc gs gf gv (p0 - (1 : Int32)))) ||| (f_X3_moves tv p0 ((f_X3_heightAt tc tv gc gs gf p0) - (f_X3_heightAt tc tv gc gs gf (p0 - (1 : Int32)))))))
theorem e_X3_nearFaults_j24 {tc : Int32} {tv : Nat → Int32} {gc : Int32} {gs : Int32} {gb : Int32} {gf : Int32} {gv : Nat → Int32} {p0 : Int32} {v1 : Int32} : f_X3_nearFaults_j24 tc tv gc gs gb gf gv p0 v1 = (if p0 ≤ 0 then (if (f_X5_isPerfect (f_X3_gapAt tc tv gc gs gf gv p0)) = 0 then f_X3_nearFaults_j104 tc tv gc gs gb gf gv p0 v1 else (if (f_X5_isFifth (f_X3_gapAt tc tv gc gs gf gv p0)) = 0 then f_X3_nearFaults_j107 tc tv gc gs gb gf gv p0 v1 (0 : Int32) else (if 0 ≤ ((f_X3_toneAt tv p0) - (f_X1_against gc gs gv p0)) then f_X3_nearFaults_j107 tc tv gc gs gb gf gv p0 v1 (0 : Int32) else f_X3_nearFaults_j104 tc tv gc gs gb gf gv p0 v1))) else f_X3_nearFaults_j107 tc tv gc gs gb gf gv p0 v1 ((f_X3_parallels tv gc gs gv p0 (f_X3_gapAt tc tv gc gs gf gv p0) (f_X3_gapAt tc tv gc gs gf gv (p0 - (1 : Int32)))) ||| (f_X3_moves tv p0 ((f_X3_heightAt tc tv gc gs gf p0) - (f_X3_heightAt tc tv gc gs gf (p0 - (1 : Int32))))))) := rfl
def f_X3_nearFaults (tc : Int32) (tv : Nat → Int32) (gc : Int32) (gs : Int32) (gb : Int32) (gf : Int32) (gv : Nat → Int32) (p0 : Int32) : Int32 :=
  (if p0 = ((f_X1_room gc gs) - (1 : Int32)) then f_X3_nearFaults_j24 tc tv gc gs gb gf gv p0 (1 : Int32) else f_X3_nearFaults_j24 tc tv gc gs gb gf gv p0 (0 : Int32))
theorem e_X3_nearFaults {tc : Int32} {tv : Nat → Int32} {gc : Int32} {gs : Int32} {gb : Int32} {gf : Int32} {gv : Nat → Int32} {p0 : Int32} : f_X3_nearFaults tc tv gc gs gb gf gv p0 = (if p0 = ((f_X1_room gc gs) - (1 : Int32)) then f_X3_nearFaults_j24 tc tv gc gs gb gf gv p0 (1 : Int32) else f_X3_nearFaults_j24 tc tv gc gs gb gf gv p0 (0 : Int32)) := rfl
section
variable {p : Program} {l : Launch} {e : Env} {s : State} {m : MethodId} {args : Array Value} {below : List Frame} {meth : Method} {c : Code} {Q : State → Prop} {H : Heap} {locs : List Loc} {dC : Nat → ClassId} {dI : Nat → Nat → Nat} {cI cJ : ClassId}
abbrev rm_X3_nearFaults : Room := { frames := 3, cells := 0, slots := 0, locals := 69 }
theorem hd_X3_nearFaults : yX3_nearFaults.cls = RX3 ∧ yX3_nearFaults.cls ≠ "java/lang/invoke/MethodHandle" ∧ yX3_nearFaults.cls ≠ "java/lang/invoke/VarHandle" ∧ (parseMethodDescriptor yX3_nearFaults.desc).map (fun d => d.parameters.length) = some 1 := by decide +kernel
set_option maxHeartbeats 4000000 in
set_option maxRecDepth 100000 in
theorem w_X3_nearFaults {aL : Nat} {aG : Nat} {aT : Nat} {aV : Nat} {tc : Int32} {tv : Nat → Int32} {gc : Int32} {gs : Int32} {gb : Int32} {gf : Int32} {gl : Int32} {gh : Int32} {gn : Int32} {gv : Nat → Int32} {p0 : Int32} (hz_gb : zb gb) (hz_gf : zb gf) {F : Int32} (hx : p.tables.exec = Jvm.exec) (hb : c.code = cX3_nearFaults) (hml : c.maxLocals = 6) (hown : s.vm.findClass RX3 = some m.cls) (hts : ∀ w ∈ wsX3_nearFaults, w.before args s = true) (hK : va_K (dC, dI) vwCl [(cI, .int), (cJ, .long)] s) (hP : va_P (dC, dI) vwCl [(aL, .inr (4, [.ref aG, .ref aT, .int tc])), (aT, .inl (cI, 53, .inl tv)), (aG, .inr (2, [.ref aV, .int gc, .int gs, .int gb, .int gf, .int gl, .int gh, .int gn])), (aV, .inl (cI, 14, .inl gv))] H) (hR : F = f_X3_nearFaults tc tv gc gs gb gf gv p0) (kR : ∀ (r : Int32) (pc : Nat) (ls : Array Slot), r = F → decode cX3_nearFaults pc = .ok (.ireturn, 1) → W p l e rm_X3_nearFaults s m args below meth c H locs 0 0 Q (F0 m pc ls [.int r])) (ls : Array Slot) (hl : lv_has ls 6 [(0, .ref aL), (1, .int p0)]) : W p l e rm_X3_nearFaults s m args below meth c H locs 0 0 Q (F0 m 0 ls []) := by
  have hR := hR.trans e_X3_nearFaults
  refine lv_aload_n hx hb dX3_nearFaults_0 rfl (lv_at hl 0 rfl) ?_
  refine lv_iload_n hx hb dX3_nearFaults_1 rfl (lv_at hl 1 rfl) ?_
  refine rV_i (q0 := 0) (As := [.int p0]) (rest := []) ⟨hx, hb, hml, hown, hts⟩ (m_X3_gapAt l dC dI cI cJ aL aG aT aV tc tv gc gs gb gf gl gh gn gv p0 hz_gb hz_gf) (cwV 1 hts (gi_V wm_166 wm_167 wm_168 wm_3 wm_169) rfl rfl rfl hd_X3_gapAt ⟨Nat.le_of_ble_eq_true rfl, Nat.le_of_ble_eq_true rfl⟩) hK (hP.sub [0, 1, 2, 3] rfl) rfl rfl rfl hl.1 rfl (Nat.le_of_ble_eq_true rfl) dX3_nearFaults_2 ⟨Nat.zero_le _, Nat.zero_le _⟩ ?_
  refine lv_istore_n (lv' := [(2, .int (f_X3_gapAt tc tv gc gs gf gv p0)), (0, .ref aL), (1, .int p0)]) hx hb dX3_nearFaults_5 rfl hl (by decide) rfl (fun ls hl => ?_)
  refine lv_iload_n hx hb dX3_nearFaults_6 rfl (lv_at hl 2 rfl) ?_
  refine lv_aload_n hx hb dX3_nearFaults_7 rfl (lv_at hl 1 rfl) ?_
  refine va_get (D := (dC, dI)) (ci := 4) (v := .ref aG) (C := RX3) (T := TX3) (N := 3) hx hb hts inC_X3 hown hK hP 0 rfl rfl 0 (by decide) (hts (.fieldLink RX3 7 "Counterpointery$Line" "ground" "LCounterpointery$Ground;") (List.mem_cons_of_mem _ wm_138)) (fun _ h9 => h9) rfl dX3_nearFaults_8 ?_
  refine rV_i (q0 := 0) (As := []) (rest := [.int p0]) ⟨hx, hb, hml, hown, hts⟩ (m_X1_room l dC dI cI cJ aG aV gc gs gb gf gl gh gn gv) (cwV 0 hts (gi_V wm_139 wm_140 wm_141 wm_65 wm_142) rfl rfl rfl hd_X1_room ⟨Nat.le_of_ble_eq_true rfl, Nat.le_of_ble_eq_true rfl⟩) hK (hP.sub [2, 3] rfl) rfl rfl rfl hl.1 rfl (Nat.le_of_ble_eq_true rfl) dX3_nearFaults_11 ⟨Nat.zero_le _, Nat.zero_le _⟩ ?_
  refine lv_iconst (v := (1 : Int32)) hx hb dX3_nearFaults_14 (by decide) ?_
  refine lv_isub hx hb dX3_nearFaults_15 ?_
  have J24 : ∀ (v1 : Int32) (ls : Array Slot), lv_has ls 6 [(0, .ref aL), (1, .int p0), (2, .int (f_X3_gapAt tc tv gc gs gf gv p0))] → zb v1 → F = f_X3_nearFaults_j24 tc tv gc gs gb gf gv p0 v1 → W p l e rm_X3_nearFaults s m args below meth c H locs 0 0 Q (F0 m 24 ls [.int v1]) := by
    intro v1 ls hl hz_v1 hR
    have hR := hR.trans e_X3_nearFaults_j24
    refine lv_istore_n (lv' := [(3, .int v1), (0, .ref aL), (1, .int p0), (2, .int (f_X3_gapAt tc tv gc gs gf gv p0))]) hx hb dX3_nearFaults_24 rfl hl (by decide) rfl (fun ls hl => ?_)
    refine lv_aload_n hx hb dX3_nearFaults_25 rfl (lv_at hl 1 rfl) ?_
    refine lv_iload_n hx hb dX3_nearFaults_26 rfl (lv_at hl 2 rfl) ?_
    refine rV_i (q0 := 0) (As := [.int p0]) (rest := []) ⟨hx, hb, hml, hown, hts⟩ (m_X3_toneAt l dC dI cI cJ aL aG aT aV tc tv gc gs gb gf gl gh gn gv p0) (cwV 1 hts (gi_V wm_38 wm_7 wm_8 wm_3 wm_9) rfl rfl rfl hd_X3_toneAt ⟨Nat.le_of_ble_eq_true rfl, Nat.le_of_ble_eq_true rfl⟩) hK (hP.sub [0, 1, 2, 3] rfl) rfl rfl rfl hl.1 rfl (Nat.le_of_ble_eq_true rfl) dX3_nearFaults_27 ⟨Nat.zero_le _, Nat.zero_le _⟩ ?_
    refine lv_aload_n hx hb dX3_nearFaults_30 rfl (lv_at hl 1 rfl) ?_
    refine va_get (D := (dC, dI)) (ci := 4) (v := .ref aG) (C := RX3) (T := TX3) (N := 3) hx hb hts inC_X3 hown hK hP 0 rfl rfl 0 (by decide) (hts (.fieldLink RX3 7 "Counterpointery$Line" "ground" "LCounterpointery$Ground;") (List.mem_cons_of_mem _ wm_138)) (fun _ h9 => h9) rfl dX3_nearFaults_31 ?_
    refine lv_iload_n hx hb dX3_nearFaults_34 rfl (lv_at hl 2 rfl) ?_
    refine rV_i (q0 := 0) (As := [.int p0]) (rest := [.int (f_X3_toneAt tv p0)]) ⟨hx, hb, hml, hown, hts⟩ (m_X1_against l dC dI cI cJ aG aV gc gs gb gf gl gh gn gv p0) (cwV 1 hts (gi_V wm_156 wm_68 wm_69 wm_65 wm_70) rfl rfl rfl hd_X1_against ⟨Nat.le_of_ble_eq_true rfl, Nat.le_of_ble_eq_true rfl⟩) hK (hP.sub [2, 3] rfl) rfl rfl rfl hl.1 rfl (Nat.le_of_ble_eq_true rfl) dX3_nearFaults_35 ⟨Nat.zero_le _, Nat.zero_le _⟩ ?_
    refine lv_isub hx hb dX3_nearFaults_38 ?_
    refine lv_istore (lv' := [(4, .int ((f_X3_toneAt tv p0) - (f_X1_against gc gs gv p0))), (3, .int v1), (0, .ref aL), (1, .int p0), (2, .int (f_X3_gapAt tc tv gc gs gf gv p0))]) hx hb dX3_nearFaults_39 hl (by decide) rfl (fun ls hl => ?_)
    refine lv_iconst (v := (0 : Int32)) hx hb dX3_nearFaults_41 (by decide) ?_
    refine lv_istore (lv' := [(5, .int (0 : Int32)), (4, .int ((f_X3_toneAt tv p0) - (f_X1_against gc gs gv p0))), (3, .int v1), (0, .ref aL), (1, .int p0), (2, .int (f_X3_gapAt tc tv gc gs gf gv p0))]) hx hb dX3_nearFaults_42 hl (by decide) rfl (fun ls hl => ?_)
    refine lv_iload_n hx hb dX3_nearFaults_44 rfl (lv_at hl 4 rfl) ?_
    have J107 : ∀ (v2 : Int32) (ls : Array Slot), lv_has ls 6 [(0, .ref aL), (1, .int p0), (2, .int (f_X3_gapAt tc tv gc gs gf gv p0)), (3, .int v1), (4, .int ((f_X3_toneAt tv p0) - (f_X1_against gc gs gv p0))), (5, .int v2)] → F = f_X3_nearFaults_j107 tc tv gc gs gb gf gv p0 v1 v2 → W p l e rm_X3_nearFaults s m args below meth c H locs 0 0 Q (F0 m 107 ls []) := by
      intro v2 ls hl hR
      have hR := hR.trans e_X3_nearFaults_j107
      refine lv_iload_n hx hb dX3_nearFaults_107 rfl (lv_at hl 3 rfl) ?_
      have J132 : ∀ (v3 : Int32) (ls : Array Slot), lv_has ls 6 [(0, .ref aL), (1, .int p0), (2, .int (f_X3_gapAt tc tv gc gs gf gv p0)), (3, .int v1), (4, .int ((f_X3_toneAt tv p0) - (f_X1_against gc gs gv p0))), (5, .int v3)] → F = f_X3_nearFaults_j132 tc tv gc gs gb gf gv p0 v1 v3 → W p l e rm_X3_nearFaults s m args below meth c H locs 0 0 Q (F0 m 132 ls []) := by
        intro v3 ls hl hR
        have hR := hR.trans e_X3_nearFaults_j132
        refine lv_aload_n hx hb dX3_nearFaults_132 rfl (lv_at hl 0 rfl) ?_
        refine va_get (D := (dC, dI)) (ci := 4) (v := .ref aG) (C := RX3) (T := TX3) (N := 3) hx hb hts inC_X3 hown hK hP 0 rfl rfl 0 (by decide) (hts (.fieldLink RX3 7 "Counterpointery$Line" "ground" "LCounterpointery$Ground;") (List.mem_cons_of_mem _ wm_138)) (fun _ h9 => h9) rfl dX3_nearFaults_133 ?_
        refine lv_iload_n hx hb dX3_nearFaults_136 rfl (lv_at hl 1 rfl) ?_
        refine rV_i (q0 := 0) (As := [.int p0]) (rest := []) ⟨hx, hb, hml, hown, hts⟩ (m_X1_isStrong l dC dI cI cJ aG aV gc gs gb gf gl gh gn gv p0) (cwV 1 hts (gi_V wm_195 wm_196 wm_197 wm_65 wm_198) rfl rfl rfl hd_X1_isStrong ⟨Nat.le_of_ble_eq_true rfl, Nat.le_of_ble_eq_true rfl⟩) hK (hP.sub [2, 3] rfl) rfl rfl rfl hl.1 rfl (Nat.le_of_ble_eq_true rfl) dX3_nearFaults_137 ⟨Nat.zero_le _, Nat.zero_le _⟩ ?_
        have J156 : ∀ (v4 : Int32) (ls : Array Slot), lv_has ls 6 [(0, .ref aL), (1, .int p0), (3, .int v1), (4, .int ((f_X3_toneAt tv p0) - (f_X1_against gc gs gv p0))), (5, .int v4)] → F = f_X3_nearFaults_j156 tv gc gs gb gv p0 v1 v4 → W p l e rm_X3_nearFaults s m args below meth c H locs 0 0 Q (F0 m 156 ls []) := by
          intro v4 ls hl hR
          have hR := hR.trans e_X3_nearFaults_j156
          refine lv_aload_n hx hb dX3_nearFaults_156 rfl (lv_at hl 0 rfl) ?_
          refine va_get (D := (dC, dI)) (ci := 4) (v := .ref aG) (C := RX3) (T := TX3) (N := 3) hx hb hts inC_X3 hown hK hP 0 rfl rfl 0 (by decide) (hts (.fieldLink RX3 7 "Counterpointery$Line" "ground" "LCounterpointery$Ground;") (List.mem_cons_of_mem _ wm_138)) (fun _ h9 => h9) rfl dX3_nearFaults_157 ?_
          refine rV_i (q0 := 0) (As := []) (rest := []) ⟨hx, hb, hml, hown, hts⟩ (m_X1_isBelow l dC dI cI cJ aG aV gc gs gb gf gl gh gn gv hz_gb) (cwV 0 hts (gi_V wm_200 wm_201 wm_202 wm_65 wm_203) rfl rfl rfl hd_X1_isBelow ⟨Nat.le_of_ble_eq_true rfl, Nat.le_of_ble_eq_true rfl⟩) hK (hP.sub [2, 3] rfl) rfl rfl rfl hl.1 rfl (Nat.le_of_ble_eq_true rfl) dX3_nearFaults_160 ⟨Nat.zero_le _, Nat.zero_le _⟩ ?_
          have J187 : ∀ (v5 : Int32) (ls : Array Slot), lv_has ls 6 [(1, .int p0), (3, .int v1), (4, .int ((f_X3_toneAt tv p0) - (f_X1_against gc gs gv p0))), (5, .int v5)] → F = f_X3_nearFaults_j187 tv gc gs gv p0 v1 v5 → W p l e rm_X3_nearFaults s m args below meth c H locs 0 0 Q (F0 m 187 ls []) := by
            intro v5 ls hl hR
            have hR := hR.trans e_X3_nearFaults_j187
            refine lv_iload hx hb dX3_nearFaults_187 (lv_at hl 2 rfl) ?_
            refine lv_if_ne (tgt := 208) hx hb dX3_nearFaults_189 (by decide) (fun c_1 => ?_) (fun c_1 => ?_)
            · have hR := hR.trans (if_neg c_1)
              refine lv_iload hx hb dX3_nearFaults_208 (lv_at hl 3 rfl) ?_
              exact kR v5 210 ls hR.symm dX3_nearFaults_210
            · have hR := hR.trans (if_pos c_1)
              refine lv_iload_n hx hb dX3_nearFaults_192 rfl (lv_at hl 0 rfl) ?_
              refine lv_if_le (tgt := 208) hx hb dX3_nearFaults_193 (by decide) (fun c_2 => ?_) (fun c_2 => ?_)
              · have hR := hR.trans (if_pos c_2)
                refine lv_iload hx hb dX3_nearFaults_208 (lv_at hl 3 rfl) ?_
                exact kR v5 210 ls hR.symm dX3_nearFaults_210
              · have hR := hR.trans (if_neg c_2)
                refine lv_iload_n hx hb dX3_nearFaults_196 rfl (lv_at hl 1 rfl) ?_
                refine lv_if_ne (tgt := 208) hx hb dX3_nearFaults_197 (by decide) (fun c_3 => ?_) (fun c_3 => ?_)
                · have hR := hR.trans (if_neg c_3)
                  refine lv_iload hx hb dX3_nearFaults_208 (lv_at hl 3 rfl) ?_
                  exact kR v5 210 ls hR.symm dX3_nearFaults_210
                · have hR := hR.trans (if_pos c_3)
                  refine lv_iload hx hb dX3_nearFaults_200 (lv_at hl 3 rfl) ?_
                  refine lv_sipush (v := (256 : Int32)) hx hb dX3_nearFaults_202 (by decide +kernel) ?_
                  refine lv_ior hx hb dX3_nearFaults_205 ?_
                  refine lv_istore (lv' := [(5, .int (v5 ||| (256 : Int32))), (1, .int p0), (3, .int v1), (4, .int ((f_X3_toneAt tv p0) - (f_X1_against gc gs gv p0)))]) hx hb dX3_nearFaults_206 hl (by decide) rfl (fun ls hl => ?_)
                  refine lv_iload hx hb dX3_nearFaults_208 (lv_at hl 0 rfl) ?_
                  exact kR (v5 ||| (256 : Int32)) 210 ls hR.symm dX3_nearFaults_210
          have J179 : ∀ (ls : Array Slot), lv_has ls 6 [(1, .int p0), (3, .int v1), (4, .int ((f_X3_toneAt tv p0) - (f_X1_against gc gs gv p0))), (5, .int v4)] → F = f_X3_nearFaults_j179 tv gc gs gv p0 v1 v4 → W p l e rm_X3_nearFaults s m args below meth c H locs 0 0 Q (F0 m 179 ls []) := by
            intro ls hl hR
            have hR := hR.trans e_X3_nearFaults_j179
            refine lv_iload hx hb dX3_nearFaults_179 (lv_at hl 3 rfl) ?_
            refine lv_sipush (v := (128 : Int32)) hx hb dX3_nearFaults_181 (by decide) ?_
            refine lv_ior hx hb dX3_nearFaults_184 ?_
            refine lv_istore (lv' := [(5, .int (v4 ||| (128 : Int32))), (1, .int p0), (3, .int v1), (4, .int ((f_X3_toneAt tv p0) - (f_X1_against gc gs gv p0)))]) hx hb dX3_nearFaults_185 hl (by decide) rfl (fun ls hl => ?_)
            exact J187 (v4 ||| (128 : Int32)) ls (lv_sub hl [1, 2, 3, 0] rfl) hR
          refine lv_if_eq (tgt := 174) hx hb dX3_nearFaults_163 (by decide) (fun c_4 => ?_) (fun c_4 => ?_)
          · have hR := hR.trans (if_pos c_4)
            refine lv_iload hx hb dX3_nearFaults_174 (lv_at hl 3 rfl) ?_
            refine lv_if_ge (tgt := 187) hx hb dX3_nearFaults_176 (by decide) (fun c_5 => ?_) (fun c_5 => ?_)
            · have hR := hR.trans (if_pos c_5)
              exact J187 v4 ls (lv_sub hl [1, 2, 3, 4] rfl) hR
            · have hR := hR.trans (if_neg c_5)
              exact J179 ls (lv_sub hl [1, 2, 3, 4] rfl) hR
          · have hR := hR.trans (if_neg c_4)
            refine lv_iload hx hb dX3_nearFaults_166 (lv_at hl 3 rfl) ?_
            refine lv_if_le (tgt := 187) hx hb dX3_nearFaults_168 (by decide) (fun c_6 => ?_) (fun c_6 => ?_)
            · have hR := hR.trans (if_pos c_6)
              exact J187 v4 ls (lv_sub hl [1, 2, 3, 4] rfl) hR
            · have hR := hR.trans (if_neg c_6)
              refine lv_goto (tgt := 179) hx hb dX3_nearFaults_171 (by decide) ?_
              exact J179 ls (lv_sub hl [1, 2, 3, 4] rfl) hR
        refine lv_if_eq (tgt := 156) hx hb dX3_nearFaults_140 (by decide) (fun c_7 => ?_) (fun c_7 => ?_)
        · have hR := hR.trans (if_pos c_7)
          exact J156 v3 ls (lv_sub hl [0, 1, 3, 4, 5] rfl) hR
        · have hR := hR.trans (if_neg c_7)
          refine lv_iload_n hx hb dX3_nearFaults_143 rfl (lv_at hl 2 rfl) ?_
          refine rS_i (As := [.int (f_X3_gapAt tc tv gc gs gf gv p0)]) (rest := []) ⟨hx, hb, hml, hown, hts⟩ (m_X5_isDissonant l dC dI cI cJ (f_X3_gapAt tc tv gc gs gf gv p0)) (va_cwS 1 hts (gi_S wm_199 wm_26 wm_13 wm_27) rfl rfl rfl hd_X5_isDissonant ⟨Nat.le_of_ble_eq_true rfl, Nat.le_of_ble_eq_true rfl⟩) hK (hP.sub [] rfl) rfl hl.1 rfl (Nat.le_of_ble_eq_true rfl) dX3_nearFaults_144 ⟨Nat.zero_le _, Nat.zero_le _⟩ ?_
          refine lv_if_eq (tgt := 156) hx hb dX3_nearFaults_147 (by decide) (fun c_8 => ?_) (fun c_8 => ?_)
          · have hR := hR.trans (if_pos c_8)
            exact J156 v3 ls (lv_sub hl [0, 1, 3, 4, 5] rfl) hR
          · have hR := hR.trans (if_neg c_8)
            refine lv_iload hx hb dX3_nearFaults_150 (lv_at hl 5 rfl) ?_
            refine lv_iconst (v := (4 : Int32)) hx hb dX3_nearFaults_152 (by decide) ?_
            refine lv_ior hx hb dX3_nearFaults_153 ?_
            refine lv_istore (lv' := [(5, .int (v3 ||| (4 : Int32))), (0, .ref aL), (1, .int p0), (2, .int (f_X3_gapAt tc tv gc gs gf gv p0)), (3, .int v1), (4, .int ((f_X3_toneAt tv p0) - (f_X1_against gc gs gv p0)))]) hx hb dX3_nearFaults_154 hl (by decide) rfl (fun ls hl => ?_)
            exact J156 (v3 ||| (4 : Int32)) ls (lv_sub hl [1, 2, 4, 5, 0] rfl) hR
      refine lv_if_eq (tgt := 132) hx hb dX3_nearFaults_108 (by decide) (fun c_9 => ?_) (fun c_9 => ?_)
      · have hR := hR.trans (if_pos c_9)
        exact J132 v2 ls (lv_sub hl [0, 1, 2, 3, 4, 5] rfl) hR
      · have hR := hR.trans (if_neg c_9)
        refine lv_iload_n hx hb dX3_nearFaults_111 rfl (lv_at hl 2 rfl) ?_
        refine rS_i (As := [.int (f_X3_gapAt tc tv gc gs gf gv p0)]) (rest := []) ⟨hx, hb, hml, hown, hts⟩ (m_X5_isUnison l dC dI cI cJ (f_X3_gapAt tc tv gc gs gf gv p0)) (va_cwS 1 hts (gi_S wm_188 wm_189 wm_13 wm_190) rfl rfl rfl hd_X5_isUnison ⟨Nat.le_of_ble_eq_true rfl, Nat.le_of_ble_eq_true rfl⟩) hK (hP.sub [] rfl) rfl hl.1 rfl (Nat.le_of_ble_eq_true rfl) dX3_nearFaults_112 ⟨Nat.zero_le _, Nat.zero_le _⟩ ?_
        have J126 : ∀ (ls : Array Slot), lv_has ls 6 [(0, .ref aL), (1, .int p0), (2, .int (f_X3_gapAt tc tv gc gs gf gv p0)), (3, .int v1), (4, .int ((f_X3_toneAt tv p0) - (f_X1_against gc gs gv p0))), (5, .int v2)] → F = f_X3_nearFaults_j126 tc tv gc gs gb gf gv p0 v1 v2 → W p l e rm_X3_nearFaults s m args below meth c H locs 0 0 Q (F0 m 126 ls []) := by
          intro ls hl hR
          have hR := hR.trans e_X3_nearFaults_j126
          refine lv_iload hx hb dX3_nearFaults_126 (lv_at hl 5 rfl) ?_
          refine lv_iconst (v := (2 : Int32)) hx hb dX3_nearFaults_128 (by decide) ?_
          refine lv_ior hx hb dX3_nearFaults_129 ?_
          refine lv_istore (lv' := [(5, .int (v2 ||| (2 : Int32))), (0, .ref aL), (1, .int p0), (2, .int (f_X3_gapAt tc tv gc gs gf gv p0)), (3, .int v1), (4, .int ((f_X3_toneAt tv p0) - (f_X1_against gc gs gv p0)))]) hx hb dX3_nearFaults_130 hl (by decide) rfl (fun ls hl => ?_)
          exact J132 (v2 ||| (2 : Int32)) ls (lv_sub hl [1, 2, 3, 4, 5, 0] rfl) hR
        refine lv_if_eq (tgt := 126) hx hb dX3_nearFaults_115 (by decide) (fun c_10 => ?_) (fun c_10 => ?_)
        · have hR := hR.trans (if_pos c_10)
          exact J126 ls (lv_sub hl [0, 1, 2, 3, 4, 5] rfl) hR
        · have hR := hR.trans (if_neg c_10)
          refine lv_aload_n hx hb dX3_nearFaults_118 rfl (lv_at hl 0 rfl) ?_
          refine lv_iload_n hx hb dX3_nearFaults_119 rfl (lv_at hl 1 rfl) ?_
          refine rV_i (q0 := 0) (As := [.int p0]) (rest := []) ⟨hx, hb, hml, hown, hts⟩ (m_X3_comesByContrarySteps l dC dI cI cJ aL aG aT aV tc tv gc gs gb gf gl gh gn gv p0 hz_gb hz_gf) (cwV 1 hts (gi_V wm_191 wm_192 wm_193 wm_3 wm_194) rfl rfl rfl hd_X3_comesByContrarySteps ⟨Nat.le_of_ble_eq_true rfl, Nat.le_of_ble_eq_true rfl⟩) hK (hP.sub [0, 1, 2, 3] rfl) rfl rfl rfl hl.1 rfl (Nat.le_of_ble_eq_true rfl) dX3_nearFaults_120 ⟨Nat.zero_le _, Nat.zero_le _⟩ ?_
          refine lv_if_ne (tgt := 132) hx hb dX3_nearFaults_123 (by decide) (fun c_11 => ?_) (fun c_11 => ?_)
          · have hR := hR.trans (if_neg c_11)
            exact J132 v2 ls (lv_sub hl [0, 1, 2, 3, 4, 5] rfl) hR
          · have hR := hR.trans (if_pos c_11)
            exact J126 ls (lv_sub hl [0, 1, 2, 3, 4, 5] rfl) hR
    refine lv_if_le (tgt := 85) hx hb dX3_nearFaults_45 (by decide) (fun c_12 => ?_) (fun c_12 => ?_)
    · have hR := hR.trans (if_pos c_12)
      refine lv_iload_n hx hb dX3_nearFaults_85 rfl (lv_at hl 5 rfl) ?_
      refine rS_i (As := [.int (f_X3_gapAt tc tv gc gs gf gv p0)]) (rest := []) ⟨hx, hb, hml, hown, hts⟩ (m_X5_isPerfect l dC dI cI cJ (f_X3_gapAt tc tv gc gs gf gv p0)) (va_cwS 1 hts (gi_S wm_180 wm_29 wm_13 wm_30) rfl rfl rfl hd_X5_isPerfect ⟨Nat.le_of_ble_eq_true rfl, Nat.le_of_ble_eq_true rfl⟩) hK (hP.sub [] rfl) rfl hl.1 rfl (Nat.le_of_ble_eq_true rfl) dX3_nearFaults_86 ⟨Nat.zero_le _, Nat.zero_le _⟩ ?_
      have J104 : ∀ (ls : Array Slot), lv_has ls 6 [(0, .ref aL), (1, .int p0), (2, .int (f_X3_gapAt tc tv gc gs gf gv p0)), (3, .int v1), (4, .int ((f_X3_toneAt tv p0) - (f_X1_against gc gs gv p0)))] → F = f_X3_nearFaults_j104 tc tv gc gs gb gf gv p0 v1 → W p l e rm_X3_nearFaults s m args below meth c H locs 0 0 Q (F0 m 104 ls []) := by
        intro ls hl hR
        have hR := hR.trans e_X3_nearFaults_j104
        refine lv_iconst (v := (1 : Int32)) hx hb dX3_nearFaults_104 (by decide) ?_
        refine lv_istore (lv' := [(5, .int (1 : Int32)), (0, .ref aL), (1, .int p0), (2, .int (f_X3_gapAt tc tv gc gs gf gv p0)), (3, .int v1), (4, .int ((f_X3_toneAt tv p0) - (f_X1_against gc gs gv p0)))]) hx hb dX3_nearFaults_105 hl (by decide) rfl (fun ls hl => ?_)
        exact J107 (1 : Int32) ls (lv_sub hl [1, 2, 3, 4, 5, 0] rfl) hR
      refine lv_if_eq (tgt := 104) hx hb dX3_nearFaults_89 (by decide) (fun c_13 => ?_) (fun c_13 => ?_)
      · have hR := hR.trans (if_pos c_13)
        exact J104 ls (lv_sub hl [3, 4, 5, 2, 1] rfl) hR
      · have hR := hR.trans (if_neg c_13)
        refine lv_iload_n hx hb dX3_nearFaults_92 rfl (lv_at hl 5 rfl) ?_
        refine rS_i (As := [.int (f_X3_gapAt tc tv gc gs gf gv p0)]) (rest := []) ⟨hx, hb, hml, hown, hts⟩ (m_X5_isFifth l dC dI cI cJ (f_X3_gapAt tc tv gc gs gf gv p0)) (va_cwS 1 hts (gi_S wm_185 wm_186 wm_13 wm_187) rfl rfl rfl hd_X5_isFifth ⟨Nat.le_of_ble_eq_true rfl, Nat.le_of_ble_eq_true rfl⟩) hK (hP.sub [] rfl) rfl hl.1 rfl (Nat.le_of_ble_eq_true rfl) dX3_nearFaults_93 ⟨Nat.zero_le _, Nat.zero_le _⟩ ?_
        refine lv_if_eq (tgt := 107) hx hb dX3_nearFaults_96 (by decide) (fun c_14 => ?_) (fun c_14 => ?_)
        · have hR := hR.trans (if_pos c_14)
          exact J107 (0 : Int32) ls (lv_sub hl [3, 4, 5, 2, 1, 0] rfl) hR
        · have hR := hR.trans (if_neg c_14)
          refine lv_iload hx hb dX3_nearFaults_99 (lv_at hl 1 rfl) ?_
          refine lv_if_ge (tgt := 107) hx hb dX3_nearFaults_101 (by decide) (fun c_15 => ?_) (fun c_15 => ?_)
          · have hR := hR.trans (if_pos c_15)
            exact J107 (0 : Int32) ls (lv_sub hl [3, 4, 5, 2, 1, 0] rfl) hR
          · have hR := hR.trans (if_neg c_15)
            exact J104 ls (lv_sub hl [3, 4, 5, 2, 1] rfl) hR
    · have hR := hR.trans (if_neg c_12)
      refine lv_aload_n hx hb dX3_nearFaults_48 rfl (lv_at hl 3 rfl) ?_
      refine lv_iload_n hx hb dX3_nearFaults_49 rfl (lv_at hl 4 rfl) ?_
      refine lv_iload_n hx hb dX3_nearFaults_50 rfl (lv_at hl 5 rfl) ?_
      refine lv_aload_n hx hb dX3_nearFaults_51 rfl (lv_at hl 3 rfl) ?_
      refine lv_iload_n hx hb dX3_nearFaults_52 rfl (lv_at hl 4 rfl) ?_
      refine lv_iconst (v := (1 : Int32)) hx hb dX3_nearFaults_53 (by decide) ?_
      refine lv_isub hx hb dX3_nearFaults_54 ?_
      refine rV_i (q0 := 0) (As := [.int (p0 - (1 : Int32))]) (rest := [.int (f_X3_gapAt tc tv gc gs gf gv p0), .int p0, .ref aL]) ⟨hx, hb, hml, hown, hts⟩ (m_X3_gapAt l dC dI cI cJ aL aG aT aV tc tv gc gs gb gf gl gh gn gv (p0 - (1 : Int32)) hz_gb hz_gf) (cwV 1 hts (gi_V wm_166 wm_167 wm_168 wm_3 wm_169) rfl rfl rfl hd_X3_gapAt ⟨Nat.le_of_ble_eq_true rfl, Nat.le_of_ble_eq_true rfl⟩) hK (hP.sub [0, 1, 2, 3] rfl) rfl rfl rfl hl.1 rfl (Nat.le_of_ble_eq_true rfl) dX3_nearFaults_55 ⟨Nat.zero_le _, Nat.zero_le _⟩ ?_
      refine rV_i (q0 := 0) (As := [.int p0, .int (f_X3_gapAt tc tv gc gs gf gv p0), .int (f_X3_gapAt tc tv gc gs gf gv (p0 - (1 : Int32)))]) (rest := []) ⟨hx, hb, hml, hown, hts⟩ (m_X3_parallels l dC dI cI cJ aL aG aT aV tc tv gc gs gb gf gl gh gn gv p0 (f_X3_gapAt tc tv gc gs gf gv p0) (f_X3_gapAt tc tv gc gs gf gv (p0 - (1 : Int32))) hz_gb hz_gf) (cwV 3 hts (gi_V wm_170 wm_171 wm_172 wm_3 wm_173) rfl rfl rfl hd_X3_parallels ⟨Nat.le_of_ble_eq_true rfl, Nat.le_of_ble_eq_true rfl⟩) hK (hP.sub [0, 1, 2, 3] rfl) rfl rfl rfl hl.1 rfl (Nat.le_of_ble_eq_true rfl) dX3_nearFaults_58 ⟨Nat.zero_le _, Nat.zero_le _⟩ ?_
      refine lv_aload_n hx hb dX3_nearFaults_61 rfl (lv_at hl 3 rfl) ?_
      refine lv_iload_n hx hb dX3_nearFaults_62 rfl (lv_at hl 4 rfl) ?_
      refine lv_aload_n hx hb dX3_nearFaults_63 rfl (lv_at hl 3 rfl) ?_
      refine lv_iload_n hx hb dX3_nearFaults_64 rfl (lv_at hl 4 rfl) ?_
      refine rV_i (q0 := 0) (As := [.int p0]) (rest := [.int p0, .ref aL, .int (f_X3_parallels tv gc gs gv p0 (f_X3_gapAt tc tv gc gs gf gv p0) (f_X3_gapAt tc tv gc gs gf gv (p0 - (1 : Int32))))]) ⟨hx, hb, hml, hown, hts⟩ (m_X3_heightAt l dC dI cI cJ aL aG aT aV tc tv gc gs gb gf gl gh gn gv p0 hz_gb hz_gf) (cwV 1 hts (gi_V wm_157 wm_158 wm_159 wm_3 wm_160) rfl rfl rfl hd_X3_heightAt ⟨Nat.le_of_ble_eq_true rfl, Nat.le_of_ble_eq_true rfl⟩) hK (hP.sub [0, 1, 2, 3] rfl) rfl rfl rfl hl.1 rfl (Nat.le_of_ble_eq_true rfl) dX3_nearFaults_65 ⟨Nat.zero_le _, Nat.zero_le _⟩ ?_
      refine lv_aload_n hx hb dX3_nearFaults_68 rfl (lv_at hl 3 rfl) ?_
      refine lv_iload_n hx hb dX3_nearFaults_69 rfl (lv_at hl 4 rfl) ?_
      refine lv_iconst (v := (1 : Int32)) hx hb dX3_nearFaults_70 (by decide) ?_
      refine lv_isub hx hb dX3_nearFaults_71 ?_
      refine rV_i (q0 := 0) (As := [.int (p0 - (1 : Int32))]) (rest := [.int (f_X3_heightAt tc tv gc gs gf p0), .int p0, .ref aL, .int (f_X3_parallels tv gc gs gv p0 (f_X3_gapAt tc tv gc gs gf gv p0) (f_X3_gapAt tc tv gc gs gf gv (p0 - (1 : Int32))))]) ⟨hx, hb, hml, hown, hts⟩ (m_X3_heightAt l dC dI cI cJ aL aG aT aV tc tv gc gs gb gf gl gh gn gv (p0 - (1 : Int32)) hz_gb hz_gf) (cwV 1 hts (gi_V wm_157 wm_158 wm_159 wm_3 wm_160) rfl rfl rfl hd_X3_heightAt ⟨Nat.le_of_ble_eq_true rfl, Nat.le_of_ble_eq_true rfl⟩) hK (hP.sub [0, 1, 2, 3] rfl) rfl rfl rfl hl.1 rfl (Nat.le_of_ble_eq_true rfl) dX3_nearFaults_72 ⟨Nat.zero_le _, Nat.zero_le _⟩ ?_
      refine lv_isub hx hb dX3_nearFaults_75 ?_
      refine rV_i (q0 := 0) (As := [.int p0, .int ((f_X3_heightAt tc tv gc gs gf p0) - (f_X3_heightAt tc tv gc gs gf (p0 - (1 : Int32))))]) (rest := [.int (f_X3_parallels tv gc gs gv p0 (f_X3_gapAt tc tv gc gs gf gv p0) (f_X3_gapAt tc tv gc gs gf gv (p0 - (1 : Int32))))]) ⟨hx, hb, hml, hown, hts⟩ (m_X3_moves l dC dI cI cJ aL aG aT aV tc tv gc gs gb gf gl gh gn gv p0 ((f_X3_heightAt tc tv gc gs gf p0) - (f_X3_heightAt tc tv gc gs gf (p0 - (1 : Int32)))) hz_gb hz_gf) (cwV 2 hts (gi_V wm_181 wm_182 wm_183 wm_3 wm_184) rfl rfl rfl hd_X3_moves ⟨Nat.le_of_ble_eq_true rfl, Nat.le_of_ble_eq_true rfl⟩) hK (hP.sub [0, 1, 2, 3] rfl) rfl rfl rfl hl.1 rfl (Nat.le_of_ble_eq_true rfl) dX3_nearFaults_76 ⟨Nat.zero_le _, Nat.zero_le _⟩ ?_
      refine lv_ior hx hb dX3_nearFaults_79 ?_
      refine lv_istore (lv' := [(5, .int ((f_X3_parallels tv gc gs gv p0 (f_X3_gapAt tc tv gc gs gf gv p0) (f_X3_gapAt tc tv gc gs gf gv (p0 - (1 : Int32)))) ||| (f_X3_moves tv p0 ((f_X3_heightAt tc tv gc gs gf p0) - (f_X3_heightAt tc tv gc gs gf (p0 - (1 : Int32))))))), (4, .int ((f_X3_toneAt tv p0) - (f_X1_against gc gs gv p0))), (3, .int v1), (0, .ref aL), (1, .int p0), (2, .int (f_X3_gapAt tc tv gc gs gf gv p0))]) hx hb dX3_nearFaults_80 hl (by decide) rfl (fun ls hl => ?_)
      refine lv_goto (tgt := 107) hx hb dX3_nearFaults_82 (by decide) ?_
      exact J107 ((f_X3_parallels tv gc gs gv p0 (f_X3_gapAt tc tv gc gs gf gv p0) (f_X3_gapAt tc tv gc gs gf gv (p0 - (1 : Int32)))) ||| (f_X3_moves tv p0 ((f_X3_heightAt tc tv gc gs gf p0) - (f_X3_heightAt tc tv gc gs gf (p0 - (1 : Int32)))))) ls (lv_sub hl [3, 4, 5, 2, 1, 0] rfl) hR
  refine lv_icmp_ne (tgt := 23) hx hb dX3_nearFaults_16 (by decide) (fun c_16 => ?_) (fun c_16 => ?_)
  · have hR := hR.trans (if_neg c_16)
    refine lv_iconst (v := (0 : Int32)) hx hb dX3_nearFaults_23 (by decide) ?_
    exact J24 (0 : Int32) ls (lv_sub hl [1, 2, 0] rfl) (by first | exact Or.inl rfl | exact Or.inr rfl) hR
  · have hR := hR.trans (if_pos c_16)
    refine lv_iconst (v := (1 : Int32)) hx hb dX3_nearFaults_19 (by decide) ?_
    refine lv_goto (tgt := 24) hx hb dX3_nearFaults_20 (by decide) ?_
    exact J24 (1 : Int32) ls (lv_sub hl [1, 2, 0] rfl) (by first | exact Or.inl rfl | exact Or.inr rfl) hR
set_option maxHeartbeats 4000000 in
set_option maxRecDepth 100000 in
theorem m_X3_nearFaults (l : Launch) (dC : Nat → ClassId) (dI : Nat → Nat → Nat) (cI cJ : ClassId) (aL : Nat) (aG : Nat) (aT : Nat) (aV : Nat) (tc : Int32) (tv : Nat → Int32) (gc : Int32) (gs : Int32) (gb : Int32) (gf : Int32) (gl : Int32) (gh : Int32) (gn : Int32) (gv : Nat → Int32) (p0 : Int32) (hz_gb : zb gb) (hz_gf : zb gf) : Met l yX3_nearFaults wsX3_nearFaults rm_X3_nearFaults (va_Pc [.ref aL, .int p0] (fun U => va_P (dC, dI) vwCl [(aL, .inr (4, [.ref aG, .ref aT, .int tc])), (aT, .inl (cI, 53, .inl tv)), (aG, .inr (2, [.ref aV, .int gc, .int gs, .int gb, .int gf, .int gl, .int gh, .int gn])), (aV, .inl (cI, 14, .inl gv))] U.heap ∧ va_K (dC, dI) vwCl [(cI, .int), (cJ, .long)] U)) (vp_Si (fun r => r = f_X3_nearFaults tc tv gc gs gb gf gv p0)) 0 0 (fun _ => False) := by
  refine Met.ofW (cc := cX3_nearFaults) (maxL := 6) (ret := (some .int)) (by decide) rfl ?_
  intro p e s m args below meth c s₁ B hml hv
  obtain ⟨rfl, hP, hK⟩ := hv
  have hl := lv_entry ([.ref aL, .int p0]) (n := 6) (Nat.le_of_ble_eq_true rfl)
  rw [lg_entry_eq]
  refine w_X3_nearFaults hz_gb hz_gf B.exec B.bytes hml (findClass_of_methodNamed B.named) (atoms_spec (ws := wsX3_nearFaults) B.pre) hK hP rfl (fun r pc ls er hd => ?_) _ hl
  exact W.iret B.exec B.bytes B.returns (fun t ht hW => ⟨r, rfl, er, ht⟩) (fun _ h => by cases h) hd B.notSynchronized
end
def f_X3_bothMovedSinceStrong (tv : Nat → Int32) (gc : Int32) (gs : Int32) (gv : Nat → Int32) (p0 : Int32) : Int32 :=
  (if (f_X1_perGiven gs) = (1 : Int32) then (0 : Int32) else (if (p0 - (f_X1_perGiven gs)) < 0 then (0 : Int32) else (if (f_X1_isStrong gs p0) = 0 then (0 : Int32) else (if (f_X3_toneAt tv p0) = (f_X3_toneAt tv (p0 - (f_X1_perGiven gs))) then (0 : Int32) else (if (f_X1_against gc gs gv p0) = (f_X1_against gc gs gv (p0 - (f_X1_perGiven gs))) then (0 : Int32) else (1 : Int32))))))
theorem e_X3_bothMovedSinceStrong {tv : Nat → Int32} {gc : Int32} {gs : Int32} {gv : Nat → Int32} {p0 : Int32} : f_X3_bothMovedSinceStrong tv gc gs gv p0 = (if (f_X1_perGiven gs) = (1 : Int32) then (0 : Int32) else (if (p0 - (f_X1_perGiven gs)) < 0 then (0 : Int32) else (if (f_X1_isStrong gs p0) = 0 then (0 : Int32) else (if (f_X3_toneAt tv p0) = (f_X3_toneAt tv (p0 - (f_X1_perGiven gs))) then (0 : Int32) else (if (f_X1_against gc gs gv p0) = (f_X1_against gc gs gv (p0 - (f_X1_perGiven gs))) then (0 : Int32) else (1 : Int32)))))) := rfl
section
variable {p : Program} {l : Launch} {e : Env} {s : State} {m : MethodId} {args : Array Value} {below : List Frame} {meth : Method} {c : Code} {Q : State → Prop} {H : Heap} {locs : List Loc} {dC : Nat → ClassId} {dI : Nat → Nat → Nat} {cI cJ : ClassId}
abbrev rm_X3_bothMovedSinceStrong : Room := { frames := 2, cells := 0, slots := 0, locals := 41 }
theorem hd_X3_bothMovedSinceStrong : yX3_bothMovedSinceStrong.cls = RX3 ∧ yX3_bothMovedSinceStrong.cls ≠ "java/lang/invoke/MethodHandle" ∧ yX3_bothMovedSinceStrong.cls ≠ "java/lang/invoke/VarHandle" ∧ (parseMethodDescriptor yX3_bothMovedSinceStrong.desc).map (fun d => d.parameters.length) = some 1 := by decide +kernel
set_option maxHeartbeats 4000000 in
set_option maxRecDepth 100000 in
theorem w_X3_bothMovedSinceStrong {aL : Nat} {aG : Nat} {aT : Nat} {aV : Nat} {tc : Int32} {tv : Nat → Int32} {gc : Int32} {gs : Int32} {gb : Int32} {gf : Int32} {gl : Int32} {gh : Int32} {gn : Int32} {gv : Nat → Int32} {p0 : Int32} (hz_gb : zb gb) (hz_gf : zb gf) {F : Int32} (hx : p.tables.exec = Jvm.exec) (hb : c.code = cX3_bothMovedSinceStrong) (hml : c.maxLocals = 3) (hown : s.vm.findClass RX3 = some m.cls) (hts : ∀ w ∈ wsX3_bothMovedSinceStrong, w.before args s = true) (hK : va_K (dC, dI) vwCl [(cI, .int), (cJ, .long)] s) (hP : va_P (dC, dI) vwCl [(aL, .inr (4, [.ref aG, .ref aT, .int tc])), (aT, .inl (cI, 53, .inl tv)), (aG, .inr (2, [.ref aV, .int gc, .int gs, .int gb, .int gf, .int gl, .int gh, .int gn])), (aV, .inl (cI, 14, .inl gv))] H) (hR : F = f_X3_bothMovedSinceStrong tv gc gs gv p0) (kR : ∀ (r : Int32) (pc : Nat) (ls : Array Slot), zb r → r = F → decode cX3_bothMovedSinceStrong pc = .ok (.ireturn, 1) → W p l e rm_X3_bothMovedSinceStrong s m args below meth c H locs 0 0 Q (F0 m pc ls [.int r])) (ls : Array Slot) (hl : lv_has ls 3 [(0, .ref aL), (1, .int p0)]) : W p l e rm_X3_bothMovedSinceStrong s m args below meth c H locs 0 0 Q (F0 m 0 ls []) := by
  have hR := hR.trans e_X3_bothMovedSinceStrong
  refine lv_iload_n hx hb dX3_bothMovedSinceStrong_0 rfl (lv_at hl 1 rfl) ?_
  refine lv_aload_n hx hb dX3_bothMovedSinceStrong_1 rfl (lv_at hl 0 rfl) ?_
  refine va_get (D := (dC, dI)) (ci := 4) (v := .ref aG) (C := RX3) (T := TX3) (N := 3) hx hb hts inC_X3 hown hK hP 0 rfl rfl 0 (by decide) (hts (.fieldLink RX3 7 "Counterpointery$Line" "ground" "LCounterpointery$Ground;") (List.mem_cons_of_mem _ wm_138)) (fun _ h9 => h9) rfl dX3_bothMovedSinceStrong_2 ?_
  refine rV_i (q0 := 0) (As := []) (rest := [.int p0]) ⟨hx, hb, hml, hown, hts⟩ (m_X1_perGiven l dC dI cI cJ aG aV gc gs gb gf gl gh gn gv) (cwV 0 hts (gi_V wm_212 wm_63 wm_64 wm_65 wm_66) rfl rfl rfl hd_X1_perGiven ⟨Nat.le_of_ble_eq_true rfl, Nat.le_of_ble_eq_true rfl⟩) hK (hP.sub [2, 3] rfl) rfl rfl rfl hl.1 rfl (Nat.le_of_ble_eq_true rfl) dX3_bothMovedSinceStrong_5 ⟨Nat.zero_le _, Nat.zero_le _⟩ ?_
  refine lv_isub hx hb dX3_bothMovedSinceStrong_8 ?_
  refine lv_istore_n (lv' := [(2, .int (p0 - (f_X1_perGiven gs))), (0, .ref aL), (1, .int p0)]) hx hb dX3_bothMovedSinceStrong_9 rfl hl (by decide) rfl (fun ls hl => ?_)
  refine lv_aload_n hx hb dX3_bothMovedSinceStrong_10 rfl (lv_at hl 1 rfl) ?_
  refine va_get (D := (dC, dI)) (ci := 4) (v := .ref aG) (C := RX3) (T := TX3) (N := 3) hx hb hts inC_X3 hown hK hP 0 rfl rfl 0 (by decide) (hts (.fieldLink RX3 7 "Counterpointery$Line" "ground" "LCounterpointery$Ground;") (List.mem_cons_of_mem _ wm_138)) (fun _ h9 => h9) rfl dX3_bothMovedSinceStrong_11 ?_
  refine rV_i (q0 := 0) (As := []) (rest := []) ⟨hx, hb, hml, hown, hts⟩ (m_X1_perGiven l dC dI cI cJ aG aV gc gs gb gf gl gh gn gv) (cwV 0 hts (gi_V wm_212 wm_63 wm_64 wm_65 wm_66) rfl rfl rfl hd_X1_perGiven ⟨Nat.le_of_ble_eq_true rfl, Nat.le_of_ble_eq_true rfl⟩) hK (hP.sub [2, 3] rfl) rfl rfl rfl hl.1 rfl (Nat.le_of_ble_eq_true rfl) dX3_bothMovedSinceStrong_14 ⟨Nat.zero_le _, Nat.zero_le _⟩ ?_
  refine lv_iconst (v := (1 : Int32)) hx hb dX3_bothMovedSinceStrong_17 (by decide) ?_
  refine lv_icmp_eq (tgt := 36) hx hb dX3_bothMovedSinceStrong_18 (by decide) (fun c_1 => ?_) (fun c_1 => ?_)
  · have hR := hR.trans (if_pos c_1)
    refine lv_iconst (v := (0 : Int32)) hx hb dX3_bothMovedSinceStrong_36 (by decide) ?_
    exact kR (0 : Int32) 37 ls (by first | exact Or.inl rfl | exact Or.inr rfl) hR.symm dX3_bothMovedSinceStrong_37
  · have hR := hR.trans (if_neg c_1)
    refine lv_iload_n hx hb dX3_bothMovedSinceStrong_21 rfl (lv_at hl 0 rfl) ?_
    refine lv_if_lt (tgt := 36) hx hb dX3_bothMovedSinceStrong_22 (by decide) (fun c_2 => ?_) (fun c_2 => ?_)
    · have hR := hR.trans (if_pos c_2)
      refine lv_iconst (v := (0 : Int32)) hx hb dX3_bothMovedSinceStrong_36 (by decide) ?_
      exact kR (0 : Int32) 37 ls (by first | exact Or.inl rfl | exact Or.inr rfl) hR.symm dX3_bothMovedSinceStrong_37
    · have hR := hR.trans (if_neg c_2)
      refine lv_aload_n hx hb dX3_bothMovedSinceStrong_25 rfl (lv_at hl 1 rfl) ?_
      refine va_get (D := (dC, dI)) (ci := 4) (v := .ref aG) (C := RX3) (T := TX3) (N := 3) hx hb hts inC_X3 hown hK hP 0 rfl rfl 0 (by decide) (hts (.fieldLink RX3 7 "Counterpointery$Line" "ground" "LCounterpointery$Ground;") (List.mem_cons_of_mem _ wm_138)) (fun _ h9 => h9) rfl dX3_bothMovedSinceStrong_26 ?_
      refine lv_iload_n hx hb dX3_bothMovedSinceStrong_29 rfl (lv_at hl 2 rfl) ?_
      refine rV_i (q0 := 0) (As := [.int p0]) (rest := []) ⟨hx, hb, hml, hown, hts⟩ (m_X1_isStrong l dC dI cI cJ aG aV gc gs gb gf gl gh gn gv p0) (cwV 1 hts (gi_V wm_195 wm_196 wm_197 wm_65 wm_198) rfl rfl rfl hd_X1_isStrong ⟨Nat.le_of_ble_eq_true rfl, Nat.le_of_ble_eq_true rfl⟩) hK (hP.sub [2, 3] rfl) rfl rfl rfl hl.1 rfl (Nat.le_of_ble_eq_true rfl) dX3_bothMovedSinceStrong_30 ⟨Nat.zero_le _, Nat.zero_le _⟩ ?_
      refine lv_if_ne (tgt := 38) hx hb dX3_bothMovedSinceStrong_33 (by decide) (fun c_3 => ?_) (fun c_3 => ?_)
      · have hR := hR.trans (if_neg c_3)
        refine lv_aload_n hx hb dX3_bothMovedSinceStrong_38 rfl (lv_at hl 1 rfl) ?_
        refine lv_iload_n hx hb dX3_bothMovedSinceStrong_39 rfl (lv_at hl 2 rfl) ?_
        refine rV_i (q0 := 0) (As := [.int p0]) (rest := []) ⟨hx, hb, hml, hown, hts⟩ (m_X3_toneAt l dC dI cI cJ aL aG aT aV tc tv gc gs gb gf gl gh gn gv p0) (cwV 1 hts (gi_V wm_38 wm_7 wm_8 wm_3 wm_9) rfl rfl rfl hd_X3_toneAt ⟨Nat.le_of_ble_eq_true rfl, Nat.le_of_ble_eq_true rfl⟩) hK (hP.sub [0, 1, 2, 3] rfl) rfl rfl rfl hl.1 rfl (Nat.le_of_ble_eq_true rfl) dX3_bothMovedSinceStrong_40 ⟨Nat.zero_le _, Nat.zero_le _⟩ ?_
        refine lv_aload_n hx hb dX3_bothMovedSinceStrong_43 rfl (lv_at hl 1 rfl) ?_
        refine lv_iload_n hx hb dX3_bothMovedSinceStrong_44 rfl (lv_at hl 0 rfl) ?_
        refine rV_i (q0 := 0) (As := [.int (p0 - (f_X1_perGiven gs))]) (rest := [.int (f_X3_toneAt tv p0)]) ⟨hx, hb, hml, hown, hts⟩ (m_X3_toneAt l dC dI cI cJ aL aG aT aV tc tv gc gs gb gf gl gh gn gv (p0 - (f_X1_perGiven gs))) (cwV 1 hts (gi_V wm_38 wm_7 wm_8 wm_3 wm_9) rfl rfl rfl hd_X3_toneAt ⟨Nat.le_of_ble_eq_true rfl, Nat.le_of_ble_eq_true rfl⟩) hK (hP.sub [0, 1, 2, 3] rfl) rfl rfl rfl hl.1 rfl (Nat.le_of_ble_eq_true rfl) dX3_bothMovedSinceStrong_45 ⟨Nat.zero_le _, Nat.zero_le _⟩ ?_
        refine lv_icmp_eq (tgt := 74) hx hb dX3_bothMovedSinceStrong_48 (by decide) (fun c_4 => ?_) (fun c_4 => ?_)
        · have hR := hR.trans (if_pos c_4)
          refine lv_iconst (v := (0 : Int32)) hx hb dX3_bothMovedSinceStrong_74 (by decide) ?_
          exact kR (0 : Int32) 75 ls (by first | exact Or.inl rfl | exact Or.inr rfl) hR.symm dX3_bothMovedSinceStrong_75
        · have hR := hR.trans (if_neg c_4)
          refine lv_aload_n hx hb dX3_bothMovedSinceStrong_51 rfl (lv_at hl 1 rfl) ?_
          refine va_get (D := (dC, dI)) (ci := 4) (v := .ref aG) (C := RX3) (T := TX3) (N := 3) hx hb hts inC_X3 hown hK hP 0 rfl rfl 0 (by decide) (hts (.fieldLink RX3 7 "Counterpointery$Line" "ground" "LCounterpointery$Ground;") (List.mem_cons_of_mem _ wm_138)) (fun _ h9 => h9) rfl dX3_bothMovedSinceStrong_52 ?_
          refine lv_iload_n hx hb dX3_bothMovedSinceStrong_55 rfl (lv_at hl 2 rfl) ?_
          refine rV_i (q0 := 0) (As := [.int p0]) (rest := []) ⟨hx, hb, hml, hown, hts⟩ (m_X1_against l dC dI cI cJ aG aV gc gs gb gf gl gh gn gv p0) (cwV 1 hts (gi_V wm_156 wm_68 wm_69 wm_65 wm_70) rfl rfl rfl hd_X1_against ⟨Nat.le_of_ble_eq_true rfl, Nat.le_of_ble_eq_true rfl⟩) hK (hP.sub [2, 3] rfl) rfl rfl rfl hl.1 rfl (Nat.le_of_ble_eq_true rfl) dX3_bothMovedSinceStrong_56 ⟨Nat.zero_le _, Nat.zero_le _⟩ ?_
          refine lv_aload_n hx hb dX3_bothMovedSinceStrong_59 rfl (lv_at hl 1 rfl) ?_
          refine va_get (D := (dC, dI)) (ci := 4) (v := .ref aG) (C := RX3) (T := TX3) (N := 3) hx hb hts inC_X3 hown hK hP 0 rfl rfl 0 (by decide) (hts (.fieldLink RX3 7 "Counterpointery$Line" "ground" "LCounterpointery$Ground;") (List.mem_cons_of_mem _ wm_138)) (fun _ h9 => h9) rfl dX3_bothMovedSinceStrong_60 ?_
          refine lv_iload_n hx hb dX3_bothMovedSinceStrong_63 rfl (lv_at hl 0 rfl) ?_
          refine rV_i (q0 := 0) (As := [.int (p0 - (f_X1_perGiven gs))]) (rest := [.int (f_X1_against gc gs gv p0)]) ⟨hx, hb, hml, hown, hts⟩ (m_X1_against l dC dI cI cJ aG aV gc gs gb gf gl gh gn gv (p0 - (f_X1_perGiven gs))) (cwV 1 hts (gi_V wm_156 wm_68 wm_69 wm_65 wm_70) rfl rfl rfl hd_X1_against ⟨Nat.le_of_ble_eq_true rfl, Nat.le_of_ble_eq_true rfl⟩) hK (hP.sub [2, 3] rfl) rfl rfl rfl hl.1 rfl (Nat.le_of_ble_eq_true rfl) dX3_bothMovedSinceStrong_64 ⟨Nat.zero_le _, Nat.zero_le _⟩ ?_
          refine lv_icmp_eq (tgt := 74) hx hb dX3_bothMovedSinceStrong_67 (by decide) (fun c_5 => ?_) (fun c_5 => ?_)
          · have hR := hR.trans (if_pos c_5)
            refine lv_iconst (v := (0 : Int32)) hx hb dX3_bothMovedSinceStrong_74 (by decide) ?_
            exact kR (0 : Int32) 75 ls (by first | exact Or.inl rfl | exact Or.inr rfl) hR.symm dX3_bothMovedSinceStrong_75
          · have hR := hR.trans (if_neg c_5)
            refine lv_iconst (v := (1 : Int32)) hx hb dX3_bothMovedSinceStrong_70 (by decide) ?_
            refine lv_goto (tgt := 75) hx hb dX3_bothMovedSinceStrong_71 (by decide) ?_
            exact kR (1 : Int32) 75 ls (by first | exact Or.inl rfl | exact Or.inr rfl) hR.symm dX3_bothMovedSinceStrong_75
      · have hR := hR.trans (if_pos c_3)
        refine lv_iconst (v := (0 : Int32)) hx hb dX3_bothMovedSinceStrong_36 (by decide) ?_
        exact kR (0 : Int32) 37 ls (by first | exact Or.inl rfl | exact Or.inr rfl) hR.symm dX3_bothMovedSinceStrong_37
set_option maxHeartbeats 4000000 in
set_option maxRecDepth 100000 in
theorem m_X3_bothMovedSinceStrong (l : Launch) (dC : Nat → ClassId) (dI : Nat → Nat → Nat) (cI cJ : ClassId) (aL : Nat) (aG : Nat) (aT : Nat) (aV : Nat) (tc : Int32) (tv : Nat → Int32) (gc : Int32) (gs : Int32) (gb : Int32) (gf : Int32) (gl : Int32) (gh : Int32) (gn : Int32) (gv : Nat → Int32) (p0 : Int32) (hz_gb : zb gb) (hz_gf : zb gf) : Met l yX3_bothMovedSinceStrong wsX3_bothMovedSinceStrong rm_X3_bothMovedSinceStrong (va_Pc [.ref aL, .int p0] (fun U => va_P (dC, dI) vwCl [(aL, .inr (4, [.ref aG, .ref aT, .int tc])), (aT, .inl (cI, 53, .inl tv)), (aG, .inr (2, [.ref aV, .int gc, .int gs, .int gb, .int gf, .int gl, .int gh, .int gn])), (aV, .inl (cI, 14, .inl gv))] U.heap ∧ va_K (dC, dI) vwCl [(cI, .int), (cJ, .long)] U)) (vp_Si (fun r => r = f_X3_bothMovedSinceStrong tv gc gs gv p0)) 0 0 (fun _ => False) := by
  refine Met.ofW (cc := cX3_bothMovedSinceStrong) (maxL := 3) (ret := (some .boolean)) (by decide) rfl ?_
  intro p e s m args below meth c s₁ B hml hv
  obtain ⟨rfl, hP, hK⟩ := hv
  have hl := lv_entry ([.ref aL, .int p0]) (n := 3) (Nat.le_of_ble_eq_true rfl)
  rw [lg_entry_eq]
  refine w_X3_bothMovedSinceStrong hz_gb hz_gf B.exec B.bytes hml (findClass_of_methodNamed B.named) (atoms_spec (ws := wsX3_bothMovedSinceStrong) B.pre) hK hP rfl (fun r pc ls hz er hd => ?_) _ hl
  exact W.zret B.exec B.bytes B.returns (zb_n hz) (fun t ht hW => ⟨r, rfl, er, ht⟩) (fun _ h => by cases h) hd B.notSynchronized
end
def f_X3_farFaults_j109 (tc : Int32) (tv : Nat → Int32) (gc : Int32) (gs : Int32) (gf : Int32) (gv : Nat → Int32) (p0 : Int32) (v4 : Int32) : Int32 :=
  (if (f_X3_bothMovedSinceStrong tv gc gs gv p0) = 0 then v4 else (if (f_X5_isPerfect (f_X3_gapAt tc tv gc gs gf gv p0)) = 0 then v4 else (if (f_X3_gapAt tc tv gc gs gf gv p0) = (f_X3_gapAt tc tv gc gs gf gv (p0 - (f_X1_perGiven gs))) then (v4 ||| (32 : Int32)) else v4)))
theorem e_X3_farFaults_j109 {tc : Int32} {tv : Nat → Int32} {gc : Int32} {gs : Int32} {gf : Int32} {gv : Nat → Int32} {p0 : Int32} {v4 : Int32} : f_X3_farFaults_j109 tc tv gc gs gf gv p0 v4 = (if (f_X3_bothMovedSinceStrong tv gc gs gv p0) = 0 then v4 else (if (f_X5_isPerfect (f_X3_gapAt tc tv gc gs gf gv p0)) = 0 then v4 else (if (f_X3_gapAt tc tv gc gs gf gv p0) = (f_X3_gapAt tc tv gc gs gf gv (p0 - (f_X1_perGiven gs))) then (v4 ||| (32 : Int32)) else v4))) := rfl
def f_X3_farFaults_j71 (tc : Int32) (tv : Nat → Int32) (gc : Int32) (gs : Int32) (gf : Int32) (gv : Nat → Int32) (p0 : Int32) (v2 : Int32) (v3 : Int32) : Int32 :=
  (if v3 = 0 then (if (f_X1_isStrong gs (p0 - (1 : Int32))) = 0 then (if (f_X5_isDissonant (f_X3_gapAt tc tv gc gs gf gv (p0 - (1 : Int32)))) = 0 then f_X3_farFaults_j109 tc tv gc gs gf gv p0 v2 else f_X3_farFaults_j109 tc tv gc gs gf gv p0 (v2 ||| (8 : Int32))) else f_X3_farFaults_j109 tc tv gc gs gf gv p0 v2) else f_X3_farFaults_j109 tc tv gc gs gf gv p0 v2)
theorem e_X3_farFaults_j71 {tc : Int32} {tv : Nat → Int32} {gc : Int32} {gs : Int32} {gf : Int32} {gv : Nat → Int32} {p0 : Int32} {v2 : Int32} {v3 : Int32} : f_X3_farFaults_j71 tc tv gc gs gf gv p0 v2 v3 = (if v3 = 0 then (if (f_X1_isStrong gs (p0 - (1 : Int32))) = 0 then (if (f_X5_isDissonant (f_X3_gapAt tc tv gc gs gf gv (p0 - (1 : Int32)))) = 0 then f_X3_farFaults_j109 tc tv gc gs gf gv p0 v2 else f_X3_farFaults_j109 tc tv gc gs gf gv p0 (v2 ||| (8 : Int32))) else f_X3_farFaults_j109 tc tv gc gs gf gv p0 v2) else f_X3_farFaults_j109 tc tv gc gs gf gv p0 v2) := rfl
def f_X3_farFaults_j70 (tc : Int32) (tv : Nat → Int32) (gc : Int32) (gs : Int32) (gf : Int32) (gv : Nat → Int32) (p0 : Int32) (v2 : Int32) : Int32 :=
  f_X3_farFaults_j71 tc tv gc gs gf gv p0 v2 (0 : Int32)
theorem e_X3_farFaults_j70 {tc : Int32} {tv : Nat → Int32} {gc : Int32} {gs : Int32} {gf : Int32} {gv : Nat → Int32} {p0 : Int32} {v2 : Int32} : f_X3_farFaults_j70 tc tv gc gs gf gv p0 v2 = f_X3_farFaults_j71 tc tv gc gs gf gv p0 v2 (0 : Int32) := rfl
def f_X3_farFaults_j52 (tc : Int32) (tv : Nat → Int32) (gc : Int32) (gs : Int32) (gf : Int32) (gv : Nat → Int32) (p0 : Int32) (v2 : Int32) : Int32 :=
  (if (iabs (f_X3_stepTo tv (p0 - (1 : Int32)))) = (1 : Int32) then (if (f_X3_stepTo tv p0) = (f_X3_stepTo tv (p0 - (1 : Int32))) then f_X3_farFaults_j71 tc tv gc gs gf gv p0 v2 (1 : Int32) else f_X3_farFaults_j70 tc tv gc gs gf gv p0 v2) else f_X3_farFaults_j70 tc tv gc gs gf gv p0 v2)
theorem e_X3_farFaults_j52 {tc : Int32} {tv : Nat → Int32} {gc : Int32} {gs : Int32} {gf : Int32} {gv : Nat → Int32} {p0 : Int32} {v2 : Int32} : f_X3_farFaults_j52 tc tv gc gs gf gv p0 v2 = (if (iabs (f_X3_stepTo tv (p0 - (1 : Int32)))) = (1 : Int32) then (if (f_X3_stepTo tv p0) = (f_X3_stepTo tv (p0 - (1 : Int32))) then f_X3_farFaults_j71 tc tv gc gs gf gv p0 v2 (1 : Int32) else f_X3_farFaults_j70 tc tv gc gs gf gv p0 v2) else f_X3_farFaults_j70 tc tv gc gs gf gv p0 v2) := rfl
def f_X3_farFaults_j43 (tc : Int32) (tv : Nat → Int32) (gc : Int32) (gs : Int32) (gf : Int32) (gv : Nat → Int32) (p0 : Int32) (v1 : Int32) : Int32 :=
  (if (f_X3_stepTo tv p0) = v1 then f_X3_farFaults_j52 tc tv gc gs gf gv p0 (0 : Int32) else f_X3_farFaults_j52 tc tv gc gs gf gv p0 ((0 : Int32) ||| (2048 : Int32)))
theorem e_X3_farFaults_j43 {tc : Int32} {tv : Nat → Int32} {gc : Int32} {gs : Int32} {gf : Int32} {gv : Nat → Int32} {p0 : Int32} {v1 : Int32} : f_X3_farFaults_j43 tc tv gc gs gf gv p0 v1 = (if (f_X3_stepTo tv p0) = v1 then f_X3_farFaults_j52 tc tv gc gs gf gv p0 (0 : Int32) else f_X3_farFaults_j52 tc tv gc gs gf gv p0 ((0 : Int32) ||| (2048 : Int32))) := rfl
def f_X3_farFaults (tc : Int32) (tv : Nat → Int32) (gc : Int32) (gs : Int32) (gf : Int32) (gv : Nat → Int32) (p0 : Int32) : Int32 :=
  (if (2 : Int32) ≤ p0 then (if (iabs (f_X3_stepTo tv (p0 - (1 : Int32)))) < (4 : Int32) then f_X3_farFaults_j52 tc tv gc gs gf gv p0 (0 : Int32) else (if (f_X3_stepTo tv (p0 - (1 : Int32))) ≤ 0 then f_X3_farFaults_j43 tc tv gc gs gf gv p0 (1 : Int32) else f_X3_farFaults_j43 tc tv gc gs gf gv p0 (-1 : Int32))) else (0 : Int32))
theorem e_X3_farFaults {tc : Int32} {tv : Nat → Int32} {gc : Int32} {gs : Int32} {gf : Int32} {gv : Nat → Int32} {p0 : Int32} : f_X3_farFaults tc tv gc gs gf gv p0 = (if (2 : Int32) ≤ p0 then (if (iabs (f_X3_stepTo tv (p0 - (1 : Int32)))) < (4 : Int32) then f_X3_farFaults_j52 tc tv gc gs gf gv p0 (0 : Int32) else (if (f_X3_stepTo tv (p0 - (1 : Int32))) ≤ 0 then f_X3_farFaults_j43 tc tv gc gs gf gv p0 (1 : Int32) else f_X3_farFaults_j43 tc tv gc gs gf gv p0 (-1 : Int32))) else (0 : Int32)) := rfl
section
variable {p : Program} {l : Launch} {e : Env} {s : State} {m : MethodId} {args : Array Value} {below : List Frame} {meth : Method} {c : Code} {Q : State → Prop} {H : Heap} {locs : List Loc} {dC : Nat → ClassId} {dI : Nat → Nat → Nat} {cI cJ : ClassId}
abbrev rm_X3_farFaults : Room := { frames := 3, cells := 0, slots := 0, locals := 68 }
theorem hd_X3_farFaults : yX3_farFaults.cls = RX3 ∧ yX3_farFaults.cls ≠ "java/lang/invoke/MethodHandle" ∧ yX3_farFaults.cls ≠ "java/lang/invoke/VarHandle" ∧ (parseMethodDescriptor yX3_farFaults.desc).map (fun d => d.parameters.length) = some 1 := by decide +kernel
set_option maxHeartbeats 4000000 in
set_option maxRecDepth 100000 in
theorem w_X3_farFaults {aL : Nat} {aG : Nat} {aT : Nat} {aV : Nat} {tc : Int32} {tv : Nat → Int32} {gc : Int32} {gs : Int32} {gb : Int32} {gf : Int32} {gl : Int32} {gh : Int32} {gn : Int32} {gv : Nat → Int32} {p0 : Int32} (hz_gb : zb gb) (hz_gf : zb gf) {F : Int32} (hx : p.tables.exec = Jvm.exec) (hb : c.code = cX3_farFaults) (hml : c.maxLocals = 7) (hown : s.vm.findClass RX3 = some m.cls) (hts : ∀ w ∈ wsX3_farFaults, w.before args s = true) (hK : va_K (dC, dI) vwCl [(cI, .int), (cJ, .long)] s) (hP : va_P (dC, dI) vwCl [(aL, .inr (4, [.ref aG, .ref aT, .int tc])), (aT, .inl (cI, 53, .inl tv)), (aG, .inr (2, [.ref aV, .int gc, .int gs, .int gb, .int gf, .int gl, .int gh, .int gn])), (aV, .inl (cI, 14, .inl gv))] H) (hR : F = f_X3_farFaults tc tv gc gs gf gv p0) (kR : ∀ (r : Int32) (pc : Nat) (ls : Array Slot), r = F → decode cX3_farFaults pc = .ok (.ireturn, 1) → W p l e rm_X3_farFaults s m args below meth c H locs 0 0 Q (F0 m pc ls [.int r])) (ls : Array Slot) (hl : lv_has ls 7 [(0, .ref aL), (1, .int p0)]) : W p l e rm_X3_farFaults s m args below meth c H locs 0 0 Q (F0 m 0 ls []) := by
  have hR := hR.trans e_X3_farFaults
  refine lv_iload_n hx hb dX3_farFaults_0 rfl (lv_at hl 1 rfl) ?_
  refine lv_iconst (v := (2 : Int32)) hx hb dX3_farFaults_1 (by decide) ?_
  refine lv_icmp_ge (tgt := 7) hx hb dX3_farFaults_2 (by decide) (fun c_1 => ?_) (fun c_1 => ?_)
  · have hR := hR.trans (if_pos c_1)
    refine lv_iconst (v := (0 : Int32)) hx hb dX3_farFaults_7 (by decide) ?_
    refine lv_istore_n (lv' := [(2, .int (0 : Int32)), (0, .ref aL), (1, .int p0)]) hx hb dX3_farFaults_8 rfl hl (by decide) rfl (fun ls hl => ?_)
    refine lv_aload_n hx hb dX3_farFaults_9 rfl (lv_at hl 1 rfl) ?_
    refine lv_iload_n hx hb dX3_farFaults_10 rfl (lv_at hl 2 rfl) ?_
    refine lv_iconst (v := (1 : Int32)) hx hb dX3_farFaults_11 (by decide) ?_
    refine lv_isub hx hb dX3_farFaults_12 ?_
    refine rV_i (q0 := 0) (As := [.int (p0 - (1 : Int32))]) (rest := []) ⟨hx, hb, hml, hown, hts⟩ (m_X3_stepTo l dC dI cI cJ aL aG aT aV tc tv gc gs gb gf gl gh gn gv (p0 - (1 : Int32))) (cwV 1 hts (gi_V wm_175 wm_35 wm_36 wm_3 wm_37) rfl rfl rfl hd_X3_stepTo ⟨Nat.le_of_ble_eq_true rfl, Nat.le_of_ble_eq_true rfl⟩) hK (hP.sub [0, 1, 2, 3] rfl) rfl rfl rfl hl.1 rfl (Nat.le_of_ble_eq_true rfl) dX3_farFaults_13 ⟨Nat.zero_le _, Nat.zero_le _⟩ ?_
    refine lv_istore_n (lv' := [(3, .int (f_X3_stepTo tv (p0 - (1 : Int32)))), (2, .int (0 : Int32)), (0, .ref aL), (1, .int p0)]) hx hb dX3_farFaults_16 rfl hl (by decide) rfl (fun ls hl => ?_)
    refine lv_aload_n hx hb dX3_farFaults_17 rfl (lv_at hl 2 rfl) ?_
    refine lv_iload_n hx hb dX3_farFaults_18 rfl (lv_at hl 3 rfl) ?_
    refine rV_i (q0 := 0) (As := [.int p0]) (rest := []) ⟨hx, hb, hml, hown, hts⟩ (m_X3_stepTo l dC dI cI cJ aL aG aT aV tc tv gc gs gb gf gl gh gn gv p0) (cwV 1 hts (gi_V wm_175 wm_35 wm_36 wm_3 wm_37) rfl rfl rfl hd_X3_stepTo ⟨Nat.le_of_ble_eq_true rfl, Nat.le_of_ble_eq_true rfl⟩) hK (hP.sub [0, 1, 2, 3] rfl) rfl rfl rfl hl.1 rfl (Nat.le_of_ble_eq_true rfl) dX3_farFaults_19 ⟨Nat.zero_le _, Nat.zero_le _⟩ ?_
    refine lv_istore (lv' := [(4, .int (f_X3_stepTo tv p0)), (3, .int (f_X3_stepTo tv (p0 - (1 : Int32)))), (2, .int (0 : Int32)), (0, .ref aL), (1, .int p0)]) hx hb dX3_farFaults_22 hl (by decide) rfl (fun ls hl => ?_)
    refine lv_iload_n hx hb dX3_farFaults_24 rfl (lv_at hl 1 rfl) ?_
    refine w_abs hx hb (hml.trans hl.1.symm) hown (hts (.methodLink RX3 104 Lib.Math.abs.name) (List.mem_cons_of_mem _ wm_174)) (hts (.static Lib.Math.abs.name) (List.mem_cons_of_mem _ wm_22)) (hts (.initialized "java/lang/Math") (List.mem_cons_of_mem _ wm_23)) (hts (.code Lib.Math.abs.name Lib.Math.abs.code 1 (some .int)) (List.mem_cons_of_mem _ wm_24)) (Nat.le_of_ble_eq_true rfl) (Nat.le_of_ble_eq_true rfl) (Nat.zero_le _) (Nat.zero_le _) dX3_farFaults_25 ?_
    refine lv_iconst (v := (4 : Int32)) hx hb dX3_farFaults_28 (by decide) ?_
    have J52 : ∀ (v2 : Int32) (ls : Array Slot), lv_has ls 7 [(0, .ref aL), (1, .int p0), (2, .int v2), (3, .int (f_X3_stepTo tv (p0 - (1 : Int32)))), (4, .int (f_X3_stepTo tv p0))] → F = f_X3_farFaults_j52 tc tv gc gs gf gv p0 v2 → W p l e rm_X3_farFaults s m args below meth c H locs 0 0 Q (F0 m 52 ls []) := by
      intro v2 ls hl hR
      have hR := hR.trans e_X3_farFaults_j52
      refine lv_iload_n hx hb dX3_farFaults_52 rfl (lv_at hl 3 rfl) ?_
      refine w_abs hx hb (hml.trans hl.1.symm) hown (hts (.methodLink RX3 104 Lib.Math.abs.name) (List.mem_cons_of_mem _ wm_174)) (hts (.static Lib.Math.abs.name) (List.mem_cons_of_mem _ wm_22)) (hts (.initialized "java/lang/Math") (List.mem_cons_of_mem _ wm_23)) (hts (.code Lib.Math.abs.name Lib.Math.abs.code 1 (some .int)) (List.mem_cons_of_mem _ wm_24)) (Nat.le_of_ble_eq_true rfl) (Nat.le_of_ble_eq_true rfl) (Nat.zero_le _) (Nat.zero_le _) dX3_farFaults_53 ?_
      refine lv_iconst (v := (1 : Int32)) hx hb dX3_farFaults_56 (by decide) ?_
      have J71 : ∀ (v3 : Int32) (ls : Array Slot), lv_has ls 7 [(0, .ref aL), (1, .int p0), (2, .int v2)] → zb v3 → F = f_X3_farFaults_j71 tc tv gc gs gf gv p0 v2 v3 → W p l e rm_X3_farFaults s m args below meth c H locs 0 0 Q (F0 m 71 ls [.int v3]) := by
        intro v3 ls hl hz_v3 hR
        have hR := hR.trans e_X3_farFaults_j71
        refine lv_istore (lv' := [(5, .int v3), (0, .ref aL), (1, .int p0), (2, .int v2)]) hx hb dX3_farFaults_71 hl (by decide) rfl (fun ls hl => ?_)
        refine lv_iload hx hb dX3_farFaults_73 (lv_at hl 0 rfl) ?_
        have J109 : ∀ (v4 : Int32) (ls : Array Slot), lv_has ls 7 [(0, .ref aL), (1, .int p0), (2, .int v4)] → F = f_X3_farFaults_j109 tc tv gc gs gf gv p0 v4 → W p l e rm_X3_farFaults s m args below meth c H locs 0 0 Q (F0 m 109 ls []) := by
          intro v4 ls hl hR
          have hR := hR.trans e_X3_farFaults_j109
          refine lv_aload_n hx hb dX3_farFaults_109 rfl (lv_at hl 0 rfl) ?_
          refine lv_iload_n hx hb dX3_farFaults_110 rfl (lv_at hl 1 rfl) ?_
          refine rV_i (q0 := 0) (As := [.int p0]) (rest := []) ⟨hx, hb, hml, hown, hts⟩ (m_X3_bothMovedSinceStrong l dC dI cI cJ aL aG aT aV tc tv gc gs gb gf gl gh gn gv p0 hz_gb hz_gf) (cwV 1 hts (gi_V wm_208 wm_209 wm_210 wm_3 wm_211) rfl rfl rfl hd_X3_bothMovedSinceStrong ⟨Nat.le_of_ble_eq_true rfl, Nat.le_of_ble_eq_true rfl⟩) hK (hP.sub [0, 1, 2, 3] rfl) rfl rfl rfl hl.1 rfl (Nat.le_of_ble_eq_true rfl) dX3_farFaults_111 ⟨Nat.zero_le _, Nat.zero_le _⟩ ?_
          refine lv_if_eq (tgt := 155) hx hb dX3_farFaults_114 (by decide) (fun c_2 => ?_) (fun c_2 => ?_)
          · have hR := hR.trans (if_pos c_2)
            refine lv_iload_n hx hb dX3_farFaults_155 rfl (lv_at hl 2 rfl) ?_
            exact kR v4 156 ls hR.symm dX3_farFaults_156
          · have hR := hR.trans (if_neg c_2)
            refine lv_aload_n hx hb dX3_farFaults_117 rfl (lv_at hl 0 rfl) ?_
            refine lv_iload_n hx hb dX3_farFaults_118 rfl (lv_at hl 1 rfl) ?_
            refine rV_i (q0 := 0) (As := [.int p0]) (rest := []) ⟨hx, hb, hml, hown, hts⟩ (m_X3_gapAt l dC dI cI cJ aL aG aT aV tc tv gc gs gb gf gl gh gn gv p0 hz_gb hz_gf) (cwV 1 hts (gi_V wm_166 wm_167 wm_168 wm_3 wm_169) rfl rfl rfl hd_X3_gapAt ⟨Nat.le_of_ble_eq_true rfl, Nat.le_of_ble_eq_true rfl⟩) hK (hP.sub [0, 1, 2, 3] rfl) rfl rfl rfl hl.1 rfl (Nat.le_of_ble_eq_true rfl) dX3_farFaults_119 ⟨Nat.zero_le _, Nat.zero_le _⟩ ?_
            refine lv_istore (lv' := [(6, .int (f_X3_gapAt tc tv gc gs gf gv p0)), (0, .ref aL), (1, .int p0), (2, .int v4)]) hx hb dX3_farFaults_122 hl (by decide) rfl (fun ls hl => ?_)
            refine lv_iload hx hb dX3_farFaults_124 (lv_at hl 0 rfl) ?_
            refine rS_i (As := [.int (f_X3_gapAt tc tv gc gs gf gv p0)]) (rest := []) ⟨hx, hb, hml, hown, hts⟩ (m_X5_isPerfect l dC dI cI cJ (f_X3_gapAt tc tv gc gs gf gv p0)) (va_cwS 1 hts (gi_S wm_180 wm_29 wm_13 wm_30) rfl rfl rfl hd_X5_isPerfect ⟨Nat.le_of_ble_eq_true rfl, Nat.le_of_ble_eq_true rfl⟩) hK (hP.sub [] rfl) rfl hl.1 rfl (Nat.le_of_ble_eq_true rfl) dX3_farFaults_126 ⟨Nat.zero_le _, Nat.zero_le _⟩ ?_
            refine lv_if_eq (tgt := 155) hx hb dX3_farFaults_129 (by decide) (fun c_3 => ?_) (fun c_3 => ?_)
            · have hR := hR.trans (if_pos c_3)
              refine lv_iload_n hx hb dX3_farFaults_155 rfl (lv_at hl 3 rfl) ?_
              exact kR v4 156 ls hR.symm dX3_farFaults_156
            · have hR := hR.trans (if_neg c_3)
              refine lv_iload hx hb dX3_farFaults_132 (lv_at hl 0 rfl) ?_
              refine lv_aload_n hx hb dX3_farFaults_134 rfl (lv_at hl 1 rfl) ?_
              refine lv_iload_n hx hb dX3_farFaults_135 rfl (lv_at hl 2 rfl) ?_
              refine lv_aload_n hx hb dX3_farFaults_136 rfl (lv_at hl 1 rfl) ?_
              refine va_get (D := (dC, dI)) (ci := 4) (v := .ref aG) (C := RX3) (T := TX3) (N := 3) hx hb hts inC_X3 hown hK hP 0 rfl rfl 0 (by decide) (hts (.fieldLink RX3 7 "Counterpointery$Line" "ground" "LCounterpointery$Ground;") (List.mem_cons_of_mem _ wm_138)) (fun _ h9 => h9) rfl dX3_farFaults_137 ?_
              refine rV_i (q0 := 0) (As := []) (rest := [.int p0, .ref aL, .int (f_X3_gapAt tc tv gc gs gf gv p0)]) ⟨hx, hb, hml, hown, hts⟩ (m_X1_perGiven l dC dI cI cJ aG aV gc gs gb gf gl gh gn gv) (cwV 0 hts (gi_V wm_212 wm_63 wm_64 wm_65 wm_66) rfl rfl rfl hd_X1_perGiven ⟨Nat.le_of_ble_eq_true rfl, Nat.le_of_ble_eq_true rfl⟩) hK (hP.sub [2, 3] rfl) rfl rfl rfl hl.1 rfl (Nat.le_of_ble_eq_true rfl) dX3_farFaults_140 ⟨Nat.zero_le _, Nat.zero_le _⟩ ?_
              refine lv_isub hx hb dX3_farFaults_143 ?_
              refine rV_i (q0 := 0) (As := [.int (p0 - (f_X1_perGiven gs))]) (rest := [.int (f_X3_gapAt tc tv gc gs gf gv p0)]) ⟨hx, hb, hml, hown, hts⟩ (m_X3_gapAt l dC dI cI cJ aL aG aT aV tc tv gc gs gb gf gl gh gn gv (p0 - (f_X1_perGiven gs)) hz_gb hz_gf) (cwV 1 hts (gi_V wm_166 wm_167 wm_168 wm_3 wm_169) rfl rfl rfl hd_X3_gapAt ⟨Nat.le_of_ble_eq_true rfl, Nat.le_of_ble_eq_true rfl⟩) hK (hP.sub [0, 1, 2, 3] rfl) rfl rfl rfl hl.1 rfl (Nat.le_of_ble_eq_true rfl) dX3_farFaults_144 ⟨Nat.zero_le _, Nat.zero_le _⟩ ?_
              refine lv_icmp_ne (tgt := 155) hx hb dX3_farFaults_147 (by decide) (fun c_4 => ?_) (fun c_4 => ?_)
              · have hR := hR.trans (if_neg c_4)
                refine lv_iload_n hx hb dX3_farFaults_155 rfl (lv_at hl 3 rfl) ?_
                exact kR v4 156 ls hR.symm dX3_farFaults_156
              · have hR := hR.trans (if_pos c_4)
                refine lv_iload_n hx hb dX3_farFaults_150 rfl (lv_at hl 3 rfl) ?_
                refine lv_bipush (v := (32 : Int32)) hx hb dX3_farFaults_151 (by decide) ?_
                refine lv_ior hx hb dX3_farFaults_153 ?_
                refine lv_istore_n (lv' := [(2, .int (v4 ||| (32 : Int32))), (6, .int (f_X3_gapAt tc tv gc gs gf gv p0)), (0, .ref aL), (1, .int p0)]) hx hb dX3_farFaults_154 rfl hl (by decide) rfl (fun ls hl => ?_)
                refine lv_iload_n hx hb dX3_farFaults_155 rfl (lv_at hl 0 rfl) ?_
                exact kR (v4 ||| (32 : Int32)) 156 ls hR.symm dX3_farFaults_156
        refine lv_if_ne (tgt := 109) hx hb dX3_farFaults_75 (by decide) (fun c_5 => ?_) (fun c_5 => ?_)
        · have hR := hR.trans (if_neg c_5)
          exact J109 v2 ls (lv_sub hl [1, 2, 3] rfl) hR
        · have hR := hR.trans (if_pos c_5)
          refine lv_aload_n hx hb dX3_farFaults_78 rfl (lv_at hl 1 rfl) ?_
          refine va_get (D := (dC, dI)) (ci := 4) (v := .ref aG) (C := RX3) (T := TX3) (N := 3) hx hb hts inC_X3 hown hK hP 0 rfl rfl 0 (by decide) (hts (.fieldLink RX3 7 "Counterpointery$Line" "ground" "LCounterpointery$Ground;") (List.mem_cons_of_mem _ wm_138)) (fun _ h9 => h9) rfl dX3_farFaults_79 ?_
          refine lv_iload_n hx hb dX3_farFaults_82 rfl (lv_at hl 2 rfl) ?_
          refine lv_iconst (v := (1 : Int32)) hx hb dX3_farFaults_83 (by decide) ?_
          refine lv_isub hx hb dX3_farFaults_84 ?_
          refine rV_i (q0 := 0) (As := [.int (p0 - (1 : Int32))]) (rest := []) ⟨hx, hb, hml, hown, hts⟩ (m_X1_isStrong l dC dI cI cJ aG aV gc gs gb gf gl gh gn gv (p0 - (1 : Int32))) (cwV 1 hts (gi_V wm_195 wm_196 wm_197 wm_65 wm_198) rfl rfl rfl hd_X1_isStrong ⟨Nat.le_of_ble_eq_true rfl, Nat.le_of_ble_eq_true rfl⟩) hK (hP.sub [2, 3] rfl) rfl rfl rfl hl.1 rfl (Nat.le_of_ble_eq_true rfl) dX3_farFaults_85 ⟨Nat.zero_le _, Nat.zero_le _⟩ ?_
          refine lv_if_ne (tgt := 109) hx hb dX3_farFaults_88 (by decide) (fun c_6 => ?_) (fun c_6 => ?_)
          · have hR := hR.trans (if_neg c_6)
            exact J109 v2 ls (lv_sub hl [1, 2, 3] rfl) hR
          · have hR := hR.trans (if_pos c_6)
            refine lv_aload_n hx hb dX3_farFaults_91 rfl (lv_at hl 1 rfl) ?_
            refine lv_iload_n hx hb dX3_farFaults_92 rfl (lv_at hl 2 rfl) ?_
            refine lv_iconst (v := (1 : Int32)) hx hb dX3_farFaults_93 (by decide) ?_
            refine lv_isub hx hb dX3_farFaults_94 ?_
            refine rV_i (q0 := 0) (As := [.int (p0 - (1 : Int32))]) (rest := []) ⟨hx, hb, hml, hown, hts⟩ (m_X3_gapAt l dC dI cI cJ aL aG aT aV tc tv gc gs gb gf gl gh gn gv (p0 - (1 : Int32)) hz_gb hz_gf) (cwV 1 hts (gi_V wm_166 wm_167 wm_168 wm_3 wm_169) rfl rfl rfl hd_X3_gapAt ⟨Nat.le_of_ble_eq_true rfl, Nat.le_of_ble_eq_true rfl⟩) hK (hP.sub [0, 1, 2, 3] rfl) rfl rfl rfl hl.1 rfl (Nat.le_of_ble_eq_true rfl) dX3_farFaults_95 ⟨Nat.zero_le _, Nat.zero_le _⟩ ?_
            refine rS_i (As := [.int (f_X3_gapAt tc tv gc gs gf gv (p0 - (1 : Int32)))]) (rest := []) ⟨hx, hb, hml, hown, hts⟩ (m_X5_isDissonant l dC dI cI cJ (f_X3_gapAt tc tv gc gs gf gv (p0 - (1 : Int32)))) (va_cwS 1 hts (gi_S wm_199 wm_26 wm_13 wm_27) rfl rfl rfl hd_X5_isDissonant ⟨Nat.le_of_ble_eq_true rfl, Nat.le_of_ble_eq_true rfl⟩) hK (hP.sub [] rfl) rfl hl.1 rfl (Nat.le_of_ble_eq_true rfl) dX3_farFaults_98 ⟨Nat.zero_le _, Nat.zero_le _⟩ ?_
            refine lv_if_eq (tgt := 109) hx hb dX3_farFaults_101 (by decide) (fun c_7 => ?_) (fun c_7 => ?_)
            · have hR := hR.trans (if_pos c_7)
              exact J109 v2 ls (lv_sub hl [1, 2, 3] rfl) hR
            · have hR := hR.trans (if_neg c_7)
              refine lv_iload_n hx hb dX3_farFaults_104 rfl (lv_at hl 3 rfl) ?_
              refine lv_bipush (v := (8 : Int32)) hx hb dX3_farFaults_105 (by decide) ?_
              refine lv_ior hx hb dX3_farFaults_107 ?_
              refine lv_istore_n (lv' := [(2, .int (v2 ||| (8 : Int32))), (5, .int v3), (0, .ref aL), (1, .int p0)]) hx hb dX3_farFaults_108 rfl hl (by decide) rfl (fun ls hl => ?_)
              exact J109 (v2 ||| (8 : Int32)) ls (lv_sub hl [2, 3, 0] rfl) hR
      have J70 : ∀ (ls : Array Slot), lv_has ls 7 [(0, .ref aL), (1, .int p0), (2, .int v2)] → F = f_X3_farFaults_j70 tc tv gc gs gf gv p0 v2 → W p l e rm_X3_farFaults s m args below meth c H locs 0 0 Q (F0 m 70 ls []) := by
        intro ls hl hR
        have hR := hR.trans e_X3_farFaults_j70
        refine lv_iconst (v := (0 : Int32)) hx hb dX3_farFaults_70 (by decide) ?_
        exact J71 (0 : Int32) ls (lv_sub hl [0, 1, 2] rfl) (by first | exact Or.inl rfl | exact Or.inr rfl) hR
      refine lv_icmp_ne (tgt := 70) hx hb dX3_farFaults_57 (by decide) (fun c_8 => ?_) (fun c_8 => ?_)
      · have hR := hR.trans (if_neg c_8)
        exact J70 ls (lv_sub hl [0, 1, 2] rfl) hR
      · have hR := hR.trans (if_pos c_8)
        refine lv_iload hx hb dX3_farFaults_60 (lv_at hl 4 rfl) ?_
        refine lv_iload_n hx hb dX3_farFaults_62 rfl (lv_at hl 3 rfl) ?_
        refine lv_icmp_ne (tgt := 70) hx hb dX3_farFaults_63 (by decide) (fun c_9 => ?_) (fun c_9 => ?_)
        · have hR := hR.trans (if_neg c_9)
          exact J70 ls (lv_sub hl [0, 1, 2] rfl) hR
        · have hR := hR.trans (if_pos c_9)
          refine lv_iconst (v := (1 : Int32)) hx hb dX3_farFaults_66 (by decide) ?_
          refine lv_goto (tgt := 71) hx hb dX3_farFaults_67 (by decide) ?_
          exact J71 (1 : Int32) ls (lv_sub hl [0, 1, 2] rfl) (by first | exact Or.inl rfl | exact Or.inr rfl) hR
    refine lv_icmp_lt (tgt := 52) hx hb dX3_farFaults_29 (by decide) (fun c_10 => ?_) (fun c_10 => ?_)
    · have hR := hR.trans (if_pos c_10)
      exact J52 (0 : Int32) ls (lv_sub hl [3, 4, 2, 1, 0] rfl) hR
    · have hR := hR.trans (if_neg c_10)
      refine lv_iload hx hb dX3_farFaults_32 (lv_at hl 0 rfl) ?_
      refine lv_iload_n hx hb dX3_farFaults_34 rfl (lv_at hl 1 rfl) ?_
      have J43 : ∀ (v1 : Int32) (ls : Array Slot), lv_has ls 7 [(0, .ref aL), (1, .int p0), (2, .int (0 : Int32)), (3, .int (f_X3_stepTo tv (p0 - (1 : Int32)))), (4, .int (f_X3_stepTo tv p0))] → F = f_X3_farFaults_j43 tc tv gc gs gf gv p0 v1 → W p l e rm_X3_farFaults s m args below meth c H locs 0 0 Q (F0 m 43 ls [.int v1, .int (f_X3_stepTo tv p0)]) := by
        intro v1 ls hl hR
        have hR := hR.trans e_X3_farFaults_j43
        refine lv_icmp_eq (tgt := 52) hx hb dX3_farFaults_43 (by decide) (fun c_11 => ?_) (fun c_11 => ?_)
        · have hR := hR.trans (if_pos c_11)
          exact J52 (0 : Int32) ls (lv_sub hl [0, 1, 2, 3, 4] rfl) hR
        · have hR := hR.trans (if_neg c_11)
          refine lv_iload_n hx hb dX3_farFaults_46 rfl (lv_at hl 2 rfl) ?_
          refine lv_sipush (v := (2048 : Int32)) hx hb dX3_farFaults_47 (by decide +kernel) ?_
          refine lv_ior hx hb dX3_farFaults_50 ?_
          refine lv_istore_n (lv' := [(2, .int ((0 : Int32) ||| (2048 : Int32))), (0, .ref aL), (1, .int p0), (3, .int (f_X3_stepTo tv (p0 - (1 : Int32)))), (4, .int (f_X3_stepTo tv p0))]) hx hb dX3_farFaults_51 rfl hl (by decide) rfl (fun ls hl => ?_)
          exact J52 ((0 : Int32) ||| (2048 : Int32)) ls (lv_sub hl [1, 2, 0, 3, 4] rfl) hR
      refine lv_if_le (tgt := 42) hx hb dX3_farFaults_35 (by decide) (fun c_12 => ?_) (fun c_12 => ?_)
      · have hR := hR.trans (if_pos c_12)
        refine lv_iconst (v := (1 : Int32)) hx hb dX3_farFaults_42 (by decide) ?_
        exact J43 (1 : Int32) ls (lv_sub hl [3, 4, 2, 1, 0] rfl) hR
      · have hR := hR.trans (if_neg c_12)
        refine lv_iconst (v := (-1 : Int32)) hx hb dX3_farFaults_38 (by decide +kernel) ?_
        refine lv_goto (tgt := 43) hx hb dX3_farFaults_39 (by decide) ?_
        exact J43 (-1 : Int32) ls (lv_sub hl [3, 4, 2, 1, 0] rfl) hR
  · have hR := hR.trans (if_neg c_1)
    refine lv_iconst (v := (0 : Int32)) hx hb dX3_farFaults_5 (by decide) ?_
    exact kR (0 : Int32) 6 ls hR.symm dX3_farFaults_6
set_option maxHeartbeats 4000000 in
set_option maxRecDepth 100000 in
theorem m_X3_farFaults (l : Launch) (dC : Nat → ClassId) (dI : Nat → Nat → Nat) (cI cJ : ClassId) (aL : Nat) (aG : Nat) (aT : Nat) (aV : Nat) (tc : Int32) (tv : Nat → Int32) (gc : Int32) (gs : Int32) (gb : Int32) (gf : Int32) (gl : Int32) (gh : Int32) (gn : Int32) (gv : Nat → Int32) (p0 : Int32) (hz_gb : zb gb) (hz_gf : zb gf) : Met l yX3_farFaults wsX3_farFaults rm_X3_farFaults (va_Pc [.ref aL, .int p0] (fun U => va_P (dC, dI) vwCl [(aL, .inr (4, [.ref aG, .ref aT, .int tc])), (aT, .inl (cI, 53, .inl tv)), (aG, .inr (2, [.ref aV, .int gc, .int gs, .int gb, .int gf, .int gl, .int gh, .int gn])), (aV, .inl (cI, 14, .inl gv))] U.heap ∧ va_K (dC, dI) vwCl [(cI, .int), (cJ, .long)] U)) (vp_Si (fun r => r = f_X3_farFaults tc tv gc gs gf gv p0)) 0 0 (fun _ => False) := by
  refine Met.ofW (cc := cX3_farFaults) (maxL := 7) (ret := (some .int)) (by decide) rfl ?_
  intro p e s m args below meth c s₁ B hml hv
  obtain ⟨rfl, hP, hK⟩ := hv
  have hl := lv_entry ([.ref aL, .int p0]) (n := 7) (Nat.le_of_ble_eq_true rfl)
  rw [lg_entry_eq]
  refine w_X3_farFaults hz_gb hz_gf B.exec B.bytes hml (findClass_of_methodNamed B.named) (atoms_spec (ws := wsX3_farFaults) B.pre) hK hP rfl (fun r pc ls er hd => ?_) _ hl
  exact W.iret B.exec B.bytes B.returns (fun t ht hW => ⟨r, rfl, er, ht⟩) (fun _ h => by cases h) hd B.notSynchronized
end
def f_X3_faultsAt (tc : Int32) (tv : Nat → Int32) (gc : Int32) (gs : Int32) (gb : Int32) (gf : Int32) (gv : Nat → Int32) (p0 : Int32) : Int32 :=
  ((f_X3_nearFaults tc tv gc gs gb gf gv p0) ||| (f_X3_farFaults tc tv gc gs gf gv p0))
theorem e_X3_faultsAt {tc : Int32} {tv : Nat → Int32} {gc : Int32} {gs : Int32} {gb : Int32} {gf : Int32} {gv : Nat → Int32} {p0 : Int32} : f_X3_faultsAt tc tv gc gs gb gf gv p0 = ((f_X3_nearFaults tc tv gc gs gb gf gv p0) ||| (f_X3_farFaults tc tv gc gs gf gv p0)) := rfl
section
variable {p : Program} {l : Launch} {e : Env} {s : State} {m : MethodId} {args : Array Value} {below : List Frame} {meth : Method} {c : Code} {Q : State → Prop} {H : Heap} {locs : List Loc} {dC : Nat → ClassId} {dI : Nat → Nat → Nat} {cI cJ : ClassId}
abbrev rm_X3_faultsAt : Room := { frames := 4, cells := 0, slots := 0, locals := 94 }
theorem hd_X3_faultsAt : yX3_faultsAt.cls = RX3 ∧ yX3_faultsAt.cls ≠ "java/lang/invoke/MethodHandle" ∧ yX3_faultsAt.cls ≠ "java/lang/invoke/VarHandle" ∧ (parseMethodDescriptor yX3_faultsAt.desc).map (fun d => d.parameters.length) = some 1 := by decide +kernel
set_option maxHeartbeats 4000000 in
set_option maxRecDepth 100000 in
theorem w_X3_faultsAt {aL : Nat} {aG : Nat} {aT : Nat} {aV : Nat} {tc : Int32} {tv : Nat → Int32} {gc : Int32} {gs : Int32} {gb : Int32} {gf : Int32} {gl : Int32} {gh : Int32} {gn : Int32} {gv : Nat → Int32} {p0 : Int32} (hz_gb : zb gb) (hz_gf : zb gf) {F : Int32} (hx : p.tables.exec = Jvm.exec) (hb : c.code = cX3_faultsAt) (hml : c.maxLocals = 2) (hown : s.vm.findClass RX3 = some m.cls) (hts : ∀ w ∈ wsX3_faultsAt, w.before args s = true) (hK : va_K (dC, dI) vwCl [(cI, .int), (cJ, .long)] s) (hP : va_P (dC, dI) vwCl [(aL, .inr (4, [.ref aG, .ref aT, .int tc])), (aT, .inl (cI, 53, .inl tv)), (aG, .inr (2, [.ref aV, .int gc, .int gs, .int gb, .int gf, .int gl, .int gh, .int gn])), (aV, .inl (cI, 14, .inl gv))] H) (hR : F = f_X3_faultsAt tc tv gc gs gb gf gv p0) (kR : ∀ (r : Int32) (pc : Nat) (ls : Array Slot), r = F → decode cX3_faultsAt pc = .ok (.ireturn, 1) → W p l e rm_X3_faultsAt s m args below meth c H locs 0 0 Q (F0 m pc ls [.int r])) (ls : Array Slot) (hl : lv_has ls 2 [(0, .ref aL), (1, .int p0)]) : W p l e rm_X3_faultsAt s m args below meth c H locs 0 0 Q (F0 m 0 ls []) := by
  have hR := hR.trans e_X3_faultsAt
  refine lv_aload_n hx hb dX3_faultsAt_0 rfl (lv_at hl 0 rfl) ?_
  refine lv_iload_n hx hb dX3_faultsAt_1 rfl (lv_at hl 1 rfl) ?_
  refine rV_i (q0 := 0) (As := [.int p0]) (rest := []) ⟨hx, hb, hml, hown, hts⟩ (m_X3_nearFaults l dC dI cI cJ aL aG aT aV tc tv gc gs gb gf gl gh gn gv p0 hz_gb hz_gf) (cwV 1 hts (gi_V wm_162 wm_163 wm_164 wm_3 wm_165) rfl rfl rfl hd_X3_nearFaults ⟨Nat.le_of_ble_eq_true rfl, Nat.le_of_ble_eq_true rfl⟩) hK (hP.sub [0, 1, 2, 3] rfl) rfl rfl rfl hl.1 rfl (Nat.le_of_ble_eq_true rfl) dX3_faultsAt_2 ⟨Nat.zero_le _, Nat.zero_le _⟩ ?_
  refine lv_aload_n hx hb dX3_faultsAt_5 rfl (lv_at hl 0 rfl) ?_
  refine lv_iload_n hx hb dX3_faultsAt_6 rfl (lv_at hl 1 rfl) ?_
  refine rV_i (q0 := 0) (As := [.int p0]) (rest := [.int (f_X3_nearFaults tc tv gc gs gb gf gv p0)]) ⟨hx, hb, hml, hown, hts⟩ (m_X3_farFaults l dC dI cI cJ aL aG aT aV tc tv gc gs gb gf gl gh gn gv p0 hz_gb hz_gf) (cwV 1 hts (gi_V wm_204 wm_205 wm_206 wm_3 wm_207) rfl rfl rfl hd_X3_farFaults ⟨Nat.le_of_ble_eq_true rfl, Nat.le_of_ble_eq_true rfl⟩) hK (hP.sub [0, 1, 2, 3] rfl) rfl rfl rfl hl.1 rfl (Nat.le_of_ble_eq_true rfl) dX3_faultsAt_7 ⟨Nat.zero_le _, Nat.zero_le _⟩ ?_
  refine lv_ior hx hb dX3_faultsAt_10 ?_
  exact kR ((f_X3_nearFaults tc tv gc gs gb gf gv p0) ||| (f_X3_farFaults tc tv gc gs gf gv p0)) 11 ls hR.symm dX3_faultsAt_11
set_option maxHeartbeats 4000000 in
set_option maxRecDepth 100000 in
theorem m_X3_faultsAt (l : Launch) (dC : Nat → ClassId) (dI : Nat → Nat → Nat) (cI cJ : ClassId) (aL : Nat) (aG : Nat) (aT : Nat) (aV : Nat) (tc : Int32) (tv : Nat → Int32) (gc : Int32) (gs : Int32) (gb : Int32) (gf : Int32) (gl : Int32) (gh : Int32) (gn : Int32) (gv : Nat → Int32) (p0 : Int32) (hz_gb : zb gb) (hz_gf : zb gf) : Met l yX3_faultsAt wsX3_faultsAt rm_X3_faultsAt (va_Pc [.ref aL, .int p0] (fun U => va_P (dC, dI) vwCl [(aL, .inr (4, [.ref aG, .ref aT, .int tc])), (aT, .inl (cI, 53, .inl tv)), (aG, .inr (2, [.ref aV, .int gc, .int gs, .int gb, .int gf, .int gl, .int gh, .int gn])), (aV, .inl (cI, 14, .inl gv))] U.heap ∧ va_K (dC, dI) vwCl [(cI, .int), (cJ, .long)] U)) (vp_Si (fun r => r = f_X3_faultsAt tc tv gc gs gb gf gv p0)) 0 0 (fun _ => False) := by
  refine Met.ofW (cc := cX3_faultsAt) (maxL := 2) (ret := (some .int)) (by decide) rfl ?_
  intro p e s m args below meth c s₁ B hml hv
  obtain ⟨rfl, hP, hK⟩ := hv
  have hl := lv_entry ([.ref aL, .int p0]) (n := 2) (Nat.le_of_ble_eq_true rfl)
  rw [lg_entry_eq]
  refine w_X3_faultsAt hz_gb hz_gf B.exec B.bytes hml (findClass_of_methodNamed B.named) (atoms_spec (ws := wsX3_faultsAt) B.pre) hK hP rfl (fun r pc ls er hd => ?_) _ hl
  exact W.iret B.exec B.bytes B.returns (fun t ht hW => ⟨r, rfl, er, ht⟩) (fun _ h => by cases h) hd B.notSynchronized
end
def f_X3_isFree_l2 (tc : Int32) (tv : Nat → Int32) (gc : Int32) (gs : Int32) (gb : Int32) (gf : Int32) (gv : Nat → Int32) (p0 : Int32) : Nat → Int32 → Int32
  | 0, _ => default
  | fu + 1, v1 =>
    (if tc ≤ v1 then (1 : Int32) else (if ((f_X3_faultsAt tc tv gc gs gb gf gv v1) &&& p0) = 0 then (f_X3_isFree_l2 tc tv gc gs gb gf gv p0 fu) (v1 + (1 : Int32)) else (0 : Int32)))
theorem e_X3_isFree_l2 {fu : Nat} {tc : Int32} {tv : Nat → Int32} {gc : Int32} {gs : Int32} {gb : Int32} {gf : Int32} {gv : Nat → Int32} {p0 : Int32} {v1 : Int32} : f_X3_isFree_l2 tc tv gc gs gb gf gv p0 (fu + 1) v1 = (if tc ≤ v1 then (1 : Int32) else (if ((f_X3_faultsAt tc tv gc gs gb gf gv v1) &&& p0) = 0 then (f_X3_isFree_l2 tc tv gc gs gb gf gv p0 fu) (v1 + (1 : Int32)) else (0 : Int32))) := rfl
def f_X3_isFree (tc : Int32) (tv : Nat → Int32) (gc : Int32) (gs : Int32) (gb : Int32) (gf : Int32) (gv : Nat → Int32) (p0 : Int32) : Int32 :=
  f_X3_isFree_l2 tc tv gc gs gb gf gv p0 ((tc.toInt - (0 : Int32).toInt).toNat + 1) (0 : Int32)
theorem e_X3_isFree {tc : Int32} {tv : Nat → Int32} {gc : Int32} {gs : Int32} {gb : Int32} {gf : Int32} {gv : Nat → Int32} {p0 : Int32} : f_X3_isFree tc tv gc gs gb gf gv p0 = f_X3_isFree_l2 tc tv gc gs gb gf gv p0 ((tc.toInt - (0 : Int32).toInt).toNat + 1) (0 : Int32) := rfl
section
variable {p : Program} {l : Launch} {e : Env} {s : State} {m : MethodId} {args : Array Value} {below : List Frame} {meth : Method} {c : Code} {Q : State → Prop} {H : Heap} {locs : List Loc} {dC : Nat → ClassId} {dI : Nat → Nat → Nat} {cI cJ : ClassId}
abbrev rm_X3_isFree : Room := { frames := 5, cells := 0, slots := 0, locals := 115 }
theorem hd_X3_isFree : yX3_isFree.cls = RX3 ∧ yX3_isFree.cls ≠ "java/lang/invoke/MethodHandle" ∧ yX3_isFree.cls ≠ "java/lang/invoke/VarHandle" ∧ (parseMethodDescriptor yX3_isFree.desc).map (fun d => d.parameters.length) = some 1 := by decide +kernel
set_option maxHeartbeats 4000000 in
set_option maxRecDepth 100000 in
theorem w_X3_isFree {aL : Nat} {aG : Nat} {aT : Nat} {aV : Nat} {tc : Int32} {tv : Nat → Int32} {gc : Int32} {gs : Int32} {gb : Int32} {gf : Int32} {gl : Int32} {gh : Int32} {gn : Int32} {gv : Nat → Int32} {p0 : Int32} (hz_gb : zb gb) (hz_gf : zb gf) {F : Int32} (hx : p.tables.exec = Jvm.exec) (hb : c.code = cX3_isFree) (hml : c.maxLocals = 3) (hown : s.vm.findClass RX3 = some m.cls) (hts : ∀ w ∈ wsX3_isFree, w.before args s = true) (hK : va_K (dC, dI) vwCl [(cI, .int), (cJ, .long)] s) (hP : va_P (dC, dI) vwCl [(aL, .inr (4, [.ref aG, .ref aT, .int tc])), (aT, .inl (cI, 53, .inl tv)), (aG, .inr (2, [.ref aV, .int gc, .int gs, .int gb, .int gf, .int gl, .int gh, .int gn])), (aV, .inl (cI, 14, .inl gv))] H) (hR : F = f_X3_isFree tc tv gc gs gb gf gv p0) (kR : ∀ (r : Int32) (pc : Nat) (ls : Array Slot), zb r → r = F → decode cX3_isFree pc = .ok (.ireturn, 1) → W p l e rm_X3_isFree s m args below meth c H locs 0 0 Q (F0 m pc ls [.int r])) (ls : Array Slot) (hl : lv_has ls 3 [(0, .ref aL), (1, .int p0)]) : W p l e rm_X3_isFree s m args below meth c H locs 0 0 Q (F0 m 0 ls []) := by
  have hR := hR.trans e_X3_isFree
  refine lv_iconst (v := (0 : Int32)) hx hb dX3_isFree_0 (by decide) ?_
  refine lv_istore_n (lv' := [(2, .int (0 : Int32)), (0, .ref aL), (1, .int p0)]) hx hb dX3_isFree_1 rfl hl (by decide) rfl (fun ls hl => ?_)
  have L2 : ∀ (fu2 : Nat) (v1 : Int32), ∀ (ls : Array Slot), lv_has ls 3 [(0, .ref aL), (1, .int p0), (2, .int v1)] → (tc.toInt - v1.toInt).toNat < fu2 → F = f_X3_isFree_l2 tc tv gc gs gb gf gv p0 fu2 v1 → W p l e rm_X3_isFree s m args below meth c H locs 0 0 Q (F0 m 2 ls []) := by
    intro fu2
    induction fu2 with
    | zero => intro v1 ls hl hm; exact absurd hm (Nat.not_lt_zero _)
    | succ fu2 ih2 =>
      intro v1 ls hl hm2 hR
      have hR := hR.trans e_X3_isFree_l2
      refine lv_iload_n hx hb dX3_isFree_2 rfl (lv_at hl 2 rfl) ?_
      refine lv_aload_n hx hb dX3_isFree_3 rfl (lv_at hl 0 rfl) ?_
      refine va_get (D := (dC, dI)) (ci := 4) (v := .int tc) (C := RX3) (T := TX3) (N := 3) hx hb hts inC_X3 hown hK hP 0 rfl rfl 2 (by decide) (hts (.fieldLink RX3 17 "Counterpointery$Line" "count" "I") (List.mem_cons_of_mem _ wm_5)) (fun _ h9 => h9) rfl dX3_isFree_4 ?_
      refine lv_icmp_ge (tgt := 28) hx hb dX3_isFree_7 (by decide) (fun c_1 => ?_) (fun c_1 => ?_)
      · have hR := hR.trans (if_pos c_1)
        refine lv_iconst (v := (1 : Int32)) hx hb dX3_isFree_28 (by decide) ?_
        exact kR (1 : Int32) 29 ls (by first | exact Or.inl rfl | exact Or.inr rfl) hR.symm dX3_isFree_29
      · have hR := hR.trans (if_neg c_1)
        refine lv_aload_n hx hb dX3_isFree_10 rfl (lv_at hl 0 rfl) ?_
        refine lv_iload_n hx hb dX3_isFree_11 rfl (lv_at hl 2 rfl) ?_
        refine rV_i (q0 := 0) (As := [.int v1]) (rest := []) ⟨hx, hb, hml, hown, hts⟩ (m_X3_faultsAt l dC dI cI cJ aL aG aT aV tc tv gc gs gb gf gl gh gn gv v1 hz_gb hz_gf) (cwV 1 hts (gi_V wm_213 wm_214 wm_215 wm_3 wm_216) rfl rfl rfl hd_X3_faultsAt ⟨Nat.le_of_ble_eq_true rfl, Nat.le_of_ble_eq_true rfl⟩) hK (hP.sub [0, 1, 2, 3] rfl) rfl rfl rfl hl.1 rfl (Nat.le_of_ble_eq_true rfl) dX3_isFree_12 ⟨Nat.zero_le _, Nat.zero_le _⟩ ?_
        refine lv_iload_n hx hb dX3_isFree_15 rfl (lv_at hl 1 rfl) ?_
        refine lv_iand hx hb dX3_isFree_16 ?_
        refine lv_if_eq (tgt := 22) hx hb dX3_isFree_17 (by decide) (fun c_2 => ?_) (fun c_2 => ?_)
        · have hR := hR.trans (if_pos c_2)
          refine lv_iinc (v := (v1 + (1 : Int32))) (lv' := [(2, .int (v1 + (1 : Int32))), (0, .ref aL), (1, .int p0)]) hx hb dX3_isFree_22 hl (k := 2) rfl rfl (by decide) rfl (fun ls hl => ?_)
          refine lv_goto (tgt := 2) hx hb dX3_isFree_25 (by decide) ?_
          exact ih2 (v1 + (1 : Int32)) ls (lv_sub hl [1, 2, 0] rfl) (Nat.lt_of_lt_of_le (lp_up (by assumption)) (Nat.le_of_lt_succ hm2)) hR
        · have hR := hR.trans (if_neg c_2)
          refine lv_iconst (v := (0 : Int32)) hx hb dX3_isFree_20 (by decide) ?_
          exact kR (0 : Int32) 21 ls (by first | exact Or.inl rfl | exact Or.inr rfl) hR.symm dX3_isFree_21
  exact L2 ((tc.toInt - (0 : Int32).toInt).toNat + 1) (0 : Int32) ls (lv_sub hl [1, 2, 0] rfl) (Nat.lt_succ_self _) hR
set_option maxHeartbeats 4000000 in
set_option maxRecDepth 100000 in
theorem m_X3_isFree (l : Launch) (dC : Nat → ClassId) (dI : Nat → Nat → Nat) (cI cJ : ClassId) (aL : Nat) (aG : Nat) (aT : Nat) (aV : Nat) (tc : Int32) (tv : Nat → Int32) (gc : Int32) (gs : Int32) (gb : Int32) (gf : Int32) (gl : Int32) (gh : Int32) (gn : Int32) (gv : Nat → Int32) (p0 : Int32) (hz_gb : zb gb) (hz_gf : zb gf) : Met l yX3_isFree wsX3_isFree rm_X3_isFree (va_Pc [.ref aL, .int p0] (fun U => va_P (dC, dI) vwCl [(aL, .inr (4, [.ref aG, .ref aT, .int tc])), (aT, .inl (cI, 53, .inl tv)), (aG, .inr (2, [.ref aV, .int gc, .int gs, .int gb, .int gf, .int gl, .int gh, .int gn])), (aV, .inl (cI, 14, .inl gv))] U.heap ∧ va_K (dC, dI) vwCl [(cI, .int), (cJ, .long)] U)) (vp_Si (fun r => r = f_X3_isFree tc tv gc gs gb gf gv p0)) 0 0 (fun _ => False) := by
  refine Met.ofW (cc := cX3_isFree) (maxL := 3) (ret := (some .boolean)) (by decide) rfl ?_
  intro p e s m args below meth c s₁ B hml hv
  obtain ⟨rfl, hP, hK⟩ := hv
  have hl := lv_entry ([.ref aL, .int p0]) (n := 3) (Nat.le_of_ble_eq_true rfl)
  rw [lg_entry_eq]
  refine w_X3_isFree hz_gb hz_gf B.exec B.bytes hml (findClass_of_methodNamed B.named) (atoms_spec (ws := wsX3_isFree) B.pre) hK hP rfl (fun r pc ls hz er hd => ?_) _ hl
  exact W.zret B.exec B.bytes B.returns (zb_n hz) (fun t ht hW => ⟨r, rfl, er, ht⟩) (fun _ h => by cases h) hd B.notSynchronized
end
def f_X3_put (tv : Nat → Int32) (p0 : Int32) (p1 : Int32) : (Nat → Int32) :=
  (if p0 < 0 then tv else (if (53 : Int32) ≤ p0 then tv else (upd tv p0.toNatClampNeg p1)))
theorem e_X3_put {tv : Nat → Int32} {p0 : Int32} {p1 : Int32} : f_X3_put tv p0 p1 = (if p0 < 0 then tv else (if (53 : Int32) ≤ p0 then tv else (upd tv p0.toNatClampNeg p1))) := rfl
section
variable {p : Program} {l : Launch} {e : Env} {s : State} {m : MethodId} {args : Array Value} {below : List Frame} {meth : Method} {c : Code} {Q : State → Prop} {H : Heap} {locs : List Loc} {dC : Nat → ClassId} {dI : Nat → Nat → Nat} {cI cJ : ClassId}
abbrev rm_X3_put : Room := { frames := 0, cells := 0, slots := 0, locals := 0 }
theorem hd_X3_put : yX3_put.cls = RX3 ∧ yX3_put.cls ≠ "java/lang/invoke/MethodHandle" ∧ yX3_put.cls ≠ "java/lang/invoke/VarHandle" ∧ (parseMethodDescriptor yX3_put.desc).map (fun d => d.parameters.length) = some 2 := by decide +kernel
set_option maxHeartbeats 4000000 in
set_option maxRecDepth 100000 in
theorem w_X3_put {aL : Nat} {aG : Nat} {aT : Nat} {aV : Nat} {tc : Int32} {tv : Nat → Int32} {gc : Int32} {gs : Int32} {gb : Int32} {gf : Int32} {gl : Int32} {gh : Int32} {gn : Int32} {gv : Nat → Int32} {p0 : Int32} {p1 : Int32} {F : (Nat → Int32)} (hx : p.tables.exec = Jvm.exec) (hb : c.code = cX3_put) (hml : c.maxLocals = 3) (hown : s.vm.findClass RX3 = some m.cls) (hts : ∀ w ∈ wsX3_put, w.before args s = true) (hK : va_K (dC, dI) vwCl [(cI, .int), (cJ, .long)] s) {A : Nat → Prop} {H0 : Heap} (hP : va_P (dC, dI) vwCl [(aL, .inr (4, [.ref aG, .ref aT, .int tc])), (aT, .inl (cI, 53, .inl tv)), (aG, .inr (2, [.ref aV, .int gc, .int gs, .int gb, .int gf, .int gl, .int gh, .int gn])), (aV, .inl (cI, 14, .inl gv))] H) (hD : va_D A [(aL, .inr (4, [.ref aG, .ref aT, .int tc])), (aT, .inl (cI, 53, .inl tv)), (aG, .inr (2, [.ref aV, .int gc, .int gs, .int gb, .int gf, .int gl, .int gh, .int gn])), (aV, .inl (cI, 14, .inl gv))]) (hS : va_S A H0 H locs) (hA : ∀ q, H0.size ≤ q → A q) (hR : F = f_X3_put tv p0 p1) (kR : ∀ (pc : Nat) (ls : Array Slot) (H : Heap) (locs : List Loc) (tv' : Nat → Int32), va_P (dC, dI) vwCl [(aL, .inr (4, [.ref aG, .ref aT, .int tc])), (aT, .inl (cI, 53, .inl tv')), (aG, .inr (2, [.ref aV, .int gc, .int gs, .int gb, .int gf, .int gl, .int gh, .int gn])), (aV, .inl (cI, 14, .inl gv))] H → va_D A [(aL, .inr (4, [.ref aG, .ref aT, .int tc])), (aT, .inl (cI, 53, .inl tv')), (aG, .inr (2, [.ref aV, .int gc, .int gs, .int gb, .int gf, .int gl, .int gh, .int gn])), (aV, .inl (cI, 14, .inl gv))] → va_S A H0 H locs → tv' = F → decode cX3_put pc = .ok (.return_, 1) → W p l e rm_X3_put s m args below meth c H locs 0 0 Q (F0 m pc ls [])) (ls : Array Slot) (hl : lv_has ls 3 [(0, .ref aL), (1, .int p0), (2, .int p1)]) : W p l e rm_X3_put s m args below meth c H locs 0 0 Q (F0 m 0 ls []) := by
  have hR := hR.trans e_X3_put
  refine lv_iload_n hx hb dX3_put_0 rfl (lv_at hl 1 rfl) ?_
  refine lv_if_lt (tgt := 20) hx hb dX3_put_1 (by decide) (fun c_1 => ?_) (fun c_1 => ?_)
  · have hR := hR.trans (if_pos c_1)
    exact kR 20 ls H locs tv hP hD hS hR.symm dX3_put_20
  · have hR := hR.trans (if_neg c_1)
    refine lv_iload_n hx hb dX3_put_4 rfl (lv_at hl 1 rfl) ?_
    refine lv_aload_n hx hb dX3_put_5 rfl (lv_at hl 0 rfl) ?_
    refine va_get (D := (dC, dI)) (ci := 4) (v := .ref aT) (C := RX3) (T := TX3) (N := 3) hx hb hts inC_X3 hown hK hP 0 rfl rfl 1 (by decide) (hts (.fieldLink RX3 13 "Counterpointery$Line" "tones" "[I") (List.mem_cons_of_mem _ wm_10)) (fun _ h9 => h9) rfl dX3_put_6 ?_
    refine va_alen (D := (dC, dI)) (v := (53 : Int32)) hx hb hK hP 1 0 rfl rfl rfl dX3_put_9 ?_
    refine lv_icmp_ge (tgt := 20) hx hb dX3_put_10 (by decide) (fun c_2 => ?_) (fun c_2 => ?_)
    · have hR := hR.trans (if_pos c_2)
      exact kR 20 ls H locs tv hP hD hS hR.symm dX3_put_20
    · have hR := hR.trans (if_neg c_2)
      refine lv_aload_n hx hb dX3_put_13 rfl (lv_at hl 0 rfl) ?_
      refine va_get (D := (dC, dI)) (ci := 4) (v := .ref aT) (C := RX3) (T := TX3) (N := 3) hx hb hts inC_X3 hown hK hP 0 rfl rfl 1 (by decide) (hts (.fieldLink RX3 13 "Counterpointery$Line" "tones" "[I") (List.mem_cons_of_mem _ wm_10)) (fun _ h9 => h9) rfl dX3_put_14 ?_
      refine lv_iload_n hx hb dX3_put_17 rfl (lv_at hl 1 rfl) ?_
      refine lv_iload_n hx hb dX3_put_18 rfl (lv_at hl 2 rfl) ?_
      refine va_iast (D := (dC, dI)) hx hb hK hP hD hS 1 0 rfl rfl (by first | exact vi_a (N := (53 : Int32)) (by assumption) (by assumption) rfl | exact vi_b (N := (53 : Int32)) (by assumption) (by assumption) rfl | exact vi_c (N := (53 : Int32)) (by assumption) (by assumption) rfl) dX3_put_19 (fun H locs hP hD hS => ?_)
      have hP : va_P (dC, dI) vwCl [(aL, .inr (4, [.ref aG, .ref aT, .int tc])), (aT, .inl (cI, 53, .inl (upd tv p0.toNatClampNeg p1))), (aG, .inr (2, [.ref aV, .int gc, .int gs, .int gb, .int gf, .int gl, .int gh, .int gn])), (aV, .inl (cI, 14, .inl gv))] H := hP
      have hD : va_D A [(aL, .inr (4, [.ref aG, .ref aT, .int tc])), (aT, .inl (cI, 53, .inl (upd tv p0.toNatClampNeg p1))), (aG, .inr (2, [.ref aV, .int gc, .int gs, .int gb, .int gf, .int gl, .int gh, .int gn])), (aV, .inl (cI, 14, .inl gv))] := hD
      exact kR 20 ls H locs (upd tv p0.toNatClampNeg p1) hP hD hS hR.symm dX3_put_20
set_option maxHeartbeats 4000000 in
set_option maxRecDepth 100000 in
theorem m_X3_put (l : Launch) (dC : Nat → ClassId) (dI : Nat → Nat → Nat) (cI cJ : ClassId) (aL : Nat) (aG : Nat) (aT : Nat) (aV : Nat) (tc : Int32) (tv : Nat → Int32) (gc : Int32) (gs : Int32) (gb : Int32) (gf : Int32) (gl : Int32) (gh : Int32) (gn : Int32) (gv : Nat → Int32) (p0 : Int32) (p1 : Int32) (sz : Nat) : Met l yX3_put wsX3_put rm_X3_put (va_Pc [.ref aL, .int p0, .int p1] (fun U => U.heap.size = sz ∧ va_P (dC, dI) vwCl [(aL, .inr (4, [.ref aG, .ref aT, .int tc])), (aT, .inl (cI, 53, .inl tv)), (aG, .inr (2, [.ref aV, .int gc, .int gs, .int gb, .int gf, .int gl, .int gh, .int gn])), (aV, .inl (cI, 14, .inl gv))] U.heap ∧ va_K (dC, dI) vwCl [(cI, .int), (cJ, .long)] U ∧ va_D (fun _ => True) [(aL, .inr (4, [.ref aG, .ref aT, .int tc])), (aT, .inl (cI, 53, .inl tv)), (aG, .inr (2, [.ref aV, .int gc, .int gs, .int gb, .int gf, .int gl, .int gh, .int gn])), (aV, .inl (cI, 14, .inl gv))])) (va_Qv (fun _ : Unit => True) (fun _ t => va_P (dC, dI) vwCl [(aL, .inr (4, [.ref aG, .ref aT, .int tc])), (aT, .inl (cI, 53, .inl (f_X3_put tv p0 p1))), (aG, .inr (2, [.ref aV, .int gc, .int gs, .int gb, .int gf, .int gl, .int gh, .int gn])), (aV, .inl (cI, 14, .inl gv))] t.heap ∧ va_K (dC, dI) vwCl [(cI, .int), (cJ, .long)] t ∧ va_D (va_A [(aL, .inr (4, [.ref aG, .ref aT, .int tc])), (aT, .inl (cI, 53, .inl tv)), (aG, .inr (2, [.ref aV, .int gc, .int gs, .int gb, .int gf, .int gl, .int gh, .int gn])), (aV, .inl (cI, 14, .inl gv))] sz) [(aL, .inr (4, [.ref aG, .ref aT, .int tc])), (aT, .inl (cI, 53, .inl (f_X3_put tv p0 p1))), (aG, .inr (2, [.ref aV, .int gc, .int gs, .int gb, .int gf, .int gl, .int gh, .int gn])), (aV, .inl (cI, 14, .inl gv))]) (va_A [(aL, .inr (4, [.ref aG, .ref aT, .int tc])), (aT, .inl (cI, 53, .inl tv)), (aG, .inr (2, [.ref aV, .int gc, .int gs, .int gb, .int gf, .int gl, .int gh, .int gn])), (aV, .inl (cI, 14, .inl gv))] sz)) 0 0 (va_A [(aL, .inr (4, [.ref aG, .ref aT, .int tc])), (aT, .inl (cI, 53, .inl tv)), (aG, .inr (2, [.ref aV, .int gc, .int gs, .int gb, .int gf, .int gl, .int gh, .int gn])), (aV, .inl (cI, 14, .inl gv))] sz) := by
  refine Met.ofW (cc := cX3_put) (maxL := 3) (ret := none) (by decide) rfl ?_
  intro p e s m args below meth c s₁ B hml hv
  obtain ⟨rfl, hsz, hP, hK, hD0⟩ := hv
  subst hsz
  have hl := lv_entry ([.ref aL, .int p0, .int p1]) (n := 3) (Nat.le_of_ble_eq_true rfl)
  rw [lg_entry_eq]
  refine w_X3_put B.exec B.bytes hml (findClass_of_methodNamed B.named) (atoms_spec (ws := wsX3_put) B.pre) hK hP (hD0.self (sz := s.heap.size)) va_S.rf (fun q h => Or.inr h) rfl (fun pc ls H locs tv' hP hD hS er hd => ?_) _ hl
  subst er
  exact W.vret B.exec B.bytes B.returns (fun t ht hW => ⟨⟨(), rfl, trivial, by rw [ht]; exact hP, va_K.moved hW.alike hK, hD⟩, hS.F ht⟩) hS.2.2 hd B.notSynchronized
end
def f_X3_append (tc : Int32) (tv : Nat → Int32) (p0 : Int32) : (Nat → Int32) × Int32 :=
  (if (53 : Int32) ≤ tc then (tv, tc) else ((upd tv tc.toNatClampNeg p0), (tc + (1 : Int32))))
theorem e_X3_append {tc : Int32} {tv : Nat → Int32} {p0 : Int32} : f_X3_append tc tv p0 = (if (53 : Int32) ≤ tc then (tv, tc) else ((upd tv tc.toNatClampNeg p0), (tc + (1 : Int32)))) := rfl
section
variable {p : Program} {l : Launch} {e : Env} {s : State} {m : MethodId} {args : Array Value} {below : List Frame} {meth : Method} {c : Code} {Q : State → Prop} {H : Heap} {locs : List Loc} {dC : Nat → ClassId} {dI : Nat → Nat → Nat} {cI cJ : ClassId}
abbrev rm_X3_append : Room := { frames := 0, cells := 0, slots := 0, locals := 0 }
theorem hd_X3_append : yX3_append.cls = RX3 ∧ yX3_append.cls ≠ "java/lang/invoke/MethodHandle" ∧ yX3_append.cls ≠ "java/lang/invoke/VarHandle" ∧ (parseMethodDescriptor yX3_append.desc).map (fun d => d.parameters.length) = some 1 := by decide +kernel
set_option maxHeartbeats 4000000 in
set_option maxRecDepth 100000 in
theorem w_X3_append {aL : Nat} {aG : Nat} {aT : Nat} {aV : Nat} {tc : Int32} {tv : Nat → Int32} {gc : Int32} {gs : Int32} {gb : Int32} {gf : Int32} {gl : Int32} {gh : Int32} {gn : Int32} {gv : Nat → Int32} {p0 : Int32} (h_tc : 0 ≤ tc) {F : (Nat → Int32) × Int32} (hx : p.tables.exec = Jvm.exec) (hb : c.code = cX3_append) (hml : c.maxLocals = 2) (hown : s.vm.findClass RX3 = some m.cls) (hts : ∀ w ∈ wsX3_append, w.before args s = true) (hK : va_K (dC, dI) vwCl [(cI, .int), (cJ, .long)] s) {A : Nat → Prop} {H0 : Heap} (hP : va_P (dC, dI) vwCl [(aL, .inr (4, [.ref aG, .ref aT, .int tc])), (aT, .inl (cI, 53, .inl tv)), (aG, .inr (2, [.ref aV, .int gc, .int gs, .int gb, .int gf, .int gl, .int gh, .int gn])), (aV, .inl (cI, 14, .inl gv))] H) (hD : va_D A [(aL, .inr (4, [.ref aG, .ref aT, .int tc])), (aT, .inl (cI, 53, .inl tv)), (aG, .inr (2, [.ref aV, .int gc, .int gs, .int gb, .int gf, .int gl, .int gh, .int gn])), (aV, .inl (cI, 14, .inl gv))]) (hS : va_S A H0 H locs) (hA : ∀ q, H0.size ≤ q → A q) (hR : F = f_X3_append tc tv p0) (kR : ∀ (pc : Nat) (ls : Array Slot) (H : Heap) (locs : List Loc) (tv' : Nat → Int32) (tc' : Int32), va_P (dC, dI) vwCl [(aL, .inr (4, [.ref aG, .ref aT, .int tc'])), (aT, .inl (cI, 53, .inl tv')), (aG, .inr (2, [.ref aV, .int gc, .int gs, .int gb, .int gf, .int gl, .int gh, .int gn])), (aV, .inl (cI, 14, .inl gv))] H → va_D A [(aL, .inr (4, [.ref aG, .ref aT, .int tc'])), (aT, .inl (cI, 53, .inl tv')), (aG, .inr (2, [.ref aV, .int gc, .int gs, .int gb, .int gf, .int gl, .int gh, .int gn])), (aV, .inl (cI, 14, .inl gv))] → va_S A H0 H locs → (tv', tc') = F → decode cX3_append pc = .ok (.return_, 1) → W p l e rm_X3_append s m args below meth c H locs 0 0 Q (F0 m pc ls [])) (ls : Array Slot) (hl : lv_has ls 2 [(0, .ref aL), (1, .int p0)]) : W p l e rm_X3_append s m args below meth c H locs 0 0 Q (F0 m 0 ls []) := by
  have hR := hR.trans e_X3_append
  refine lv_aload_n hx hb dX3_append_0 rfl (lv_at hl 0 rfl) ?_
  refine va_get (D := (dC, dI)) (ci := 4) (v := .int tc) (C := RX3) (T := TX3) (N := 3) hx hb hts inC_X3 hown hK hP 0 rfl rfl 2 (by decide) (hts (.fieldLink RX3 17 "Counterpointery$Line" "count" "I") (List.mem_cons_of_mem _ wm_5)) (fun _ h9 => h9) rfl dX3_append_1 ?_
  refine lv_aload_n hx hb dX3_append_4 rfl (lv_at hl 0 rfl) ?_
  refine va_get (D := (dC, dI)) (ci := 4) (v := .ref aT) (C := RX3) (T := TX3) (N := 3) hx hb hts inC_X3 hown hK hP 0 rfl rfl 1 (by decide) (hts (.fieldLink RX3 13 "Counterpointery$Line" "tones" "[I") (List.mem_cons_of_mem _ wm_10)) (fun _ h9 => h9) rfl dX3_append_5 ?_
  refine va_alen (D := (dC, dI)) (v := (53 : Int32)) hx hb hK hP 1 0 rfl rfl rfl dX3_append_8 ?_
  refine lv_icmp_ge (tgt := 32) hx hb dX3_append_9 (by decide) (fun c_1 => ?_) (fun c_1 => ?_)
  · have hR := hR.trans (if_pos c_1)
    exact kR 32 ls H locs tv tc hP hD hS hR.symm dX3_append_32
  · have hR := hR.trans (if_neg c_1)
    refine lv_aload_n hx hb dX3_append_12 rfl (lv_at hl 0 rfl) ?_
    refine va_get (D := (dC, dI)) (ci := 4) (v := .ref aT) (C := RX3) (T := TX3) (N := 3) hx hb hts inC_X3 hown hK hP 0 rfl rfl 1 (by decide) (hts (.fieldLink RX3 13 "Counterpointery$Line" "tones" "[I") (List.mem_cons_of_mem _ wm_10)) (fun _ h9 => h9) rfl dX3_append_13 ?_
    refine lv_aload_n hx hb dX3_append_16 rfl (lv_at hl 0 rfl) ?_
    refine va_get (D := (dC, dI)) (ci := 4) (v := .int tc) (C := RX3) (T := TX3) (N := 3) hx hb hts inC_X3 hown hK hP 0 rfl rfl 2 (by decide) (hts (.fieldLink RX3 17 "Counterpointery$Line" "count" "I") (List.mem_cons_of_mem _ wm_5)) (fun _ h9 => h9) rfl dX3_append_17 ?_
    refine lv_iload_n hx hb dX3_append_20 rfl (lv_at hl 1 rfl) ?_
    refine va_iast (D := (dC, dI)) hx hb hK hP hD hS 1 0 rfl rfl (by first | exact vi_a (N := (53 : Int32)) (by assumption) (by assumption) rfl | exact vi_b (N := (53 : Int32)) (by assumption) (by assumption) rfl | exact vi_c (N := (53 : Int32)) (by assumption) (by assumption) rfl) dX3_append_21 (fun H locs hP hD hS => ?_)
    have hP : va_P (dC, dI) vwCl [(aL, .inr (4, [.ref aG, .ref aT, .int tc])), (aT, .inl (cI, 53, .inl (upd tv tc.toNatClampNeg p0))), (aG, .inr (2, [.ref aV, .int gc, .int gs, .int gb, .int gf, .int gl, .int gh, .int gn])), (aV, .inl (cI, 14, .inl gv))] H := hP
    have hD : va_D A [(aL, .inr (4, [.ref aG, .ref aT, .int tc])), (aT, .inl (cI, 53, .inl (upd tv tc.toNatClampNeg p0))), (aG, .inr (2, [.ref aV, .int gc, .int gs, .int gb, .int gf, .int gl, .int gh, .int gn])), (aV, .inl (cI, 14, .inl gv))] := hD
    refine lv_aload_n hx hb dX3_append_22 rfl (lv_at hl 0 rfl) ?_
    refine lv_dup hx hb dX3_append_23 rfl ?_
    refine va_get (D := (dC, dI)) (ci := 4) (v := .int tc) (C := RX3) (T := TX3) (N := 3) hx hb hts inC_X3 hown hK hP 0 rfl rfl 2 (by decide) (hts (.fieldLink RX3 17 "Counterpointery$Line" "count" "I") (List.mem_cons_of_mem _ wm_5)) (fun _ h9 => h9) rfl dX3_append_24 ?_
    refine lv_iconst (v := (1 : Int32)) hx hb dX3_append_27 (by decide) ?_
    refine lv_iadd hx hb dX3_append_28 ?_
    refine va_put (D := (dC, dI)) (ci := 4) (v := .int (tc + (1 : Int32))) (ty := .int) (C := RX3) (T := TX3) (N := 3) hx hb hts inC_X3 tyX3 tyX3_ok nmX3 hown hK hP hD hS 0 rfl rfl 2 (by decide) (hts (.fieldLink RX3 17 "Counterpointery$Line" "count" "I") (List.mem_cons_of_mem _ wm_5)) (fun _ h9 => h9) rfl (by decide +kernel) rfl rfl (Nat.le_of_ble_eq_true rfl) dX3_append_29 (fun H locs hP hD hS => ?_)
    have hP : va_P (dC, dI) vwCl [(aL, .inr (4, [.ref aG, .ref aT, .int (tc + (1 : Int32))])), (aT, .inl (cI, 53, .inl (upd tv tc.toNatClampNeg p0))), (aG, .inr (2, [.ref aV, .int gc, .int gs, .int gb, .int gf, .int gl, .int gh, .int gn])), (aV, .inl (cI, 14, .inl gv))] H := hP
    have hD : va_D A [(aL, .inr (4, [.ref aG, .ref aT, .int (tc + (1 : Int32))])), (aT, .inl (cI, 53, .inl (upd tv tc.toNatClampNeg p0))), (aG, .inr (2, [.ref aV, .int gc, .int gs, .int gb, .int gf, .int gl, .int gh, .int gn])), (aV, .inl (cI, 14, .inl gv))] := hD
    exact kR 32 ls H locs (upd tv tc.toNatClampNeg p0) (tc + (1 : Int32)) hP hD hS hR.symm dX3_append_32
set_option maxHeartbeats 4000000 in
set_option maxRecDepth 100000 in
theorem m_X3_append (l : Launch) (dC : Nat → ClassId) (dI : Nat → Nat → Nat) (cI cJ : ClassId) (aL : Nat) (aG : Nat) (aT : Nat) (aV : Nat) (tc : Int32) (tv : Nat → Int32) (gc : Int32) (gs : Int32) (gb : Int32) (gf : Int32) (gl : Int32) (gh : Int32) (gn : Int32) (gv : Nat → Int32) (p0 : Int32) (h_tc : 0 ≤ tc) (sz : Nat) : Met l yX3_append wsX3_append rm_X3_append (va_Pc [.ref aL, .int p0] (fun U => U.heap.size = sz ∧ va_P (dC, dI) vwCl [(aL, .inr (4, [.ref aG, .ref aT, .int tc])), (aT, .inl (cI, 53, .inl tv)), (aG, .inr (2, [.ref aV, .int gc, .int gs, .int gb, .int gf, .int gl, .int gh, .int gn])), (aV, .inl (cI, 14, .inl gv))] U.heap ∧ va_K (dC, dI) vwCl [(cI, .int), (cJ, .long)] U ∧ va_D (fun _ => True) [(aL, .inr (4, [.ref aG, .ref aT, .int tc])), (aT, .inl (cI, 53, .inl tv)), (aG, .inr (2, [.ref aV, .int gc, .int gs, .int gb, .int gf, .int gl, .int gh, .int gn])), (aV, .inl (cI, 14, .inl gv))])) (va_Qv (fun _ : Unit => True) (fun _ t => va_P (dC, dI) vwCl [(aL, .inr (4, [.ref aG, .ref aT, .int ((f_X3_append tc tv p0).2)])), (aT, .inl (cI, 53, .inl ((f_X3_append tc tv p0).1))), (aG, .inr (2, [.ref aV, .int gc, .int gs, .int gb, .int gf, .int gl, .int gh, .int gn])), (aV, .inl (cI, 14, .inl gv))] t.heap ∧ va_K (dC, dI) vwCl [(cI, .int), (cJ, .long)] t ∧ va_D (va_A [(aL, .inr (4, [.ref aG, .ref aT, .int tc])), (aT, .inl (cI, 53, .inl tv)), (aG, .inr (2, [.ref aV, .int gc, .int gs, .int gb, .int gf, .int gl, .int gh, .int gn])), (aV, .inl (cI, 14, .inl gv))] sz) [(aL, .inr (4, [.ref aG, .ref aT, .int ((f_X3_append tc tv p0).2)])), (aT, .inl (cI, 53, .inl ((f_X3_append tc tv p0).1))), (aG, .inr (2, [.ref aV, .int gc, .int gs, .int gb, .int gf, .int gl, .int gh, .int gn])), (aV, .inl (cI, 14, .inl gv))]) (va_A [(aL, .inr (4, [.ref aG, .ref aT, .int tc])), (aT, .inl (cI, 53, .inl tv)), (aG, .inr (2, [.ref aV, .int gc, .int gs, .int gb, .int gf, .int gl, .int gh, .int gn])), (aV, .inl (cI, 14, .inl gv))] sz)) 0 0 (va_A [(aL, .inr (4, [.ref aG, .ref aT, .int tc])), (aT, .inl (cI, 53, .inl tv)), (aG, .inr (2, [.ref aV, .int gc, .int gs, .int gb, .int gf, .int gl, .int gh, .int gn])), (aV, .inl (cI, 14, .inl gv))] sz) := by
  refine Met.ofW (cc := cX3_append) (maxL := 2) (ret := none) (by decide) rfl ?_
  intro p e s m args below meth c s₁ B hml hv
  obtain ⟨rfl, hsz, hP, hK, hD0⟩ := hv
  subst hsz
  have hl := lv_entry ([.ref aL, .int p0]) (n := 2) (Nat.le_of_ble_eq_true rfl)
  rw [lg_entry_eq]
  refine w_X3_append h_tc B.exec B.bytes hml (findClass_of_methodNamed B.named) (atoms_spec (ws := wsX3_append) B.pre) hK hP (hD0.self (sz := s.heap.size)) va_S.rf (fun q h => Or.inr h) rfl (fun pc ls H locs tv' tc' hP hD hS er hd => ?_) _ hl
  simp only [Prod.ext_iff] at er
  obtain ⟨e0, e1⟩ := er
  subst e0
  subst e1
  exact W.vret B.exec B.bytes B.returns (fun t ht hW => ⟨⟨(), rfl, trivial, by rw [ht]; exact hP, va_K.moved hW.alike hK, hD⟩, hS.F ht⟩) hS.2.2 hd B.notSynchronized
end
def f_X3_stretch (p0 : Int32) : Int32 :=
  (imax (0 : Int32) (imin p0 (53 : Int32)))
theorem e_X3_stretch {p0 : Int32} : f_X3_stretch p0 = (imax (0 : Int32) (imin p0 (53 : Int32))) := rfl
section
variable {p : Program} {l : Launch} {e : Env} {s : State} {m : MethodId} {args : Array Value} {below : List Frame} {meth : Method} {c : Code} {Q : State → Prop} {H : Heap} {locs : List Loc} {dC : Nat → ClassId} {dI : Nat → Nat → Nat} {cI cJ : ClassId}
abbrev rm_X3_stretch : Room := { frames := 1, cells := 0, slots := 0, locals := 21 }
theorem hd_X3_stretch : yX3_stretch.cls = RX3 ∧ yX3_stretch.cls ≠ "java/lang/invoke/MethodHandle" ∧ yX3_stretch.cls ≠ "java/lang/invoke/VarHandle" ∧ (parseMethodDescriptor yX3_stretch.desc).map (fun d => d.parameters.length) = some 1 := by decide +kernel
set_option maxHeartbeats 4000000 in
set_option maxRecDepth 100000 in
theorem w_X3_stretch {aL : Nat} {aG : Nat} {aT : Nat} {aV : Nat} {tc : Int32} {tv : Nat → Int32} {gc : Int32} {gs : Int32} {gb : Int32} {gf : Int32} {gl : Int32} {gh : Int32} {gn : Int32} {gv : Nat → Int32} {p0 : Int32} {F : Int32} (hx : p.tables.exec = Jvm.exec) (hb : c.code = cX3_stretch) (hml : c.maxLocals = 2) (hown : s.vm.findClass RX3 = some m.cls) (hts : ∀ w ∈ wsX3_stretch, w.before args s = true) (hK : va_K (dC, dI) vwCl [(cI, .int), (cJ, .long)] s) {A : Nat → Prop} {H0 : Heap} (hP : va_P (dC, dI) vwCl [(aL, .inr (4, [.ref aG, .ref aT, .int tc])), (aT, .inl (cI, 53, .inl tv)), (aG, .inr (2, [.ref aV, .int gc, .int gs, .int gb, .int gf, .int gl, .int gh, .int gn])), (aV, .inl (cI, 14, .inl gv))] H) (hD : va_D A [(aL, .inr (4, [.ref aG, .ref aT, .int tc])), (aT, .inl (cI, 53, .inl tv)), (aG, .inr (2, [.ref aV, .int gc, .int gs, .int gb, .int gf, .int gl, .int gh, .int gn])), (aV, .inl (cI, 14, .inl gv))]) (hS : va_S A H0 H locs) (hA : ∀ q, H0.size ≤ q → A q) (hR : F = f_X3_stretch p0) (kR : ∀ (pc : Nat) (ls : Array Slot) (H : Heap) (locs : List Loc) (tc' : Int32), va_P (dC, dI) vwCl [(aL, .inr (4, [.ref aG, .ref aT, .int tc'])), (aT, .inl (cI, 53, .inl tv)), (aG, .inr (2, [.ref aV, .int gc, .int gs, .int gb, .int gf, .int gl, .int gh, .int gn])), (aV, .inl (cI, 14, .inl gv))] H → va_D A [(aL, .inr (4, [.ref aG, .ref aT, .int tc'])), (aT, .inl (cI, 53, .inl tv)), (aG, .inr (2, [.ref aV, .int gc, .int gs, .int gb, .int gf, .int gl, .int gh, .int gn])), (aV, .inl (cI, 14, .inl gv))] → va_S A H0 H locs → tc' = F → decode cX3_stretch pc = .ok (.return_, 1) → W p l e rm_X3_stretch s m args below meth c H locs 0 0 Q (F0 m pc ls [])) (ls : Array Slot) (hl : lv_has ls 2 [(0, .ref aL), (1, .int p0)]) : W p l e rm_X3_stretch s m args below meth c H locs 0 0 Q (F0 m 0 ls []) := by
  have hR := hR.trans e_X3_stretch
  refine lv_aload_n hx hb dX3_stretch_0 rfl (lv_at hl 0 rfl) ?_
  refine lv_iconst (v := (0 : Int32)) hx hb dX3_stretch_1 (by decide) ?_
  refine lv_iload_n hx hb dX3_stretch_2 rfl (lv_at hl 1 rfl) ?_
  refine lv_aload_n hx hb dX3_stretch_3 rfl (lv_at hl 0 rfl) ?_
  refine va_get (D := (dC, dI)) (ci := 4) (v := .ref aT) (C := RX3) (T := TX3) (N := 3) hx hb hts inC_X3 hown hK hP 0 rfl rfl 1 (by decide) (hts (.fieldLink RX3 13 "Counterpointery$Line" "tones" "[I") (List.mem_cons_of_mem _ wm_10)) (fun _ h9 => h9) rfl dX3_stretch_4 ?_
  refine va_alen (D := (dC, dI)) (v := (53 : Int32)) hx hb hK hP 1 0 rfl rfl rfl dX3_stretch_7 ?_
  refine w_min hx hb (hml.trans hl.1.symm) hown (hts (.methodLink RX3 30 Lib.Math.min.name) (List.mem_cons_of_mem _ wm_147)) (hts (.static Lib.Math.min.name) (List.mem_cons_of_mem _ wm_41)) (hts (.initialized "java/lang/Math") (List.mem_cons_of_mem _ wm_23)) (hts (.code Lib.Math.min.name Lib.Math.min.code 2 (some .int)) (List.mem_cons_of_mem _ wm_42)) (Nat.le_of_ble_eq_true rfl) (Nat.le_of_ble_eq_true rfl) (Nat.zero_le _) (Nat.zero_le _) dX3_stretch_8 ?_
  refine w_max hx hb (hml.trans hl.1.symm) hown (hts (.methodLink RX3 36 Lib.Math.max.name) (List.mem_cons_of_mem _ wm_148)) (hts (.static Lib.Math.max.name) (List.mem_cons_of_mem _ wm_149)) (hts (.initialized "java/lang/Math") (List.mem_cons_of_mem _ wm_23)) (hts (.code Lib.Math.max.name Lib.Math.max.code 2 (some .int)) (List.mem_cons_of_mem _ wm_150)) (Nat.le_of_ble_eq_true rfl) (Nat.le_of_ble_eq_true rfl) (Nat.zero_le _) (Nat.zero_le _) dX3_stretch_11 ?_
  refine va_put (D := (dC, dI)) (ci := 4) (v := .int (imax (0 : Int32) (imin p0 (53 : Int32)))) (ty := .int) (C := RX3) (T := TX3) (N := 3) hx hb hts inC_X3 tyX3 tyX3_ok nmX3 hown hK hP hD hS 0 rfl rfl 2 (by decide) (hts (.fieldLink RX3 17 "Counterpointery$Line" "count" "I") (List.mem_cons_of_mem _ wm_5)) (fun _ h9 => h9) rfl (by decide +kernel) rfl rfl (Nat.le_of_ble_eq_true rfl) dX3_stretch_14 (fun H locs hP hD hS => ?_)
  have hP : va_P (dC, dI) vwCl [(aL, .inr (4, [.ref aG, .ref aT, .int (imax (0 : Int32) (imin p0 (53 : Int32)))])), (aT, .inl (cI, 53, .inl tv)), (aG, .inr (2, [.ref aV, .int gc, .int gs, .int gb, .int gf, .int gl, .int gh, .int gn])), (aV, .inl (cI, 14, .inl gv))] H := hP
  have hD : va_D A [(aL, .inr (4, [.ref aG, .ref aT, .int (imax (0 : Int32) (imin p0 (53 : Int32)))])), (aT, .inl (cI, 53, .inl tv)), (aG, .inr (2, [.ref aV, .int gc, .int gs, .int gb, .int gf, .int gl, .int gh, .int gn])), (aV, .inl (cI, 14, .inl gv))] := hD
  exact kR 17 ls H locs (imax (0 : Int32) (imin p0 (53 : Int32))) hP hD hS hR.symm dX3_stretch_17
set_option maxHeartbeats 4000000 in
set_option maxRecDepth 100000 in
theorem m_X3_stretch (l : Launch) (dC : Nat → ClassId) (dI : Nat → Nat → Nat) (cI cJ : ClassId) (aL : Nat) (aG : Nat) (aT : Nat) (aV : Nat) (tc : Int32) (tv : Nat → Int32) (gc : Int32) (gs : Int32) (gb : Int32) (gf : Int32) (gl : Int32) (gh : Int32) (gn : Int32) (gv : Nat → Int32) (p0 : Int32) (sz : Nat) : Met l yX3_stretch wsX3_stretch rm_X3_stretch (va_Pc [.ref aL, .int p0] (fun U => U.heap.size = sz ∧ va_P (dC, dI) vwCl [(aL, .inr (4, [.ref aG, .ref aT, .int tc])), (aT, .inl (cI, 53, .inl tv)), (aG, .inr (2, [.ref aV, .int gc, .int gs, .int gb, .int gf, .int gl, .int gh, .int gn])), (aV, .inl (cI, 14, .inl gv))] U.heap ∧ va_K (dC, dI) vwCl [(cI, .int), (cJ, .long)] U ∧ va_D (fun _ => True) [(aL, .inr (4, [.ref aG, .ref aT, .int tc])), (aT, .inl (cI, 53, .inl tv)), (aG, .inr (2, [.ref aV, .int gc, .int gs, .int gb, .int gf, .int gl, .int gh, .int gn])), (aV, .inl (cI, 14, .inl gv))])) (va_Qv (fun _ : Unit => True) (fun _ t => va_P (dC, dI) vwCl [(aL, .inr (4, [.ref aG, .ref aT, .int (f_X3_stretch p0)])), (aT, .inl (cI, 53, .inl tv)), (aG, .inr (2, [.ref aV, .int gc, .int gs, .int gb, .int gf, .int gl, .int gh, .int gn])), (aV, .inl (cI, 14, .inl gv))] t.heap ∧ va_K (dC, dI) vwCl [(cI, .int), (cJ, .long)] t ∧ va_D (va_A [(aL, .inr (4, [.ref aG, .ref aT, .int tc])), (aT, .inl (cI, 53, .inl tv)), (aG, .inr (2, [.ref aV, .int gc, .int gs, .int gb, .int gf, .int gl, .int gh, .int gn])), (aV, .inl (cI, 14, .inl gv))] sz) [(aL, .inr (4, [.ref aG, .ref aT, .int (f_X3_stretch p0)])), (aT, .inl (cI, 53, .inl tv)), (aG, .inr (2, [.ref aV, .int gc, .int gs, .int gb, .int gf, .int gl, .int gh, .int gn])), (aV, .inl (cI, 14, .inl gv))]) (va_A [(aL, .inr (4, [.ref aG, .ref aT, .int tc])), (aT, .inl (cI, 53, .inl tv)), (aG, .inr (2, [.ref aV, .int gc, .int gs, .int gb, .int gf, .int gl, .int gh, .int gn])), (aV, .inl (cI, 14, .inl gv))] sz)) 0 0 (va_A [(aL, .inr (4, [.ref aG, .ref aT, .int tc])), (aT, .inl (cI, 53, .inl tv)), (aG, .inr (2, [.ref aV, .int gc, .int gs, .int gb, .int gf, .int gl, .int gh, .int gn])), (aV, .inl (cI, 14, .inl gv))] sz) := by
  refine Met.ofW (cc := cX3_stretch) (maxL := 2) (ret := none) (by decide) rfl ?_
  intro p e s m args below meth c s₁ B hml hv
  obtain ⟨rfl, hsz, hP, hK, hD0⟩ := hv
  subst hsz
  have hl := lv_entry ([.ref aL, .int p0]) (n := 2) (Nat.le_of_ble_eq_true rfl)
  rw [lg_entry_eq]
  refine w_X3_stretch B.exec B.bytes hml (findClass_of_methodNamed B.named) (atoms_spec (ws := wsX3_stretch) B.pre) hK hP (hD0.self (sz := s.heap.size)) va_S.rf (fun q h => Or.inr h) rfl (fun pc ls H locs tc' hP hD hS er hd => ?_) _ hl
  subst er
  exact W.vret B.exec B.bytes B.returns (fun t ht hW => ⟨⟨(), rfl, trivial, by rw [ht]; exact hP, va_K.moved hW.alike hK, hD⟩, hS.F ht⟩) hS.2.2 hd B.notSynchronized
end
def f_X3_faultNumber_l11 (tc : Int32) (tv : Nat → Int32) (gc : Int32) (gs : Int32) (gb : Int32) (gf : Int32) (gv : Nat → Int32) (p1 : Int32) : Nat → Int32 → Int32 → Int32
  | 0, _, _ => default
  | fu + 1, v1, v2 =>
    (if tc ≤ v2 then (-1 : Int32) else (if (f_J6_bitCount_0f7a4 ((f_X3_faultsAt tc tv gc gs gb gf gv v2) &&& p1)) ≤ v1 then (f_X3_faultNumber_l11 tc tv gc gs gb gf gv p1 fu) (v1 - (f_J6_bitCount_0f7a4 ((f_X3_faultsAt tc tv gc gs gb gf gv v2) &&& p1))) (v2 + (1 : Int32)) else ((v2 * (12 : Int32)) + (f_X2_nthOf ((f_X3_faultsAt tc tv gc gs gb gf gv v2) &&& p1) v1))))
theorem e_X3_faultNumber_l11 {fu : Nat} {tc : Int32} {tv : Nat → Int32} {gc : Int32} {gs : Int32} {gb : Int32} {gf : Int32} {gv : Nat → Int32} {p1 : Int32} {v1 : Int32} {v2 : Int32} : f_X3_faultNumber_l11 tc tv gc gs gb gf gv p1 (fu + 1) v1 v2 = (if tc ≤ v2 then (-1 : Int32) else (if (f_J6_bitCount_0f7a4 ((f_X3_faultsAt tc tv gc gs gb gf gv v2) &&& p1)) ≤ v1 then (f_X3_faultNumber_l11 tc tv gc gs gb gf gv p1 fu) (v1 - (f_J6_bitCount_0f7a4 ((f_X3_faultsAt tc tv gc gs gb gf gv v2) &&& p1))) (v2 + (1 : Int32)) else ((v2 * (12 : Int32)) + (f_X2_nthOf ((f_X3_faultsAt tc tv gc gs gb gf gv v2) &&& p1) v1)))) := rfl
def f_X3_faultNumber (tc : Int32) (tv : Nat → Int32) (gc : Int32) (gs : Int32) (gb : Int32) (gf : Int32) (gv : Nat → Int32) (p0 : Int32) (p1 : Int32) : Int32 :=
  (if 0 ≤ p0 then f_X3_faultNumber_l11 tc tv gc gs gb gf gv p1 ((tc.toInt - (0 : Int32).toInt).toNat + 1) p0 (0 : Int32) else (-1 : Int32))
theorem e_X3_faultNumber {tc : Int32} {tv : Nat → Int32} {gc : Int32} {gs : Int32} {gb : Int32} {gf : Int32} {gv : Nat → Int32} {p0 : Int32} {p1 : Int32} : f_X3_faultNumber tc tv gc gs gb gf gv p0 p1 = (if 0 ≤ p0 then f_X3_faultNumber_l11 tc tv gc gs gb gf gv p1 ((tc.toInt - (0 : Int32).toInt).toNat + 1) p0 (0 : Int32) else (-1 : Int32)) := rfl
section
variable {p : Program} {l : Launch} {e : Env} {s : State} {m : MethodId} {args : Array Value} {below : List Frame} {meth : Method} {c : Code} {Q : State → Prop} {H : Heap} {locs : List Loc} {dC : Nat → ClassId} {dI : Nat → Nat → Nat} {cI cJ : ClassId}
abbrev rm_X3_faultNumber : Room := { frames := 5, cells := 0, slots := 0, locals := 115 }
theorem hd_X3_faultNumber : yX3_faultNumber.cls = RX3 ∧ yX3_faultNumber.cls ≠ "java/lang/invoke/MethodHandle" ∧ yX3_faultNumber.cls ≠ "java/lang/invoke/VarHandle" ∧ (parseMethodDescriptor yX3_faultNumber.desc).map (fun d => d.parameters.length) = some 2 := by decide +kernel
set_option maxHeartbeats 4000000 in
set_option maxRecDepth 100000 in
theorem w_X3_faultNumber {aL : Nat} {aG : Nat} {aT : Nat} {aV : Nat} {tc : Int32} {tv : Nat → Int32} {gc : Int32} {gs : Int32} {gb : Int32} {gf : Int32} {gl : Int32} {gh : Int32} {gn : Int32} {gv : Nat → Int32} {p0 : Int32} {p1 : Int32} (hz_gb : zb gb) (hz_gf : zb gf) {F : Int32} (hx : p.tables.exec = Jvm.exec) (hb : c.code = cX3_faultNumber) (hml : c.maxLocals = 7) (hown : s.vm.findClass RX3 = some m.cls) (hts : ∀ w ∈ wsX3_faultNumber, w.before args s = true) (hK : va_K (dC, dI) vwCl [(cI, .int), (cJ, .long)] s) (hP : va_P (dC, dI) vwCl [(aL, .inr (4, [.ref aG, .ref aT, .int tc])), (aT, .inl (cI, 53, .inl tv)), (aG, .inr (2, [.ref aV, .int gc, .int gs, .int gb, .int gf, .int gl, .int gh, .int gn])), (aV, .inl (cI, 14, .inl gv))] H) (hR : F = f_X3_faultNumber tc tv gc gs gb gf gv p0 p1) (kR : ∀ (r : Int32) (pc : Nat) (ls : Array Slot), r = F → decode cX3_faultNumber pc = .ok (.ireturn, 1) → W p l e rm_X3_faultNumber s m args below meth c H locs 0 0 Q (F0 m pc ls [.int r])) (ls : Array Slot) (hl : lv_has ls 7 [(0, .ref aL), (1, .int p0), (2, .int p1)]) : W p l e rm_X3_faultNumber s m args below meth c H locs 0 0 Q (F0 m 0 ls []) := by
  have hR := hR.trans e_X3_faultNumber
  refine lv_iload_n hx hb dX3_faultNumber_0 rfl (lv_at hl 1 rfl) ?_
  refine lv_if_ge (tgt := 6) hx hb dX3_faultNumber_1 (by decide) (fun c_1 => ?_) (fun c_1 => ?_)
  · have hR := hR.trans (if_pos c_1)
    refine lv_iload_n hx hb dX3_faultNumber_6 rfl (lv_at hl 1 rfl) ?_
    refine lv_istore_n (lv' := [(3, .int p0), (0, .ref aL), (1, .int p0), (2, .int p1)]) hx hb dX3_faultNumber_7 rfl hl (by decide) rfl (fun ls hl => ?_)
    refine lv_iconst (v := (0 : Int32)) hx hb dX3_faultNumber_8 (by decide) ?_
    refine lv_istore (lv' := [(4, .int (0 : Int32)), (3, .int p0), (0, .ref aL), (1, .int p0), (2, .int p1)]) hx hb dX3_faultNumber_9 hl (by decide) rfl (fun ls hl => ?_)
    have L11 : ∀ (fu11 : Nat) (v1 : Int32) (v2 : Int32), ∀ (ls : Array Slot), lv_has ls 7 [(0, .ref aL), (2, .int p1), (3, .int v1), (4, .int v2)] → (tc.toInt - v2.toInt).toNat < fu11 → F = f_X3_faultNumber_l11 tc tv gc gs gb gf gv p1 fu11 v1 v2 → W p l e rm_X3_faultNumber s m args below meth c H locs 0 0 Q (F0 m 11 ls []) := by
      intro fu11
      induction fu11 with
      | zero => intro v1 v2 ls hl hm; exact absurd hm (Nat.not_lt_zero _)
      | succ fu11 ih11 =>
        intro v1 v2 ls hl hm11 hR
        have hR := hR.trans e_X3_faultNumber_l11
        refine lv_iload hx hb dX3_faultNumber_11 (lv_at hl 3 rfl) ?_
        refine lv_aload_n hx hb dX3_faultNumber_13 rfl (lv_at hl 0 rfl) ?_
        refine va_get (D := (dC, dI)) (ci := 4) (v := .int tc) (C := RX3) (T := TX3) (N := 3) hx hb hts inC_X3 hown hK hP 0 rfl rfl 2 (by decide) (hts (.fieldLink RX3 17 "Counterpointery$Line" "count" "I") (List.mem_cons_of_mem _ wm_5)) (fun _ h9 => h9) rfl dX3_faultNumber_14 ?_
        refine lv_icmp_ge (tgt := 67) hx hb dX3_faultNumber_17 (by decide) (fun c_2 => ?_) (fun c_2 => ?_)
        · have hR := hR.trans (if_pos c_2)
          refine lv_iconst (v := (-1 : Int32)) hx hb dX3_faultNumber_67 (by decide +kernel) ?_
          exact kR (-1 : Int32) 68 ls hR.symm dX3_faultNumber_68
        · have hR := hR.trans (if_neg c_2)
          refine lv_aload_n hx hb dX3_faultNumber_20 rfl (lv_at hl 0 rfl) ?_
          refine lv_iload hx hb dX3_faultNumber_21 (lv_at hl 3 rfl) ?_
          refine rV_i (q0 := 0) (As := [.int v2]) (rest := []) ⟨hx, hb, hml, hown, hts⟩ (m_X3_faultsAt l dC dI cI cJ aL aG aT aV tc tv gc gs gb gf gl gh gn gv v2 hz_gb hz_gf) (cwV 1 hts (gi_V wm_213 wm_214 wm_215 wm_3 wm_216) rfl rfl rfl hd_X3_faultsAt ⟨Nat.le_of_ble_eq_true rfl, Nat.le_of_ble_eq_true rfl⟩) hK (hP.sub [0, 1, 2, 3] rfl) rfl rfl rfl hl.1 rfl (Nat.le_of_ble_eq_true rfl) dX3_faultNumber_23 ⟨Nat.zero_le _, Nat.zero_le _⟩ ?_
          refine lv_iload_n hx hb dX3_faultNumber_26 rfl (lv_at hl 1 rfl) ?_
          refine lv_iand hx hb dX3_faultNumber_27 ?_
          refine lv_istore (lv' := [(5, .int ((f_X3_faultsAt tc tv gc gs gb gf gv v2) &&& p1)), (0, .ref aL), (2, .int p1), (3, .int v1), (4, .int v2)]) hx hb dX3_faultNumber_28 hl (by decide) rfl (fun ls hl => ?_)
          refine lv_iload hx hb dX3_faultNumber_30 (lv_at hl 0 rfl) ?_
          refine rS_i (As := [.int ((f_X3_faultsAt tc tv gc gs gb gf gv v2) &&& p1)]) (rest := []) ⟨hx, hb, hml, hown, hts⟩ (m_J6_bitCount_0f7a4 l dC dI cI cJ ((f_X3_faultsAt tc tv gc gs gb gf gv v2) &&& p1)) (va_cwS 1 hts (gi_S wm_217 wm_218 wm_219 wm_220) rfl rfl rfl hd_J6_bitCount_0f7a4 ⟨Nat.le_of_ble_eq_true rfl, Nat.le_of_ble_eq_true rfl⟩) hK (hP.sub [] rfl) rfl hl.1 rfl (Nat.le_of_ble_eq_true rfl) dX3_faultNumber_32 ⟨Nat.zero_le _, Nat.zero_le _⟩ ?_
          refine lv_istore (lv' := [(6, .int (f_J6_bitCount_0f7a4 ((f_X3_faultsAt tc tv gc gs gb gf gv v2) &&& p1))), (5, .int ((f_X3_faultsAt tc tv gc gs gb gf gv v2) &&& p1)), (0, .ref aL), (2, .int p1), (3, .int v1), (4, .int v2)]) hx hb dX3_faultNumber_35 hl (by decide) rfl (fun ls hl => ?_)
          refine lv_iload_n hx hb dX3_faultNumber_37 rfl (lv_at hl 4 rfl) ?_
          refine lv_iload hx hb dX3_faultNumber_38 (lv_at hl 0 rfl) ?_
          refine lv_icmp_ge (tgt := 56) hx hb dX3_faultNumber_40 (by decide) (fun c_3 => ?_) (fun c_3 => ?_)
          · have hR := hR.trans (if_pos c_3)
            refine lv_iload_n hx hb dX3_faultNumber_56 rfl (lv_at hl 4 rfl) ?_
            refine lv_iload hx hb dX3_faultNumber_57 (lv_at hl 0 rfl) ?_
            refine lv_isub hx hb dX3_faultNumber_59 ?_
            refine lv_istore_n (lv' := [(3, .int (v1 - (f_J6_bitCount_0f7a4 ((f_X3_faultsAt tc tv gc gs gb gf gv v2) &&& p1)))), (6, .int (f_J6_bitCount_0f7a4 ((f_X3_faultsAt tc tv gc gs gb gf gv v2) &&& p1))), (5, .int ((f_X3_faultsAt tc tv gc gs gb gf gv v2) &&& p1)), (0, .ref aL), (2, .int p1), (4, .int v2)]) hx hb dX3_faultNumber_60 rfl hl (by decide) rfl (fun ls hl => ?_)
            refine lv_iinc (v := (v2 + (1 : Int32))) (lv' := [(4, .int (v2 + (1 : Int32))), (3, .int (v1 - (f_J6_bitCount_0f7a4 ((f_X3_faultsAt tc tv gc gs gb gf gv v2) &&& p1)))), (6, .int (f_J6_bitCount_0f7a4 ((f_X3_faultsAt tc tv gc gs gb gf gv v2) &&& p1))), (5, .int ((f_X3_faultsAt tc tv gc gs gb gf gv v2) &&& p1)), (0, .ref aL), (2, .int p1)]) hx hb dX3_faultNumber_61 hl (k := 5) rfl rfl (by decide) rfl (fun ls hl => ?_)
            refine lv_goto (tgt := 11) hx hb dX3_faultNumber_64 (by decide) ?_
            exact ih11 (v1 - (f_J6_bitCount_0f7a4 ((f_X3_faultsAt tc tv gc gs gb gf gv v2) &&& p1))) (v2 + (1 : Int32)) ls (lv_sub hl [4, 5, 1, 0] rfl) (Nat.lt_of_lt_of_le (lp_up (by assumption)) (Nat.le_of_lt_succ hm11)) hR
          · have hR := hR.trans (if_neg c_3)
            refine lv_iload hx hb dX3_faultNumber_43 (lv_at hl 5 rfl) ?_
            refine lv_bipush (v := (12 : Int32)) hx hb dX3_faultNumber_45 (by decide) ?_
            refine lv_imul hx hb dX3_faultNumber_47 ?_
            refine lv_iload hx hb dX3_faultNumber_48 (lv_at hl 1 rfl) ?_
            refine lv_iload_n hx hb dX3_faultNumber_50 rfl (lv_at hl 4 rfl) ?_
            refine rS_i (As := [.int ((f_X3_faultsAt tc tv gc gs gb gf gv v2) &&& p1), .int v1]) (rest := [.int (v2 * (12 : Int32))]) ⟨hx, hb, hml, hown, hts⟩ (m_X2_nthOf l dC dI cI cJ ((f_X3_faultsAt tc tv gc gs gb gf gv v2) &&& p1) v1) (va_cwS 2 hts (gi_S wm_224 wm_225 wm_131 wm_226) rfl rfl rfl hd_X2_nthOf ⟨Nat.le_of_ble_eq_true rfl, Nat.le_of_ble_eq_true rfl⟩) hK (hP.sub [] rfl) rfl hl.1 rfl (Nat.le_of_ble_eq_true rfl) dX3_faultNumber_51 ⟨Nat.zero_le _, Nat.zero_le _⟩ ?_
            refine lv_iadd hx hb dX3_faultNumber_54 ?_
            exact kR ((v2 * (12 : Int32)) + (f_X2_nthOf ((f_X3_faultsAt tc tv gc gs gb gf gv v2) &&& p1) v1)) 55 ls hR.symm dX3_faultNumber_55
    exact L11 ((tc.toInt - (0 : Int32).toInt).toNat + 1) p0 (0 : Int32) ls (lv_sub hl [2, 4, 1, 0] rfl) (Nat.lt_succ_self _) hR
  · have hR := hR.trans (if_neg c_1)
    refine lv_iconst (v := (-1 : Int32)) hx hb dX3_faultNumber_4 (by decide +kernel) ?_
    exact kR (-1 : Int32) 5 ls hR.symm dX3_faultNumber_5
set_option maxHeartbeats 4000000 in
set_option maxRecDepth 100000 in
theorem m_X3_faultNumber (l : Launch) (dC : Nat → ClassId) (dI : Nat → Nat → Nat) (cI cJ : ClassId) (aL : Nat) (aG : Nat) (aT : Nat) (aV : Nat) (tc : Int32) (tv : Nat → Int32) (gc : Int32) (gs : Int32) (gb : Int32) (gf : Int32) (gl : Int32) (gh : Int32) (gn : Int32) (gv : Nat → Int32) (p0 : Int32) (p1 : Int32) (hz_gb : zb gb) (hz_gf : zb gf) : Met l yX3_faultNumber wsX3_faultNumber rm_X3_faultNumber (va_Pc [.ref aL, .int p0, .int p1] (fun U => va_P (dC, dI) vwCl [(aL, .inr (4, [.ref aG, .ref aT, .int tc])), (aT, .inl (cI, 53, .inl tv)), (aG, .inr (2, [.ref aV, .int gc, .int gs, .int gb, .int gf, .int gl, .int gh, .int gn])), (aV, .inl (cI, 14, .inl gv))] U.heap ∧ va_K (dC, dI) vwCl [(cI, .int), (cJ, .long)] U)) (vp_Si (fun r => r = f_X3_faultNumber tc tv gc gs gb gf gv p0 p1)) 0 0 (fun _ => False) := by
  refine Met.ofW (cc := cX3_faultNumber) (maxL := 7) (ret := (some .int)) (by decide) rfl ?_
  intro p e s m args below meth c s₁ B hml hv
  obtain ⟨rfl, hP, hK⟩ := hv
  have hl := lv_entry ([.ref aL, .int p0, .int p1]) (n := 7) (Nat.le_of_ble_eq_true rfl)
  rw [lg_entry_eq]
  refine w_X3_faultNumber hz_gb hz_gf B.exec B.bytes hml (findClass_of_methodNamed B.named) (atoms_spec (ws := wsX3_faultNumber) B.pre) hK hP rfl (fun r pc ls er hd => ?_) _ hl
  exact W.iret B.exec B.bytes B.returns (fun t ht hW => ⟨r, rfl, er, ht⟩) (fun _ h => by cases h) hd B.notSynchronized
end
def f_X3_costBetween_l10 (tc : Int32) (tv : Nat → Int32) (gc : Int32) (gs : Int32) (gb : Int32) (gf : Int32) (gv : Nat → Int32) (wv : Nat → Int32) (p1 : Int32) : Nat → Int32 → Int32 → Int32
  | 0, _, _ => default
  | fu + 1, v1, v2 =>
    (if p1 < v2 then v1 else (if tc ≤ v2 then v1 else (f_X3_costBetween_l10 tc tv gc gs gb gf gv wv p1 fu) (v1 + (f_X2_costOf wv (f_X3_faultsAt tc tv gc gs gb gf gv v2))) (v2 + (1 : Int32))))
theorem e_X3_costBetween_l10 {fu : Nat} {tc : Int32} {tv : Nat → Int32} {gc : Int32} {gs : Int32} {gb : Int32} {gf : Int32} {gv : Nat → Int32} {wv : Nat → Int32} {p1 : Int32} {v1 : Int32} {v2 : Int32} : f_X3_costBetween_l10 tc tv gc gs gb gf gv wv p1 (fu + 1) v1 v2 = (if p1 < v2 then v1 else (if tc ≤ v2 then v1 else (f_X3_costBetween_l10 tc tv gc gs gb gf gv wv p1 fu) (v1 + (f_X2_costOf wv (f_X3_faultsAt tc tv gc gs gb gf gv v2))) (v2 + (1 : Int32)))) := rfl
def f_X3_costBetween (tc : Int32) (tv : Nat → Int32) (gc : Int32) (gs : Int32) (gb : Int32) (gf : Int32) (gv : Nat → Int32) (wv : Nat → Int32) (p0 : Int32) (p1 : Int32) : Int32 :=
  f_X3_costBetween_l10 tc tv gc gs gb gf gv wv p1 ((tc.toInt - (imax (0 : Int32) p0).toInt).toNat + 1) (0 : Int32) (imax (0 : Int32) p0)
theorem e_X3_costBetween {tc : Int32} {tv : Nat → Int32} {gc : Int32} {gs : Int32} {gb : Int32} {gf : Int32} {gv : Nat → Int32} {wv : Nat → Int32} {p0 : Int32} {p1 : Int32} : f_X3_costBetween tc tv gc gs gb gf gv wv p0 p1 = f_X3_costBetween_l10 tc tv gc gs gb gf gv wv p1 ((tc.toInt - (imax (0 : Int32) p0).toInt).toNat + 1) (0 : Int32) (imax (0 : Int32) p0) := rfl
section
variable {p : Program} {l : Launch} {e : Env} {s : State} {m : MethodId} {args : Array Value} {below : List Frame} {meth : Method} {c : Code} {Q : State → Prop} {H : Heap} {locs : List Loc} {dC : Nat → ClassId} {dI : Nat → Nat → Nat} {cI cJ : ClassId}
abbrev rm_X3_costBetween : Room := { frames := 5, cells := 0, slots := 0, locals := 115 }
theorem hd_X3_costBetween : yX3_costBetween.cls = RX3 ∧ yX3_costBetween.cls ≠ "java/lang/invoke/MethodHandle" ∧ yX3_costBetween.cls ≠ "java/lang/invoke/VarHandle" ∧ (parseMethodDescriptor yX3_costBetween.desc).map (fun d => d.parameters.length) = some 3 := by decide +kernel
set_option maxHeartbeats 4000000 in
set_option maxRecDepth 100000 in
theorem w_X3_costBetween {aL : Nat} {aG : Nat} {aT : Nat} {aV : Nat} {aW : Nat} {aX : Nat} {tc : Int32} {tv : Nat → Int32} {gc : Int32} {gs : Int32} {gb : Int32} {gf : Int32} {gl : Int32} {gh : Int32} {gn : Int32} {gv : Nat → Int32} {wn : Int32} {wv : Nat → Int32} {p0 : Int32} {p1 : Int32} (hz_gb : zb gb) (hz_gf : zb gf) {F : Int32} (hx : p.tables.exec = Jvm.exec) (hb : c.code = cX3_costBetween) (hml : c.maxLocals = 6) (hown : s.vm.findClass RX3 = some m.cls) (hts : ∀ w ∈ wsX3_costBetween, w.before args s = true) (hK : va_K (dC, dI) vwCl [(cI, .int), (cJ, .long)] s) (hP : va_P (dC, dI) vwCl [(aL, .inr (4, [.ref aG, .ref aT, .int tc])), (aT, .inl (cI, 53, .inl tv)), (aG, .inr (2, [.ref aV, .int gc, .int gs, .int gb, .int gf, .int gl, .int gh, .int gn])), (aV, .inl (cI, 14, .inl gv)), (aW, .inr (3, [.ref aX, .int wn])), (aX, .inl (cI, 12, .inl wv))] H) (hR : F = f_X3_costBetween tc tv gc gs gb gf gv wv p0 p1) (kR : ∀ (r : Int32) (pc : Nat) (ls : Array Slot), r = F → decode cX3_costBetween pc = .ok (.ireturn, 1) → W p l e rm_X3_costBetween s m args below meth c H locs 0 0 Q (F0 m pc ls [.int r])) (ls : Array Slot) (hl : lv_has ls 6 [(0, .ref aL), (1, .ref aW), (2, .int p0), (3, .int p1)]) : W p l e rm_X3_costBetween s m args below meth c H locs 0 0 Q (F0 m 0 ls []) := by
  have hR := hR.trans e_X3_costBetween
  refine lv_iconst (v := (0 : Int32)) hx hb dX3_costBetween_0 (by decide) ?_
  refine lv_istore (lv' := [(4, .int (0 : Int32)), (0, .ref aL), (1, .ref aW), (2, .int p0), (3, .int p1)]) hx hb dX3_costBetween_1 hl (by decide) rfl (fun ls hl => ?_)
  refine lv_iconst (v := (0 : Int32)) hx hb dX3_costBetween_3 (by decide) ?_
  refine lv_iload_n hx hb dX3_costBetween_4 rfl (lv_at hl 3 rfl) ?_
  refine w_max hx hb (hml.trans hl.1.symm) hown (hts (.methodLink RX3 36 Lib.Math.max.name) (List.mem_cons_of_mem _ wm_148)) (hts (.static Lib.Math.max.name) (List.mem_cons_of_mem _ wm_149)) (hts (.initialized "java/lang/Math") (List.mem_cons_of_mem _ wm_23)) (hts (.code Lib.Math.max.name Lib.Math.max.code 2 (some .int)) (List.mem_cons_of_mem _ wm_150)) (Nat.le_of_ble_eq_true rfl) (Nat.le_of_ble_eq_true rfl) (Nat.zero_le _) (Nat.zero_le _) dX3_costBetween_5 ?_
  refine lv_istore (lv' := [(5, .int (imax (0 : Int32) p0)), (4, .int (0 : Int32)), (0, .ref aL), (1, .ref aW), (2, .int p0), (3, .int p1)]) hx hb dX3_costBetween_8 hl (by decide) rfl (fun ls hl => ?_)
  have L10 : ∀ (fu10 : Nat) (v1 : Int32) (v2 : Int32), ∀ (ls : Array Slot), lv_has ls 6 [(0, .ref aL), (1, .ref aW), (3, .int p1), (4, .int v1), (5, .int v2)] → (tc.toInt - v2.toInt).toNat < fu10 → F = f_X3_costBetween_l10 tc tv gc gs gb gf gv wv p1 fu10 v1 v2 → W p l e rm_X3_costBetween s m args below meth c H locs 0 0 Q (F0 m 10 ls []) := by
    intro fu10
    induction fu10 with
    | zero => intro v1 v2 ls hl hm; exact absurd hm (Nat.not_lt_zero _)
    | succ fu10 ih10 =>
      intro v1 v2 ls hl hm10 hR
      have hR := hR.trans e_X3_costBetween_l10
      refine lv_iload hx hb dX3_costBetween_10 (lv_at hl 4 rfl) ?_
      refine lv_iload_n hx hb dX3_costBetween_12 rfl (lv_at hl 2 rfl) ?_
      refine lv_icmp_gt (tgt := 46) hx hb dX3_costBetween_13 (by decide) (fun c_1 => ?_) (fun c_1 => ?_)
      · have hR := hR.trans (if_pos c_1)
        refine lv_iload hx hb dX3_costBetween_46 (lv_at hl 3 rfl) ?_
        exact kR v1 48 ls hR.symm dX3_costBetween_48
      · have hR := hR.trans (if_neg c_1)
        refine lv_iload hx hb dX3_costBetween_16 (lv_at hl 4 rfl) ?_
        refine lv_aload_n hx hb dX3_costBetween_18 rfl (lv_at hl 0 rfl) ?_
        refine va_get (D := (dC, dI)) (ci := 4) (v := .int tc) (C := RX3) (T := TX3) (N := 3) hx hb hts inC_X3 hown hK hP 0 rfl rfl 2 (by decide) (hts (.fieldLink RX3 17 "Counterpointery$Line" "count" "I") (List.mem_cons_of_mem _ wm_5)) (fun _ h9 => h9) rfl dX3_costBetween_19 ?_
        refine lv_icmp_ge (tgt := 46) hx hb dX3_costBetween_22 (by decide) (fun c_2 => ?_) (fun c_2 => ?_)
        · have hR := hR.trans (if_pos c_2)
          refine lv_iload hx hb dX3_costBetween_46 (lv_at hl 3 rfl) ?_
          exact kR v1 48 ls hR.symm dX3_costBetween_48
        · have hR := hR.trans (if_neg c_2)
          refine lv_iload hx hb dX3_costBetween_25 (lv_at hl 3 rfl) ?_
          refine lv_aload_n hx hb dX3_costBetween_27 rfl (lv_at hl 1 rfl) ?_
          refine lv_aload_n hx hb dX3_costBetween_28 rfl (lv_at hl 0 rfl) ?_
          refine lv_iload hx hb dX3_costBetween_29 (lv_at hl 4 rfl) ?_
          refine rV_i (q0 := 0) (As := [.int v2]) (rest := [.ref aW, .int v1]) ⟨hx, hb, hml, hown, hts⟩ (m_X3_faultsAt l dC dI cI cJ aL aG aT aV tc tv gc gs gb gf gl gh gn gv v2 hz_gb hz_gf) (cwV 1 hts (gi_V wm_213 wm_214 wm_215 wm_3 wm_216) rfl rfl rfl hd_X3_faultsAt ⟨Nat.le_of_ble_eq_true rfl, Nat.le_of_ble_eq_true rfl⟩) hK (hP.sub [0, 1, 2, 3] rfl) rfl rfl rfl hl.1 rfl (Nat.le_of_ble_eq_true rfl) dX3_costBetween_31 ⟨Nat.zero_le _, Nat.zero_le _⟩ ?_
          refine rV_i (q0 := 0) (As := [.int (f_X3_faultsAt tc tv gc gs gb gf gv v2)]) (rest := [.int v1]) ⟨hx, hb, hml, hown, hts⟩ (m_X2_costOf l dC dI cI cJ aW aX wn wv (f_X3_faultsAt tc tv gc gs gb gf gv v2)) (cwV 1 hts (gi_V wm_227 wm_228 wm_229 wm_131 wm_230) rfl rfl rfl hd_X2_costOf ⟨Nat.le_of_ble_eq_true rfl, Nat.le_of_ble_eq_true rfl⟩) hK (hP.sub [4, 5] rfl) rfl rfl rfl hl.1 rfl (Nat.le_of_ble_eq_true rfl) dX3_costBetween_34 ⟨Nat.zero_le _, Nat.zero_le _⟩ ?_
          refine lv_iadd hx hb dX3_costBetween_37 ?_
          refine lv_istore (lv' := [(4, .int (v1 + (f_X2_costOf wv (f_X3_faultsAt tc tv gc gs gb gf gv v2)))), (0, .ref aL), (1, .ref aW), (3, .int p1), (5, .int v2)]) hx hb dX3_costBetween_38 hl (by decide) rfl (fun ls hl => ?_)
          refine lv_iinc (v := (v2 + (1 : Int32))) (lv' := [(5, .int (v2 + (1 : Int32))), (4, .int (v1 + (f_X2_costOf wv (f_X3_faultsAt tc tv gc gs gb gf gv v2)))), (0, .ref aL), (1, .ref aW), (3, .int p1)]) hx hb dX3_costBetween_40 hl (k := 4) rfl rfl (by decide) rfl (fun ls hl => ?_)
          refine lv_goto (tgt := 10) hx hb dX3_costBetween_43 (by decide) ?_
          exact ih10 (v1 + (f_X2_costOf wv (f_X3_faultsAt tc tv gc gs gb gf gv v2))) (v2 + (1 : Int32)) ls (lv_sub hl [2, 3, 4, 1, 0] rfl) (Nat.lt_of_lt_of_le (lp_up (by assumption)) (Nat.le_of_lt_succ hm10)) hR
  exact L10 ((tc.toInt - (imax (0 : Int32) p0).toInt).toNat + 1) (0 : Int32) (imax (0 : Int32) p0) ls (lv_sub hl [2, 3, 5, 1, 0] rfl) (Nat.lt_succ_self _) hR
set_option maxHeartbeats 4000000 in
set_option maxRecDepth 100000 in
theorem m_X3_costBetween (l : Launch) (dC : Nat → ClassId) (dI : Nat → Nat → Nat) (cI cJ : ClassId) (aL : Nat) (aG : Nat) (aT : Nat) (aV : Nat) (aW : Nat) (aX : Nat) (tc : Int32) (tv : Nat → Int32) (gc : Int32) (gs : Int32) (gb : Int32) (gf : Int32) (gl : Int32) (gh : Int32) (gn : Int32) (gv : Nat → Int32) (wn : Int32) (wv : Nat → Int32) (p0 : Int32) (p1 : Int32) (hz_gb : zb gb) (hz_gf : zb gf) : Met l yX3_costBetween wsX3_costBetween rm_X3_costBetween (va_Pc [.ref aL, .ref aW, .int p0, .int p1] (fun U => va_P (dC, dI) vwCl [(aL, .inr (4, [.ref aG, .ref aT, .int tc])), (aT, .inl (cI, 53, .inl tv)), (aG, .inr (2, [.ref aV, .int gc, .int gs, .int gb, .int gf, .int gl, .int gh, .int gn])), (aV, .inl (cI, 14, .inl gv)), (aW, .inr (3, [.ref aX, .int wn])), (aX, .inl (cI, 12, .inl wv))] U.heap ∧ va_K (dC, dI) vwCl [(cI, .int), (cJ, .long)] U)) (vp_Si (fun r => r = f_X3_costBetween tc tv gc gs gb gf gv wv p0 p1)) 0 0 (fun _ => False) := by
  refine Met.ofW (cc := cX3_costBetween) (maxL := 6) (ret := (some .int)) (by decide) rfl ?_
  intro p e s m args below meth c s₁ B hml hv
  obtain ⟨rfl, hP, hK⟩ := hv
  have hl := lv_entry ([.ref aL, .ref aW, .int p0, .int p1]) (n := 6) (Nat.le_of_ble_eq_true rfl)
  rw [lg_entry_eq]
  refine w_X3_costBetween hz_gb hz_gf B.exec B.bytes hml (findClass_of_methodNamed B.named) (atoms_spec (ws := wsX3_costBetween) B.pre) hK hP rfl (fun r pc ls er hd => ?_) _ hl
  exact W.iret B.exec B.bytes B.returns (fun t ht hW => ⟨r, rfl, er, ht⟩) (fun _ h => by cases h) hd B.notSynchronized
end
def f_X3_costAround (tc : Int32) (tv : Nat → Int32) (gc : Int32) (gs : Int32) (gb : Int32) (gf : Int32) (gv : Nat → Int32) (wv : Nat → Int32) (p0 : Int32) : Int32 :=
  (f_X3_costBetween tc tv gc gs gb gf gv wv (p0 - (1 : Int32)) (p0 + (imax (2 : Int32) (f_X1_perGiven gs))))
theorem e_X3_costAround {tc : Int32} {tv : Nat → Int32} {gc : Int32} {gs : Int32} {gb : Int32} {gf : Int32} {gv : Nat → Int32} {wv : Nat → Int32} {p0 : Int32} : f_X3_costAround tc tv gc gs gb gf gv wv p0 = (f_X3_costBetween tc tv gc gs gb gf gv wv (p0 - (1 : Int32)) (p0 + (imax (2 : Int32) (f_X1_perGiven gs)))) := rfl
section
variable {p : Program} {l : Launch} {e : Env} {s : State} {m : MethodId} {args : Array Value} {below : List Frame} {meth : Method} {c : Code} {Q : State → Prop} {H : Heap} {locs : List Loc} {dC : Nat → ClassId} {dI : Nat → Nat → Nat} {cI cJ : ClassId}
abbrev rm_X3_costAround : Room := { frames := 6, cells := 0, slots := 0, locals := 140 }
theorem hd_X3_costAround : yX3_costAround.cls = RX3 ∧ yX3_costAround.cls ≠ "java/lang/invoke/MethodHandle" ∧ yX3_costAround.cls ≠ "java/lang/invoke/VarHandle" ∧ (parseMethodDescriptor yX3_costAround.desc).map (fun d => d.parameters.length) = some 2 := by decide +kernel
set_option maxHeartbeats 4000000 in
set_option maxRecDepth 100000 in
theorem w_X3_costAround {aL : Nat} {aG : Nat} {aT : Nat} {aV : Nat} {aW : Nat} {aX : Nat} {tc : Int32} {tv : Nat → Int32} {gc : Int32} {gs : Int32} {gb : Int32} {gf : Int32} {gl : Int32} {gh : Int32} {gn : Int32} {gv : Nat → Int32} {wn : Int32} {wv : Nat → Int32} {p0 : Int32} (hz_gb : zb gb) (hz_gf : zb gf) {F : Int32} (hx : p.tables.exec = Jvm.exec) (hb : c.code = cX3_costAround) (hml : c.maxLocals = 3) (hown : s.vm.findClass RX3 = some m.cls) (hts : ∀ w ∈ wsX3_costAround, w.before args s = true) (hK : va_K (dC, dI) vwCl [(cI, .int), (cJ, .long)] s) (hP : va_P (dC, dI) vwCl [(aL, .inr (4, [.ref aG, .ref aT, .int tc])), (aT, .inl (cI, 53, .inl tv)), (aG, .inr (2, [.ref aV, .int gc, .int gs, .int gb, .int gf, .int gl, .int gh, .int gn])), (aV, .inl (cI, 14, .inl gv)), (aW, .inr (3, [.ref aX, .int wn])), (aX, .inl (cI, 12, .inl wv))] H) (hR : F = f_X3_costAround tc tv gc gs gb gf gv wv p0) (kR : ∀ (r : Int32) (pc : Nat) (ls : Array Slot), r = F → decode cX3_costAround pc = .ok (.ireturn, 1) → W p l e rm_X3_costAround s m args below meth c H locs 0 0 Q (F0 m pc ls [.int r])) (ls : Array Slot) (hl : lv_has ls 3 [(0, .ref aL), (1, .ref aW), (2, .int p0)]) : W p l e rm_X3_costAround s m args below meth c H locs 0 0 Q (F0 m 0 ls []) := by
  have hR := hR.trans e_X3_costAround
  refine lv_aload_n hx hb dX3_costAround_0 rfl (lv_at hl 0 rfl) ?_
  refine lv_aload_n hx hb dX3_costAround_1 rfl (lv_at hl 1 rfl) ?_
  refine lv_iload_n hx hb dX3_costAround_2 rfl (lv_at hl 2 rfl) ?_
  refine lv_iconst (v := (1 : Int32)) hx hb dX3_costAround_3 (by decide) ?_
  refine lv_isub hx hb dX3_costAround_4 ?_
  refine lv_iload_n hx hb dX3_costAround_5 rfl (lv_at hl 2 rfl) ?_
  refine lv_iconst (v := (2 : Int32)) hx hb dX3_costAround_6 (by decide) ?_
  refine lv_aload_n hx hb dX3_costAround_7 rfl (lv_at hl 0 rfl) ?_
  refine va_get (D := (dC, dI)) (ci := 4) (v := .ref aG) (C := RX3) (T := TX3) (N := 3) hx hb hts inC_X3 hown hK hP 0 rfl rfl 0 (by decide) (hts (.fieldLink RX3 7 "Counterpointery$Line" "ground" "LCounterpointery$Ground;") (List.mem_cons_of_mem _ wm_138)) (fun _ h9 => h9) rfl dX3_costAround_8 ?_
  refine rV_i (q0 := 0) (As := []) (rest := [.int (2 : Int32), .int p0, .int (p0 - (1 : Int32)), .ref aW, .ref aL]) ⟨hx, hb, hml, hown, hts⟩ (m_X1_perGiven l dC dI cI cJ aG aV gc gs gb gf gl gh gn gv) (cwV 0 hts (gi_V wm_212 wm_63 wm_64 wm_65 wm_66) rfl rfl rfl hd_X1_perGiven ⟨Nat.le_of_ble_eq_true rfl, Nat.le_of_ble_eq_true rfl⟩) hK (hP.sub [2, 3] rfl) rfl rfl rfl hl.1 rfl (Nat.le_of_ble_eq_true rfl) dX3_costAround_11 ⟨Nat.zero_le _, Nat.zero_le _⟩ ?_
  refine w_max hx hb (hml.trans hl.1.symm) hown (hts (.methodLink RX3 36 Lib.Math.max.name) (List.mem_cons_of_mem _ wm_148)) (hts (.static Lib.Math.max.name) (List.mem_cons_of_mem _ wm_149)) (hts (.initialized "java/lang/Math") (List.mem_cons_of_mem _ wm_23)) (hts (.code Lib.Math.max.name Lib.Math.max.code 2 (some .int)) (List.mem_cons_of_mem _ wm_150)) (Nat.le_of_ble_eq_true rfl) (Nat.le_of_ble_eq_true rfl) (Nat.zero_le _) (Nat.zero_le _) dX3_costAround_14 ?_
  refine lv_iadd hx hb dX3_costAround_17 ?_
  refine rV_i (q0 := 0) (As := [.ref aW, .int (p0 - (1 : Int32)), .int (p0 + (imax (2 : Int32) (f_X1_perGiven gs)))]) (rest := []) ⟨hx, hb, hml, hown, hts⟩ (m_X3_costBetween l dC dI cI cJ aL aG aT aV aW aX tc tv gc gs gb gf gl gh gn gv wn wv (p0 - (1 : Int32)) (p0 + (imax (2 : Int32) (f_X1_perGiven gs))) hz_gb hz_gf) (cwV 3 hts (gi_V wm_231 wm_232 wm_233 wm_3 wm_234) rfl rfl rfl hd_X3_costBetween ⟨Nat.le_of_ble_eq_true rfl, Nat.le_of_ble_eq_true rfl⟩) hK (hP.sub [0, 1, 2, 3, 4, 5] rfl) rfl rfl rfl hl.1 rfl (Nat.le_of_ble_eq_true rfl) dX3_costAround_18 ⟨Nat.zero_le _, Nat.zero_le _⟩ ?_
  exact kR (f_X3_costBetween tc tv gc gs gb gf gv wv (p0 - (1 : Int32)) (p0 + (imax (2 : Int32) (f_X1_perGiven gs)))) 21 ls hR.symm dX3_costAround_21
set_option maxHeartbeats 4000000 in
set_option maxRecDepth 100000 in
theorem m_X3_costAround (l : Launch) (dC : Nat → ClassId) (dI : Nat → Nat → Nat) (cI cJ : ClassId) (aL : Nat) (aG : Nat) (aT : Nat) (aV : Nat) (aW : Nat) (aX : Nat) (tc : Int32) (tv : Nat → Int32) (gc : Int32) (gs : Int32) (gb : Int32) (gf : Int32) (gl : Int32) (gh : Int32) (gn : Int32) (gv : Nat → Int32) (wn : Int32) (wv : Nat → Int32) (p0 : Int32) (hz_gb : zb gb) (hz_gf : zb gf) : Met l yX3_costAround wsX3_costAround rm_X3_costAround (va_Pc [.ref aL, .ref aW, .int p0] (fun U => va_P (dC, dI) vwCl [(aL, .inr (4, [.ref aG, .ref aT, .int tc])), (aT, .inl (cI, 53, .inl tv)), (aG, .inr (2, [.ref aV, .int gc, .int gs, .int gb, .int gf, .int gl, .int gh, .int gn])), (aV, .inl (cI, 14, .inl gv)), (aW, .inr (3, [.ref aX, .int wn])), (aX, .inl (cI, 12, .inl wv))] U.heap ∧ va_K (dC, dI) vwCl [(cI, .int), (cJ, .long)] U)) (vp_Si (fun r => r = f_X3_costAround tc tv gc gs gb gf gv wv p0)) 0 0 (fun _ => False) := by
  refine Met.ofW (cc := cX3_costAround) (maxL := 3) (ret := (some .int)) (by decide) rfl ?_
  intro p e s m args below meth c s₁ B hml hv
  obtain ⟨rfl, hP, hK⟩ := hv
  have hl := lv_entry ([.ref aL, .ref aW, .int p0]) (n := 3) (Nat.le_of_ble_eq_true rfl)
  rw [lg_entry_eq]
  refine w_X3_costAround hz_gb hz_gf B.exec B.bytes hml (findClass_of_methodNamed B.named) (atoms_spec (ws := wsX3_costAround) B.pre) hK hP rfl (fun r pc ls er hd => ?_) _ hl
  exact W.iret B.exec B.bytes B.returns (fun t ht hW => ⟨r, rfl, er, ht⟩) (fun _ h => by cases h) hd B.notSynchronized
end
