theorem j_nn {i : Int32} (h : vp_in i 12) : ¬ i < 0 := fun c => h (Or.inl c)
theorem j_lt {i n : Int32} (h : vp_in i 12) (e : n = (12 : Int32)) : ¬ ¬ i < n := by
  subst e
  intro c
  rw [vp_in_iff] at h
  rw [t_lt] at c
  exact c (by rw [show (12 : Int32).toInt = 12 from rfl]; omega)
theorem j_in {i : Int32} (h0 : ¬ i < 0) (h : ¬ (12 : Int32) ≤ i) : vp_in i 12 := vi_a (N := (12 : Int32)) h0 h rfl
theorem j_max {a : Int32} : 0 ≤ (imax a (0 : Int32)).toInt := by
  unfold imax
  split
  · decide
  · rename_i h
    rw [t_lt, t_0] at h
    omega
theorem j_min {a : Int32} : (imin a (12 : Int32)).toInt ≤ 12 := by
  unfold imin
  split
  · decide
  · rename_i h
    rw [t_lt, show (12 : Int32).toInt = 12 from rfl] at h
    omega
def f_J0_coder_7d493 : Int32 :=
  (0 : Int32)
theorem e_J0_coder_7d493 : f_J0_coder_7d493 = (0 : Int32) := rfl
section
variable {p : Program} {l : Launch} {e : Env} {s : State} {m : MethodId} {args : Array Value} {below : List Frame} {meth : Method} {c : Code} {Q : State → Prop} {H : Heap} {locs : List Loc} {dC : Nat → ClassId} {dI : Nat → Nat → Nat} {cI cJ : ClassId}
abbrev rm_J0_coder_7d493 : Room := { frames := 0, cells := 0, slots := 0, locals := 0 }
theorem hd_J0_coder_7d493 : yJ0_coder_7d493.cls = RJ0 ∧ yJ0_coder_7d493.cls ≠ "java/lang/invoke/MethodHandle" ∧ yJ0_coder_7d493.cls ≠ "java/lang/invoke/VarHandle" ∧ (parseMethodDescriptor yJ0_coder_7d493.desc).map (fun d => d.parameters.length) = some 0 := by decide +kernel
set_option maxHeartbeats 4000000 in
set_option maxRecDepth 100000 in
theorem w_J0_coder_7d493 {aQ aQV : Nat} {vF : Value} {F : Int32} (hx : p.tables.exec = Jvm.exec) (hb : c.code = cJ0_coder_7d493) (hml : c.maxLocals = 1) (hown : s.vm.findClass RJ0 = some m.cls) (hts : ∀ w ∈ wsJ0_coder_7d493, w.before args s = true) (hJ : jpin aQ aQV vF s) (hR : F = f_J0_coder_7d493) (kR : ∀ (r : Int32) (pc : Nat) (ls : Array Slot), narrow .byte (.int r) = .int r → r = F → decode cJ0_coder_7d493 pc = .ok (.ireturn, 1) → W p l e rm_J0_coder_7d493 s m args below meth c s.heap [] 0 0 Q (F0 m pc ls [.int r])) (ls : Array Slot) (hl : lv_has ls 1 [(0, .ref aQ)]) : W p l e rm_J0_coder_7d493 s m args below meth c s.heap [] 0 0 Q (F0 m 0 ls []) := by
  have hR := hR.trans e_J0_coder_7d493
  refine va_gets hx hb hJ.2.1 va_S.rf hown (hts (.fieldLink RJ0 38 "java/lang/String" "COMPACT_STRINGS" "Z") (List.mem_cons_of_mem _ wm_88)) (fun _ h9 => h9) dJ0_coder_7d493_0 ?_
  refine lv_if_eq (tgt := 13) hx hb dJ0_coder_7d493_3 (by decide) (fun c_2 => absurd c_2 (by decide)) (fun c_2 => ?_)
  refine lv_aload_n hx hb dJ0_coder_7d493_6 rfl (lv_at hl 0 rfl) ?_
  refine vk_getf hx hb hJ.1.2.1 va_S.rf hown (hts (.fieldLink RJ0 15 "java/lang/String" "coder" "B") (List.mem_cons_of_mem _ wm_89)) (fun _ h9 => h9) dJ0_coder_7d493_7 ?_
  refine lv_goto (tgt := 14) hx hb dJ0_coder_7d493_10 (by decide) ?_
  exact kR (0 : Int32) 14 ls rfl hR.symm dJ0_coder_7d493_14
set_option maxHeartbeats 4000000 in
set_option maxRecDepth 100000 in
theorem m_J0_coder_7d493 (l : Launch) (aQ aQV : Nat) (vF : Value) : Met l yJ0_coder_7d493 wsJ0_coder_7d493 rm_J0_coder_7d493 (va_Pc [.ref aQ] (fun U => jpin aQ aQV vF U)) (vp_Si (fun r => r = f_J0_coder_7d493)) 0 0 (fun _ => False) := by
  refine Met.ofW (cc := cJ0_coder_7d493) (maxL := 1) (ret := (some .byte)) (by decide) rfl ?_
  intro p e s m args below meth c s₁ B hml hv
  obtain ⟨rfl, hJ⟩ := hv
  have hl := lv_entry ([.ref aQ]) (n := 1) (Nat.le_of_ble_eq_true rfl)
  rw [lg_entry_eq]
  refine w_J0_coder_7d493 B.exec B.bytes hml (findClass_of_methodNamed B.named) (atoms_spec (ws := wsJ0_coder_7d493) B.pre) hJ rfl (fun r pc ls hz er hd => ?_) _ hl
  exact W.zret B.exec B.bytes B.returns hz (fun t ht hW => ⟨r, rfl, er, ht⟩) (fun _ h => by cases h) hd B.notSynchronized
end
def f_J0_isLatin1_aae02 : Int32 :=
  (1 : Int32)
theorem e_J0_isLatin1_aae02 : f_J0_isLatin1_aae02 = (1 : Int32) := rfl
section
variable {p : Program} {l : Launch} {e : Env} {s : State} {m : MethodId} {args : Array Value} {below : List Frame} {meth : Method} {c : Code} {Q : State → Prop} {H : Heap} {locs : List Loc} {dC : Nat → ClassId} {dI : Nat → Nat → Nat} {cI cJ : ClassId}
abbrev rm_J0_isLatin1_aae02 : Room := { frames := 0, cells := 0, slots := 0, locals := 0 }
theorem hd_J0_isLatin1_aae02 : yJ0_isLatin1_aae02.cls = RJ0 ∧ yJ0_isLatin1_aae02.cls ≠ "java/lang/invoke/MethodHandle" ∧ yJ0_isLatin1_aae02.cls ≠ "java/lang/invoke/VarHandle" ∧ (parseMethodDescriptor yJ0_isLatin1_aae02.desc).map (fun d => d.parameters.length) = some 0 := by decide +kernel
set_option maxHeartbeats 4000000 in
set_option maxRecDepth 100000 in
theorem w_J0_isLatin1_aae02 {aQ aQV : Nat} {vF : Value} {F : Int32} (hx : p.tables.exec = Jvm.exec) (hb : c.code = cJ0_isLatin1_aae02) (hml : c.maxLocals = 1) (hown : s.vm.findClass RJ0 = some m.cls) (hts : ∀ w ∈ wsJ0_isLatin1_aae02, w.before args s = true) (hJ : jpin aQ aQV vF s) (hR : F = f_J0_isLatin1_aae02) (kR : ∀ (r : Int32) (pc : Nat) (ls : Array Slot), zb r → r = F → decode cJ0_isLatin1_aae02 pc = .ok (.ireturn, 1) → W p l e rm_J0_isLatin1_aae02 s m args below meth c s.heap [] 0 0 Q (F0 m pc ls [.int r])) (ls : Array Slot) (hl : lv_has ls 1 [(0, .ref aQ)]) : W p l e rm_J0_isLatin1_aae02 s m args below meth c s.heap [] 0 0 Q (F0 m 0 ls []) := by
  have hR := hR.trans e_J0_isLatin1_aae02
  refine va_gets hx hb hJ.2.1 va_S.rf hown (hts (.fieldLink RJ0 38 "java/lang/String" "COMPACT_STRINGS" "Z") (List.mem_cons_of_mem _ wm_88)) (fun _ h9 => h9) dJ0_isLatin1_aae02_0 ?_
  refine lv_if_eq (tgt := 17) hx hb dJ0_isLatin1_aae02_3 (by decide) (fun c_3 => absurd c_3 (by decide)) (fun c_3 => ?_)
  refine lv_aload_n hx hb dJ0_isLatin1_aae02_6 rfl (lv_at hl 0 rfl) ?_
  refine vk_getf hx hb hJ.1.2.1 va_S.rf hown (hts (.fieldLink RJ0 15 "java/lang/String" "coder" "B") (List.mem_cons_of_mem _ wm_89)) (fun _ h9 => h9) dJ0_isLatin1_aae02_7 ?_
  refine lv_if_ne (tgt := 17) hx hb dJ0_isLatin1_aae02_10 (by decide) (fun c_4 => absurd c_4 (by decide)) (fun c_4 => ?_)
  refine lv_iconst (v := (1 : Int32)) hx hb dJ0_isLatin1_aae02_13 (by decide) ?_
  refine lv_goto (tgt := 18) hx hb dJ0_isLatin1_aae02_14 (by decide) ?_
  exact kR (1 : Int32) 18 ls (by first | exact Or.inl rfl | exact Or.inr rfl) hR.symm dJ0_isLatin1_aae02_18
set_option maxHeartbeats 4000000 in
set_option maxRecDepth 100000 in
theorem m_J0_isLatin1_aae02 (l : Launch) (aQ aQV : Nat) (vF : Value) : Met l yJ0_isLatin1_aae02 wsJ0_isLatin1_aae02 rm_J0_isLatin1_aae02 (va_Pc [.ref aQ] (fun U => jpin aQ aQV vF U)) (vp_Si (fun r => r = f_J0_isLatin1_aae02)) 0 0 (fun _ => False) := by
  refine Met.ofW (cc := cJ0_isLatin1_aae02) (maxL := 1) (ret := (some .boolean)) (by decide) rfl ?_
  intro p e s m args below meth c s₁ B hml hv
  obtain ⟨rfl, hJ⟩ := hv
  have hl := lv_entry ([.ref aQ]) (n := 1) (Nat.le_of_ble_eq_true rfl)
  rw [lg_entry_eq]
  refine w_J0_isLatin1_aae02 B.exec B.bytes hml (findClass_of_methodNamed B.named) (atoms_spec (ws := wsJ0_isLatin1_aae02) B.pre) hJ rfl (fun r pc ls hz er hd => ?_) _ hl
  exact W.zret B.exec B.bytes B.returns (zb_n hz) (fun t ht hW => ⟨r, rfl, er, ht⟩) (fun _ h => by cases h) hd B.notSynchronized
end
def f_J0_length_8abf5 : Int32 :=
  (ishr (12 : Int32) f_J0_coder_7d493)
theorem e_J0_length_8abf5 : f_J0_length_8abf5 = (ishr (12 : Int32) f_J0_coder_7d493) := rfl
section
variable {p : Program} {l : Launch} {e : Env} {s : State} {m : MethodId} {args : Array Value} {below : List Frame} {meth : Method} {c : Code} {Q : State → Prop} {H : Heap} {locs : List Loc} {dC : Nat → ClassId} {dI : Nat → Nat → Nat} {cI cJ : ClassId}
abbrev rm_J0_length_8abf5 : Room := { frames := 1, cells := 0, slots := 0, locals := 20 }
theorem hd_J0_length_8abf5 : yJ0_length_8abf5.cls = RJ0 ∧ yJ0_length_8abf5.cls ≠ "java/lang/invoke/MethodHandle" ∧ yJ0_length_8abf5.cls ≠ "java/lang/invoke/VarHandle" ∧ (parseMethodDescriptor yJ0_length_8abf5.desc).map (fun d => d.parameters.length) = some 0 := by decide +kernel
set_option maxHeartbeats 4000000 in
set_option maxRecDepth 100000 in
theorem w_J0_length_8abf5 {aQ aQV : Nat} {vF : Value} {F : Int32} (hx : p.tables.exec = Jvm.exec) (hb : c.code = cJ0_length_8abf5) (hml : c.maxLocals = 1) (hown : s.vm.findClass RJ0 = some m.cls) (hts : ∀ w ∈ wsJ0_length_8abf5, w.before args s = true) (hJ : jpin aQ aQV vF s) (hR : F = f_J0_length_8abf5) (kR : ∀ (r : Int32) (pc : Nat) (ls : Array Slot), r = F → decode cJ0_length_8abf5 pc = .ok (.ireturn, 1) → W p l e rm_J0_length_8abf5 s m args below meth c s.heap [] 0 0 Q (F0 m pc ls [.int r])) (ls : Array Slot) (hl : lv_has ls 1 [(0, .ref aQ)]) : W p l e rm_J0_length_8abf5 s m args below meth c s.heap [] 0 0 Q (F0 m 0 ls []) := by
  have hR := hR.trans e_J0_length_8abf5
  refine lv_aload_n hx hb dJ0_length_8abf5_0 rfl (lv_at hl 0 rfl) ?_
  refine vk_getf hx hb hJ.1.2.2.1 va_S.rf hown (hts (.fieldLink RJ0 9 "java/lang/String" "value" "[B") (List.mem_cons_of_mem _ wm_83)) (fun _ h9 => h9) dJ0_length_8abf5_1 ?_
  refine va_tlen hx hb hJ.1.2.2.2 va_S.rf (v := (12 : Int32)) rfl dJ0_length_8abf5_4 ?_
  refine lv_aload_n hx hb dJ0_length_8abf5_5 rfl (lv_at hl 0 rfl) ?_
  refine rG_Vi (As := []) (rest := [.int (12 : Int32)]) ⟨hx, hb, hml, hown, hts⟩ (m_J0_coder_7d493 l aQ aQV vF) jbl (cwV 0 hts (gi_V wm_84 wm_85 wm_86 wm_81 wm_87) rfl rfl rfl hd_J0_coder_7d493 ⟨Nat.le_of_ble_eq_true rfl, Nat.le_of_ble_eq_true rfl⟩) (jrecv (fun U hU hW => hJ.to hU hW.alike)) (fun U hU hW => hJ.to hU hW.alike) rfl hl.1 rfl (Nat.le_of_ble_eq_true rfl) dJ0_length_8abf5_6 ⟨(Nat.le_of_ble_eq_true rfl), (Nat.le_of_ble_eq_true rfl)⟩ ?_
  refine w_ishr hx hb dJ0_length_8abf5_9 ?_
  exact kR (ishr (12 : Int32) f_J0_coder_7d493) 10 ls hR.symm dJ0_length_8abf5_10
set_option maxHeartbeats 4000000 in
set_option maxRecDepth 100000 in
theorem m_J0_length_8abf5 (l : Launch) (aQ aQV : Nat) (vF : Value) : Met l yJ0_length_8abf5 wsJ0_length_8abf5 rm_J0_length_8abf5 (va_Pc [.ref aQ] (fun U => jpin aQ aQV vF U)) (vp_Si (fun r => r = f_J0_length_8abf5)) 0 0 (fun _ => False) := by
  refine Met.ofW (cc := cJ0_length_8abf5) (maxL := 1) (ret := (some .int)) (by decide) rfl ?_
  intro p e s m args below meth c s₁ B hml hv
  obtain ⟨rfl, hJ⟩ := hv
  have hl := lv_entry ([.ref aQ]) (n := 1) (Nat.le_of_ble_eq_true rfl)
  rw [lg_entry_eq]
  refine w_J0_length_8abf5 B.exec B.bytes hml (findClass_of_methodNamed B.named) (atoms_spec (ws := wsJ0_length_8abf5) B.pre) hJ rfl (fun r pc ls er hd => ?_) _ hl
  exact W.iret B.exec B.bytes B.returns (fun t ht hW => ⟨r, rfl, er, ht⟩) (fun _ h => by cases h) hd B.notSynchronized
end
def f_J3_checkIndex_8e157 (p0 : Int32) : Int32 :=
  p0
theorem e_J3_checkIndex_8e157 {p0 : Int32} : f_J3_checkIndex_8e157 p0 = p0 := rfl
section
variable {p : Program} {l : Launch} {e : Env} {s : State} {m : MethodId} {args : Array Value} {below : List Frame} {meth : Method} {c : Code} {Q : State → Prop} {H : Heap} {locs : List Loc} {dC : Nat → ClassId} {dI : Nat → Nat → Nat} {cI cJ : ClassId}
abbrev rm_J3_checkIndex_8e157 : Room := { frames := 0, cells := 0, slots := 0, locals := 0 }
theorem hd_J3_checkIndex_8e157 : yJ3_checkIndex_8e157.cls ≠ "java/lang/invoke/MethodHandle" ∧ yJ3_checkIndex_8e157.cls ≠ "java/lang/invoke/VarHandle" ∧ (parseMethodDescriptor yJ3_checkIndex_8e157.desc).map (fun d => d.parameters.length) = some 3 := by decide +kernel
set_option maxHeartbeats 4000000 in
set_option maxRecDepth 100000 in
theorem w_J3_checkIndex_8e157 {aQ aQV : Nat} {vF : Value} {p0 : Int32} {p1 : Int32} (hi : vp_in p0 12) (h1 : p1 = (12 : Int32)) {F : Int32} (hx : p.tables.exec = Jvm.exec) (hb : c.code = cJ3_checkIndex_8e157) (hml : c.maxLocals = 3) (hown : s.vm.findClass RJ3 = some m.cls) (hts : ∀ w ∈ wsJ3_checkIndex_8e157, w.before args s = true) (hJ : jpin aQ aQV vF s) (hR : F = f_J3_checkIndex_8e157 p0) (kR : ∀ (r : Int32) (pc : Nat) (ls : Array Slot), r = F → decode cJ3_checkIndex_8e157 pc = .ok (.ireturn, 1) → W p l e rm_J3_checkIndex_8e157 s m args below meth c s.heap [] 0 0 Q (F0 m pc ls [.int r])) (ls : Array Slot) (hl : lv_has ls 3 [(0, .int p0), (1, .int p1), (2, vF)]) : W p l e rm_J3_checkIndex_8e157 s m args below meth c s.heap [] 0 0 Q (F0 m 0 ls []) := by
  have hR := hR.trans e_J3_checkIndex_8e157
  refine lv_iload_n hx hb dJ3_checkIndex_8e157_0 rfl (lv_at hl 0 rfl) ?_
  refine lv_if_lt (tgt := 9) hx hb dJ3_checkIndex_8e157_1 (by decide) (fun c_3 => absurd c_3 (j_nn hi)) (fun c_3 => ?_)
  refine lv_iload_n hx hb dJ3_checkIndex_8e157_4 rfl (lv_at hl 0 rfl) ?_
  refine lv_iload_n hx hb dJ3_checkIndex_8e157_5 rfl (lv_at hl 1 rfl) ?_
  refine lv_icmp_lt (tgt := 16) hx hb dJ3_checkIndex_8e157_6 (by decide) (fun c_4 => ?_) (fun c_4 => absurd c_4 (j_lt hi h1))
  refine lv_iload_n hx hb dJ3_checkIndex_8e157_16 rfl (lv_at hl 0 rfl) ?_
  exact kR p0 17 ls hR.symm dJ3_checkIndex_8e157_17
set_option maxHeartbeats 4000000 in
set_option maxRecDepth 100000 in
theorem m_J3_checkIndex_8e157 (l : Launch) (aQ aQV : Nat) (vF : Value) (p0 : Int32) (p1 : Int32) (hi : vp_in p0 12) (h1 : p1 = (12 : Int32)) : Met l yJ3_checkIndex_8e157 wsJ3_checkIndex_8e157 rm_J3_checkIndex_8e157 (va_Pc [.int p0, .int p1, vF] (fun U => jpin aQ aQV vF U)) (vp_Si (fun r => r = f_J3_checkIndex_8e157 p0)) 0 0 (fun _ => False) := by
  refine Met.ofW (cc := cJ3_checkIndex_8e157) (maxL := 3) (ret := (some .int)) (by decide) rfl ?_
  intro p e s m args below meth c s₁ B hml hv
  obtain ⟨rfl, hJ⟩ := hv
  rcases hJ.2.2.2 with e9 | ⟨t9, e9⟩
  · subst e9
    have hl := lv_entry ([.int p0, .int p1, .null]) (n := 3) (Nat.le_of_ble_eq_true rfl)
    rw [lg_entry_eq]
    refine w_J3_checkIndex_8e157 hi h1 B.exec B.bytes hml (findClass_of_methodNamed B.named) (atoms_spec (ws := wsJ3_checkIndex_8e157) B.pre) hJ rfl (fun r pc ls er hd => ?_) _ hl
    exact W.iret B.exec B.bytes B.returns (fun t ht hW => ⟨r, rfl, er, ht⟩) (fun _ h => by cases h) hd B.notSynchronized
  · subst e9
    have hl := lv_entry ([.int p0, .int p1, (.ref t9)]) (n := 3) (Nat.le_of_ble_eq_true rfl)
    rw [lg_entry_eq]
    refine w_J3_checkIndex_8e157 hi h1 B.exec B.bytes hml (findClass_of_methodNamed B.named) (atoms_spec (ws := wsJ3_checkIndex_8e157) B.pre) hJ rfl (fun r pc ls er hd => ?_) _ hl
    exact W.iret B.exec B.bytes B.returns (fun t ht hW => ⟨r, rfl, er, ht⟩) (fun _ h => by cases h) hd B.notSynchronized
end
section
variable {p : Program} {l : Launch} {e : Env} {s : State} {m : MethodId} {args : Array Value} {below : List Frame} {meth : Method} {c : Code} {Q : State → Prop} {H : Heap} {locs : List Loc} {dC : Nat → ClassId} {dI : Nat → Nat → Nat} {cI cJ : ClassId}
abbrev rm_J0_checkIndex_df160 : Room := { frames := 1, cells := 0, slots := 0, locals := 22 }
theorem hd_J0_checkIndex_df160 : yJ0_checkIndex_df160.cls ≠ "java/lang/invoke/MethodHandle" ∧ yJ0_checkIndex_df160.cls ≠ "java/lang/invoke/VarHandle" ∧ (parseMethodDescriptor yJ0_checkIndex_df160.desc).map (fun d => d.parameters.length) = some 2 := by decide +kernel
set_option maxHeartbeats 4000000 in
set_option maxRecDepth 100000 in
theorem w_J0_checkIndex_df160 {aQ aQV : Nat} {vF : Value} {p0 : Int32} {p1 : Int32} (hi : vp_in p0 12) (h1 : p1 = (12 : Int32)) (hx : p.tables.exec = Jvm.exec) (hb : c.code = cJ0_checkIndex_df160) (hml : c.maxLocals = 2) (hown : s.vm.findClass RJ0 = some m.cls) (hts : ∀ w ∈ wsJ0_checkIndex_df160, w.before args s = true) (hJ : jpin aQ aQV vF s) (kR : ∀ (pc : Nat) (ls : Array Slot), decode cJ0_checkIndex_df160 pc = .ok (.return_, 1) → W p l e rm_J0_checkIndex_df160 s m args below meth c s.heap [] 0 0 Q (F0 m pc ls [])) (ls : Array Slot) (hl : lv_has ls 2 [(0, .int p0), (1, .int p1)]) : W p l e rm_J0_checkIndex_df160 s m args below meth c s.heap [] 0 0 Q (F0 m 0 ls []) := by
  refine lv_iload_n hx hb dJ0_checkIndex_df160_0 rfl (lv_at hl 0 rfl) ?_
  refine lv_iload_n hx hb dJ0_checkIndex_df160_1 rfl (lv_at hl 1 rfl) ?_
  refine va_gets hx hb hJ.2.2.1 va_S.rf hown (hts (.fieldLink RJ0 1053 "jdk/internal/util/Preconditions" "SIOOBE_FORMATTER" "Ljava/util/function/BiFunction;") (List.mem_cons_of_mem _ wm_105)) (fun _ h9 => h9) dJ0_checkIndex_df160_2 ?_
  refine rG_Si (As := [.int p0, .int p1, vF]) (rest := []) ⟨hx, hb, hml, hown, hts⟩ (m_J3_checkIndex_8e157 l aQ aQV vF p0 p1 (by assumption) (by assumption)) jbl (va_cwS 3 hts (gi_S wm_106 wm_107 wm_108 wm_109) rfl rfl rfl hd_J3_checkIndex_8e157 ⟨Nat.le_of_ble_eq_true rfl, Nat.le_of_ble_eq_true rfl⟩) (fun U hU hW => hJ.to hU hW.alike) rfl hl.1 rfl (Nat.le_of_ble_eq_true rfl) dJ0_checkIndex_df160_5 ⟨(Nat.le_of_ble_eq_true rfl), (Nat.le_of_ble_eq_true rfl)⟩ ?_
  refine lv_pop hx hb dJ0_checkIndex_df160_8 rfl ?_
  exact kR 9 ls dJ0_checkIndex_df160_9
set_option maxHeartbeats 4000000 in
set_option maxRecDepth 100000 in
theorem m_J0_checkIndex_df160 (l : Launch) (aQ aQV : Nat) (vF : Value) (p0 : Int32) (p1 : Int32) (hi : vp_in p0 12) (h1 : p1 = (12 : Int32)) : Met l yJ0_checkIndex_df160 wsJ0_checkIndex_df160 rm_J0_checkIndex_df160 (va_Pc [.int p0, .int p1] (fun U => jpin aQ aQV vF U)) jSv 0 0 (fun _ => False) := by
  refine Met.ofW (cc := cJ0_checkIndex_df160) (maxL := 2) (ret := none) (by decide) rfl ?_
  intro p e s m args below meth c s₁ B hml hv
  obtain ⟨rfl, hJ⟩ := hv
  have hl := lv_entry ([.int p0, .int p1]) (n := 2) (Nat.le_of_ble_eq_true rfl)
  rw [lg_entry_eq]
  refine w_J0_checkIndex_df160 hi h1 B.exec B.bytes hml (findClass_of_methodNamed B.named) (atoms_spec (ws := wsJ0_checkIndex_df160) B.pre) hJ (fun pc ls hd => ?_) _ hl
  exact W.vret B.exec B.bytes B.returns (fun t ht hW => ⟨rfl, ht⟩) (fun _ h => by cases h) hd B.notSynchronized
end
def f_J1_charAt_3b067 (p0 : Int32) : Int32 :=
  ((((ordv p0.toNatClampNeg) &&& (255 : Int32)).toUInt32 % 65536).toInt32)
theorem e_J1_charAt_3b067 {p0 : Int32} : f_J1_charAt_3b067 p0 = ((((ordv p0.toNatClampNeg) &&& (255 : Int32)).toUInt32 % 65536).toInt32) := rfl
section
variable {p : Program} {l : Launch} {e : Env} {s : State} {m : MethodId} {args : Array Value} {below : List Frame} {meth : Method} {c : Code} {Q : State → Prop} {H : Heap} {locs : List Loc} {dC : Nat → ClassId} {dI : Nat → Nat → Nat} {cI cJ : ClassId}
abbrev rm_J1_charAt_3b067 : Room := { frames := 2, cells := 0, slots := 0, locals := 43 }
theorem hd_J1_charAt_3b067 : yJ1_charAt_3b067.cls ≠ "java/lang/invoke/MethodHandle" ∧ yJ1_charAt_3b067.cls ≠ "java/lang/invoke/VarHandle" ∧ (parseMethodDescriptor yJ1_charAt_3b067.desc).map (fun d => d.parameters.length) = some 2 := by decide +kernel
set_option maxHeartbeats 4000000 in
set_option maxRecDepth 100000 in
theorem w_J1_charAt_3b067 {aQ aQV : Nat} {vF : Value} {p0 : Int32} (hi : vp_in p0 12) {F : Int32} (hx : p.tables.exec = Jvm.exec) (hb : c.code = cJ1_charAt_3b067) (hml : c.maxLocals = 2) (hown : s.vm.findClass RJ1 = some m.cls) (hts : ∀ w ∈ wsJ1_charAt_3b067, w.before args s = true) (hJ : jpin aQ aQV vF s) (hR : F = f_J1_charAt_3b067 p0) (kR : ∀ (r : Int32) (pc : Nat) (ls : Array Slot), narrow .char (.int r) = .int r → r = F → decode cJ1_charAt_3b067 pc = .ok (.ireturn, 1) → W p l e rm_J1_charAt_3b067 s m args below meth c s.heap [] 0 0 Q (F0 m pc ls [.int r])) (ls : Array Slot) (hl : lv_has ls 2 [(0, .ref aQV), (1, .int p0)]) : W p l e rm_J1_charAt_3b067 s m args below meth c s.heap [] 0 0 Q (F0 m 0 ls []) := by
  have hR := hR.trans e_J1_charAt_3b067
  refine lv_iload_n hx hb dJ1_charAt_3b067_0 rfl (lv_at hl 1 rfl) ?_
  refine lv_aload_n hx hb dJ1_charAt_3b067_1 rfl (lv_at hl 0 rfl) ?_
  refine va_tlen hx hb hJ.1.2.2.2 va_S.rf (v := (12 : Int32)) rfl dJ1_charAt_3b067_2 ?_
  refine rG_Sv (As := [.int p0, .int (12 : Int32)]) (rest := []) ⟨hx, hb, hml, hown, hts⟩ (m_J0_checkIndex_df160 l aQ aQV vF p0 (12 : Int32) (hi) (rfl)) jbl (va_cwS 2 hts (gi_S wm_102 wm_103 wm_81 wm_104) rfl rfl rfl hd_J0_checkIndex_df160 ⟨Nat.le_of_ble_eq_true rfl, Nat.le_of_ble_eq_true rfl⟩) (fun U hU hW => hJ.to hU hW.alike) rfl hl.1 rfl (Nat.le_of_ble_eq_true rfl) dJ1_charAt_3b067_3 ⟨(Nat.le_of_ble_eq_true rfl), (Nat.le_of_ble_eq_true rfl)⟩ ?_
  refine W.eq (g2 := F0 m 6 ls []) rfl ?_
  refine lv_aload_n hx hb dJ1_charAt_3b067_6 rfl (lv_at hl 0 rfl) ?_
  refine lv_iload_n hx hb dJ1_charAt_3b067_7 rfl (lv_at hl 1 rfl) ?_
  refine va_tb hx hb hJ.1.2.2.2 va_S.rf (v := .int (ordv p0.toNatClampNeg)) (hi) rfl dJ1_charAt_3b067_8 ?_
  refine lv_sipush (v := (255 : Int32)) hx hb dJ1_charAt_3b067_9 (by decide) ?_
  refine lv_iand hx hb dJ1_charAt_3b067_12 ?_
  refine lv_i2c (v := ((((ordv p0.toNatClampNeg) &&& (255 : Int32)).toUInt32 % 65536).toInt32)) hx hb dJ1_charAt_3b067_13 rfl ?_
  exact kR ((((ordv p0.toNatClampNeg) &&& (255 : Int32)).toUInt32 % 65536).toInt32) 14 ls (ch_ord hi) hR.symm dJ1_charAt_3b067_14
set_option maxHeartbeats 4000000 in
set_option maxRecDepth 100000 in
theorem m_J1_charAt_3b067 (l : Launch) (aQ aQV : Nat) (vF : Value) (p0 : Int32) (hi : vp_in p0 12) : Met l yJ1_charAt_3b067 wsJ1_charAt_3b067 rm_J1_charAt_3b067 (va_Pc [.ref aQV, .int p0] (fun U => jpin aQ aQV vF U)) (vp_Si (fun r => r = f_J1_charAt_3b067 p0)) 0 0 (fun _ => False) := by
  refine Met.ofW (cc := cJ1_charAt_3b067) (maxL := 2) (ret := (some .char)) (by decide) rfl ?_
  intro p e s m args below meth c s₁ B hml hv
  obtain ⟨rfl, hJ⟩ := hv
  have hl := lv_entry ([.ref aQV, .int p0]) (n := 2) (Nat.le_of_ble_eq_true rfl)
  rw [lg_entry_eq]
  refine w_J1_charAt_3b067 hi B.exec B.bytes hml (findClass_of_methodNamed B.named) (atoms_spec (ws := wsJ1_charAt_3b067) B.pre) hJ rfl (fun r pc ls hz er hd => ?_) _ hl
  exact W.zret B.exec B.bytes B.returns hz (fun t ht hW => ⟨r, rfl, er, ht⟩) (fun _ h => by cases h) hd B.notSynchronized
end
def f_J0_charAt_5068e (p0 : Int32) : Int32 :=
  (f_J1_charAt_3b067 p0)
theorem e_J0_charAt_5068e {p0 : Int32} : f_J0_charAt_5068e p0 = (f_J1_charAt_3b067 p0) := rfl
section
variable {p : Program} {l : Launch} {e : Env} {s : State} {m : MethodId} {args : Array Value} {below : List Frame} {meth : Method} {c : Code} {Q : State → Prop} {H : Heap} {locs : List Loc} {dC : Nat → ClassId} {dI : Nat → Nat → Nat} {cI cJ : ClassId}
abbrev rm_J0_charAt_5068e : Room := { frames := 3, cells := 0, slots := 0, locals := 64 }
theorem hd_J0_charAt_5068e : yJ0_charAt_5068e.cls = RJ0 ∧ yJ0_charAt_5068e.cls ≠ "java/lang/invoke/MethodHandle" ∧ yJ0_charAt_5068e.cls ≠ "java/lang/invoke/VarHandle" ∧ (parseMethodDescriptor yJ0_charAt_5068e.desc).map (fun d => d.parameters.length) = some 1 := by decide +kernel
set_option maxHeartbeats 4000000 in
set_option maxRecDepth 100000 in
theorem w_J0_charAt_5068e {aQ aQV : Nat} {vF : Value} {p0 : Int32} (hi : vp_in p0 12) {F : Int32} (hx : p.tables.exec = Jvm.exec) (hb : c.code = cJ0_charAt_5068e) (hml : c.maxLocals = 2) (hown : s.vm.findClass RJ0 = some m.cls) (hts : ∀ w ∈ wsJ0_charAt_5068e, w.before args s = true) (hJ : jpin aQ aQV vF s) (hR : F = f_J0_charAt_5068e p0) (kR : ∀ (r : Int32) (pc : Nat) (ls : Array Slot), narrow .char (.int r) = .int r → r = F → decode cJ0_charAt_5068e pc = .ok (.ireturn, 1) → W p l e rm_J0_charAt_5068e s m args below meth c s.heap [] 0 0 Q (F0 m pc ls [.int r])) (ls : Array Slot) (hl : lv_has ls 2 [(0, .ref aQ), (1, .int p0)]) : W p l e rm_J0_charAt_5068e s m args below meth c s.heap [] 0 0 Q (F0 m 0 ls []) := by
  have hR := hR.trans e_J0_charAt_5068e
  refine lv_aload_n hx hb dJ0_charAt_5068e_0 rfl (lv_at hl 0 rfl) ?_
  refine rG_Vi (As := []) (rest := []) ⟨hx, hb, hml, hown, hts⟩ (m_J0_isLatin1_aae02 l aQ aQV vF) jbl (cwV 0 hts (gi_V wm_94 wm_95 wm_96 wm_81 wm_97) rfl rfl rfl hd_J0_isLatin1_aae02 ⟨Nat.le_of_ble_eq_true rfl, Nat.le_of_ble_eq_true rfl⟩) (jrecv (fun U hU hW => hJ.to hU hW.alike)) (fun U hU hW => hJ.to hU hW.alike) rfl hl.1 rfl (Nat.le_of_ble_eq_true rfl) dJ0_charAt_5068e_1 ⟨(Nat.le_of_ble_eq_true rfl), (Nat.le_of_ble_eq_true rfl)⟩ ?_
  refine lv_if_eq (tgt := 16) hx hb dJ0_charAt_5068e_4 (by decide) (fun c_2 => absurd c_2 (by decide)) (fun c_2 => ?_)
  refine lv_aload_n hx hb dJ0_charAt_5068e_7 rfl (lv_at hl 0 rfl) ?_
  refine vk_getf hx hb hJ.1.2.2.1 va_S.rf hown (hts (.fieldLink RJ0 9 "java/lang/String" "value" "[B") (List.mem_cons_of_mem _ wm_83)) (fun _ h9 => h9) dJ0_charAt_5068e_8 ?_
  refine lv_iload_n hx hb dJ0_charAt_5068e_11 rfl (lv_at hl 1 rfl) ?_
  refine rG_Si (As := [.ref aQV, .int p0]) (rest := []) ⟨hx, hb, hml, hown, hts⟩ (m_J1_charAt_3b067 l aQ aQV vF p0 (hi)) jbl (va_cwS 2 hts (gi_S wm_98 wm_99 wm_100 wm_101) rfl rfl rfl hd_J1_charAt_3b067 ⟨Nat.le_of_ble_eq_true rfl, Nat.le_of_ble_eq_true rfl⟩) (fun U hU hW => hJ.to hU hW.alike) rfl hl.1 rfl (Nat.le_of_ble_eq_true rfl) dJ0_charAt_5068e_12 ⟨(Nat.le_of_ble_eq_true rfl), (Nat.le_of_ble_eq_true rfl)⟩ ?_
  exact kR (f_J1_charAt_3b067 p0) 15 ls (ch_ord hi) hR.symm dJ0_charAt_5068e_15
set_option maxHeartbeats 4000000 in
set_option maxRecDepth 100000 in
theorem m_J0_charAt_5068e (l : Launch) (aQ aQV : Nat) (vF : Value) (p0 : Int32) (hi : vp_in p0 12) : Met l yJ0_charAt_5068e wsJ0_charAt_5068e rm_J0_charAt_5068e (va_Pc [.ref aQ, .int p0] (fun U => jpin aQ aQV vF U)) (vp_Si (fun r => r = f_J0_charAt_5068e p0)) 0 0 (fun _ => False) := by
  refine Met.ofW (cc := cJ0_charAt_5068e) (maxL := 2) (ret := (some .char)) (by decide) rfl ?_
  intro p e s m args below meth c s₁ B hml hv
  obtain ⟨rfl, hJ⟩ := hv
  have hl := lv_entry ([.ref aQ, .int p0]) (n := 2) (Nat.le_of_ble_eq_true rfl)
  rw [lg_entry_eq]
  refine w_J0_charAt_5068e hi B.exec B.bytes hml (findClass_of_methodNamed B.named) (atoms_spec (ws := wsJ0_charAt_5068e) B.pre) hJ rfl (fun r pc ls hz er hd => ?_) _ hl
  exact W.zret B.exec B.bytes B.returns hz (fun t ht hW => ⟨r, rfl, er, ht⟩) (fun _ h => by cases h) hd B.notSynchronized
end
def f_J1_canEncode_9a6ad (p0 : Int32) : Int32 :=
  (if p0 < 0 then (0 : Int32) else (if (255 : Int32) < p0 then (0 : Int32) else (1 : Int32)))
theorem e_J1_canEncode_9a6ad {p0 : Int32} : f_J1_canEncode_9a6ad p0 = (if p0 < 0 then (0 : Int32) else (if (255 : Int32) < p0 then (0 : Int32) else (1 : Int32))) := rfl
section
variable {p : Program} {l : Launch} {e : Env} {s : State} {m : MethodId} {args : Array Value} {below : List Frame} {meth : Method} {c : Code} {Q : State → Prop} {H : Heap} {locs : List Loc} {dC : Nat → ClassId} {dI : Nat → Nat → Nat} {cI cJ : ClassId}
abbrev rm_J1_canEncode_9a6ad : Room := { frames := 0, cells := 0, slots := 0, locals := 0 }
theorem hd_J1_canEncode_9a6ad : yJ1_canEncode_9a6ad.cls ≠ "java/lang/invoke/MethodHandle" ∧ yJ1_canEncode_9a6ad.cls ≠ "java/lang/invoke/VarHandle" ∧ (parseMethodDescriptor yJ1_canEncode_9a6ad.desc).map (fun d => d.parameters.length) = some 1 := by decide +kernel
set_option maxHeartbeats 4000000 in
set_option maxRecDepth 100000 in
theorem w_J1_canEncode_9a6ad {aQ aQV : Nat} {vF : Value} {p0 : Int32} {F : Int32} (hx : p.tables.exec = Jvm.exec) (hb : c.code = cJ1_canEncode_9a6ad) (hml : c.maxLocals = 1) (hown : s.vm.findClass RJ1 = some m.cls) (hts : ∀ w ∈ wsJ1_canEncode_9a6ad, w.before args s = true) (hJ : jpin aQ aQV vF s) (hR : F = f_J1_canEncode_9a6ad p0) (kR : ∀ (r : Int32) (pc : Nat) (ls : Array Slot), zb r → r = F → decode cJ1_canEncode_9a6ad pc = .ok (.ireturn, 1) → W p l e rm_J1_canEncode_9a6ad s m args below meth c s.heap [] 0 0 Q (F0 m pc ls [.int r])) (ls : Array Slot) (hl : lv_has ls 1 [(0, .int p0)]) : W p l e rm_J1_canEncode_9a6ad s m args below meth c s.heap [] 0 0 Q (F0 m 0 ls []) := by
  have hR := hR.trans e_J1_canEncode_9a6ad
  refine lv_iload_n hx hb dJ1_canEncode_9a6ad_0 rfl (lv_at hl 0 rfl) ?_
  refine lv_if_lt (tgt := 15) hx hb dJ1_canEncode_9a6ad_1 (by decide) (fun c_1 => ?_) (fun c_1 => ?_)
  · have hR := hR.trans (if_pos c_1)
    refine lv_iconst (v := (0 : Int32)) hx hb dJ1_canEncode_9a6ad_15 (by decide) ?_
    exact kR (0 : Int32) 16 ls (by first | exact Or.inl rfl | exact Or.inr rfl) hR.symm dJ1_canEncode_9a6ad_16
  · have hR := hR.trans (if_neg c_1)
    refine lv_iload_n hx hb dJ1_canEncode_9a6ad_4 rfl (lv_at hl 0 rfl) ?_
    refine lv_sipush (v := (255 : Int32)) hx hb dJ1_canEncode_9a6ad_5 (by decide) ?_
    refine lv_icmp_gt (tgt := 15) hx hb dJ1_canEncode_9a6ad_8 (by decide) (fun c_2 => ?_) (fun c_2 => ?_)
    · have hR := hR.trans (if_pos c_2)
      refine lv_iconst (v := (0 : Int32)) hx hb dJ1_canEncode_9a6ad_15 (by decide) ?_
      exact kR (0 : Int32) 16 ls (by first | exact Or.inl rfl | exact Or.inr rfl) hR.symm dJ1_canEncode_9a6ad_16
    · have hR := hR.trans (if_neg c_2)
      refine lv_iconst (v := (1 : Int32)) hx hb dJ1_canEncode_9a6ad_11 (by decide) ?_
      refine lv_goto (tgt := 16) hx hb dJ1_canEncode_9a6ad_12 (by decide) ?_
      exact kR (1 : Int32) 16 ls (by first | exact Or.inl rfl | exact Or.inr rfl) hR.symm dJ1_canEncode_9a6ad_16
set_option maxHeartbeats 4000000 in
set_option maxRecDepth 100000 in
theorem m_J1_canEncode_9a6ad (l : Launch) (aQ aQV : Nat) (vF : Value) (p0 : Int32) : Met l yJ1_canEncode_9a6ad wsJ1_canEncode_9a6ad rm_J1_canEncode_9a6ad (va_Pc [.int p0] (fun U => jpin aQ aQV vF U)) (vp_Si (fun r => r = f_J1_canEncode_9a6ad p0)) 0 0 (fun _ => False) := by
  refine Met.ofW (cc := cJ1_canEncode_9a6ad) (maxL := 1) (ret := (some .boolean)) (by decide) rfl ?_
  intro p e s m args below meth c s₁ B hml hv
  obtain ⟨rfl, hJ⟩ := hv
  have hl := lv_entry ([.int p0]) (n := 1) (Nat.le_of_ble_eq_true rfl)
  rw [lg_entry_eq]
  refine w_J1_canEncode_9a6ad B.exec B.bytes hml (findClass_of_methodNamed B.named) (atoms_spec (ws := wsJ1_canEncode_9a6ad) B.pre) hJ rfl (fun r pc ls hz er hd => ?_) _ hl
  exact W.zret B.exec B.bytes B.returns (zb_n hz) (fun t ht hW => ⟨r, rfl, er, ht⟩) (fun _ h => by cases h) hd B.notSynchronized
end
def f_J1_indexOfChar_4cfef_l7 (p0 : Int32) (p2 : Int32) : Nat → Int32 → Int32
  | 0, _ => default
  | fu + 1, v1 =>
    (if p2 ≤ v1 then (-1 : Int32) else (if (ordv v1.toNatClampNeg) = (p0.toInt8.toInt32) then v1 else (f_J1_indexOfChar_4cfef_l7 p0 p2 fu) (v1 + (1 : Int32))))
theorem e_J1_indexOfChar_4cfef_l7 {fu : Nat} {p0 : Int32} {p2 : Int32} {v1 : Int32} : f_J1_indexOfChar_4cfef_l7 p0 p2 (fu + 1) v1 = (if p2 ≤ v1 then (-1 : Int32) else (if (ordv v1.toNatClampNeg) = (p0.toInt8.toInt32) then v1 else (f_J1_indexOfChar_4cfef_l7 p0 p2 fu) (v1 + (1 : Int32)))) := rfl
def f_J1_indexOfChar_4cfef (p0 : Int32) (p1 : Int32) (p2 : Int32) : Int32 :=
  f_J1_indexOfChar_4cfef_l7 p0 p2 ((p2.toInt - p1.toInt).toNat + 1) p1
theorem e_J1_indexOfChar_4cfef {p0 : Int32} {p1 : Int32} {p2 : Int32} : f_J1_indexOfChar_4cfef p0 p1 p2 = f_J1_indexOfChar_4cfef_l7 p0 p2 ((p2.toInt - p1.toInt).toNat + 1) p1 := rfl
section
variable {p : Program} {l : Launch} {e : Env} {s : State} {m : MethodId} {args : Array Value} {below : List Frame} {meth : Method} {c : Code} {Q : State → Prop} {H : Heap} {locs : List Loc} {dC : Nat → ClassId} {dI : Nat → Nat → Nat} {cI cJ : ClassId}
abbrev rm_J1_indexOfChar_4cfef : Room := { frames := 0, cells := 0, slots := 0, locals := 0 }
theorem hd_J1_indexOfChar_4cfef : yJ1_indexOfChar_4cfef.cls ≠ "java/lang/invoke/MethodHandle" ∧ yJ1_indexOfChar_4cfef.cls ≠ "java/lang/invoke/VarHandle" ∧ (parseMethodDescriptor yJ1_indexOfChar_4cfef.desc).map (fun d => d.parameters.length) = some 4 := by decide +kernel
set_option maxHeartbeats 4000000 in
set_option maxRecDepth 100000 in
theorem w_J1_indexOfChar_4cfef {aQ aQV : Nat} {vF : Value} {p0 : Int32} {p1 : Int32} {p2 : Int32} (h1 : 0 ≤ p1.toInt) (h2 : p2.toInt ≤ 12) {F : Int32} (hx : p.tables.exec = Jvm.exec) (hb : c.code = cJ1_indexOfChar_4cfef) (hml : c.maxLocals = 6) (hown : s.vm.findClass RJ1 = some m.cls) (hts : ∀ w ∈ wsJ1_indexOfChar_4cfef, w.before args s = true) (hJ : jpin aQ aQV vF s) (hR : F = f_J1_indexOfChar_4cfef p0 p1 p2) (kR : ∀ (r : Int32) (pc : Nat) (ls : Array Slot), r = F → decode cJ1_indexOfChar_4cfef pc = .ok (.ireturn, 1) → W p l e rm_J1_indexOfChar_4cfef s m args below meth c s.heap [] 0 0 Q (F0 m pc ls [.int r])) (ls : Array Slot) (hl : lv_has ls 6 [(0, .ref aQV), (1, .int p0), (2, .int p1), (3, .int p2)]) : W p l e rm_J1_indexOfChar_4cfef s m args below meth c s.heap [] 0 0 Q (F0 m 0 ls []) := by
  have hR := hR.trans e_J1_indexOfChar_4cfef
  refine lv_iload_n hx hb dJ1_indexOfChar_4cfef_0 rfl (lv_at hl 1 rfl) ?_
  refine lv_i2b (v := (p0.toInt8.toInt32)) hx hb dJ1_indexOfChar_4cfef_1 rfl ?_
  refine lv_istore (lv' := [(4, .int (p0.toInt8.toInt32)), (0, .ref aQV), (1, .int p0), (2, .int p1), (3, .int p2)]) hx hb dJ1_indexOfChar_4cfef_2 hl (by decide) rfl (fun ls hl => ?_)
  refine lv_iload_n hx hb dJ1_indexOfChar_4cfef_4 rfl (lv_at hl 3 rfl) ?_
  refine lv_istore (lv' := [(5, .int p1), (4, .int (p0.toInt8.toInt32)), (0, .ref aQV), (1, .int p0), (2, .int p1), (3, .int p2)]) hx hb dJ1_indexOfChar_4cfef_5 hl (by decide) rfl (fun ls hl => ?_)
  have L7 : ∀ (fu7 : Nat) (v1 : Int32), ∀ (ls : Array Slot), lv_has ls 6 [(0, .ref aQV), (3, .int p2), (4, .int (p0.toInt8.toInt32)), (5, .int v1)] → (p2.toInt - v1.toInt).toNat < fu7 → (0 ≤ v1.toInt) → F = f_J1_indexOfChar_4cfef_l7 p0 p2 fu7 v1 → W p l e rm_J1_indexOfChar_4cfef s m args below meth c s.heap [] 0 0 Q (F0 m 7 ls []) := by
    intro fu7
    induction fu7 with
    | zero => intro v1 ls hl hm; exact absurd hm (Nat.not_lt_zero _)
    | succ fu7 ih7 =>
      intro v1 ls hl hm7 hk hR
      have hR := hR.trans e_J1_indexOfChar_4cfef_l7
      refine lv_iload hx hb dJ1_indexOfChar_4cfef_7 (lv_at hl 3 rfl) ?_
      refine lv_iload_n hx hb dJ1_indexOfChar_4cfef_9 rfl (lv_at hl 1 rfl) ?_
      refine lv_icmp_ge (tgt := 31) hx hb dJ1_indexOfChar_4cfef_10 (by decide) (fun c_1 => ?_) (fun c_1 => ?_)
      · have hR := hR.trans (if_pos c_1)
        refine lv_iconst (v := (-1 : Int32)) hx hb dJ1_indexOfChar_4cfef_31 (by decide +kernel) ?_
        exact kR (-1 : Int32) 32 ls hR.symm dJ1_indexOfChar_4cfef_32
      · have hR := hR.trans (if_neg c_1)
        refine lv_aload_n hx hb dJ1_indexOfChar_4cfef_13 rfl (lv_at hl 0 rfl) ?_
        refine lv_iload hx hb dJ1_indexOfChar_4cfef_14 (lv_at hl 3 rfl) ?_
        refine va_tb hx hb hJ.1.2.2.2 va_S.rf (v := .int (ordv v1.toNatClampNeg)) (mx_ca hk (by assumption) h2) rfl dJ1_indexOfChar_4cfef_16 ?_
        refine lv_iload hx hb dJ1_indexOfChar_4cfef_17 (lv_at hl 2 rfl) ?_
        refine lv_icmp_ne (tgt := 25) hx hb dJ1_indexOfChar_4cfef_19 (by decide) (fun c_2 => ?_) (fun c_2 => ?_)
        · have hR := hR.trans (if_neg c_2)
          refine lv_iinc (v := (v1 + (1 : Int32))) (lv' := [(5, .int (v1 + (1 : Int32))), (0, .ref aQV), (3, .int p2), (4, .int (p0.toInt8.toInt32))]) hx hb dJ1_indexOfChar_4cfef_25 hl (k := 3) rfl rfl (by decide) rfl (fun ls hl => ?_)
          refine lv_goto (tgt := 7) hx hb dJ1_indexOfChar_4cfef_28 (by decide) ?_
          exact ih7 (v1 + (1 : Int32)) ls (lv_sub hl [1, 2, 3, 0] rfl) (Nat.lt_of_lt_of_le (lp_up (by assumption)) (Nat.le_of_lt_succ hm7)) (show 0 ≤ (v1 + (1 : Int32)).toInt from mx_s hk (by assumption)) hR
        · have hR := hR.trans (if_pos c_2)
          refine lv_iload hx hb dJ1_indexOfChar_4cfef_22 (lv_at hl 3 rfl) ?_
          exact kR v1 24 ls hR.symm dJ1_indexOfChar_4cfef_24
  exact L7 ((p2.toInt - p1.toInt).toNat + 1) p1 ls (lv_sub hl [2, 5, 1, 0] rfl) (Nat.lt_succ_self _) (show 0 ≤ p1.toInt from h1) hR
set_option maxHeartbeats 4000000 in
set_option maxRecDepth 100000 in
theorem m_J1_indexOfChar_4cfef (l : Launch) (aQ aQV : Nat) (vF : Value) (p0 : Int32) (p1 : Int32) (p2 : Int32) (h1 : 0 ≤ p1.toInt) (h2 : p2.toInt ≤ 12) : Met l yJ1_indexOfChar_4cfef wsJ1_indexOfChar_4cfef rm_J1_indexOfChar_4cfef (va_Pc [.ref aQV, .int p0, .int p1, .int p2] (fun U => jpin aQ aQV vF U)) (vp_Si (fun r => r = f_J1_indexOfChar_4cfef p0 p1 p2)) 0 0 (fun _ => False) := by
  refine Met.ofW (cc := cJ1_indexOfChar_4cfef) (maxL := 6) (ret := (some .int)) (by decide) rfl ?_
  intro p e s m args below meth c s₁ B hml hv
  obtain ⟨rfl, hJ⟩ := hv
  have hl := lv_entry ([.ref aQV, .int p0, .int p1, .int p2]) (n := 6) (Nat.le_of_ble_eq_true rfl)
  rw [lg_entry_eq]
  refine w_J1_indexOfChar_4cfef h1 h2 B.exec B.bytes hml (findClass_of_methodNamed B.named) (atoms_spec (ws := wsJ1_indexOfChar_4cfef) B.pre) hJ rfl (fun r pc ls er hd => ?_) _ hl
  exact W.iret B.exec B.bytes B.returns (fun t ht hW => ⟨r, rfl, er, ht⟩) (fun _ h => by cases h) hd B.notSynchronized
end
def f_J1_indexOf_4cfef (p0 : Int32) (p1 : Int32) (p2 : Int32) : Int32 :=
  (if (f_J1_canEncode_9a6ad p0) = 0 then (-1 : Int32) else (if (imax p1 (0 : Int32)) < (imin p2 (12 : Int32)) then (f_J1_indexOfChar_4cfef p0 (imax p1 (0 : Int32)) (imin p2 (12 : Int32))) else (-1 : Int32)))
theorem e_J1_indexOf_4cfef {p0 : Int32} {p1 : Int32} {p2 : Int32} : f_J1_indexOf_4cfef p0 p1 p2 = (if (f_J1_canEncode_9a6ad p0) = 0 then (-1 : Int32) else (if (imax p1 (0 : Int32)) < (imin p2 (12 : Int32)) then (f_J1_indexOfChar_4cfef p0 (imax p1 (0 : Int32)) (imin p2 (12 : Int32))) else (-1 : Int32))) := rfl
section
variable {p : Program} {l : Launch} {e : Env} {s : State} {m : MethodId} {args : Array Value} {below : List Frame} {meth : Method} {c : Code} {Q : State → Prop} {H : Heap} {locs : List Loc} {dC : Nat → ClassId} {dI : Nat → Nat → Nat} {cI cJ : ClassId}
abbrev rm_J1_indexOf_4cfef : Room := { frames := 1, cells := 0, slots := 0, locals := 25 }
theorem hd_J1_indexOf_4cfef : yJ1_indexOf_4cfef.cls ≠ "java/lang/invoke/MethodHandle" ∧ yJ1_indexOf_4cfef.cls ≠ "java/lang/invoke/VarHandle" ∧ (parseMethodDescriptor yJ1_indexOf_4cfef.desc).map (fun d => d.parameters.length) = some 4 := by decide +kernel
set_option maxHeartbeats 4000000 in
set_option maxRecDepth 100000 in
theorem w_J1_indexOf_4cfef {aQ aQV : Nat} {vF : Value} {p0 : Int32} {p1 : Int32} {p2 : Int32} {F : Int32} (hx : p.tables.exec = Jvm.exec) (hb : c.code = cJ1_indexOf_4cfef) (hml : c.maxLocals = 4) (hown : s.vm.findClass RJ1 = some m.cls) (hts : ∀ w ∈ wsJ1_indexOf_4cfef, w.before args s = true) (hJ : jpin aQ aQV vF s) (hR : F = f_J1_indexOf_4cfef p0 p1 p2) (kR : ∀ (r : Int32) (pc : Nat) (ls : Array Slot), r = F → decode cJ1_indexOf_4cfef pc = .ok (.ireturn, 1) → W p l e rm_J1_indexOf_4cfef s m args below meth c s.heap [] 0 0 Q (F0 m pc ls [.int r])) (ls : Array Slot) (hl : lv_has ls 4 [(0, .ref aQV), (1, .int p0), (2, .int p1), (3, .int p2)]) : W p l e rm_J1_indexOf_4cfef s m args below meth c s.heap [] 0 0 Q (F0 m 0 ls []) := by
  have hR := hR.trans e_J1_indexOf_4cfef
  refine lv_iload_n hx hb dJ1_indexOf_4cfef_0 rfl (lv_at hl 1 rfl) ?_
  refine rG_Si (As := [.int p0]) (rest := []) ⟨hx, hb, hml, hown, hts⟩ (m_J1_canEncode_9a6ad l aQ aQV vF p0) jbl (va_cwS 1 hts (gi_S wm_478 wm_479 wm_100 wm_480) rfl rfl rfl hd_J1_canEncode_9a6ad ⟨Nat.le_of_ble_eq_true rfl, Nat.le_of_ble_eq_true rfl⟩) (fun U hU hW => hJ.to hU hW.alike) rfl hl.1 rfl (Nat.le_of_ble_eq_true rfl) dJ1_indexOf_4cfef_1 ⟨(Nat.le_of_ble_eq_true rfl), (Nat.le_of_ble_eq_true rfl)⟩ ?_
  refine lv_if_ne (tgt := 9) hx hb dJ1_indexOf_4cfef_4 (by decide) (fun c_1 => ?_) (fun c_1 => ?_)
  · have hR := hR.trans (if_neg c_1)
    refine lv_iload_n hx hb dJ1_indexOf_4cfef_9 rfl (lv_at hl 2 rfl) ?_
    refine lv_iconst (v := (0 : Int32)) hx hb dJ1_indexOf_4cfef_10 (by decide) ?_
    refine w_max hx hb (hml.trans hl.1.symm) hown (hts (.methodLink RJ1 92 Lib.Math.max.name) (List.mem_cons_of_mem _ wm_476)) (hts (.static Lib.Math.max.name) (List.mem_cons_of_mem _ wm_149)) (hts (.initialized "java/lang/Math") (List.mem_cons_of_mem _ wm_23)) (hts (.code Lib.Math.max.name Lib.Math.max.code 2 (some .int)) (List.mem_cons_of_mem _ wm_150)) (Nat.le_of_ble_eq_true rfl) (Nat.le_of_ble_eq_true rfl) (Nat.le_of_ble_eq_true rfl) (Nat.le_of_ble_eq_true rfl) dJ1_indexOf_4cfef_11 ?_
    refine lv_istore_n (lv' := [(2, .int (imax p1 (0 : Int32))), (0, .ref aQV), (1, .int p0), (3, .int p2)]) hx hb dJ1_indexOf_4cfef_14 rfl hl (by decide) rfl (fun ls hl => ?_)
    refine lv_iload_n hx hb dJ1_indexOf_4cfef_15 rfl (lv_at hl 3 rfl) ?_
    refine lv_aload_n hx hb dJ1_indexOf_4cfef_16 rfl (lv_at hl 1 rfl) ?_
    refine va_tlen hx hb hJ.1.2.2.2 va_S.rf (v := (12 : Int32)) rfl dJ1_indexOf_4cfef_17 ?_
    refine w_min hx hb (hml.trans hl.1.symm) hown (hts (.methodLink RJ1 38 Lib.Math.min.name) (List.mem_cons_of_mem _ wm_477)) (hts (.static Lib.Math.min.name) (List.mem_cons_of_mem _ wm_41)) (hts (.initialized "java/lang/Math") (List.mem_cons_of_mem _ wm_23)) (hts (.code Lib.Math.min.name Lib.Math.min.code 2 (some .int)) (List.mem_cons_of_mem _ wm_42)) (Nat.le_of_ble_eq_true rfl) (Nat.le_of_ble_eq_true rfl) (Nat.le_of_ble_eq_true rfl) (Nat.le_of_ble_eq_true rfl) dJ1_indexOf_4cfef_18 ?_
    refine lv_istore_n (lv' := [(3, .int (imin p2 (12 : Int32))), (2, .int (imax p1 (0 : Int32))), (0, .ref aQV), (1, .int p0)]) hx hb dJ1_indexOf_4cfef_21 rfl hl (by decide) rfl (fun ls hl => ?_)
    refine lv_iload_n hx hb dJ1_indexOf_4cfef_22 rfl (lv_at hl 1 rfl) ?_
    refine lv_iload_n hx hb dJ1_indexOf_4cfef_23 rfl (lv_at hl 0 rfl) ?_
    refine lv_icmp_lt (tgt := 29) hx hb dJ1_indexOf_4cfef_24 (by decide) (fun c_2 => ?_) (fun c_2 => ?_)
    · have hR := hR.trans (if_pos c_2)
      refine lv_aload_n hx hb dJ1_indexOf_4cfef_29 rfl (lv_at hl 2 rfl) ?_
      refine lv_iload_n hx hb dJ1_indexOf_4cfef_30 rfl (lv_at hl 3 rfl) ?_
      refine lv_iload_n hx hb dJ1_indexOf_4cfef_31 rfl (lv_at hl 1 rfl) ?_
      refine lv_iload_n hx hb dJ1_indexOf_4cfef_32 rfl (lv_at hl 0 rfl) ?_
      refine rG_Si (As := [.ref aQV, .int p0, .int (imax p1 (0 : Int32)), .int (imin p2 (12 : Int32))]) (rest := []) ⟨hx, hb, hml, hown, hts⟩ (m_J1_indexOfChar_4cfef l aQ aQV vF p0 (imax p1 (0 : Int32)) (imin p2 (12 : Int32)) (j_max) (j_min)) jbl (va_cwS 4 hts (gi_S wm_481 wm_482 wm_100 wm_483) rfl rfl rfl hd_J1_indexOfChar_4cfef ⟨Nat.le_of_ble_eq_true rfl, Nat.le_of_ble_eq_true rfl⟩) (fun U hU hW => hJ.to hU hW.alike) rfl hl.1 rfl (Nat.le_of_ble_eq_true rfl) dJ1_indexOf_4cfef_33 ⟨(Nat.le_of_ble_eq_true rfl), (Nat.le_of_ble_eq_true rfl)⟩ ?_
      exact kR (f_J1_indexOfChar_4cfef p0 (imax p1 (0 : Int32)) (imin p2 (12 : Int32))) 36 ls hR.symm dJ1_indexOf_4cfef_36
    · have hR := hR.trans (if_neg c_2)
      refine lv_iconst (v := (-1 : Int32)) hx hb dJ1_indexOf_4cfef_27 (by decide +kernel) ?_
      exact kR (-1 : Int32) 28 ls hR.symm dJ1_indexOf_4cfef_28
  · have hR := hR.trans (if_pos c_1)
    refine lv_iconst (v := (-1 : Int32)) hx hb dJ1_indexOf_4cfef_7 (by decide +kernel) ?_
    exact kR (-1 : Int32) 8 ls hR.symm dJ1_indexOf_4cfef_8
set_option maxHeartbeats 4000000 in
set_option maxRecDepth 100000 in
theorem m_J1_indexOf_4cfef (l : Launch) (aQ aQV : Nat) (vF : Value) (p0 : Int32) (p1 : Int32) (p2 : Int32) : Met l yJ1_indexOf_4cfef wsJ1_indexOf_4cfef rm_J1_indexOf_4cfef (va_Pc [.ref aQV, .int p0, .int p1, .int p2] (fun U => jpin aQ aQV vF U)) (vp_Si (fun r => r = f_J1_indexOf_4cfef p0 p1 p2)) 0 0 (fun _ => False) := by
  refine Met.ofW (cc := cJ1_indexOf_4cfef) (maxL := 4) (ret := (some .int)) (by decide) rfl ?_
  intro p e s m args below meth c s₁ B hml hv
  obtain ⟨rfl, hJ⟩ := hv
  have hl := lv_entry ([.ref aQV, .int p0, .int p1, .int p2]) (n := 4) (Nat.le_of_ble_eq_true rfl)
  rw [lg_entry_eq]
  refine w_J1_indexOf_4cfef B.exec B.bytes hml (findClass_of_methodNamed B.named) (atoms_spec (ws := wsJ1_indexOf_4cfef) B.pre) hJ rfl (fun r pc ls er hd => ?_) _ hl
  exact W.iret B.exec B.bytes B.returns (fun t ht hW => ⟨r, rfl, er, ht⟩) (fun _ h => by cases h) hd B.notSynchronized
end
def f_J0_indexOf_7cf53 (p0 : Int32) (p1 : Int32) : Int32 :=
  (f_J1_indexOf_4cfef p0 p1 f_J0_length_8abf5)
theorem e_J0_indexOf_7cf53 {p0 : Int32} {p1 : Int32} : f_J0_indexOf_7cf53 p0 p1 = (f_J1_indexOf_4cfef p0 p1 f_J0_length_8abf5) := rfl
section
variable {p : Program} {l : Launch} {e : Env} {s : State} {m : MethodId} {args : Array Value} {below : List Frame} {meth : Method} {c : Code} {Q : State → Prop} {H : Heap} {locs : List Loc} {dC : Nat → ClassId} {dI : Nat → Nat → Nat} {cI cJ : ClassId}
abbrev rm_J0_indexOf_7cf53 : Room := { frames := 2, cells := 0, slots := 0, locals := 48 }
theorem hd_J0_indexOf_7cf53 : yJ0_indexOf_7cf53.cls = RJ0 ∧ yJ0_indexOf_7cf53.cls ≠ "java/lang/invoke/MethodHandle" ∧ yJ0_indexOf_7cf53.cls ≠ "java/lang/invoke/VarHandle" ∧ (parseMethodDescriptor yJ0_indexOf_7cf53.desc).map (fun d => d.parameters.length) = some 2 := by decide +kernel
set_option maxHeartbeats 4000000 in
set_option maxRecDepth 100000 in
theorem w_J0_indexOf_7cf53 {aQ aQV : Nat} {vF : Value} {p0 : Int32} {p1 : Int32} {F : Int32} (hx : p.tables.exec = Jvm.exec) (hb : c.code = cJ0_indexOf_7cf53) (hml : c.maxLocals = 3) (hown : s.vm.findClass RJ0 = some m.cls) (hts : ∀ w ∈ wsJ0_indexOf_7cf53, w.before args s = true) (hJ : jpin aQ aQV vF s) (hR : F = f_J0_indexOf_7cf53 p0 p1) (kR : ∀ (r : Int32) (pc : Nat) (ls : Array Slot), r = F → decode cJ0_indexOf_7cf53 pc = .ok (.ireturn, 1) → W p l e rm_J0_indexOf_7cf53 s m args below meth c s.heap [] 0 0 Q (F0 m pc ls [.int r])) (ls : Array Slot) (hl : lv_has ls 3 [(0, .ref aQ), (1, .int p0), (2, .int p1)]) : W p l e rm_J0_indexOf_7cf53 s m args below meth c s.heap [] 0 0 Q (F0 m 0 ls []) := by
  have hR := hR.trans e_J0_indexOf_7cf53
  refine lv_aload_n hx hb dJ0_indexOf_7cf53_0 rfl (lv_at hl 0 rfl) ?_
  refine rG_Vi (As := []) (rest := []) ⟨hx, hb, hml, hown, hts⟩ (m_J0_isLatin1_aae02 l aQ aQV vF) jbl (cwV 0 hts (gi_V wm_94 wm_95 wm_96 wm_81 wm_97) rfl rfl rfl hd_J0_isLatin1_aae02 ⟨Nat.le_of_ble_eq_true rfl, Nat.le_of_ble_eq_true rfl⟩) (jrecv (fun U hU hW => hJ.to hU hW.alike)) (fun U hU hW => hJ.to hU hW.alike) rfl hl.1 rfl (Nat.le_of_ble_eq_true rfl) dJ0_indexOf_7cf53_1 ⟨(Nat.le_of_ble_eq_true rfl), (Nat.le_of_ble_eq_true rfl)⟩ ?_
  refine lv_if_eq (tgt := 23) hx hb dJ0_indexOf_7cf53_4 (by decide) (fun c_2 => absurd c_2 (by decide)) (fun c_2 => ?_)
  refine lv_aload_n hx hb dJ0_indexOf_7cf53_7 rfl (lv_at hl 0 rfl) ?_
  refine vk_getf hx hb hJ.1.2.2.1 va_S.rf hown (hts (.fieldLink RJ0 9 "java/lang/String" "value" "[B") (List.mem_cons_of_mem _ wm_83)) (fun _ h9 => h9) dJ0_indexOf_7cf53_8 ?_
  refine lv_iload_n hx hb dJ0_indexOf_7cf53_11 rfl (lv_at hl 1 rfl) ?_
  refine lv_iload_n hx hb dJ0_indexOf_7cf53_12 rfl (lv_at hl 2 rfl) ?_
  refine lv_aload_n hx hb dJ0_indexOf_7cf53_13 rfl (lv_at hl 0 rfl) ?_
  refine rG_Vi (As := []) (rest := [.int p1, .int p0, .ref aQV]) ⟨hx, hb, hml, hown, hts⟩ (m_J0_length_8abf5 l aQ aQV vF) jbl (cwV 0 hts (gi_V wm_472 wm_79 wm_80 wm_81 wm_82) rfl rfl rfl hd_J0_length_8abf5 ⟨Nat.le_of_ble_eq_true rfl, Nat.le_of_ble_eq_true rfl⟩) (jrecv (fun U hU hW => hJ.to hU hW.alike)) (fun U hU hW => hJ.to hU hW.alike) rfl hl.1 rfl (Nat.le_of_ble_eq_true rfl) dJ0_indexOf_7cf53_14 ⟨(Nat.le_of_ble_eq_true rfl), (Nat.le_of_ble_eq_true rfl)⟩ ?_
  refine rG_Si (As := [.ref aQV, .int p0, .int p1, .int f_J0_length_8abf5]) (rest := []) ⟨hx, hb, hml, hown, hts⟩ (m_J1_indexOf_4cfef l aQ aQV vF p0 p1 f_J0_length_8abf5) jbl (va_cwS 4 hts (gi_S wm_473 wm_474 wm_100 wm_475) rfl rfl rfl hd_J1_indexOf_4cfef ⟨Nat.le_of_ble_eq_true rfl, Nat.le_of_ble_eq_true rfl⟩) (fun U hU hW => hJ.to hU hW.alike) rfl hl.1 rfl (Nat.le_of_ble_eq_true rfl) dJ0_indexOf_7cf53_17 ⟨(Nat.le_of_ble_eq_true rfl), (Nat.le_of_ble_eq_true rfl)⟩ ?_
  refine lv_goto (tgt := 36) hx hb dJ0_indexOf_7cf53_20 (by decide) ?_
  exact kR (f_J1_indexOf_4cfef p0 p1 f_J0_length_8abf5) 36 ls hR.symm dJ0_indexOf_7cf53_36
set_option maxHeartbeats 4000000 in
set_option maxRecDepth 100000 in
theorem m_J0_indexOf_7cf53 (l : Launch) (aQ aQV : Nat) (vF : Value) (p0 : Int32) (p1 : Int32) : Met l yJ0_indexOf_7cf53 wsJ0_indexOf_7cf53 rm_J0_indexOf_7cf53 (va_Pc [.ref aQ, .int p0, .int p1] (fun U => jpin aQ aQV vF U)) (vp_Si (fun r => r = f_J0_indexOf_7cf53 p0 p1)) 0 0 (fun _ => False) := by
  refine Met.ofW (cc := cJ0_indexOf_7cf53) (maxL := 3) (ret := (some .int)) (by decide) rfl ?_
  intro p e s m args below meth c s₁ B hml hv
  obtain ⟨rfl, hJ⟩ := hv
  have hl := lv_entry ([.ref aQ, .int p0, .int p1]) (n := 3) (Nat.le_of_ble_eq_true rfl)
  rw [lg_entry_eq]
  refine w_J0_indexOf_7cf53 B.exec B.bytes hml (findClass_of_methodNamed B.named) (atoms_spec (ws := wsJ0_indexOf_7cf53) B.pre) hJ rfl (fun r pc ls er hd => ?_) _ hl
  exact W.iret B.exec B.bytes B.returns (fun t ht hW => ⟨r, rfl, er, ht⟩) (fun _ h => by cases h) hd B.notSynchronized
end
def f_J0_indexOf_0f7a4 (p0 : Int32) : Int32 :=
  (f_J0_indexOf_7cf53 p0 (0 : Int32))
theorem e_J0_indexOf_0f7a4 {p0 : Int32} : f_J0_indexOf_0f7a4 p0 = (f_J0_indexOf_7cf53 p0 (0 : Int32)) := rfl
section
variable {p : Program} {l : Launch} {e : Env} {s : State} {m : MethodId} {args : Array Value} {below : List Frame} {meth : Method} {c : Code} {Q : State → Prop} {H : Heap} {locs : List Loc} {dC : Nat → ClassId} {dI : Nat → Nat → Nat} {cI cJ : ClassId}
abbrev rm_J0_indexOf_0f7a4 : Room := { frames := 3, cells := 0, slots := 0, locals := 70 }
theorem hd_J0_indexOf_0f7a4 : yJ0_indexOf_0f7a4.cls = RJ0 ∧ yJ0_indexOf_0f7a4.cls ≠ "java/lang/invoke/MethodHandle" ∧ yJ0_indexOf_0f7a4.cls ≠ "java/lang/invoke/VarHandle" ∧ (parseMethodDescriptor yJ0_indexOf_0f7a4.desc).map (fun d => d.parameters.length) = some 1 := by decide +kernel
set_option maxHeartbeats 4000000 in
set_option maxRecDepth 100000 in
theorem w_J0_indexOf_0f7a4 {aQ aQV : Nat} {vF : Value} {p0 : Int32} {F : Int32} (hx : p.tables.exec = Jvm.exec) (hb : c.code = cJ0_indexOf_0f7a4) (hml : c.maxLocals = 2) (hown : s.vm.findClass RJ0 = some m.cls) (hts : ∀ w ∈ wsJ0_indexOf_0f7a4, w.before args s = true) (hJ : jpin aQ aQV vF s) (hR : F = f_J0_indexOf_0f7a4 p0) (kR : ∀ (r : Int32) (pc : Nat) (ls : Array Slot), r = F → decode cJ0_indexOf_0f7a4 pc = .ok (.ireturn, 1) → W p l e rm_J0_indexOf_0f7a4 s m args below meth c s.heap [] 0 0 Q (F0 m pc ls [.int r])) (ls : Array Slot) (hl : lv_has ls 2 [(0, .ref aQ), (1, .int p0)]) : W p l e rm_J0_indexOf_0f7a4 s m args below meth c s.heap [] 0 0 Q (F0 m 0 ls []) := by
  have hR := hR.trans e_J0_indexOf_0f7a4
  refine lv_aload_n hx hb dJ0_indexOf_0f7a4_0 rfl (lv_at hl 0 rfl) ?_
  refine lv_iload_n hx hb dJ0_indexOf_0f7a4_1 rfl (lv_at hl 1 rfl) ?_
  refine lv_iconst (v := (0 : Int32)) hx hb dJ0_indexOf_0f7a4_2 (by decide) ?_
  refine rG_Vi (As := [.int p0, .int (0 : Int32)]) (rest := []) ⟨hx, hb, hml, hown, hts⟩ (m_J0_indexOf_7cf53 l aQ aQV vF p0 (0 : Int32)) jbl (cwV 2 hts (gi_V wm_468 wm_469 wm_470 wm_81 wm_471) rfl rfl rfl hd_J0_indexOf_7cf53 ⟨Nat.le_of_ble_eq_true rfl, Nat.le_of_ble_eq_true rfl⟩) (jrecv (fun U hU hW => hJ.to hU hW.alike)) (fun U hU hW => hJ.to hU hW.alike) rfl hl.1 rfl (Nat.le_of_ble_eq_true rfl) dJ0_indexOf_0f7a4_3 ⟨(Nat.le_of_ble_eq_true rfl), (Nat.le_of_ble_eq_true rfl)⟩ ?_
  exact kR (f_J0_indexOf_7cf53 p0 (0 : Int32)) 6 ls hR.symm dJ0_indexOf_0f7a4_6
set_option maxHeartbeats 4000000 in
set_option maxRecDepth 100000 in
theorem m_J0_indexOf_0f7a4 (l : Launch) (aQ aQV : Nat) (vF : Value) (p0 : Int32) : Met l yJ0_indexOf_0f7a4 wsJ0_indexOf_0f7a4 rm_J0_indexOf_0f7a4 (va_Pc [.ref aQ, .int p0] (fun U => jpin aQ aQV vF U)) (vp_Si (fun r => r = f_J0_indexOf_0f7a4 p0)) 0 0 (fun _ => False) := by
  refine Met.ofW (cc := cJ0_indexOf_0f7a4) (maxL := 2) (ret := (some .int)) (by decide) rfl ?_
  intro p e s m args below meth c s₁ B hml hv
  obtain ⟨rfl, hJ⟩ := hv
  have hl := lv_entry ([.ref aQ, .int p0]) (n := 2) (Nat.le_of_ble_eq_true rfl)
  rw [lg_entry_eq]
  refine w_J0_indexOf_0f7a4 B.exec B.bytes hml (findClass_of_methodNamed B.named) (atoms_spec (ws := wsJ0_indexOf_0f7a4) B.pre) hJ rfl (fun r pc ls er hd => ?_) _ hl
  exact W.iret B.exec B.bytes B.returns (fun t ht hW => ⟨r, rfl, er, ht⟩) (fun _ h => by cases h) hd B.notSynchronized
end
theorem j_len : f_J0_length_8abf5 = (12 : Int32) := by decide +kernel
theorem j_in2 {i : Int32} (h0 : ¬ i < 0) (h : ¬ f_J0_length_8abf5 ≤ i) : vp_in i 12 := by
  rw [j_len] at h
  exact j_in h0 h
theorem ch_sgn {i : Int32} (h0 : ¬ i < 0) (h : ¬ f_J0_length_8abf5 ≤ i) : narrow .char (.int (f_J0_charAt_5068e i)) = .int (f_J0_charAt_5068e i) := ch_ord (j_in2 h0 h)
def f_X2_signOf (p0 : Int32) : Int32 :=
  (if p0 < 0 then (32 : Int32) else (if f_J0_length_8abf5 ≤ p0 then (32 : Int32) else (f_J0_charAt_5068e p0)))
theorem e_X2_signOf {p0 : Int32} : f_X2_signOf p0 = (if p0 < 0 then (32 : Int32) else (if f_J0_length_8abf5 ≤ p0 then (32 : Int32) else (f_J0_charAt_5068e p0))) := rfl
section
variable {p : Program} {l : Launch} {e : Env} {s : State} {m : MethodId} {args : Array Value} {below : List Frame} {meth : Method} {c : Code} {Q : State → Prop} {H : Heap} {locs : List Loc} {dC : Nat → ClassId} {dI : Nat → Nat → Nat} {cI cJ : ClassId}
abbrev rm_X2_signOf : Room := { frames := 4, cells := 0, slots := 0, locals := 85 }
theorem hd_X2_signOf : yX2_signOf.cls ≠ "java/lang/invoke/MethodHandle" ∧ yX2_signOf.cls ≠ "java/lang/invoke/VarHandle" ∧ (parseMethodDescriptor yX2_signOf.desc).map (fun d => d.parameters.length) = some 1 := by decide +kernel
set_option maxHeartbeats 4000000 in
set_option maxRecDepth 100000 in
theorem w_X2_signOf {aQ aQV : Nat} {vF : Value} {p0 : Int32} {F : Int32} (hx : p.tables.exec = Jvm.exec) (hb : c.code = cX2_signOf) (hml : c.maxLocals = 1) (hown : s.vm.findClass RX2 = some m.cls) (hts : ∀ w ∈ wsX2_signOf, w.before args s = true) (hJ : jpin aQ aQV vF s) (hq : vk_R RX2 22 oTx aQ s) (hR : F = f_X2_signOf p0) (kR : ∀ (r : Int32) (pc : Nat) (ls : Array Slot), narrow .char (.int r) = .int r → r = F → decode cX2_signOf pc = .ok (.ireturn, 1) → W p l e rm_X2_signOf s m args below meth c s.heap [] 0 0 Q (F0 m pc ls [.int r])) (ls : Array Slot) (hl : lv_has ls 1 [(0, .int p0)]) : W p l e rm_X2_signOf s m args below meth c s.heap [] 0 0 Q (F0 m 0 ls []) := by
  have hR := hR.trans e_X2_signOf
  refine lv_iload_n hx hb dX2_signOf_0 rfl (lv_at hl 0 rfl) ?_
  refine lv_if_lt (tgt := 22) hx hb dX2_signOf_1 (by decide) (fun c_1 => ?_) (fun c_1 => ?_)
  · have hR := hR.trans (if_pos c_1)
    refine lv_bipush (v := (32 : Int32)) hx hb dX2_signOf_22 (by decide) ?_
    exact kR (32 : Int32) 24 ls rfl hR.symm dX2_signOf_24
  · have hR := hR.trans (if_neg c_1)
    refine lv_iload_n hx hb dX2_signOf_4 rfl (lv_at hl 0 rfl) ?_
    refine va_ldcS hx hb hown hq dX2_signOf_5 ?_
    refine rG_Vi (As := []) (rest := [.int p0]) ⟨hx, hb, hml, hown, hts⟩ (m_J0_length_8abf5 l aQ aQV vF) jbl (cwV 0 hts (gi_V wm_78 wm_79 wm_80 wm_81 wm_82) rfl rfl rfl hd_J0_length_8abf5 ⟨Nat.le_of_ble_eq_true rfl, Nat.le_of_ble_eq_true rfl⟩) (jrecv (fun U hU hW => hJ.to hU hW.alike)) (fun U hU hW => hJ.to hU hW.alike) rfl hl.1 rfl (Nat.le_of_ble_eq_true rfl) dX2_signOf_7 ⟨(Nat.le_of_ble_eq_true rfl), (Nat.le_of_ble_eq_true rfl)⟩ ?_
    refine lv_icmp_ge (tgt := 22) hx hb dX2_signOf_10 (by decide) (fun c_2 => ?_) (fun c_2 => ?_)
    · have hR := hR.trans (if_pos c_2)
      refine lv_bipush (v := (32 : Int32)) hx hb dX2_signOf_22 (by decide) ?_
      exact kR (32 : Int32) 24 ls rfl hR.symm dX2_signOf_24
    · have hR := hR.trans (if_neg c_2)
      refine va_ldcS hx hb hown hq dX2_signOf_13 ?_
      refine lv_iload_n hx hb dX2_signOf_15 rfl (lv_at hl 0 rfl) ?_
      refine rG_Vi (As := [.int p0]) (rest := []) ⟨hx, hb, hml, hown, hts⟩ (m_J0_charAt_5068e l aQ aQV vF p0 (j_in2 (by assumption) (by assumption))) jbl (cwV 1 hts (gi_V wm_90 wm_91 wm_92 wm_81 wm_93) rfl rfl rfl hd_J0_charAt_5068e ⟨Nat.le_of_ble_eq_true rfl, Nat.le_of_ble_eq_true rfl⟩) (jrecv (fun U hU hW => hJ.to hU hW.alike)) (fun U hU hW => hJ.to hU hW.alike) rfl hl.1 rfl (Nat.le_of_ble_eq_true rfl) dX2_signOf_16 ⟨(Nat.le_of_ble_eq_true rfl), (Nat.le_of_ble_eq_true rfl)⟩ ?_
      refine lv_goto (tgt := 24) hx hb dX2_signOf_19 (by decide) ?_
      exact kR (f_J0_charAt_5068e p0) 24 ls (ch_sgn (by assumption) (by assumption)) hR.symm dX2_signOf_24
set_option maxHeartbeats 4000000 in
set_option maxRecDepth 100000 in
theorem m_X2_signOf (l : Launch) (aQ aQV : Nat) (vF : Value) (p0 : Int32) : Met l yX2_signOf wsX2_signOf rm_X2_signOf (va_Pc [.int p0] (fun U => jpin aQ aQV vF U ∧ vk_R RX2 22 oTx aQ U)) (vp_Si (fun r => r = f_X2_signOf p0)) 0 0 (fun _ => False) := by
  refine Met.ofW (cc := cX2_signOf) (maxL := 1) (ret := (some .char)) (by decide) rfl ?_
  intro p e s m args below meth c s₁ B hml hv
  obtain ⟨rfl, hJ, hq⟩ := hv
  have hl := lv_entry ([.int p0]) (n := 1) (Nat.le_of_ble_eq_true rfl)
  rw [lg_entry_eq]
  refine w_X2_signOf B.exec B.bytes hml (findClass_of_methodNamed B.named) (atoms_spec (ws := wsX2_signOf) B.pre) hJ hq rfl (fun r pc ls hz er hd => ?_) _ hl
  exact W.zret B.exec B.bytes B.returns hz (fun t ht hW => ⟨r, rfl, er, ht⟩) (fun _ h => by cases h) hd B.notSynchronized
end
