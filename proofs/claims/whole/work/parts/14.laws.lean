def f_X2_nthOf_j27 (v2 : Int32) (r_4 : Int32 → Int32 → Int32) (v3 : Int32) : Int32 :=
  r_4 v3 (v2 + (1 : Int32))
theorem e_X2_nthOf_j27 {v2 : Int32} {r_4 : Int32 → Int32 → Int32} {v3 : Int32} : f_X2_nthOf_j27 v2 r_4 v3 = r_4 v3 (v2 + (1 : Int32)) := rfl
def f_X2_nthOf_l4 (p0 : Int32) : Nat → Int32 → Int32 → Int32
  | 0, _, _ => default
  | fu + 1, v1, v2 =>
    (if (12 : Int32) ≤ v2 then (-1 : Int32) else (if ((ishr p0 v2) &&& (1 : Int32)) = 0 then f_X2_nthOf_j27 v2 (f_X2_nthOf_l4 p0 fu) v1 else (if v1 = 0 then v2 else f_X2_nthOf_j27 v2 (f_X2_nthOf_l4 p0 fu) (v1 + (-1 : Int32)))))
theorem e_X2_nthOf_l4 {fu : Nat} {p0 : Int32} {v1 : Int32} {v2 : Int32} : f_X2_nthOf_l4 p0 (fu + 1) v1 v2 = (if (12 : Int32) ≤ v2 then (-1 : Int32) else (if ((ishr p0 v2) &&& (1 : Int32)) = 0 then f_X2_nthOf_j27 v2 (f_X2_nthOf_l4 p0 fu) v1 else (if v1 = 0 then v2 else f_X2_nthOf_j27 v2 (f_X2_nthOf_l4 p0 fu) (v1 + (-1 : Int32))))) := rfl
def f_X2_nthOf (p0 : Int32) (p1 : Int32) : Int32 :=
  f_X2_nthOf_l4 p0 (13) p1 (0 : Int32)
theorem e_X2_nthOf {p0 : Int32} {p1 : Int32} : f_X2_nthOf p0 p1 = f_X2_nthOf_l4 p0 (13) p1 (0 : Int32) := rfl
section
variable {p : Program} {l : Launch} {e : Env} {s : State} {m : MethodId} {args : Array Value} {below : List Frame} {meth : Method} {c : Code} {Q : State → Prop} {H : Heap} {locs : List Loc} {dC : Nat → ClassId} {dI : Nat → Nat → Nat} {cI cJ : ClassId}
abbrev rm_X2_nthOf : Room := { frames := 0, cells := 0, slots := 0, locals := 0 }
theorem hd_X2_nthOf : yX2_nthOf.cls ≠ "java/lang/invoke/MethodHandle" ∧ yX2_nthOf.cls ≠ "java/lang/invoke/VarHandle" ∧ (parseMethodDescriptor yX2_nthOf.desc).map (fun d => d.parameters.length) = some 2 := by decide +kernel
set_option maxHeartbeats 4000000 in
set_option maxRecDepth 100000 in
theorem w_X2_nthOf {p0 : Int32} {p1 : Int32} {F : Int32} (hx : p.tables.exec = Jvm.exec) (hb : c.code = cX2_nthOf) (hml : c.maxLocals = 4) (hown : s.vm.findClass RX2 = some m.cls) (hts : ∀ w ∈ wsX2_nthOf, w.before args s = true) (hK : va_K (dC, dI) vwCl [(cI, .int), (cJ, .long)] s) (hP : va_P (dC, dI) vwCl [] H) (hR : F = f_X2_nthOf p0 p1) (kR : ∀ (r : Int32) (pc : Nat) (ls : Array Slot), r = F → decode cX2_nthOf pc = .ok (.ireturn, 1) → W p l e rm_X2_nthOf s m args below meth c H locs 0 0 Q (F0 m pc ls [.int r])) (ls : Array Slot) (hl : lv_has ls 4 [(0, .int p0), (1, .int p1)]) : W p l e rm_X2_nthOf s m args below meth c H locs 0 0 Q (F0 m 0 ls []) := by
  have hR := hR.trans e_X2_nthOf
  refine lv_iload_n hx hb dX2_nthOf_0 rfl (lv_at hl 1 rfl) ?_
  refine lv_istore_n (lv' := [(2, .int p1), (0, .int p0), (1, .int p1)]) hx hb dX2_nthOf_1 rfl hl (by decide) rfl (fun ls hl => ?_)
  refine lv_iconst (v := (0 : Int32)) hx hb dX2_nthOf_2 (by decide) ?_
  refine lv_istore_n (lv' := [(3, .int (0 : Int32)), (2, .int p1), (0, .int p0), (1, .int p1)]) hx hb dX2_nthOf_3 rfl hl (by decide) rfl (fun ls hl => ?_)
  have L4 : ∀ (fu4 : Nat) (v1 : Int32) (v2 : Int32), ∀ (ls : Array Slot), lv_has ls 4 [(0, .int p0), (2, .int v1), (3, .int v2)] → ((12 : Int32).toInt - v2.toInt).toNat < fu4 → F = f_X2_nthOf_l4 p0 fu4 v1 v2 → W p l e rm_X2_nthOf s m args below meth c H locs 0 0 Q (F0 m 4 ls []) := by
    intro fu4
    induction fu4 with
    | zero => intro v1 v2 ls hl hm; exact absurd hm (Nat.not_lt_zero _)
    | succ fu4 ih4 =>
      intro v1 v2 ls hl hm4 hR
      have hR := hR.trans e_X2_nthOf_l4
      refine lv_iload_n hx hb dX2_nthOf_4 rfl (lv_at hl 2 rfl) ?_
      refine lv_bipush (v := (12 : Int32)) hx hb dX2_nthOf_5 (by decide) ?_
      refine lv_icmp_ge (tgt := 33) hx hb dX2_nthOf_7 (by decide) (fun c_1 => ?_) (fun c_1 => ?_)
      · have hR := hR.trans (if_pos c_1)
        refine lv_iconst (v := (-1 : Int32)) hx hb dX2_nthOf_33 (by decide +kernel) ?_
        exact kR (-1 : Int32) 34 ls hR.symm dX2_nthOf_34
      · have hR := hR.trans (if_neg c_1)
        refine lv_iload_n hx hb dX2_nthOf_10 rfl (lv_at hl 0 rfl) ?_
        refine lv_iload_n hx hb dX2_nthOf_11 rfl (lv_at hl 2 rfl) ?_
        refine w_ishr hx hb dX2_nthOf_12 ?_
        refine lv_iconst (v := (1 : Int32)) hx hb dX2_nthOf_13 (by decide) ?_
        refine lv_iand hx hb dX2_nthOf_14 ?_
        have J27 : ∀ (v3 : Int32) (ls : Array Slot), lv_has ls 4 [(0, .int p0), (2, .int v3), (3, .int v2)] → F = f_X2_nthOf_j27 v2 (f_X2_nthOf_l4 p0 fu4) v3 → W p l e rm_X2_nthOf s m args below meth c H locs 0 0 Q (F0 m 27 ls []) := by
          intro v3 ls hl hR
          have hR := hR.trans e_X2_nthOf_j27
          refine lv_iinc (v := (v2 + (1 : Int32))) (lv' := [(3, .int (v2 + (1 : Int32))), (0, .int p0), (2, .int v3)]) hx hb dX2_nthOf_27 hl (k := 2) rfl rfl (by decide) rfl (fun ls hl => ?_)
          refine lv_goto (tgt := 4) hx hb dX2_nthOf_30 (by decide) ?_
          exact ih4 v3 (v2 + (1 : Int32)) ls (lv_sub hl [1, 2, 0] rfl) (Nat.lt_of_lt_of_le (lp_up (by assumption)) (Nat.le_of_lt_succ hm4)) hR
        refine lv_if_eq (tgt := 27) hx hb dX2_nthOf_15 (by decide) (fun c_2 => ?_) (fun c_2 => ?_)
        · have hR := hR.trans (if_pos c_2)
          exact J27 v1 ls (lv_sub hl [0, 1, 2] rfl) hR
        · have hR := hR.trans (if_neg c_2)
          refine lv_iload_n hx hb dX2_nthOf_18 rfl (lv_at hl 1 rfl) ?_
          refine lv_if_ne (tgt := 24) hx hb dX2_nthOf_19 (by decide) (fun c_3 => ?_) (fun c_3 => ?_)
          · have hR := hR.trans (if_neg c_3)
            refine lv_iinc (v := (v1 + (-1 : Int32))) (lv' := [(2, .int (v1 + (-1 : Int32))), (0, .int p0), (3, .int v2)]) hx hb dX2_nthOf_24 hl (k := 1) rfl rfl (by decide) rfl (fun ls hl => ?_)
            exact J27 (v1 + (-1 : Int32)) ls (lv_sub hl [1, 0, 2] rfl) hR
          · have hR := hR.trans (if_pos c_3)
            refine lv_iload_n hx hb dX2_nthOf_22 rfl (lv_at hl 2 rfl) ?_
            exact kR v2 23 ls hR.symm dX2_nthOf_23
  exact L4 (13) p1 (0 : Int32) ls (lv_sub hl [2, 1, 0] rfl) (by decide +kernel) hR
set_option maxHeartbeats 4000000 in
set_option maxRecDepth 100000 in
theorem m_X2_nthOf (l : Launch) (dC : Nat → ClassId) (dI : Nat → Nat → Nat) (cI cJ : ClassId) (p0 : Int32) (p1 : Int32) : Met l yX2_nthOf wsX2_nthOf rm_X2_nthOf (va_Pc [.int p0, .int p1] (fun U => va_P (dC, dI) vwCl [] U.heap ∧ va_K (dC, dI) vwCl [(cI, .int), (cJ, .long)] U)) (vp_Si (fun r => r = f_X2_nthOf p0 p1)) 0 0 (fun _ => False) := by
  refine Met.ofW (cc := cX2_nthOf) (maxL := 4) (ret := (some .int)) (by decide) rfl ?_
  intro p e s m args below meth c s₁ B hml hv
  obtain ⟨rfl, hP, hK⟩ := hv
  have hl := lv_entry ([.int p0, .int p1]) (n := 4) (Nat.le_of_ble_eq_true rfl)
  rw [lg_entry_eq]
  refine w_X2_nthOf B.exec B.bytes hml (findClass_of_methodNamed B.named) (atoms_spec (ws := wsX2_nthOf) B.pre) hK hP rfl (fun r pc ls er hd => ?_) _ hl
  exact W.iret B.exec B.bytes B.returns (fun t ht hW => ⟨r, rfl, er, ht⟩) (fun _ h => by cases h) hd B.notSynchronized
end
def f_X2_weightOf (wv : Nat → Int32) (p0 : Int32) : Int32 :=
  (if p0 < 0 then (0 : Int32) else (if (12 : Int32) ≤ p0 then (0 : Int32) else (wv p0.toNatClampNeg)))
theorem e_X2_weightOf {wv : Nat → Int32} {p0 : Int32} : f_X2_weightOf wv p0 = (if p0 < 0 then (0 : Int32) else (if (12 : Int32) ≤ p0 then (0 : Int32) else (wv p0.toNatClampNeg))) := rfl
section
variable {p : Program} {l : Launch} {e : Env} {s : State} {m : MethodId} {args : Array Value} {below : List Frame} {meth : Method} {c : Code} {Q : State → Prop} {H : Heap} {locs : List Loc} {dC : Nat → ClassId} {dI : Nat → Nat → Nat} {cI cJ : ClassId}
abbrev rm_X2_weightOf : Room := { frames := 0, cells := 0, slots := 0, locals := 0 }
theorem hd_X2_weightOf : yX2_weightOf.cls = RX2 ∧ yX2_weightOf.cls ≠ "java/lang/invoke/MethodHandle" ∧ yX2_weightOf.cls ≠ "java/lang/invoke/VarHandle" ∧ (parseMethodDescriptor yX2_weightOf.desc).map (fun d => d.parameters.length) = some 1 := by decide +kernel
set_option maxHeartbeats 4000000 in
set_option maxRecDepth 100000 in
theorem w_X2_weightOf {aW : Nat} {aX : Nat} {wn : Int32} {wv : Nat → Int32} {p0 : Int32} {F : Int32} (hx : p.tables.exec = Jvm.exec) (hb : c.code = cX2_weightOf) (hml : c.maxLocals = 2) (hown : s.vm.findClass RX2 = some m.cls) (hts : ∀ w ∈ wsX2_weightOf, w.before args s = true) (hK : va_K (dC, dI) vwCl [(cI, .int), (cJ, .long)] s) (hP : va_P (dC, dI) vwCl [(aW, .inr (3, [.ref aX, .int wn])), (aX, .inl (cI, 12, .inl wv))] H) (hR : F = f_X2_weightOf wv p0) (kR : ∀ (r : Int32) (pc : Nat) (ls : Array Slot), r = F → decode cX2_weightOf pc = .ok (.ireturn, 1) → W p l e rm_X2_weightOf s m args below meth c H locs 0 0 Q (F0 m pc ls [.int r])) (ls : Array Slot) (hl : lv_has ls 2 [(0, .ref aW), (1, .int p0)]) : W p l e rm_X2_weightOf s m args below meth c H locs 0 0 Q (F0 m 0 ls []) := by
  have hR := hR.trans e_X2_weightOf
  refine lv_iload_n hx hb dX2_weightOf_0 rfl (lv_at hl 1 rfl) ?_
  refine lv_if_lt (tgt := 22) hx hb dX2_weightOf_1 (by decide) (fun c_1 => ?_) (fun c_1 => ?_)
  · have hR := hR.trans (if_pos c_1)
    refine lv_iconst (v := (0 : Int32)) hx hb dX2_weightOf_22 (by decide) ?_
    exact kR (0 : Int32) 23 ls hR.symm dX2_weightOf_23
  · have hR := hR.trans (if_neg c_1)
    refine lv_iload_n hx hb dX2_weightOf_4 rfl (lv_at hl 1 rfl) ?_
    refine lv_aload_n hx hb dX2_weightOf_5 rfl (lv_at hl 0 rfl) ?_
    refine va_get (D := (dC, dI)) (ci := 3) (v := .ref aX) (C := RX2) (T := TX2) (N := 2) hx hb hts inC_X2 hown hK hP 0 rfl rfl 0 (by decide) (hts (.fieldLink RX2 9 "Counterpointery$Laws" "weights" "[I") (List.mem_cons_of_mem _ wm_72)) (fun _ h9 => h9) rfl dX2_weightOf_6 ?_
    refine va_alen (D := (dC, dI)) (v := (12 : Int32)) hx hb hK hP 1 0 rfl rfl rfl dX2_weightOf_9 ?_
    refine lv_icmp_ge (tgt := 22) hx hb dX2_weightOf_10 (by decide) (fun c_2 => ?_) (fun c_2 => ?_)
    · have hR := hR.trans (if_pos c_2)
      refine lv_iconst (v := (0 : Int32)) hx hb dX2_weightOf_22 (by decide) ?_
      exact kR (0 : Int32) 23 ls hR.symm dX2_weightOf_23
    · have hR := hR.trans (if_neg c_2)
      refine lv_aload_n hx hb dX2_weightOf_13 rfl (lv_at hl 0 rfl) ?_
      refine va_get (D := (dC, dI)) (ci := 3) (v := .ref aX) (C := RX2) (T := TX2) (N := 2) hx hb hts inC_X2 hown hK hP 0 rfl rfl 0 (by decide) (hts (.fieldLink RX2 9 "Counterpointery$Laws" "weights" "[I") (List.mem_cons_of_mem _ wm_72)) (fun _ h9 => h9) rfl dX2_weightOf_14 ?_
      refine lv_iload_n hx hb dX2_weightOf_17 rfl (lv_at hl 1 rfl) ?_
      refine va_iald (D := (dC, dI)) hx hb hK hP 1 0 rfl rfl (by first | exact vi_a (N := (12 : Int32)) (by assumption) (by assumption) rfl | exact vi_b (N := (12 : Int32)) (by assumption) (by assumption) rfl | exact vi_c (N := (12 : Int32)) (by assumption) (by assumption) rfl) dX2_weightOf_18 ?_
      refine lv_goto (tgt := 23) hx hb dX2_weightOf_19 (by decide) ?_
      exact kR (wv p0.toNatClampNeg) 23 ls hR.symm dX2_weightOf_23
set_option maxHeartbeats 4000000 in
set_option maxRecDepth 100000 in
theorem m_X2_weightOf (l : Launch) (dC : Nat → ClassId) (dI : Nat → Nat → Nat) (cI cJ : ClassId) (aW : Nat) (aX : Nat) (wn : Int32) (wv : Nat → Int32) (p0 : Int32) : Met l yX2_weightOf wsX2_weightOf rm_X2_weightOf (va_Pc [.ref aW, .int p0] (fun U => va_P (dC, dI) vwCl [(aW, .inr (3, [.ref aX, .int wn])), (aX, .inl (cI, 12, .inl wv))] U.heap ∧ va_K (dC, dI) vwCl [(cI, .int), (cJ, .long)] U)) (vp_Si (fun r => r = f_X2_weightOf wv p0)) 0 0 (fun _ => False) := by
  refine Met.ofW (cc := cX2_weightOf) (maxL := 2) (ret := (some .int)) (by decide) rfl ?_
  intro p e s m args below meth c s₁ B hml hv
  obtain ⟨rfl, hP, hK⟩ := hv
  have hl := lv_entry ([.ref aW, .int p0]) (n := 2) (Nat.le_of_ble_eq_true rfl)
  rw [lg_entry_eq]
  refine w_X2_weightOf B.exec B.bytes hml (findClass_of_methodNamed B.named) (atoms_spec (ws := wsX2_weightOf) B.pre) hK hP rfl (fun r pc ls er hd => ?_) _ hl
  exact W.iret B.exec B.bytes B.returns (fun t ht hW => ⟨r, rfl, er, ht⟩) (fun _ h => by cases h) hd B.notSynchronized
end
def f_X2_changes (wn : Int32) : Int32 :=
  wn
theorem e_X2_changes {wn : Int32} : f_X2_changes wn = wn := rfl
section
variable {p : Program} {l : Launch} {e : Env} {s : State} {m : MethodId} {args : Array Value} {below : List Frame} {meth : Method} {c : Code} {Q : State → Prop} {H : Heap} {locs : List Loc} {dC : Nat → ClassId} {dI : Nat → Nat → Nat} {cI cJ : ClassId}
abbrev rm_X2_changes : Room := { frames := 0, cells := 0, slots := 0, locals := 0 }
theorem hd_X2_changes : yX2_changes.cls = RX2 ∧ yX2_changes.cls ≠ "java/lang/invoke/MethodHandle" ∧ yX2_changes.cls ≠ "java/lang/invoke/VarHandle" ∧ (parseMethodDescriptor yX2_changes.desc).map (fun d => d.parameters.length) = some 0 := by decide +kernel
set_option maxHeartbeats 4000000 in
set_option maxRecDepth 100000 in
theorem w_X2_changes {aW : Nat} {aX : Nat} {wn : Int32} {wv : Nat → Int32} {F : Int32} (hx : p.tables.exec = Jvm.exec) (hb : c.code = cX2_changes) (hml : c.maxLocals = 1) (hown : s.vm.findClass RX2 = some m.cls) (hts : ∀ w ∈ wsX2_changes, w.before args s = true) (hK : va_K (dC, dI) vwCl [(cI, .int), (cJ, .long)] s) (hP : va_P (dC, dI) vwCl [(aW, .inr (3, [.ref aX, .int wn])), (aX, .inl (cI, 12, .inl wv))] H) (hR : F = f_X2_changes wn) (kR : ∀ (r : Int32) (pc : Nat) (ls : Array Slot), r = F → decode cX2_changes pc = .ok (.ireturn, 1) → W p l e rm_X2_changes s m args below meth c H locs 0 0 Q (F0 m pc ls [.int r])) (ls : Array Slot) (hl : lv_has ls 1 [(0, .ref aW)]) : W p l e rm_X2_changes s m args below meth c H locs 0 0 Q (F0 m 0 ls []) := by
  have hR := hR.trans e_X2_changes
  refine lv_aload_n hx hb dX2_changes_0 rfl (lv_at hl 0 rfl) ?_
  refine va_get (D := (dC, dI)) (ci := 3) (v := .int wn) (C := RX2) (T := TX2) (N := 2) hx hb hts inC_X2 hown hK hP 0 rfl rfl 1 (by decide) (hts (.fieldLink RX2 34 "Counterpointery$Laws" "changes" "I") (List.mem_cons_of_mem _ wm_127)) (fun _ h9 => h9) rfl dX2_changes_1 ?_
  exact kR wn 4 ls hR.symm dX2_changes_4
set_option maxHeartbeats 4000000 in
set_option maxRecDepth 100000 in
theorem m_X2_changes (l : Launch) (dC : Nat → ClassId) (dI : Nat → Nat → Nat) (cI cJ : ClassId) (aW : Nat) (aX : Nat) (wn : Int32) (wv : Nat → Int32) : Met l yX2_changes wsX2_changes rm_X2_changes (va_Pc [.ref aW] (fun U => va_P (dC, dI) vwCl [(aW, .inr (3, [.ref aX, .int wn])), (aX, .inl (cI, 12, .inl wv))] U.heap ∧ va_K (dC, dI) vwCl [(cI, .int), (cJ, .long)] U)) (vp_Si (fun r => r = f_X2_changes wn)) 0 0 (fun _ => False) := by
  refine Met.ofW (cc := cX2_changes) (maxL := 1) (ret := (some .int)) (by decide) rfl ?_
  intro p e s m args below meth c s₁ B hml hv
  obtain ⟨rfl, hP, hK⟩ := hv
  have hl := lv_entry ([.ref aW]) (n := 1) (Nat.le_of_ble_eq_true rfl)
  rw [lg_entry_eq]
  refine w_X2_changes B.exec B.bytes hml (findClass_of_methodNamed B.named) (atoms_spec (ws := wsX2_changes) B.pre) hK hP rfl (fun r pc ls er hd => ?_) _ hl
  exact W.iret B.exec B.bytes B.returns (fun t ht hW => ⟨r, rfl, er, ht⟩) (fun _ h => by cases h) hd B.notSynchronized
end
def f_X2_weighing_j25 (v2 : Int32) (r_4 : Int32 → Int32 → Int32) (v3 : Int32) : Int32 :=
  r_4 v3 (v2 + (1 : Int32))
theorem e_X2_weighing_j25 {v2 : Int32} {r_4 : Int32 → Int32 → Int32} {v3 : Int32} : f_X2_weighing_j25 v2 r_4 v3 = r_4 v3 (v2 + (1 : Int32)) := rfl
def f_X2_weighing_l4 (wv : Nat → Int32) (p0 : Int32) : Nat → Int32 → Int32 → Int32
  | 0, _, _ => default
  | fu + 1, v1, v2 =>
    (if (12 : Int32) ≤ v2 then v1 else (if (f_X2_weightOf wv v2) < p0 then f_X2_weighing_j25 v2 (f_X2_weighing_l4 wv p0 fu) v1 else f_X2_weighing_j25 v2 (f_X2_weighing_l4 wv p0 fu) (v1 ||| (ishl (1 : Int32) v2))))
theorem e_X2_weighing_l4 {fu : Nat} {wv : Nat → Int32} {p0 : Int32} {v1 : Int32} {v2 : Int32} : f_X2_weighing_l4 wv p0 (fu + 1) v1 v2 = (if (12 : Int32) ≤ v2 then v1 else (if (f_X2_weightOf wv v2) < p0 then f_X2_weighing_j25 v2 (f_X2_weighing_l4 wv p0 fu) v1 else f_X2_weighing_j25 v2 (f_X2_weighing_l4 wv p0 fu) (v1 ||| (ishl (1 : Int32) v2)))) := rfl
def f_X2_weighing (wv : Nat → Int32) (p0 : Int32) : Int32 :=
  f_X2_weighing_l4 wv p0 (13) (0 : Int32) (0 : Int32)
theorem e_X2_weighing {wv : Nat → Int32} {p0 : Int32} : f_X2_weighing wv p0 = f_X2_weighing_l4 wv p0 (13) (0 : Int32) (0 : Int32) := rfl
section
variable {p : Program} {l : Launch} {e : Env} {s : State} {m : MethodId} {args : Array Value} {below : List Frame} {meth : Method} {c : Code} {Q : State → Prop} {H : Heap} {locs : List Loc} {dC : Nat → ClassId} {dI : Nat → Nat → Nat} {cI cJ : ClassId}
abbrev rm_X2_weighing : Room := { frames := 1, cells := 0, slots := 0, locals := 21 }
theorem hd_X2_weighing : yX2_weighing.cls = RX2 ∧ yX2_weighing.cls ≠ "java/lang/invoke/MethodHandle" ∧ yX2_weighing.cls ≠ "java/lang/invoke/VarHandle" ∧ (parseMethodDescriptor yX2_weighing.desc).map (fun d => d.parameters.length) = some 1 := by decide +kernel
set_option maxHeartbeats 4000000 in
set_option maxRecDepth 100000 in
theorem w_X2_weighing {aW : Nat} {aX : Nat} {wn : Int32} {wv : Nat → Int32} {p0 : Int32} {F : Int32} (hx : p.tables.exec = Jvm.exec) (hb : c.code = cX2_weighing) (hml : c.maxLocals = 4) (hown : s.vm.findClass RX2 = some m.cls) (hts : ∀ w ∈ wsX2_weighing, w.before args s = true) (hK : va_K (dC, dI) vwCl [(cI, .int), (cJ, .long)] s) (hP : va_P (dC, dI) vwCl [(aW, .inr (3, [.ref aX, .int wn])), (aX, .inl (cI, 12, .inl wv))] H) (hR : F = f_X2_weighing wv p0) (kR : ∀ (r : Int32) (pc : Nat) (ls : Array Slot), r = F → decode cX2_weighing pc = .ok (.ireturn, 1) → W p l e rm_X2_weighing s m args below meth c H locs 0 0 Q (F0 m pc ls [.int r])) (ls : Array Slot) (hl : lv_has ls 4 [(0, .ref aW), (1, .int p0)]) : W p l e rm_X2_weighing s m args below meth c H locs 0 0 Q (F0 m 0 ls []) := by
  have hR := hR.trans e_X2_weighing
  refine lv_iconst (v := (0 : Int32)) hx hb dX2_weighing_0 (by decide) ?_
  refine lv_istore_n (lv' := [(2, .int (0 : Int32)), (0, .ref aW), (1, .int p0)]) hx hb dX2_weighing_1 rfl hl (by decide) rfl (fun ls hl => ?_)
  refine lv_iconst (v := (0 : Int32)) hx hb dX2_weighing_2 (by decide) ?_
  refine lv_istore_n (lv' := [(3, .int (0 : Int32)), (2, .int (0 : Int32)), (0, .ref aW), (1, .int p0)]) hx hb dX2_weighing_3 rfl hl (by decide) rfl (fun ls hl => ?_)
  have L4 : ∀ (fu4 : Nat) (v1 : Int32) (v2 : Int32), ∀ (ls : Array Slot), lv_has ls 4 [(0, .ref aW), (1, .int p0), (2, .int v1), (3, .int v2)] → ((12 : Int32).toInt - v2.toInt).toNat < fu4 → F = f_X2_weighing_l4 wv p0 fu4 v1 v2 → W p l e rm_X2_weighing s m args below meth c H locs 0 0 Q (F0 m 4 ls []) := by
    intro fu4
    induction fu4 with
    | zero => intro v1 v2 ls hl hm; exact absurd hm (Nat.not_lt_zero _)
    | succ fu4 ih4 =>
      intro v1 v2 ls hl hm4 hR
      have hR := hR.trans e_X2_weighing_l4
      refine lv_iload_n hx hb dX2_weighing_4 rfl (lv_at hl 3 rfl) ?_
      refine lv_bipush (v := (12 : Int32)) hx hb dX2_weighing_5 (by decide) ?_
      refine lv_icmp_ge (tgt := 31) hx hb dX2_weighing_7 (by decide) (fun c_1 => ?_) (fun c_1 => ?_)
      · have hR := hR.trans (if_pos c_1)
        refine lv_iload_n hx hb dX2_weighing_31 rfl (lv_at hl 2 rfl) ?_
        exact kR v1 32 ls hR.symm dX2_weighing_32
      · have hR := hR.trans (if_neg c_1)
        refine lv_aload_n hx hb dX2_weighing_10 rfl (lv_at hl 0 rfl) ?_
        refine lv_iload_n hx hb dX2_weighing_11 rfl (lv_at hl 3 rfl) ?_
        refine rV_i (q0 := 0) (As := [.int v2]) (rest := []) ⟨hx, hb, hml, hown, hts⟩ (m_X2_weightOf l dC dI cI cJ aW aX wn wv v2) (cwV 1 hts (gi_V wm_128 wm_129 wm_130 wm_131 wm_132) rfl rfl rfl hd_X2_weightOf ⟨Nat.le_of_ble_eq_true rfl, Nat.le_of_ble_eq_true rfl⟩) hK (hP.sub [0, 1] rfl) rfl rfl rfl hl.1 rfl (Nat.le_of_ble_eq_true rfl) dX2_weighing_12 ⟨Nat.zero_le _, Nat.zero_le _⟩ ?_
        refine lv_iload_n hx hb dX2_weighing_15 rfl (lv_at hl 1 rfl) ?_
        have J25 : ∀ (v3 : Int32) (ls : Array Slot), lv_has ls 4 [(0, .ref aW), (1, .int p0), (2, .int v3), (3, .int v2)] → F = f_X2_weighing_j25 v2 (f_X2_weighing_l4 wv p0 fu4) v3 → W p l e rm_X2_weighing s m args below meth c H locs 0 0 Q (F0 m 25 ls []) := by
          intro v3 ls hl hR
          have hR := hR.trans e_X2_weighing_j25
          refine lv_iinc (v := (v2 + (1 : Int32))) (lv' := [(3, .int (v2 + (1 : Int32))), (0, .ref aW), (1, .int p0), (2, .int v3)]) hx hb dX2_weighing_25 hl (k := 3) rfl rfl (by decide) rfl (fun ls hl => ?_)
          refine lv_goto (tgt := 4) hx hb dX2_weighing_28 (by decide) ?_
          exact ih4 v3 (v2 + (1 : Int32)) ls (lv_sub hl [1, 2, 3, 0] rfl) (Nat.lt_of_lt_of_le (lp_up (by assumption)) (Nat.le_of_lt_succ hm4)) hR
        refine lv_icmp_lt (tgt := 25) hx hb dX2_weighing_16 (by decide) (fun c_2 => ?_) (fun c_2 => ?_)
        · have hR := hR.trans (if_pos c_2)
          exact J25 v1 ls (lv_sub hl [0, 1, 2, 3] rfl) hR
        · have hR := hR.trans (if_neg c_2)
          refine lv_iload_n hx hb dX2_weighing_19 rfl (lv_at hl 2 rfl) ?_
          refine lv_iconst (v := (1 : Int32)) hx hb dX2_weighing_20 (by decide) ?_
          refine lv_iload_n hx hb dX2_weighing_21 rfl (lv_at hl 3 rfl) ?_
          refine w_ishl hx hb dX2_weighing_22 ?_
          refine lv_ior hx hb dX2_weighing_23 ?_
          refine lv_istore_n (lv' := [(2, .int (v1 ||| (ishl (1 : Int32) v2))), (0, .ref aW), (1, .int p0), (3, .int v2)]) hx hb dX2_weighing_24 rfl hl (by decide) rfl (fun ls hl => ?_)
          exact J25 (v1 ||| (ishl (1 : Int32) v2)) ls (lv_sub hl [1, 2, 0, 3] rfl) hR
  exact L4 (13) (0 : Int32) (0 : Int32) ls (lv_sub hl [2, 3, 1, 0] rfl) (by decide +kernel) hR
set_option maxHeartbeats 4000000 in
set_option maxRecDepth 100000 in
theorem m_X2_weighing (l : Launch) (dC : Nat → ClassId) (dI : Nat → Nat → Nat) (cI cJ : ClassId) (aW : Nat) (aX : Nat) (wn : Int32) (wv : Nat → Int32) (p0 : Int32) : Met l yX2_weighing wsX2_weighing rm_X2_weighing (va_Pc [.ref aW, .int p0] (fun U => va_P (dC, dI) vwCl [(aW, .inr (3, [.ref aX, .int wn])), (aX, .inl (cI, 12, .inl wv))] U.heap ∧ va_K (dC, dI) vwCl [(cI, .int), (cJ, .long)] U)) (vp_Si (fun r => r = f_X2_weighing wv p0)) 0 0 (fun _ => False) := by
  refine Met.ofW (cc := cX2_weighing) (maxL := 4) (ret := (some .int)) (by decide) rfl ?_
  intro p e s m args below meth c s₁ B hml hv
  obtain ⟨rfl, hP, hK⟩ := hv
  have hl := lv_entry ([.ref aW, .int p0]) (n := 4) (Nat.le_of_ble_eq_true rfl)
  rw [lg_entry_eq]
  refine w_X2_weighing B.exec B.bytes hml (findClass_of_methodNamed B.named) (atoms_spec (ws := wsX2_weighing) B.pre) hK hP rfl (fun r pc ls er hd => ?_) _ hl
  exact W.iret B.exec B.bytes B.returns (fun t ht hW => ⟨r, rfl, er, ht⟩) (fun _ h => by cases h) hd B.notSynchronized
end
def f_X2_costOf_j32 (v2 : Int32) (r_4 : Int32 → Int32 → Int32) (v3 : Int32) : Int32 :=
  r_4 v3 (v2 + (1 : Int32))
theorem e_X2_costOf_j32 {v2 : Int32} {r_4 : Int32 → Int32 → Int32} {v3 : Int32} : f_X2_costOf_j32 v2 r_4 v3 = r_4 v3 (v2 + (1 : Int32)) := rfl
def f_X2_costOf_l4 (wv : Nat → Int32) (p0 : Int32) : Nat → Int32 → Int32 → Int32
  | 0, _, _ => default
  | fu + 1, v1, v2 =>
    (if (12 : Int32) ≤ v2 then v1 else (if (ishr p0 v2) = 0 then v1 else (if ((ishr p0 v2) &&& (1 : Int32)) = 0 then f_X2_costOf_j32 v2 (f_X2_costOf_l4 wv p0 fu) v1 else f_X2_costOf_j32 v2 (f_X2_costOf_l4 wv p0 fu) (v1 + (f_X2_weightOf wv v2)))))
theorem e_X2_costOf_l4 {fu : Nat} {wv : Nat → Int32} {p0 : Int32} {v1 : Int32} {v2 : Int32} : f_X2_costOf_l4 wv p0 (fu + 1) v1 v2 = (if (12 : Int32) ≤ v2 then v1 else (if (ishr p0 v2) = 0 then v1 else (if ((ishr p0 v2) &&& (1 : Int32)) = 0 then f_X2_costOf_j32 v2 (f_X2_costOf_l4 wv p0 fu) v1 else f_X2_costOf_j32 v2 (f_X2_costOf_l4 wv p0 fu) (v1 + (f_X2_weightOf wv v2))))) := rfl
def f_X2_costOf (wv : Nat → Int32) (p0 : Int32) : Int32 :=
  f_X2_costOf_l4 wv p0 (13) (0 : Int32) (0 : Int32)
theorem e_X2_costOf {wv : Nat → Int32} {p0 : Int32} : f_X2_costOf wv p0 = f_X2_costOf_l4 wv p0 (13) (0 : Int32) (0 : Int32) := rfl
section
variable {p : Program} {l : Launch} {e : Env} {s : State} {m : MethodId} {args : Array Value} {below : List Frame} {meth : Method} {c : Code} {Q : State → Prop} {H : Heap} {locs : List Loc} {dC : Nat → ClassId} {dI : Nat → Nat → Nat} {cI cJ : ClassId}
abbrev rm_X2_costOf : Room := { frames := 1, cells := 0, slots := 0, locals := 21 }
theorem hd_X2_costOf : yX2_costOf.cls = RX2 ∧ yX2_costOf.cls ≠ "java/lang/invoke/MethodHandle" ∧ yX2_costOf.cls ≠ "java/lang/invoke/VarHandle" ∧ (parseMethodDescriptor yX2_costOf.desc).map (fun d => d.parameters.length) = some 1 := by decide +kernel
set_option maxHeartbeats 4000000 in
set_option maxRecDepth 100000 in
theorem w_X2_costOf {aW : Nat} {aX : Nat} {wn : Int32} {wv : Nat → Int32} {p0 : Int32} {F : Int32} (hx : p.tables.exec = Jvm.exec) (hb : c.code = cX2_costOf) (hml : c.maxLocals = 4) (hown : s.vm.findClass RX2 = some m.cls) (hts : ∀ w ∈ wsX2_costOf, w.before args s = true) (hK : va_K (dC, dI) vwCl [(cI, .int), (cJ, .long)] s) (hP : va_P (dC, dI) vwCl [(aW, .inr (3, [.ref aX, .int wn])), (aX, .inl (cI, 12, .inl wv))] H) (hR : F = f_X2_costOf wv p0) (kR : ∀ (r : Int32) (pc : Nat) (ls : Array Slot), r = F → decode cX2_costOf pc = .ok (.ireturn, 1) → W p l e rm_X2_costOf s m args below meth c H locs 0 0 Q (F0 m pc ls [.int r])) (ls : Array Slot) (hl : lv_has ls 4 [(0, .ref aW), (1, .int p0)]) : W p l e rm_X2_costOf s m args below meth c H locs 0 0 Q (F0 m 0 ls []) := by
  have hR := hR.trans e_X2_costOf
  refine lv_iconst (v := (0 : Int32)) hx hb dX2_costOf_0 (by decide) ?_
  refine lv_istore_n (lv' := [(2, .int (0 : Int32)), (0, .ref aW), (1, .int p0)]) hx hb dX2_costOf_1 rfl hl (by decide) rfl (fun ls hl => ?_)
  refine lv_iconst (v := (0 : Int32)) hx hb dX2_costOf_2 (by decide) ?_
  refine lv_istore_n (lv' := [(3, .int (0 : Int32)), (2, .int (0 : Int32)), (0, .ref aW), (1, .int p0)]) hx hb dX2_costOf_3 rfl hl (by decide) rfl (fun ls hl => ?_)
  have L4 : ∀ (fu4 : Nat) (v1 : Int32) (v2 : Int32), ∀ (ls : Array Slot), lv_has ls 4 [(0, .ref aW), (1, .int p0), (2, .int v1), (3, .int v2)] → ((12 : Int32).toInt - v2.toInt).toNat < fu4 → F = f_X2_costOf_l4 wv p0 fu4 v1 v2 → W p l e rm_X2_costOf s m args below meth c H locs 0 0 Q (F0 m 4 ls []) := by
    intro fu4
    induction fu4 with
    | zero => intro v1 v2 ls hl hm; exact absurd hm (Nat.not_lt_zero _)
    | succ fu4 ih4 =>
      intro v1 v2 ls hl hm4 hR
      have hR := hR.trans e_X2_costOf_l4
      refine lv_iload_n hx hb dX2_costOf_4 rfl (lv_at hl 3 rfl) ?_
      refine lv_bipush (v := (12 : Int32)) hx hb dX2_costOf_5 (by decide) ?_
      refine lv_icmp_ge (tgt := 38) hx hb dX2_costOf_7 (by decide) (fun c_1 => ?_) (fun c_1 => ?_)
      · have hR := hR.trans (if_pos c_1)
        refine lv_iload_n hx hb dX2_costOf_38 rfl (lv_at hl 2 rfl) ?_
        exact kR v1 39 ls hR.symm dX2_costOf_39
      · have hR := hR.trans (if_neg c_1)
        refine lv_iload_n hx hb dX2_costOf_10 rfl (lv_at hl 1 rfl) ?_
        refine lv_iload_n hx hb dX2_costOf_11 rfl (lv_at hl 3 rfl) ?_
        refine w_ishr hx hb dX2_costOf_12 ?_
        refine lv_if_eq (tgt := 38) hx hb dX2_costOf_13 (by decide) (fun c_2 => ?_) (fun c_2 => ?_)
        · have hR := hR.trans (if_pos c_2)
          refine lv_iload_n hx hb dX2_costOf_38 rfl (lv_at hl 2 rfl) ?_
          exact kR v1 39 ls hR.symm dX2_costOf_39
        · have hR := hR.trans (if_neg c_2)
          refine lv_iload_n hx hb dX2_costOf_16 rfl (lv_at hl 1 rfl) ?_
          refine lv_iload_n hx hb dX2_costOf_17 rfl (lv_at hl 3 rfl) ?_
          refine w_ishr hx hb dX2_costOf_18 ?_
          refine lv_iconst (v := (1 : Int32)) hx hb dX2_costOf_19 (by decide) ?_
          refine lv_iand hx hb dX2_costOf_20 ?_
          have J32 : ∀ (v3 : Int32) (ls : Array Slot), lv_has ls 4 [(0, .ref aW), (1, .int p0), (2, .int v3), (3, .int v2)] → F = f_X2_costOf_j32 v2 (f_X2_costOf_l4 wv p0 fu4) v3 → W p l e rm_X2_costOf s m args below meth c H locs 0 0 Q (F0 m 32 ls []) := by
            intro v3 ls hl hR
            have hR := hR.trans e_X2_costOf_j32
            refine lv_iinc (v := (v2 + (1 : Int32))) (lv' := [(3, .int (v2 + (1 : Int32))), (0, .ref aW), (1, .int p0), (2, .int v3)]) hx hb dX2_costOf_32 hl (k := 3) rfl rfl (by decide) rfl (fun ls hl => ?_)
            refine lv_goto (tgt := 4) hx hb dX2_costOf_35 (by decide) ?_
            exact ih4 v3 (v2 + (1 : Int32)) ls (lv_sub hl [1, 2, 3, 0] rfl) (Nat.lt_of_lt_of_le (lp_up (by assumption)) (Nat.le_of_lt_succ hm4)) hR
          refine lv_if_eq (tgt := 32) hx hb dX2_costOf_21 (by decide) (fun c_3 => ?_) (fun c_3 => ?_)
          · have hR := hR.trans (if_pos c_3)
            exact J32 v1 ls (lv_sub hl [0, 1, 2, 3] rfl) hR
          · have hR := hR.trans (if_neg c_3)
            refine lv_iload_n hx hb dX2_costOf_24 rfl (lv_at hl 2 rfl) ?_
            refine lv_aload_n hx hb dX2_costOf_25 rfl (lv_at hl 0 rfl) ?_
            refine lv_iload_n hx hb dX2_costOf_26 rfl (lv_at hl 3 rfl) ?_
            refine rV_i (q0 := 0) (As := [.int v2]) (rest := [.int v1]) ⟨hx, hb, hml, hown, hts⟩ (m_X2_weightOf l dC dI cI cJ aW aX wn wv v2) (cwV 1 hts (gi_V wm_128 wm_129 wm_130 wm_131 wm_132) rfl rfl rfl hd_X2_weightOf ⟨Nat.le_of_ble_eq_true rfl, Nat.le_of_ble_eq_true rfl⟩) hK (hP.sub [0, 1] rfl) rfl rfl rfl hl.1 rfl (Nat.le_of_ble_eq_true rfl) dX2_costOf_27 ⟨Nat.zero_le _, Nat.zero_le _⟩ ?_
            refine lv_iadd hx hb dX2_costOf_30 ?_
            refine lv_istore_n (lv' := [(2, .int (v1 + (f_X2_weightOf wv v2))), (0, .ref aW), (1, .int p0), (3, .int v2)]) hx hb dX2_costOf_31 rfl hl (by decide) rfl (fun ls hl => ?_)
            exact J32 (v1 + (f_X2_weightOf wv v2)) ls (lv_sub hl [1, 2, 0, 3] rfl) hR
  exact L4 (13) (0 : Int32) (0 : Int32) ls (lv_sub hl [2, 3, 1, 0] rfl) (by decide +kernel) hR
set_option maxHeartbeats 4000000 in
set_option maxRecDepth 100000 in
theorem m_X2_costOf (l : Launch) (dC : Nat → ClassId) (dI : Nat → Nat → Nat) (cI cJ : ClassId) (aW : Nat) (aX : Nat) (wn : Int32) (wv : Nat → Int32) (p0 : Int32) : Met l yX2_costOf wsX2_costOf rm_X2_costOf (va_Pc [.ref aW, .int p0] (fun U => va_P (dC, dI) vwCl [(aW, .inr (3, [.ref aX, .int wn])), (aX, .inl (cI, 12, .inl wv))] U.heap ∧ va_K (dC, dI) vwCl [(cI, .int), (cJ, .long)] U)) (vp_Si (fun r => r = f_X2_costOf wv p0)) 0 0 (fun _ => False) := by
  refine Met.ofW (cc := cX2_costOf) (maxL := 4) (ret := (some .int)) (by decide) rfl ?_
  intro p e s m args below meth c s₁ B hml hv
  obtain ⟨rfl, hP, hK⟩ := hv
  have hl := lv_entry ([.ref aW, .int p0]) (n := 4) (Nat.le_of_ble_eq_true rfl)
  rw [lg_entry_eq]
  refine w_X2_costOf B.exec B.bytes hml (findClass_of_methodNamed B.named) (atoms_spec (ws := wsX2_costOf) B.pre) hK hP rfl (fun r pc ls er hd => ?_) _ hl
  exact W.iret B.exec B.bytes B.returns (fun t ht hW => ⟨r, rfl, er, ht⟩) (fun _ h => by cases h) hd B.notSynchronized
end
def f_X2_setWeight (wn : Int32) (wv : Nat → Int32) (p0 : Int32) (p1 : Int32) : (Nat → Int32) × Int32 :=
  (if p0 < 0 then (wv, wn) else (if (12 : Int32) ≤ p0 then (wv, wn) else ((upd wv p0.toNatClampNeg p1), (wn + (1 : Int32)))))
theorem e_X2_setWeight {wn : Int32} {wv : Nat → Int32} {p0 : Int32} {p1 : Int32} : f_X2_setWeight wn wv p0 p1 = (if p0 < 0 then (wv, wn) else (if (12 : Int32) ≤ p0 then (wv, wn) else ((upd wv p0.toNatClampNeg p1), (wn + (1 : Int32))))) := rfl
section
variable {p : Program} {l : Launch} {e : Env} {s : State} {m : MethodId} {args : Array Value} {below : List Frame} {meth : Method} {c : Code} {Q : State → Prop} {H : Heap} {locs : List Loc} {dC : Nat → ClassId} {dI : Nat → Nat → Nat} {cI cJ : ClassId}
abbrev rm_X2_setWeight : Room := { frames := 0, cells := 0, slots := 0, locals := 0 }
theorem hd_X2_setWeight : yX2_setWeight.cls = RX2 ∧ yX2_setWeight.cls ≠ "java/lang/invoke/MethodHandle" ∧ yX2_setWeight.cls ≠ "java/lang/invoke/VarHandle" ∧ (parseMethodDescriptor yX2_setWeight.desc).map (fun d => d.parameters.length) = some 2 := by decide +kernel
set_option maxHeartbeats 4000000 in
set_option maxRecDepth 100000 in
theorem w_X2_setWeight {aW : Nat} {aX : Nat} {wn : Int32} {wv : Nat → Int32} {p0 : Int32} {p1 : Int32} {F : (Nat → Int32) × Int32} (hx : p.tables.exec = Jvm.exec) (hb : c.code = cX2_setWeight) (hml : c.maxLocals = 3) (hown : s.vm.findClass RX2 = some m.cls) (hts : ∀ w ∈ wsX2_setWeight, w.before args s = true) (hK : va_K (dC, dI) vwCl [(cI, .int), (cJ, .long)] s) {A : Nat → Prop} {H0 : Heap} (hP : va_P (dC, dI) vwCl [(aW, .inr (3, [.ref aX, .int wn])), (aX, .inl (cI, 12, .inl wv))] H) (hD : va_D A [(aW, .inr (3, [.ref aX, .int wn])), (aX, .inl (cI, 12, .inl wv))]) (hS : va_S A H0 H locs) (hA : ∀ q, H0.size ≤ q → A q) (hR : F = f_X2_setWeight wn wv p0 p1) (kR : ∀ (pc : Nat) (ls : Array Slot) (H : Heap) (locs : List Loc) (wv' : Nat → Int32) (wn' : Int32), va_P (dC, dI) vwCl [(aW, .inr (3, [.ref aX, .int wn'])), (aX, .inl (cI, 12, .inl wv'))] H → va_D A [(aW, .inr (3, [.ref aX, .int wn'])), (aX, .inl (cI, 12, .inl wv'))] → va_S A H0 H locs → (wv', wn') = F → decode cX2_setWeight pc = .ok (.return_, 1) → W p l e rm_X2_setWeight s m args below meth c H locs 0 0 Q (F0 m pc ls [])) (ls : Array Slot) (hl : lv_has ls 3 [(0, .ref aW), (1, .int p0), (2, .int p1)]) : W p l e rm_X2_setWeight s m args below meth c H locs 0 0 Q (F0 m 0 ls []) := by
  have hR := hR.trans e_X2_setWeight
  refine lv_iload_n hx hb dX2_setWeight_0 rfl (lv_at hl 1 rfl) ?_
  refine lv_if_lt (tgt := 30) hx hb dX2_setWeight_1 (by decide) (fun c_1 => ?_) (fun c_1 => ?_)
  · have hR := hR.trans (if_pos c_1)
    exact kR 30 ls H locs wv wn hP hD hS hR.symm dX2_setWeight_30
  · have hR := hR.trans (if_neg c_1)
    refine lv_iload_n hx hb dX2_setWeight_4 rfl (lv_at hl 1 rfl) ?_
    refine lv_aload_n hx hb dX2_setWeight_5 rfl (lv_at hl 0 rfl) ?_
    refine va_get (D := (dC, dI)) (ci := 3) (v := .ref aX) (C := RX2) (T := TX2) (N := 2) hx hb hts inC_X2 hown hK hP 0 rfl rfl 0 (by decide) (hts (.fieldLink RX2 9 "Counterpointery$Laws" "weights" "[I") (List.mem_cons_of_mem _ wm_72)) (fun _ h9 => h9) rfl dX2_setWeight_6 ?_
    refine va_alen (D := (dC, dI)) (v := (12 : Int32)) hx hb hK hP 1 0 rfl rfl rfl dX2_setWeight_9 ?_
    refine lv_icmp_ge (tgt := 30) hx hb dX2_setWeight_10 (by decide) (fun c_2 => ?_) (fun c_2 => ?_)
    · have hR := hR.trans (if_pos c_2)
      exact kR 30 ls H locs wv wn hP hD hS hR.symm dX2_setWeight_30
    · have hR := hR.trans (if_neg c_2)
      refine lv_aload_n hx hb dX2_setWeight_13 rfl (lv_at hl 0 rfl) ?_
      refine va_get (D := (dC, dI)) (ci := 3) (v := .ref aX) (C := RX2) (T := TX2) (N := 2) hx hb hts inC_X2 hown hK hP 0 rfl rfl 0 (by decide) (hts (.fieldLink RX2 9 "Counterpointery$Laws" "weights" "[I") (List.mem_cons_of_mem _ wm_72)) (fun _ h9 => h9) rfl dX2_setWeight_14 ?_
      refine lv_iload_n hx hb dX2_setWeight_17 rfl (lv_at hl 1 rfl) ?_
      refine lv_iload_n hx hb dX2_setWeight_18 rfl (lv_at hl 2 rfl) ?_
      refine va_iast (D := (dC, dI)) hx hb hK hP hD hS 1 0 rfl rfl (by first | exact vi_a (N := (12 : Int32)) (by assumption) (by assumption) rfl | exact vi_b (N := (12 : Int32)) (by assumption) (by assumption) rfl | exact vi_c (N := (12 : Int32)) (by assumption) (by assumption) rfl) dX2_setWeight_19 (fun H locs hP hD hS => ?_)
      have hP : va_P (dC, dI) vwCl [(aW, .inr (3, [.ref aX, .int wn])), (aX, .inl (cI, 12, .inl (upd wv p0.toNatClampNeg p1)))] H := hP
      have hD : va_D A [(aW, .inr (3, [.ref aX, .int wn])), (aX, .inl (cI, 12, .inl (upd wv p0.toNatClampNeg p1)))] := hD
      refine lv_aload_n hx hb dX2_setWeight_20 rfl (lv_at hl 0 rfl) ?_
      refine lv_dup hx hb dX2_setWeight_21 rfl ?_
      refine va_get (D := (dC, dI)) (ci := 3) (v := .int wn) (C := RX2) (T := TX2) (N := 2) hx hb hts inC_X2 hown hK hP 0 rfl rfl 1 (by decide) (hts (.fieldLink RX2 34 "Counterpointery$Laws" "changes" "I") (List.mem_cons_of_mem _ wm_127)) (fun _ h9 => h9) rfl dX2_setWeight_22 ?_
      refine lv_iconst (v := (1 : Int32)) hx hb dX2_setWeight_25 (by decide) ?_
      refine lv_iadd hx hb dX2_setWeight_26 ?_
      refine va_put (D := (dC, dI)) (ci := 3) (v := .int (wn + (1 : Int32))) (ty := .int) (C := RX2) (T := TX2) (N := 2) hx hb hts inC_X2 tyX2 tyX2_ok nmX2 hown hK hP hD hS 0 rfl rfl 1 (by decide) (hts (.fieldLink RX2 34 "Counterpointery$Laws" "changes" "I") (List.mem_cons_of_mem _ wm_127)) (fun _ h9 => h9) rfl (by decide +kernel) rfl rfl (Nat.le_of_ble_eq_true rfl) dX2_setWeight_27 (fun H locs hP hD hS => ?_)
      have hP : va_P (dC, dI) vwCl [(aW, .inr (3, [.ref aX, .int (wn + (1 : Int32))])), (aX, .inl (cI, 12, .inl (upd wv p0.toNatClampNeg p1)))] H := hP
      have hD : va_D A [(aW, .inr (3, [.ref aX, .int (wn + (1 : Int32))])), (aX, .inl (cI, 12, .inl (upd wv p0.toNatClampNeg p1)))] := hD
      exact kR 30 ls H locs (upd wv p0.toNatClampNeg p1) (wn + (1 : Int32)) hP hD hS hR.symm dX2_setWeight_30
set_option maxHeartbeats 4000000 in
set_option maxRecDepth 100000 in
theorem m_X2_setWeight (l : Launch) (dC : Nat → ClassId) (dI : Nat → Nat → Nat) (cI cJ : ClassId) (aW : Nat) (aX : Nat) (wn : Int32) (wv : Nat → Int32) (p0 : Int32) (p1 : Int32) (sz : Nat) : Met l yX2_setWeight wsX2_setWeight rm_X2_setWeight (va_Pc [.ref aW, .int p0, .int p1] (fun U => U.heap.size = sz ∧ va_P (dC, dI) vwCl [(aW, .inr (3, [.ref aX, .int wn])), (aX, .inl (cI, 12, .inl wv))] U.heap ∧ va_K (dC, dI) vwCl [(cI, .int), (cJ, .long)] U ∧ va_D (fun _ => True) [(aW, .inr (3, [.ref aX, .int wn])), (aX, .inl (cI, 12, .inl wv))])) (va_Qv (fun _ : Unit => True) (fun _ t => va_P (dC, dI) vwCl [(aW, .inr (3, [.ref aX, .int ((f_X2_setWeight wn wv p0 p1).2)])), (aX, .inl (cI, 12, .inl ((f_X2_setWeight wn wv p0 p1).1)))] t.heap ∧ va_K (dC, dI) vwCl [(cI, .int), (cJ, .long)] t ∧ va_D (va_A [(aW, .inr (3, [.ref aX, .int wn])), (aX, .inl (cI, 12, .inl wv))] sz) [(aW, .inr (3, [.ref aX, .int ((f_X2_setWeight wn wv p0 p1).2)])), (aX, .inl (cI, 12, .inl ((f_X2_setWeight wn wv p0 p1).1)))]) (va_A [(aW, .inr (3, [.ref aX, .int wn])), (aX, .inl (cI, 12, .inl wv))] sz)) 0 0 (va_A [(aW, .inr (3, [.ref aX, .int wn])), (aX, .inl (cI, 12, .inl wv))] sz) := by
  refine Met.ofW (cc := cX2_setWeight) (maxL := 3) (ret := none) (by decide) rfl ?_
  intro p e s m args below meth c s₁ B hml hv
  obtain ⟨rfl, hsz, hP, hK, hD0⟩ := hv
  subst hsz
  have hl := lv_entry ([.ref aW, .int p0, .int p1]) (n := 3) (Nat.le_of_ble_eq_true rfl)
  rw [lg_entry_eq]
  refine w_X2_setWeight B.exec B.bytes hml (findClass_of_methodNamed B.named) (atoms_spec (ws := wsX2_setWeight) B.pre) hK hP (hD0.self (sz := s.heap.size)) va_S.rf (fun q h => Or.inr h) rfl (fun pc ls H locs wv' wn' hP hD hS er hd => ?_) _ hl
  simp only [Prod.ext_iff] at er
  obtain ⟨e0, e1⟩ := er
  subst e0
  subst e1
  exact W.vret B.exec B.bytes B.returns (fun t ht hW => ⟨⟨(), rfl, trivial, by rw [ht]; exact hP, va_K.moved hW.alike hK, hD⟩, hS.F ht⟩) hS.2.2 hd B.notSynchronized
end
