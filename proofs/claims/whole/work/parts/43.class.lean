theorem zb_X1_isBelow {gb : Int32} (hz_gb : zb gb) : zb (f_X1_isBelow gb) := by
  repeat' (first | rw [e_X1_isBelow] | split | assumption | exact Or.inl (Eq.refl (0 : Int32)) | exact Or.inr (Eq.refl (1 : Int32)))
theorem zb_X1_isFeigning {gf : Int32} (hz_gf : zb gf) : zb (f_X1_isFeigning gf) := by
  repeat' (first | rw [e_X1_isFeigning] | split | assumption | exact Or.inl (Eq.refl (0 : Int32)) | exact Or.inr (Eq.refl (1 : Int32)))
def f_X6_clear (tc : Int32) (gc : Int32) (gn : Int32) (p0 : Int32) : Int32 × Int32 × Int32 × Int32 :=
  (if p0 = 0 then ((f_X3_length tc), (f_X3_stretch (0 : Int32)), gc, gn) else ((f_X3_length tc), (f_X3_stretch (0 : Int32)), ((f_X1_empty gn).1), ((f_X1_empty gn).2)))
theorem e_X6_clear {tc : Int32} {gc : Int32} {gn : Int32} {p0 : Int32} : f_X6_clear tc gc gn p0 = (if p0 = 0 then ((f_X3_length tc), (f_X3_stretch (0 : Int32)), gc, gn) else ((f_X3_length tc), (f_X3_stretch (0 : Int32)), ((f_X1_empty gn).1), ((f_X1_empty gn).2))) := rfl
section
variable {p : Program} {l : Launch} {e : Env} {s : State} {m : MethodId} {args : Array Value} {below : List Frame} {meth : Method} {c : Code} {Q : State → Prop} {H : Heap} {locs : List Loc} {dC : Nat → ClassId} {dI : Nat → Nat → Nat} {cI cJ : ClassId}
abbrev rm_X6_clear : Room := { frames := 2, cells := 0, slots := 0, locals := 42 }
theorem hd_X6_clear : yX6_clear.cls = RX6 ∧ yX6_clear.cls ≠ "java/lang/invoke/MethodHandle" ∧ yX6_clear.cls ≠ "java/lang/invoke/VarHandle" ∧ (parseMethodDescriptor yX6_clear.desc).map (fun d => d.parameters.length) = some 1 := by decide +kernel
set_option maxHeartbeats 4000000 in
set_option maxRecDepth 100000 in
theorem w_X6_clear {aC : Nat} {aG : Nat} {aL : Nat} {aW : Nat} {aT : Nat} {aV : Nat} {aX : Nat} {vS : Value} {tc : Int32} {tv : Nat → Int32} {gc : Int32} {gs : Int32} {gb : Int32} {gf : Int32} {gl : Int32} {gh : Int32} {gn : Int32} {gv : Nat → Int32} {wn : Int32} {wv : Nat → Int32} {p0 : Int32} {F : Int32 × Int32 × Int32 × Int32} (hx : p.tables.exec = Jvm.exec) (hb : c.code = cX6_clear) (hml : c.maxLocals = 3) (hown : s.vm.findClass RX6 = some m.cls) (hts : ∀ w ∈ wsX6_clear, w.before args s = true) (hK : va_K (dC, dI) vwCl [(cI, .int), (cJ, .long)] s) {A : Nat → Prop} {H0 : Heap} (hP : va_P (dC, dI) vwCl [(aC, .inr (6, [.ref aG, .ref aL, .ref aW, vS])), (aL, .inr (4, [.ref aG, .ref aT, .int tc])), (aT, .inl (cI, 53, .inl tv)), (aG, .inr (2, [.ref aV, .int gc, .int gs, .int gb, .int gf, .int gl, .int gh, .int gn])), (aV, .inl (cI, 14, .inl gv)), (aW, .inr (3, [.ref aX, .int wn])), (aX, .inl (cI, 12, .inl wv))] H) (hD : va_D A [(aC, .inr (6, [.ref aG, .ref aL, .ref aW, vS])), (aL, .inr (4, [.ref aG, .ref aT, .int tc])), (aT, .inl (cI, 53, .inl tv)), (aG, .inr (2, [.ref aV, .int gc, .int gs, .int gb, .int gf, .int gl, .int gh, .int gn])), (aV, .inl (cI, 14, .inl gv)), (aW, .inr (3, [.ref aX, .int wn])), (aX, .inl (cI, 12, .inl wv))]) (hS : va_S A H0 H locs) (hA : ∀ q, H0.size ≤ q → A q) (hR : F = f_X6_clear tc gc gn p0) (kR : ∀ (r : Int32) (pc : Nat) (ls : Array Slot) (H : Heap) (locs : List Loc) (tc' : Int32) (gc' : Int32) (gn' : Int32), va_P (dC, dI) vwCl [(aC, .inr (6, [.ref aG, .ref aL, .ref aW, vS])), (aL, .inr (4, [.ref aG, .ref aT, .int tc'])), (aT, .inl (cI, 53, .inl tv)), (aG, .inr (2, [.ref aV, .int gc', .int gs, .int gb, .int gf, .int gl, .int gh, .int gn'])), (aV, .inl (cI, 14, .inl gv)), (aW, .inr (3, [.ref aX, .int wn])), (aX, .inl (cI, 12, .inl wv))] H → va_D A [(aC, .inr (6, [.ref aG, .ref aL, .ref aW, vS])), (aL, .inr (4, [.ref aG, .ref aT, .int tc'])), (aT, .inl (cI, 53, .inl tv)), (aG, .inr (2, [.ref aV, .int gc', .int gs, .int gb, .int gf, .int gl, .int gh, .int gn'])), (aV, .inl (cI, 14, .inl gv)), (aW, .inr (3, [.ref aX, .int wn])), (aX, .inl (cI, 12, .inl wv))] → va_S A H0 H locs → (r, tc', gc', gn') = F → decode cX6_clear pc = .ok (.ireturn, 1) → W p l e rm_X6_clear s m args below meth c H locs 0 0 Q (F0 m pc ls [.int r])) (ls : Array Slot) (hl : lv_has ls 3 [(0, .ref aC), (1, .int p0)]) : W p l e rm_X6_clear s m args below meth c H locs 0 0 Q (F0 m 0 ls []) := by
  have hR := hR.trans e_X6_clear
  refine lv_aload_n hx hb dX6_clear_0 rfl (lv_at hl 0 rfl) ?_
  refine va_get (D := (dC, dI)) (ci := 6) (v := .ref aL) (C := RX6) (T := TX6) (N := 4) hx hb hts inC_X6 hown hK hP 0 rfl rfl 1 (by decide) (hts (.fieldLink RX6 21 "Counterpointery" "line" "LCounterpointery$Line;") (List.mem_cons_of_mem _ wm_386)) (fun _ h9 => h9) rfl dX6_clear_1 ?_
  refine rV_i (q0 := 0) (As := []) (rest := []) ⟨hx, hb, hml, hown, hts⟩ (m_X3_length l dC dI cI cJ aL aG aT aV tc tv gc gs gb gf gl gh gn gv) (cwV 0 hts (gi_V wm_423 wm_1 wm_2 wm_3 wm_4) rfl rfl rfl hd_X3_length ⟨Nat.le_of_ble_eq_true rfl, Nat.le_of_ble_eq_true rfl⟩) hK (hP.sub [1, 2, 3, 4] rfl) rfl rfl rfl hl.1 rfl (Nat.le_of_ble_eq_true rfl) dX6_clear_4 ⟨Nat.zero_le _, Nat.zero_le _⟩ ?_
  refine lv_istore_n (lv' := [(2, .int (f_X3_length tc)), (0, .ref aC), (1, .int p0)]) hx hb dX6_clear_7 rfl hl (by decide) rfl (fun ls hl => ?_)
  refine lv_aload_n hx hb dX6_clear_8 rfl (lv_at hl 1 rfl) ?_
  refine va_get (D := (dC, dI)) (ci := 6) (v := .ref aL) (C := RX6) (T := TX6) (N := 4) hx hb hts inC_X6 hown hK hP 0 rfl rfl 1 (by decide) (hts (.fieldLink RX6 21 "Counterpointery" "line" "LCounterpointery$Line;") (List.mem_cons_of_mem _ wm_386)) (fun _ h9 => h9) rfl dX6_clear_9 ?_
  refine lv_iconst (v := (0 : Int32)) hx hb dX6_clear_12 (by decide) ?_
  refine wV_v (q0 := 0) (As := [.int (0 : Int32)]) (rest := []) (wc := [(aL, .inr (4, [.ref aG, .ref aT, .int tc])), (aT, .inl (cI, 53, .inl tv)), (aG, .inr (2, [.ref aV, .int gc, .int gs, .int gb, .int gf, .int gl, .int gh, .int gn])), (aV, .inl (cI, 14, .inl gv))]) (w1 := [(aL, .inr (4, [.ref aG, .ref aT, .int (f_X3_stretch (0 : Int32))])), (aT, .inl (cI, 53, .inl tv)), (aG, .inr (2, [.ref aV, .int gc, .int gs, .int gb, .int gf, .int gl, .int gh, .int gn])), (aV, .inl (cI, 14, .inl gv))]) (wr := [(aC, .inr (6, [.ref aG, .ref aL, .ref aW, vS])), (aW, .inr (3, [.ref aX, .int wn])), (aX, .inl (cI, 12, .inl wv))]) (wn := [(aC, .inr (6, [.ref aG, .ref aL, .ref aW, vS])), (aL, .inr (4, [.ref aG, .ref aT, .int (f_X3_stretch (0 : Int32))])), (aT, .inl (cI, 53, .inl tv)), (aG, .inr (2, [.ref aV, .int gc, .int gs, .int gb, .int gf, .int gl, .int gh, .int gn])), (aV, .inl (cI, 14, .inl gv)), (aW, .inr (3, [.ref aX, .int wn])), (aX, .inl (cI, 12, .inl wv))]) ⟨hx, hb, hml, hown, hts⟩ (m_X3_stretch l dC dI cI cJ aL aG aT aV tc tv gc gs gb gf gl gh gn gv (0 : Int32) H.size) (cwV 1 hts (gi_V wm_414 wm_270 wm_271 wm_3 wm_272) rfl rfl rfl hd_X3_stretch ⟨Nat.le_of_ble_eq_true rfl, Nat.le_of_ble_eq_true rfl⟩) hK hP hD hS hA [1, 2, 3, 4] [0, 5, 6] [0, 3, 4, 5, 6, 1, 2] rfl rfl rfl (by decide) (by decide) (by decide) (by decide) rfl rfl rfl hl.1 rfl (Nat.le_of_ble_eq_true rfl) dX6_clear_13 ⟨Nat.zero_le _, Nat.zero_le _⟩ (fun H locs hP hD hS => ?_)
  refine lv_iload_n hx hb dX6_clear_16 rfl (lv_at hl 2 rfl) ?_
  refine lv_if_eq (tgt := 27) hx hb dX6_clear_17 (by decide) (fun c_1 => ?_) (fun c_1 => ?_)
  · have hR := hR.trans (if_pos c_1)
    refine lv_iload_n hx hb dX6_clear_27 rfl (lv_at hl 0 rfl) ?_
    exact kR (f_X3_length tc) 28 ls H locs (f_X3_stretch (0 : Int32)) gc gn hP hD hS hR.symm dX6_clear_28
  · have hR := hR.trans (if_neg c_1)
    refine lv_aload_n hx hb dX6_clear_20 rfl (lv_at hl 1 rfl) ?_
    refine va_get (D := (dC, dI)) (ci := 6) (v := .ref aG) (C := RX6) (T := TX6) (N := 4) hx hb hts inC_X6 hown hK hP 0 rfl rfl 0 (by decide) (hts (.fieldLink RX6 10 "Counterpointery" "ground" "LCounterpointery$Ground;") (List.mem_cons_of_mem _ wm_384)) (fun _ h9 => h9) rfl dX6_clear_21 ?_
    refine wV_v (q0 := 0) (As := []) (rest := []) (wc := [(aG, .inr (2, [.ref aV, .int gc, .int gs, .int gb, .int gf, .int gl, .int gh, .int gn])), (aV, .inl (cI, 14, .inl gv))]) (w1 := [(aG, .inr (2, [.ref aV, .int ((f_X1_empty gn).1), .int gs, .int gb, .int gf, .int gl, .int gh, .int ((f_X1_empty gn).2)])), (aV, .inl (cI, 14, .inl gv))]) (wr := [(aC, .inr (6, [.ref aG, .ref aL, .ref aW, vS])), (aL, .inr (4, [.ref aG, .ref aT, .int (f_X3_stretch (0 : Int32))])), (aT, .inl (cI, 53, .inl tv)), (aW, .inr (3, [.ref aX, .int wn])), (aX, .inl (cI, 12, .inl wv))]) (wn := [(aC, .inr (6, [.ref aG, .ref aL, .ref aW, vS])), (aL, .inr (4, [.ref aG, .ref aT, .int (f_X3_stretch (0 : Int32))])), (aT, .inl (cI, 53, .inl tv)), (aG, .inr (2, [.ref aV, .int ((f_X1_empty gn).1), .int gs, .int gb, .int gf, .int gl, .int gh, .int ((f_X1_empty gn).2)])), (aV, .inl (cI, 14, .inl gv)), (aW, .inr (3, [.ref aX, .int wn])), (aX, .inl (cI, 12, .inl wv))]) ⟨hx, hb, hml, hown, hts⟩ (m_X1_empty l dC dI cI cJ aG aV gc gs gb gf gl gh gn gv H.size) (cwV 0 hts (gi_V wm_436 wm_437 wm_438 wm_65 wm_439) rfl rfl rfl hd_X1_empty ⟨Nat.le_of_ble_eq_true rfl, Nat.le_of_ble_eq_true rfl⟩) hK hP hD hS hA [3, 4] [0, 1, 2, 5, 6] [0, 1, 2, 5, 6, 3, 4] rfl rfl rfl (by decide) (by decide) (by decide) (by decide) rfl rfl rfl hl.1 rfl (Nat.le_of_ble_eq_true rfl) dX6_clear_24 ⟨Nat.zero_le _, Nat.zero_le _⟩ (fun H locs hP hD hS => ?_)
    refine lv_iload_n hx hb dX6_clear_27 rfl (lv_at hl 0 rfl) ?_
    exact kR (f_X3_length tc) 28 ls H locs (f_X3_stretch (0 : Int32)) ((f_X1_empty gn).1) ((f_X1_empty gn).2) hP hD hS hR.symm dX6_clear_28
set_option maxHeartbeats 4000000 in
set_option maxRecDepth 100000 in
theorem m_X6_clear (l : Launch) (dC : Nat → ClassId) (dI : Nat → Nat → Nat) (cI cJ : ClassId) (aC : Nat) (aG : Nat) (aL : Nat) (aW : Nat) (aT : Nat) (aV : Nat) (aX : Nat) (vS : Value) (tc : Int32) (tv : Nat → Int32) (gc : Int32) (gs : Int32) (gb : Int32) (gf : Int32) (gl : Int32) (gh : Int32) (gn : Int32) (gv : Nat → Int32) (wn : Int32) (wv : Nat → Int32) (p0 : Int32) (sz : Nat) : Met l yX6_clear wsX6_clear rm_X6_clear (va_Pc [.ref aC, .int p0] (fun U => U.heap.size = sz ∧ va_P (dC, dI) vwCl [(aC, .inr (6, [.ref aG, .ref aL, .ref aW, vS])), (aL, .inr (4, [.ref aG, .ref aT, .int tc])), (aT, .inl (cI, 53, .inl tv)), (aG, .inr (2, [.ref aV, .int gc, .int gs, .int gb, .int gf, .int gl, .int gh, .int gn])), (aV, .inl (cI, 14, .inl gv)), (aW, .inr (3, [.ref aX, .int wn])), (aX, .inl (cI, 12, .inl wv))] U.heap ∧ va_K (dC, dI) vwCl [(cI, .int), (cJ, .long)] U ∧ va_D (fun _ => True) [(aC, .inr (6, [.ref aG, .ref aL, .ref aW, vS])), (aL, .inr (4, [.ref aG, .ref aT, .int tc])), (aT, .inl (cI, 53, .inl tv)), (aG, .inr (2, [.ref aV, .int gc, .int gs, .int gb, .int gf, .int gl, .int gh, .int gn])), (aV, .inl (cI, 14, .inl gv)), (aW, .inr (3, [.ref aX, .int wn])), (aX, .inl (cI, 12, .inl wv))])) (va_Qi (fun (r : Int32) (_ : Unit) => r = (f_X6_clear tc gc gn p0).1) (fun _ t => va_P (dC, dI) vwCl [(aC, .inr (6, [.ref aG, .ref aL, .ref aW, vS])), (aL, .inr (4, [.ref aG, .ref aT, .int ((f_X6_clear tc gc gn p0).2.1)])), (aT, .inl (cI, 53, .inl tv)), (aG, .inr (2, [.ref aV, .int ((f_X6_clear tc gc gn p0).2.2.1), .int gs, .int gb, .int gf, .int gl, .int gh, .int ((f_X6_clear tc gc gn p0).2.2.2)])), (aV, .inl (cI, 14, .inl gv)), (aW, .inr (3, [.ref aX, .int wn])), (aX, .inl (cI, 12, .inl wv))] t.heap ∧ va_K (dC, dI) vwCl [(cI, .int), (cJ, .long)] t ∧ va_D (va_A [(aC, .inr (6, [.ref aG, .ref aL, .ref aW, vS])), (aL, .inr (4, [.ref aG, .ref aT, .int tc])), (aT, .inl (cI, 53, .inl tv)), (aG, .inr (2, [.ref aV, .int gc, .int gs, .int gb, .int gf, .int gl, .int gh, .int gn])), (aV, .inl (cI, 14, .inl gv)), (aW, .inr (3, [.ref aX, .int wn])), (aX, .inl (cI, 12, .inl wv))] sz) [(aC, .inr (6, [.ref aG, .ref aL, .ref aW, vS])), (aL, .inr (4, [.ref aG, .ref aT, .int ((f_X6_clear tc gc gn p0).2.1)])), (aT, .inl (cI, 53, .inl tv)), (aG, .inr (2, [.ref aV, .int ((f_X6_clear tc gc gn p0).2.2.1), .int gs, .int gb, .int gf, .int gl, .int gh, .int ((f_X6_clear tc gc gn p0).2.2.2)])), (aV, .inl (cI, 14, .inl gv)), (aW, .inr (3, [.ref aX, .int wn])), (aX, .inl (cI, 12, .inl wv))]) (va_A [(aC, .inr (6, [.ref aG, .ref aL, .ref aW, vS])), (aL, .inr (4, [.ref aG, .ref aT, .int tc])), (aT, .inl (cI, 53, .inl tv)), (aG, .inr (2, [.ref aV, .int gc, .int gs, .int gb, .int gf, .int gl, .int gh, .int gn])), (aV, .inl (cI, 14, .inl gv)), (aW, .inr (3, [.ref aX, .int wn])), (aX, .inl (cI, 12, .inl wv))] sz)) 0 0 (va_A [(aC, .inr (6, [.ref aG, .ref aL, .ref aW, vS])), (aL, .inr (4, [.ref aG, .ref aT, .int tc])), (aT, .inl (cI, 53, .inl tv)), (aG, .inr (2, [.ref aV, .int gc, .int gs, .int gb, .int gf, .int gl, .int gh, .int gn])), (aV, .inl (cI, 14, .inl gv)), (aW, .inr (3, [.ref aX, .int wn])), (aX, .inl (cI, 12, .inl wv))] sz) := by
  refine Met.ofW (cc := cX6_clear) (maxL := 3) (ret := (some .int)) (by decide) rfl ?_
  intro p e s m args below meth c s₁ B hml hv
  obtain ⟨rfl, hsz, hP, hK, hD0⟩ := hv
  subst hsz
  have hl := lv_entry ([.ref aC, .int p0]) (n := 3) (Nat.le_of_ble_eq_true rfl)
  rw [lg_entry_eq]
  refine w_X6_clear B.exec B.bytes hml (findClass_of_methodNamed B.named) (atoms_spec (ws := wsX6_clear) B.pre) hK hP (hD0.self (sz := s.heap.size)) va_S.rf (fun q h => Or.inr h) rfl (fun r pc ls H locs tc' gc' gn' hP hD hS er hd => ?_) _ hl
  simp only [Prod.ext_iff] at er
  obtain ⟨e0, e1, e2, e3⟩ := er
  subst e0
  subst e1
  subst e2
  subst e3
  exact W.iret B.exec B.bytes B.returns (fun t ht hW => ⟨⟨_, (), rfl, rfl, by rw [ht]; exact hP, va_K.moved hW.alike hK, hD⟩, hS.F ht⟩) hS.2.2 hd B.notSynchronized
end
def f_X6_lower (gb : Int32) (gn : Int32) (p0 : Int32) : Int32 × Int32 × Int32 :=
  ((f_X1_isBelow gb), ((f_X1_setBelow gn p0).1), ((f_X1_setBelow gn p0).2))
theorem e_X6_lower {gb : Int32} {gn : Int32} {p0 : Int32} : f_X6_lower gb gn p0 = ((f_X1_isBelow gb), ((f_X1_setBelow gn p0).1), ((f_X1_setBelow gn p0).2)) := rfl
section
variable {p : Program} {l : Launch} {e : Env} {s : State} {m : MethodId} {args : Array Value} {below : List Frame} {meth : Method} {c : Code} {Q : State → Prop} {H : Heap} {locs : List Loc} {dC : Nat → ClassId} {dI : Nat → Nat → Nat} {cI cJ : ClassId}
abbrev rm_X6_lower : Room := { frames := 1, cells := 0, slots := 0, locals := 21 }
theorem hd_X6_lower : yX6_lower.cls = RX6 ∧ yX6_lower.cls ≠ "java/lang/invoke/MethodHandle" ∧ yX6_lower.cls ≠ "java/lang/invoke/VarHandle" ∧ (parseMethodDescriptor yX6_lower.desc).map (fun d => d.parameters.length) = some 1 := by decide +kernel
set_option maxHeartbeats 4000000 in
set_option maxRecDepth 100000 in
theorem w_X6_lower {aC : Nat} {aG : Nat} {aL : Nat} {aW : Nat} {aT : Nat} {aV : Nat} {aX : Nat} {vS : Value} {tc : Int32} {tv : Nat → Int32} {gc : Int32} {gs : Int32} {gb : Int32} {gf : Int32} {gl : Int32} {gh : Int32} {gn : Int32} {gv : Nat → Int32} {wn : Int32} {wv : Nat → Int32} {p0 : Int32} (hz_gb : zb gb) (hz_p0 : zb p0) {F : Int32 × Int32 × Int32} (hx : p.tables.exec = Jvm.exec) (hb : c.code = cX6_lower) (hml : c.maxLocals = 3) (hown : s.vm.findClass RX6 = some m.cls) (hts : ∀ w ∈ wsX6_lower, w.before args s = true) (hK : va_K (dC, dI) vwCl [(cI, .int), (cJ, .long)] s) {A : Nat → Prop} {H0 : Heap} (hP : va_P (dC, dI) vwCl [(aC, .inr (6, [.ref aG, .ref aL, .ref aW, vS])), (aL, .inr (4, [.ref aG, .ref aT, .int tc])), (aT, .inl (cI, 53, .inl tv)), (aG, .inr (2, [.ref aV, .int gc, .int gs, .int gb, .int gf, .int gl, .int gh, .int gn])), (aV, .inl (cI, 14, .inl gv)), (aW, .inr (3, [.ref aX, .int wn])), (aX, .inl (cI, 12, .inl wv))] H) (hD : va_D A [(aC, .inr (6, [.ref aG, .ref aL, .ref aW, vS])), (aL, .inr (4, [.ref aG, .ref aT, .int tc])), (aT, .inl (cI, 53, .inl tv)), (aG, .inr (2, [.ref aV, .int gc, .int gs, .int gb, .int gf, .int gl, .int gh, .int gn])), (aV, .inl (cI, 14, .inl gv)), (aW, .inr (3, [.ref aX, .int wn])), (aX, .inl (cI, 12, .inl wv))]) (hS : va_S A H0 H locs) (hA : ∀ q, H0.size ≤ q → A q) (hR : F = f_X6_lower gb gn p0) (kR : ∀ (r : Int32) (pc : Nat) (ls : Array Slot) (H : Heap) (locs : List Loc), zb r → ∀ (gb' : Int32) (gn' : Int32), va_P (dC, dI) vwCl [(aC, .inr (6, [.ref aG, .ref aL, .ref aW, vS])), (aL, .inr (4, [.ref aG, .ref aT, .int tc])), (aT, .inl (cI, 53, .inl tv)), (aG, .inr (2, [.ref aV, .int gc, .int gs, .int gb', .int gf, .int gl, .int gh, .int gn'])), (aV, .inl (cI, 14, .inl gv)), (aW, .inr (3, [.ref aX, .int wn])), (aX, .inl (cI, 12, .inl wv))] H → va_D A [(aC, .inr (6, [.ref aG, .ref aL, .ref aW, vS])), (aL, .inr (4, [.ref aG, .ref aT, .int tc])), (aT, .inl (cI, 53, .inl tv)), (aG, .inr (2, [.ref aV, .int gc, .int gs, .int gb', .int gf, .int gl, .int gh, .int gn'])), (aV, .inl (cI, 14, .inl gv)), (aW, .inr (3, [.ref aX, .int wn])), (aX, .inl (cI, 12, .inl wv))] → va_S A H0 H locs → (r, gb', gn') = F → decode cX6_lower pc = .ok (.ireturn, 1) → W p l e rm_X6_lower s m args below meth c H locs 0 0 Q (F0 m pc ls [.int r])) (ls : Array Slot) (hl : lv_has ls 3 [(0, .ref aC), (1, .int p0)]) : W p l e rm_X6_lower s m args below meth c H locs 0 0 Q (F0 m 0 ls []) := by
  have hR := hR.trans e_X6_lower
  refine lv_aload_n hx hb dX6_lower_0 rfl (lv_at hl 0 rfl) ?_
  refine va_get (D := (dC, dI)) (ci := 6) (v := .ref aG) (C := RX6) (T := TX6) (N := 4) hx hb hts inC_X6 hown hK hP 0 rfl rfl 0 (by decide) (hts (.fieldLink RX6 10 "Counterpointery" "ground" "LCounterpointery$Ground;") (List.mem_cons_of_mem _ wm_384)) (fun _ h9 => h9) rfl dX6_lower_1 ?_
  refine rV_i (q0 := 0) (As := []) (rest := []) ⟨hx, hb, hml, hown, hts⟩ (m_X1_isBelow l dC dI cI cJ aG aV gc gs gb gf gl gh gn gv hz_gb) (cwV 0 hts (gi_V wm_445 wm_201 wm_202 wm_65 wm_203) rfl rfl rfl hd_X1_isBelow ⟨Nat.le_of_ble_eq_true rfl, Nat.le_of_ble_eq_true rfl⟩) hK (hP.sub [3, 4] rfl) rfl rfl rfl hl.1 rfl (Nat.le_of_ble_eq_true rfl) dX6_lower_4 ⟨Nat.zero_le _, Nat.zero_le _⟩ ?_
  refine lv_istore_n (lv' := [(2, .int (f_X1_isBelow gb)), (0, .ref aC), (1, .int p0)]) hx hb dX6_lower_7 rfl hl (by decide) rfl (fun ls hl => ?_)
  refine lv_aload_n hx hb dX6_lower_8 rfl (lv_at hl 1 rfl) ?_
  refine va_get (D := (dC, dI)) (ci := 6) (v := .ref aG) (C := RX6) (T := TX6) (N := 4) hx hb hts inC_X6 hown hK hP 0 rfl rfl 0 (by decide) (hts (.fieldLink RX6 10 "Counterpointery" "ground" "LCounterpointery$Ground;") (List.mem_cons_of_mem _ wm_384)) (fun _ h9 => h9) rfl dX6_lower_9 ?_
  refine lv_iload_n hx hb dX6_lower_12 rfl (lv_at hl 2 rfl) ?_
  refine wV_v (q0 := 0) (As := [.int p0]) (rest := []) (wc := [(aG, .inr (2, [.ref aV, .int gc, .int gs, .int gb, .int gf, .int gl, .int gh, .int gn])), (aV, .inl (cI, 14, .inl gv))]) (w1 := [(aG, .inr (2, [.ref aV, .int gc, .int gs, .int ((f_X1_setBelow gn p0).1), .int gf, .int gl, .int gh, .int ((f_X1_setBelow gn p0).2)])), (aV, .inl (cI, 14, .inl gv))]) (wr := [(aC, .inr (6, [.ref aG, .ref aL, .ref aW, vS])), (aL, .inr (4, [.ref aG, .ref aT, .int tc])), (aT, .inl (cI, 53, .inl tv)), (aW, .inr (3, [.ref aX, .int wn])), (aX, .inl (cI, 12, .inl wv))]) (wn := [(aC, .inr (6, [.ref aG, .ref aL, .ref aW, vS])), (aL, .inr (4, [.ref aG, .ref aT, .int tc])), (aT, .inl (cI, 53, .inl tv)), (aG, .inr (2, [.ref aV, .int gc, .int gs, .int ((f_X1_setBelow gn p0).1), .int gf, .int gl, .int gh, .int ((f_X1_setBelow gn p0).2)])), (aV, .inl (cI, 14, .inl gv)), (aW, .inr (3, [.ref aX, .int wn])), (aX, .inl (cI, 12, .inl wv))]) ⟨hx, hb, hml, hown, hts⟩ (m_X1_setBelow l dC dI cI cJ aG aV gc gs gb gf gl gh gn gv p0 hz_p0 H.size) (cwV 1 hts (gi_V wm_446 wm_447 wm_448 wm_65 wm_449) rfl rfl rfl hd_X1_setBelow ⟨Nat.le_of_ble_eq_true rfl, Nat.le_of_ble_eq_true rfl⟩) hK hP hD hS hA [3, 4] [0, 1, 2, 5, 6] [0, 1, 2, 5, 6, 3, 4] rfl rfl rfl (by decide) (by decide) (by decide) (by decide) rfl rfl rfl hl.1 rfl (Nat.le_of_ble_eq_true rfl) dX6_lower_13 ⟨Nat.zero_le _, Nat.zero_le _⟩ (fun H locs hP hD hS => ?_)
  refine lv_iload_n hx hb dX6_lower_16 rfl (lv_at hl 0 rfl) ?_
  exact kR (f_X1_isBelow gb) 17 ls H locs (zb_X1_isBelow hz_gb) ((f_X1_setBelow gn p0).1) ((f_X1_setBelow gn p0).2) hP hD hS hR.symm dX6_lower_17
set_option maxHeartbeats 4000000 in
set_option maxRecDepth 100000 in
theorem m_X6_lower (l : Launch) (dC : Nat → ClassId) (dI : Nat → Nat → Nat) (cI cJ : ClassId) (aC : Nat) (aG : Nat) (aL : Nat) (aW : Nat) (aT : Nat) (aV : Nat) (aX : Nat) (vS : Value) (tc : Int32) (tv : Nat → Int32) (gc : Int32) (gs : Int32) (gb : Int32) (gf : Int32) (gl : Int32) (gh : Int32) (gn : Int32) (gv : Nat → Int32) (wn : Int32) (wv : Nat → Int32) (p0 : Int32) (hz_gb : zb gb) (hz_p0 : zb p0) (sz : Nat) : Met l yX6_lower wsX6_lower rm_X6_lower (va_Pc [.ref aC, .int p0] (fun U => U.heap.size = sz ∧ va_P (dC, dI) vwCl [(aC, .inr (6, [.ref aG, .ref aL, .ref aW, vS])), (aL, .inr (4, [.ref aG, .ref aT, .int tc])), (aT, .inl (cI, 53, .inl tv)), (aG, .inr (2, [.ref aV, .int gc, .int gs, .int gb, .int gf, .int gl, .int gh, .int gn])), (aV, .inl (cI, 14, .inl gv)), (aW, .inr (3, [.ref aX, .int wn])), (aX, .inl (cI, 12, .inl wv))] U.heap ∧ va_K (dC, dI) vwCl [(cI, .int), (cJ, .long)] U ∧ va_D (fun _ => True) [(aC, .inr (6, [.ref aG, .ref aL, .ref aW, vS])), (aL, .inr (4, [.ref aG, .ref aT, .int tc])), (aT, .inl (cI, 53, .inl tv)), (aG, .inr (2, [.ref aV, .int gc, .int gs, .int gb, .int gf, .int gl, .int gh, .int gn])), (aV, .inl (cI, 14, .inl gv)), (aW, .inr (3, [.ref aX, .int wn])), (aX, .inl (cI, 12, .inl wv))])) (va_Qi (fun (r : Int32) (_ : Unit) => r = (f_X6_lower gb gn p0).1) (fun _ t => va_P (dC, dI) vwCl [(aC, .inr (6, [.ref aG, .ref aL, .ref aW, vS])), (aL, .inr (4, [.ref aG, .ref aT, .int tc])), (aT, .inl (cI, 53, .inl tv)), (aG, .inr (2, [.ref aV, .int gc, .int gs, .int ((f_X6_lower gb gn p0).2.1), .int gf, .int gl, .int gh, .int ((f_X6_lower gb gn p0).2.2)])), (aV, .inl (cI, 14, .inl gv)), (aW, .inr (3, [.ref aX, .int wn])), (aX, .inl (cI, 12, .inl wv))] t.heap ∧ va_K (dC, dI) vwCl [(cI, .int), (cJ, .long)] t ∧ va_D (va_A [(aC, .inr (6, [.ref aG, .ref aL, .ref aW, vS])), (aL, .inr (4, [.ref aG, .ref aT, .int tc])), (aT, .inl (cI, 53, .inl tv)), (aG, .inr (2, [.ref aV, .int gc, .int gs, .int gb, .int gf, .int gl, .int gh, .int gn])), (aV, .inl (cI, 14, .inl gv)), (aW, .inr (3, [.ref aX, .int wn])), (aX, .inl (cI, 12, .inl wv))] sz) [(aC, .inr (6, [.ref aG, .ref aL, .ref aW, vS])), (aL, .inr (4, [.ref aG, .ref aT, .int tc])), (aT, .inl (cI, 53, .inl tv)), (aG, .inr (2, [.ref aV, .int gc, .int gs, .int ((f_X6_lower gb gn p0).2.1), .int gf, .int gl, .int gh, .int ((f_X6_lower gb gn p0).2.2)])), (aV, .inl (cI, 14, .inl gv)), (aW, .inr (3, [.ref aX, .int wn])), (aX, .inl (cI, 12, .inl wv))]) (va_A [(aC, .inr (6, [.ref aG, .ref aL, .ref aW, vS])), (aL, .inr (4, [.ref aG, .ref aT, .int tc])), (aT, .inl (cI, 53, .inl tv)), (aG, .inr (2, [.ref aV, .int gc, .int gs, .int gb, .int gf, .int gl, .int gh, .int gn])), (aV, .inl (cI, 14, .inl gv)), (aW, .inr (3, [.ref aX, .int wn])), (aX, .inl (cI, 12, .inl wv))] sz)) 0 0 (va_A [(aC, .inr (6, [.ref aG, .ref aL, .ref aW, vS])), (aL, .inr (4, [.ref aG, .ref aT, .int tc])), (aT, .inl (cI, 53, .inl tv)), (aG, .inr (2, [.ref aV, .int gc, .int gs, .int gb, .int gf, .int gl, .int gh, .int gn])), (aV, .inl (cI, 14, .inl gv)), (aW, .inr (3, [.ref aX, .int wn])), (aX, .inl (cI, 12, .inl wv))] sz) := by
  refine Met.ofW (cc := cX6_lower) (maxL := 3) (ret := (some .boolean)) (by decide) rfl ?_
  intro p e s m args below meth c s₁ B hml hv
  obtain ⟨rfl, hsz, hP, hK, hD0⟩ := hv
  subst hsz
  have hl := lv_entry ([.ref aC, .int p0]) (n := 3) (Nat.le_of_ble_eq_true rfl)
  rw [lg_entry_eq]
  refine w_X6_lower hz_gb hz_p0 B.exec B.bytes hml (findClass_of_methodNamed B.named) (atoms_spec (ws := wsX6_lower) B.pre) hK hP (hD0.self (sz := s.heap.size)) va_S.rf (fun q h => Or.inr h) rfl (fun r pc ls H locs hz gb' gn' hP hD hS er hd => ?_) _ hl
  simp only [Prod.ext_iff] at er
  obtain ⟨e0, e1, e2⟩ := er
  subst e0
  subst e1
  subst e2
  exact W.zret B.exec B.bytes B.returns (zb_n hz) (fun t ht hW => ⟨⟨_, (), rfl, rfl, by rw [ht]; exact hP, va_K.moved hW.alike hK, hD⟩, hS.F ht⟩) hS.2.2 hd B.notSynchronized
end
def f_X6_feign (gf : Int32) (gn : Int32) (p0 : Int32) : Int32 × Int32 × Int32 :=
  ((f_X1_isFeigning gf), ((f_X1_setFeigning gn p0).1), ((f_X1_setFeigning gn p0).2))
theorem e_X6_feign {gf : Int32} {gn : Int32} {p0 : Int32} : f_X6_feign gf gn p0 = ((f_X1_isFeigning gf), ((f_X1_setFeigning gn p0).1), ((f_X1_setFeigning gn p0).2)) := rfl
section
variable {p : Program} {l : Launch} {e : Env} {s : State} {m : MethodId} {args : Array Value} {below : List Frame} {meth : Method} {c : Code} {Q : State → Prop} {H : Heap} {locs : List Loc} {dC : Nat → ClassId} {dI : Nat → Nat → Nat} {cI cJ : ClassId}
abbrev rm_X6_feign : Room := { frames := 1, cells := 0, slots := 0, locals := 21 }
theorem hd_X6_feign : yX6_feign.cls = RX6 ∧ yX6_feign.cls ≠ "java/lang/invoke/MethodHandle" ∧ yX6_feign.cls ≠ "java/lang/invoke/VarHandle" ∧ (parseMethodDescriptor yX6_feign.desc).map (fun d => d.parameters.length) = some 1 := by decide +kernel
set_option maxHeartbeats 4000000 in
set_option maxRecDepth 100000 in
theorem w_X6_feign {aC : Nat} {aG : Nat} {aL : Nat} {aW : Nat} {aT : Nat} {aV : Nat} {aX : Nat} {vS : Value} {tc : Int32} {tv : Nat → Int32} {gc : Int32} {gs : Int32} {gb : Int32} {gf : Int32} {gl : Int32} {gh : Int32} {gn : Int32} {gv : Nat → Int32} {wn : Int32} {wv : Nat → Int32} {p0 : Int32} (hz_gf : zb gf) (hz_p0 : zb p0) {F : Int32 × Int32 × Int32} (hx : p.tables.exec = Jvm.exec) (hb : c.code = cX6_feign) (hml : c.maxLocals = 3) (hown : s.vm.findClass RX6 = some m.cls) (hts : ∀ w ∈ wsX6_feign, w.before args s = true) (hK : va_K (dC, dI) vwCl [(cI, .int), (cJ, .long)] s) {A : Nat → Prop} {H0 : Heap} (hP : va_P (dC, dI) vwCl [(aC, .inr (6, [.ref aG, .ref aL, .ref aW, vS])), (aL, .inr (4, [.ref aG, .ref aT, .int tc])), (aT, .inl (cI, 53, .inl tv)), (aG, .inr (2, [.ref aV, .int gc, .int gs, .int gb, .int gf, .int gl, .int gh, .int gn])), (aV, .inl (cI, 14, .inl gv)), (aW, .inr (3, [.ref aX, .int wn])), (aX, .inl (cI, 12, .inl wv))] H) (hD : va_D A [(aC, .inr (6, [.ref aG, .ref aL, .ref aW, vS])), (aL, .inr (4, [.ref aG, .ref aT, .int tc])), (aT, .inl (cI, 53, .inl tv)), (aG, .inr (2, [.ref aV, .int gc, .int gs, .int gb, .int gf, .int gl, .int gh, .int gn])), (aV, .inl (cI, 14, .inl gv)), (aW, .inr (3, [.ref aX, .int wn])), (aX, .inl (cI, 12, .inl wv))]) (hS : va_S A H0 H locs) (hA : ∀ q, H0.size ≤ q → A q) (hR : F = f_X6_feign gf gn p0) (kR : ∀ (r : Int32) (pc : Nat) (ls : Array Slot) (H : Heap) (locs : List Loc), zb r → ∀ (gf' : Int32) (gn' : Int32), va_P (dC, dI) vwCl [(aC, .inr (6, [.ref aG, .ref aL, .ref aW, vS])), (aL, .inr (4, [.ref aG, .ref aT, .int tc])), (aT, .inl (cI, 53, .inl tv)), (aG, .inr (2, [.ref aV, .int gc, .int gs, .int gb, .int gf', .int gl, .int gh, .int gn'])), (aV, .inl (cI, 14, .inl gv)), (aW, .inr (3, [.ref aX, .int wn])), (aX, .inl (cI, 12, .inl wv))] H → va_D A [(aC, .inr (6, [.ref aG, .ref aL, .ref aW, vS])), (aL, .inr (4, [.ref aG, .ref aT, .int tc])), (aT, .inl (cI, 53, .inl tv)), (aG, .inr (2, [.ref aV, .int gc, .int gs, .int gb, .int gf', .int gl, .int gh, .int gn'])), (aV, .inl (cI, 14, .inl gv)), (aW, .inr (3, [.ref aX, .int wn])), (aX, .inl (cI, 12, .inl wv))] → va_S A H0 H locs → (r, gf', gn') = F → decode cX6_feign pc = .ok (.ireturn, 1) → W p l e rm_X6_feign s m args below meth c H locs 0 0 Q (F0 m pc ls [.int r])) (ls : Array Slot) (hl : lv_has ls 3 [(0, .ref aC), (1, .int p0)]) : W p l e rm_X6_feign s m args below meth c H locs 0 0 Q (F0 m 0 ls []) := by
  have hR := hR.trans e_X6_feign
  refine lv_aload_n hx hb dX6_feign_0 rfl (lv_at hl 0 rfl) ?_
  refine va_get (D := (dC, dI)) (ci := 6) (v := .ref aG) (C := RX6) (T := TX6) (N := 4) hx hb hts inC_X6 hown hK hP 0 rfl rfl 0 (by decide) (hts (.fieldLink RX6 10 "Counterpointery" "ground" "LCounterpointery$Ground;") (List.mem_cons_of_mem _ wm_384)) (fun _ h9 => h9) rfl dX6_feign_1 ?_
  refine rV_i (q0 := 0) (As := []) (rest := []) ⟨hx, hb, hml, hown, hts⟩ (m_X1_isFeigning l dC dI cI cJ aG aV gc gs gb gf gl gh gn gv hz_gf) (cwV 0 hts (gi_V wm_450 wm_153 wm_154 wm_65 wm_155) rfl rfl rfl hd_X1_isFeigning ⟨Nat.le_of_ble_eq_true rfl, Nat.le_of_ble_eq_true rfl⟩) hK (hP.sub [3, 4] rfl) rfl rfl rfl hl.1 rfl (Nat.le_of_ble_eq_true rfl) dX6_feign_4 ⟨Nat.zero_le _, Nat.zero_le _⟩ ?_
  refine lv_istore_n (lv' := [(2, .int (f_X1_isFeigning gf)), (0, .ref aC), (1, .int p0)]) hx hb dX6_feign_7 rfl hl (by decide) rfl (fun ls hl => ?_)
  refine lv_aload_n hx hb dX6_feign_8 rfl (lv_at hl 1 rfl) ?_
  refine va_get (D := (dC, dI)) (ci := 6) (v := .ref aG) (C := RX6) (T := TX6) (N := 4) hx hb hts inC_X6 hown hK hP 0 rfl rfl 0 (by decide) (hts (.fieldLink RX6 10 "Counterpointery" "ground" "LCounterpointery$Ground;") (List.mem_cons_of_mem _ wm_384)) (fun _ h9 => h9) rfl dX6_feign_9 ?_
  refine lv_iload_n hx hb dX6_feign_12 rfl (lv_at hl 2 rfl) ?_
  refine wV_v (q0 := 0) (As := [.int p0]) (rest := []) (wc := [(aG, .inr (2, [.ref aV, .int gc, .int gs, .int gb, .int gf, .int gl, .int gh, .int gn])), (aV, .inl (cI, 14, .inl gv))]) (w1 := [(aG, .inr (2, [.ref aV, .int gc, .int gs, .int gb, .int ((f_X1_setFeigning gn p0).1), .int gl, .int gh, .int ((f_X1_setFeigning gn p0).2)])), (aV, .inl (cI, 14, .inl gv))]) (wr := [(aC, .inr (6, [.ref aG, .ref aL, .ref aW, vS])), (aL, .inr (4, [.ref aG, .ref aT, .int tc])), (aT, .inl (cI, 53, .inl tv)), (aW, .inr (3, [.ref aX, .int wn])), (aX, .inl (cI, 12, .inl wv))]) (wn := [(aC, .inr (6, [.ref aG, .ref aL, .ref aW, vS])), (aL, .inr (4, [.ref aG, .ref aT, .int tc])), (aT, .inl (cI, 53, .inl tv)), (aG, .inr (2, [.ref aV, .int gc, .int gs, .int gb, .int ((f_X1_setFeigning gn p0).1), .int gl, .int gh, .int ((f_X1_setFeigning gn p0).2)])), (aV, .inl (cI, 14, .inl gv)), (aW, .inr (3, [.ref aX, .int wn])), (aX, .inl (cI, 12, .inl wv))]) ⟨hx, hb, hml, hown, hts⟩ (m_X1_setFeigning l dC dI cI cJ aG aV gc gs gb gf gl gh gn gv p0 hz_p0 H.size) (cwV 1 hts (gi_V wm_451 wm_452 wm_453 wm_65 wm_454) rfl rfl rfl hd_X1_setFeigning ⟨Nat.le_of_ble_eq_true rfl, Nat.le_of_ble_eq_true rfl⟩) hK hP hD hS hA [3, 4] [0, 1, 2, 5, 6] [0, 1, 2, 5, 6, 3, 4] rfl rfl rfl (by decide) (by decide) (by decide) (by decide) rfl rfl rfl hl.1 rfl (Nat.le_of_ble_eq_true rfl) dX6_feign_13 ⟨Nat.zero_le _, Nat.zero_le _⟩ (fun H locs hP hD hS => ?_)
  refine lv_iload_n hx hb dX6_feign_16 rfl (lv_at hl 0 rfl) ?_
  exact kR (f_X1_isFeigning gf) 17 ls H locs (zb_X1_isFeigning hz_gf) ((f_X1_setFeigning gn p0).1) ((f_X1_setFeigning gn p0).2) hP hD hS hR.symm dX6_feign_17
set_option maxHeartbeats 4000000 in
set_option maxRecDepth 100000 in
theorem m_X6_feign (l : Launch) (dC : Nat → ClassId) (dI : Nat → Nat → Nat) (cI cJ : ClassId) (aC : Nat) (aG : Nat) (aL : Nat) (aW : Nat) (aT : Nat) (aV : Nat) (aX : Nat) (vS : Value) (tc : Int32) (tv : Nat → Int32) (gc : Int32) (gs : Int32) (gb : Int32) (gf : Int32) (gl : Int32) (gh : Int32) (gn : Int32) (gv : Nat → Int32) (wn : Int32) (wv : Nat → Int32) (p0 : Int32) (hz_gf : zb gf) (hz_p0 : zb p0) (sz : Nat) : Met l yX6_feign wsX6_feign rm_X6_feign (va_Pc [.ref aC, .int p0] (fun U => U.heap.size = sz ∧ va_P (dC, dI) vwCl [(aC, .inr (6, [.ref aG, .ref aL, .ref aW, vS])), (aL, .inr (4, [.ref aG, .ref aT, .int tc])), (aT, .inl (cI, 53, .inl tv)), (aG, .inr (2, [.ref aV, .int gc, .int gs, .int gb, .int gf, .int gl, .int gh, .int gn])), (aV, .inl (cI, 14, .inl gv)), (aW, .inr (3, [.ref aX, .int wn])), (aX, .inl (cI, 12, .inl wv))] U.heap ∧ va_K (dC, dI) vwCl [(cI, .int), (cJ, .long)] U ∧ va_D (fun _ => True) [(aC, .inr (6, [.ref aG, .ref aL, .ref aW, vS])), (aL, .inr (4, [.ref aG, .ref aT, .int tc])), (aT, .inl (cI, 53, .inl tv)), (aG, .inr (2, [.ref aV, .int gc, .int gs, .int gb, .int gf, .int gl, .int gh, .int gn])), (aV, .inl (cI, 14, .inl gv)), (aW, .inr (3, [.ref aX, .int wn])), (aX, .inl (cI, 12, .inl wv))])) (va_Qi (fun (r : Int32) (_ : Unit) => r = (f_X6_feign gf gn p0).1) (fun _ t => va_P (dC, dI) vwCl [(aC, .inr (6, [.ref aG, .ref aL, .ref aW, vS])), (aL, .inr (4, [.ref aG, .ref aT, .int tc])), (aT, .inl (cI, 53, .inl tv)), (aG, .inr (2, [.ref aV, .int gc, .int gs, .int gb, .int ((f_X6_feign gf gn p0).2.1), .int gl, .int gh, .int ((f_X6_feign gf gn p0).2.2)])), (aV, .inl (cI, 14, .inl gv)), (aW, .inr (3, [.ref aX, .int wn])), (aX, .inl (cI, 12, .inl wv))] t.heap ∧ va_K (dC, dI) vwCl [(cI, .int), (cJ, .long)] t ∧ va_D (va_A [(aC, .inr (6, [.ref aG, .ref aL, .ref aW, vS])), (aL, .inr (4, [.ref aG, .ref aT, .int tc])), (aT, .inl (cI, 53, .inl tv)), (aG, .inr (2, [.ref aV, .int gc, .int gs, .int gb, .int gf, .int gl, .int gh, .int gn])), (aV, .inl (cI, 14, .inl gv)), (aW, .inr (3, [.ref aX, .int wn])), (aX, .inl (cI, 12, .inl wv))] sz) [(aC, .inr (6, [.ref aG, .ref aL, .ref aW, vS])), (aL, .inr (4, [.ref aG, .ref aT, .int tc])), (aT, .inl (cI, 53, .inl tv)), (aG, .inr (2, [.ref aV, .int gc, .int gs, .int gb, .int ((f_X6_feign gf gn p0).2.1), .int gl, .int gh, .int ((f_X6_feign gf gn p0).2.2)])), (aV, .inl (cI, 14, .inl gv)), (aW, .inr (3, [.ref aX, .int wn])), (aX, .inl (cI, 12, .inl wv))]) (va_A [(aC, .inr (6, [.ref aG, .ref aL, .ref aW, vS])), (aL, .inr (4, [.ref aG, .ref aT, .int tc])), (aT, .inl (cI, 53, .inl tv)), (aG, .inr (2, [.ref aV, .int gc, .int gs, .int gb, .int gf, .int gl, .int gh, .int gn])), (aV, .inl (cI, 14, .inl gv)), (aW, .inr (3, [.ref aX, .int wn])), (aX, .inl (cI, 12, .inl wv))] sz)) 0 0 (va_A [(aC, .inr (6, [.ref aG, .ref aL, .ref aW, vS])), (aL, .inr (4, [.ref aG, .ref aT, .int tc])), (aT, .inl (cI, 53, .inl tv)), (aG, .inr (2, [.ref aV, .int gc, .int gs, .int gb, .int gf, .int gl, .int gh, .int gn])), (aV, .inl (cI, 14, .inl gv)), (aW, .inr (3, [.ref aX, .int wn])), (aX, .inl (cI, 12, .inl wv))] sz) := by
  refine Met.ofW (cc := cX6_feign) (maxL := 3) (ret := (some .boolean)) (by decide) rfl ?_
  intro p e s m args below meth c s₁ B hml hv
  obtain ⟨rfl, hsz, hP, hK, hD0⟩ := hv
  subst hsz
  have hl := lv_entry ([.ref aC, .int p0]) (n := 3) (Nat.le_of_ble_eq_true rfl)
  rw [lg_entry_eq]
  refine w_X6_feign hz_gf hz_p0 B.exec B.bytes hml (findClass_of_methodNamed B.named) (atoms_spec (ws := wsX6_feign) B.pre) hK hP (hD0.self (sz := s.heap.size)) va_S.rf (fun q h => Or.inr h) rfl (fun r pc ls H locs hz gf' gn' hP hD hS er hd => ?_) _ hl
  simp only [Prod.ext_iff] at er
  obtain ⟨e0, e1, e2⟩ := er
  subst e0
  subst e1
  subst e2
  exact W.zret B.exec B.bytes B.returns (zb_n hz) (fun t ht hW => ⟨⟨_, (), rfl, rfl, by rw [ht]; exact hP, va_K.moved hW.alike hK, hD⟩, hS.F ht⟩) hS.2.2 hd B.notSynchronized
end
def f_X6_notes (tc : Int32) : Int32 :=
  (f_X3_length tc)
theorem e_X6_notes {tc : Int32} : f_X6_notes tc = (f_X3_length tc) := rfl
section
variable {p : Program} {l : Launch} {e : Env} {s : State} {m : MethodId} {args : Array Value} {below : List Frame} {meth : Method} {c : Code} {Q : State → Prop} {H : Heap} {locs : List Loc} {dC : Nat → ClassId} {dI : Nat → Nat → Nat} {cI cJ : ClassId}
abbrev rm_X6_notes : Room := { frames := 1, cells := 0, slots := 0, locals := 20 }
theorem hd_X6_notes : yX6_notes.cls = RX6 ∧ yX6_notes.cls ≠ "java/lang/invoke/MethodHandle" ∧ yX6_notes.cls ≠ "java/lang/invoke/VarHandle" ∧ (parseMethodDescriptor yX6_notes.desc).map (fun d => d.parameters.length) = some 0 := by decide +kernel
set_option maxHeartbeats 4000000 in
set_option maxRecDepth 100000 in
theorem w_X6_notes {aC : Nat} {aG : Nat} {aL : Nat} {aW : Nat} {aT : Nat} {aV : Nat} {aX : Nat} {vS : Value} {tc : Int32} {tv : Nat → Int32} {gc : Int32} {gs : Int32} {gb : Int32} {gf : Int32} {gl : Int32} {gh : Int32} {gn : Int32} {gv : Nat → Int32} {wn : Int32} {wv : Nat → Int32} {F : Int32} (hx : p.tables.exec = Jvm.exec) (hb : c.code = cX6_notes) (hml : c.maxLocals = 1) (hown : s.vm.findClass RX6 = some m.cls) (hts : ∀ w ∈ wsX6_notes, w.before args s = true) (hK : va_K (dC, dI) vwCl [(cI, .int), (cJ, .long)] s) (hP : va_P (dC, dI) vwCl [(aC, .inr (6, [.ref aG, .ref aL, .ref aW, vS])), (aL, .inr (4, [.ref aG, .ref aT, .int tc])), (aT, .inl (cI, 53, .inl tv)), (aG, .inr (2, [.ref aV, .int gc, .int gs, .int gb, .int gf, .int gl, .int gh, .int gn])), (aV, .inl (cI, 14, .inl gv)), (aW, .inr (3, [.ref aX, .int wn])), (aX, .inl (cI, 12, .inl wv))] H) (hR : F = f_X6_notes tc) (kR : ∀ (r : Int32) (pc : Nat) (ls : Array Slot), r = F → decode cX6_notes pc = .ok (.ireturn, 1) → W p l e rm_X6_notes s m args below meth c H locs 0 0 Q (F0 m pc ls [.int r])) (ls : Array Slot) (hl : lv_has ls 1 [(0, .ref aC)]) : W p l e rm_X6_notes s m args below meth c H locs 0 0 Q (F0 m 0 ls []) := by
  have hR := hR.trans e_X6_notes
  refine lv_aload_n hx hb dX6_notes_0 rfl (lv_at hl 0 rfl) ?_
  refine va_get (D := (dC, dI)) (ci := 6) (v := .ref aL) (C := RX6) (T := TX6) (N := 4) hx hb hts inC_X6 hown hK hP 0 rfl rfl 1 (by decide) (hts (.fieldLink RX6 21 "Counterpointery" "line" "LCounterpointery$Line;") (List.mem_cons_of_mem _ wm_386)) (fun _ h9 => h9) rfl dX6_notes_1 ?_
  refine rV_i (q0 := 0) (As := []) (rest := []) ⟨hx, hb, hml, hown, hts⟩ (m_X3_length l dC dI cI cJ aL aG aT aV tc tv gc gs gb gf gl gh gn gv) (cwV 0 hts (gi_V wm_423 wm_1 wm_2 wm_3 wm_4) rfl rfl rfl hd_X3_length ⟨Nat.le_of_ble_eq_true rfl, Nat.le_of_ble_eq_true rfl⟩) hK (hP.sub [1, 2, 3, 4] rfl) rfl rfl rfl hl.1 rfl (Nat.le_of_ble_eq_true rfl) dX6_notes_4 ⟨Nat.zero_le _, Nat.zero_le _⟩ ?_
  exact kR (f_X3_length tc) 7 ls hR.symm dX6_notes_7
set_option maxHeartbeats 4000000 in
set_option maxRecDepth 100000 in
theorem m_X6_notes (l : Launch) (dC : Nat → ClassId) (dI : Nat → Nat → Nat) (cI cJ : ClassId) (aC : Nat) (aG : Nat) (aL : Nat) (aW : Nat) (aT : Nat) (aV : Nat) (aX : Nat) (vS : Value) (tc : Int32) (tv : Nat → Int32) (gc : Int32) (gs : Int32) (gb : Int32) (gf : Int32) (gl : Int32) (gh : Int32) (gn : Int32) (gv : Nat → Int32) (wn : Int32) (wv : Nat → Int32) : Met l yX6_notes wsX6_notes rm_X6_notes (va_Pc [.ref aC] (fun U => va_P (dC, dI) vwCl [(aC, .inr (6, [.ref aG, .ref aL, .ref aW, vS])), (aL, .inr (4, [.ref aG, .ref aT, .int tc])), (aT, .inl (cI, 53, .inl tv)), (aG, .inr (2, [.ref aV, .int gc, .int gs, .int gb, .int gf, .int gl, .int gh, .int gn])), (aV, .inl (cI, 14, .inl gv)), (aW, .inr (3, [.ref aX, .int wn])), (aX, .inl (cI, 12, .inl wv))] U.heap ∧ va_K (dC, dI) vwCl [(cI, .int), (cJ, .long)] U)) (vp_Si (fun r => r = f_X6_notes tc)) 0 0 (fun _ => False) := by
  refine Met.ofW (cc := cX6_notes) (maxL := 1) (ret := (some .int)) (by decide) rfl ?_
  intro p e s m args below meth c s₁ B hml hv
  obtain ⟨rfl, hP, hK⟩ := hv
  have hl := lv_entry ([.ref aC]) (n := 1) (Nat.le_of_ble_eq_true rfl)
  rw [lg_entry_eq]
  refine w_X6_notes B.exec B.bytes hml (findClass_of_methodNamed B.named) (atoms_spec (ws := wsX6_notes) B.pre) hK hP rfl (fun r pc ls er hd => ?_) _ hl
  exact W.iret B.exec B.bytes B.returns (fun t ht hW => ⟨r, rfl, er, ht⟩) (fun _ h => by cases h) hd B.notSynchronized
end
def f_X6_canTryAll (gc : Int32) (gs : Int32) (gl : Int32) (gh : Int32) : Int32 :=
  (if (f_X1_perGiven gs) = (1 : Int32) then (if (f_X1_size gc) < (2 : Int32) then (0 : Int32) else (if (4 : Int32) < (f_X1_size gc) then (0 : Int32) else (if (8 : Int32) < (f_X1_width gl gh) then (0 : Int32) else (1 : Int32)))) else (0 : Int32))
theorem e_X6_canTryAll {gc : Int32} {gs : Int32} {gl : Int32} {gh : Int32} : f_X6_canTryAll gc gs gl gh = (if (f_X1_perGiven gs) = (1 : Int32) then (if (f_X1_size gc) < (2 : Int32) then (0 : Int32) else (if (4 : Int32) < (f_X1_size gc) then (0 : Int32) else (if (8 : Int32) < (f_X1_width gl gh) then (0 : Int32) else (1 : Int32)))) else (0 : Int32)) := rfl
section
variable {p : Program} {l : Launch} {e : Env} {s : State} {m : MethodId} {args : Array Value} {below : List Frame} {meth : Method} {c : Code} {Q : State → Prop} {H : Heap} {locs : List Loc} {dC : Nat → ClassId} {dI : Nat → Nat → Nat} {cI cJ : ClassId}
abbrev rm_X6_canTryAll : Room := { frames := 1, cells := 0, slots := 0, locals := 20 }
theorem hd_X6_canTryAll : yX6_canTryAll.cls = RX6 ∧ yX6_canTryAll.cls ≠ "java/lang/invoke/MethodHandle" ∧ yX6_canTryAll.cls ≠ "java/lang/invoke/VarHandle" ∧ (parseMethodDescriptor yX6_canTryAll.desc).map (fun d => d.parameters.length) = some 0 := by decide +kernel
set_option maxHeartbeats 4000000 in
set_option maxRecDepth 100000 in
theorem w_X6_canTryAll {aC : Nat} {aG : Nat} {aL : Nat} {aW : Nat} {aT : Nat} {aV : Nat} {aX : Nat} {vS : Value} {tc : Int32} {tv : Nat → Int32} {gc : Int32} {gs : Int32} {gb : Int32} {gf : Int32} {gl : Int32} {gh : Int32} {gn : Int32} {gv : Nat → Int32} {wn : Int32} {wv : Nat → Int32} {F : Int32} (hx : p.tables.exec = Jvm.exec) (hb : c.code = cX6_canTryAll) (hml : c.maxLocals = 1) (hown : s.vm.findClass RX6 = some m.cls) (hts : ∀ w ∈ wsX6_canTryAll, w.before args s = true) (hK : va_K (dC, dI) vwCl [(cI, .int), (cJ, .long)] s) (hP : va_P (dC, dI) vwCl [(aC, .inr (6, [.ref aG, .ref aL, .ref aW, vS])), (aL, .inr (4, [.ref aG, .ref aT, .int tc])), (aT, .inl (cI, 53, .inl tv)), (aG, .inr (2, [.ref aV, .int gc, .int gs, .int gb, .int gf, .int gl, .int gh, .int gn])), (aV, .inl (cI, 14, .inl gv)), (aW, .inr (3, [.ref aX, .int wn])), (aX, .inl (cI, 12, .inl wv))] H) (hR : F = f_X6_canTryAll gc gs gl gh) (kR : ∀ (r : Int32) (pc : Nat) (ls : Array Slot), zb r → r = F → decode cX6_canTryAll pc = .ok (.ireturn, 1) → W p l e rm_X6_canTryAll s m args below meth c H locs 0 0 Q (F0 m pc ls [.int r])) (ls : Array Slot) (hl : lv_has ls 1 [(0, .ref aC)]) : W p l e rm_X6_canTryAll s m args below meth c H locs 0 0 Q (F0 m 0 ls []) := by
  have hR := hR.trans e_X6_canTryAll
  refine lv_aload_n hx hb dX6_canTryAll_0 rfl (lv_at hl 0 rfl) ?_
  refine va_get (D := (dC, dI)) (ci := 6) (v := .ref aG) (C := RX6) (T := TX6) (N := 4) hx hb hts inC_X6 hown hK hP 0 rfl rfl 0 (by decide) (hts (.fieldLink RX6 10 "Counterpointery" "ground" "LCounterpointery$Ground;") (List.mem_cons_of_mem _ wm_384)) (fun _ h9 => h9) rfl dX6_canTryAll_1 ?_
  refine rV_i (q0 := 0) (As := []) (rest := []) ⟨hx, hb, hml, hown, hts⟩ (m_X1_perGiven l dC dI cI cJ aG aV gc gs gb gf gl gh gn gv) (cwV 0 hts (gi_V wm_440 wm_63 wm_64 wm_65 wm_66) rfl rfl rfl hd_X1_perGiven ⟨Nat.le_of_ble_eq_true rfl, Nat.le_of_ble_eq_true rfl⟩) hK (hP.sub [3, 4] rfl) rfl rfl rfl hl.1 rfl (Nat.le_of_ble_eq_true rfl) dX6_canTryAll_4 ⟨Nat.zero_le _, Nat.zero_le _⟩ ?_
  refine lv_iconst (v := (1 : Int32)) hx hb dX6_canTryAll_7 (by decide) ?_
  refine lv_icmp_ne (tgt := 49) hx hb dX6_canTryAll_8 (by decide) (fun c_1 => ?_) (fun c_1 => ?_)
  · have hR := hR.trans (if_neg c_1)
    refine lv_iconst (v := (0 : Int32)) hx hb dX6_canTryAll_49 (by decide) ?_
    exact kR (0 : Int32) 50 ls (by first | exact Or.inl rfl | exact Or.inr rfl) hR.symm dX6_canTryAll_50
  · have hR := hR.trans (if_pos c_1)
    refine lv_aload_n hx hb dX6_canTryAll_11 rfl (lv_at hl 0 rfl) ?_
    refine va_get (D := (dC, dI)) (ci := 6) (v := .ref aG) (C := RX6) (T := TX6) (N := 4) hx hb hts inC_X6 hown hK hP 0 rfl rfl 0 (by decide) (hts (.fieldLink RX6 10 "Counterpointery" "ground" "LCounterpointery$Ground;") (List.mem_cons_of_mem _ wm_384)) (fun _ h9 => h9) rfl dX6_canTryAll_12 ?_
    refine rV_i (q0 := 0) (As := []) (rest := []) ⟨hx, hb, hml, hown, hts⟩ (m_X1_size l dC dI cI cJ aG aV gc gs gb gf gl gh gn gv) (cwV 0 hts (gi_V wm_409 wm_144 wm_145 wm_65 wm_146) rfl rfl rfl hd_X1_size ⟨Nat.le_of_ble_eq_true rfl, Nat.le_of_ble_eq_true rfl⟩) hK (hP.sub [3, 4] rfl) rfl rfl rfl hl.1 rfl (Nat.le_of_ble_eq_true rfl) dX6_canTryAll_15 ⟨Nat.zero_le _, Nat.zero_le _⟩ ?_
    refine lv_iconst (v := (2 : Int32)) hx hb dX6_canTryAll_18 (by decide) ?_
    refine lv_icmp_lt (tgt := 49) hx hb dX6_canTryAll_19 (by decide) (fun c_2 => ?_) (fun c_2 => ?_)
    · have hR := hR.trans (if_pos c_2)
      refine lv_iconst (v := (0 : Int32)) hx hb dX6_canTryAll_49 (by decide) ?_
      exact kR (0 : Int32) 50 ls (by first | exact Or.inl rfl | exact Or.inr rfl) hR.symm dX6_canTryAll_50
    · have hR := hR.trans (if_neg c_2)
      refine lv_aload_n hx hb dX6_canTryAll_22 rfl (lv_at hl 0 rfl) ?_
      refine va_get (D := (dC, dI)) (ci := 6) (v := .ref aG) (C := RX6) (T := TX6) (N := 4) hx hb hts inC_X6 hown hK hP 0 rfl rfl 0 (by decide) (hts (.fieldLink RX6 10 "Counterpointery" "ground" "LCounterpointery$Ground;") (List.mem_cons_of_mem _ wm_384)) (fun _ h9 => h9) rfl dX6_canTryAll_23 ?_
      refine rV_i (q0 := 0) (As := []) (rest := []) ⟨hx, hb, hml, hown, hts⟩ (m_X1_size l dC dI cI cJ aG aV gc gs gb gf gl gh gn gv) (cwV 0 hts (gi_V wm_409 wm_144 wm_145 wm_65 wm_146) rfl rfl rfl hd_X1_size ⟨Nat.le_of_ble_eq_true rfl, Nat.le_of_ble_eq_true rfl⟩) hK (hP.sub [3, 4] rfl) rfl rfl rfl hl.1 rfl (Nat.le_of_ble_eq_true rfl) dX6_canTryAll_26 ⟨Nat.zero_le _, Nat.zero_le _⟩ ?_
      refine lv_iconst (v := (4 : Int32)) hx hb dX6_canTryAll_29 (by decide) ?_
      refine lv_icmp_gt (tgt := 49) hx hb dX6_canTryAll_30 (by decide) (fun c_3 => ?_) (fun c_3 => ?_)
      · have hR := hR.trans (if_pos c_3)
        refine lv_iconst (v := (0 : Int32)) hx hb dX6_canTryAll_49 (by decide) ?_
        exact kR (0 : Int32) 50 ls (by first | exact Or.inl rfl | exact Or.inr rfl) hR.symm dX6_canTryAll_50
      · have hR := hR.trans (if_neg c_3)
        refine lv_aload_n hx hb dX6_canTryAll_33 rfl (lv_at hl 0 rfl) ?_
        refine va_get (D := (dC, dI)) (ci := 6) (v := .ref aG) (C := RX6) (T := TX6) (N := 4) hx hb hts inC_X6 hown hK hP 0 rfl rfl 0 (by decide) (hts (.fieldLink RX6 10 "Counterpointery" "ground" "LCounterpointery$Ground;") (List.mem_cons_of_mem _ wm_384)) (fun _ h9 => h9) rfl dX6_canTryAll_34 ?_
        refine rV_i (q0 := 0) (As := []) (rest := []) ⟨hx, hb, hml, hown, hts⟩ (m_X1_width l dC dI cI cJ aG aV gc gs gb gf gl gh gn gv) (cwV 0 hts (gi_V wm_560 wm_262 wm_263 wm_65 wm_264) rfl rfl rfl hd_X1_width ⟨Nat.le_of_ble_eq_true rfl, Nat.le_of_ble_eq_true rfl⟩) hK (hP.sub [3, 4] rfl) rfl rfl rfl hl.1 rfl (Nat.le_of_ble_eq_true rfl) dX6_canTryAll_37 ⟨Nat.zero_le _, Nat.zero_le _⟩ ?_
        refine lv_bipush (v := (8 : Int32)) hx hb dX6_canTryAll_40 (by decide) ?_
        refine lv_icmp_gt (tgt := 49) hx hb dX6_canTryAll_42 (by decide) (fun c_4 => ?_) (fun c_4 => ?_)
        · have hR := hR.trans (if_pos c_4)
          refine lv_iconst (v := (0 : Int32)) hx hb dX6_canTryAll_49 (by decide) ?_
          exact kR (0 : Int32) 50 ls (by first | exact Or.inl rfl | exact Or.inr rfl) hR.symm dX6_canTryAll_50
        · have hR := hR.trans (if_neg c_4)
          refine lv_iconst (v := (1 : Int32)) hx hb dX6_canTryAll_45 (by decide) ?_
          refine lv_goto (tgt := 50) hx hb dX6_canTryAll_46 (by decide) ?_
          exact kR (1 : Int32) 50 ls (by first | exact Or.inl rfl | exact Or.inr rfl) hR.symm dX6_canTryAll_50
set_option maxHeartbeats 4000000 in
set_option maxRecDepth 100000 in
theorem m_X6_canTryAll (l : Launch) (dC : Nat → ClassId) (dI : Nat → Nat → Nat) (cI cJ : ClassId) (aC : Nat) (aG : Nat) (aL : Nat) (aW : Nat) (aT : Nat) (aV : Nat) (aX : Nat) (vS : Value) (tc : Int32) (tv : Nat → Int32) (gc : Int32) (gs : Int32) (gb : Int32) (gf : Int32) (gl : Int32) (gh : Int32) (gn : Int32) (gv : Nat → Int32) (wn : Int32) (wv : Nat → Int32) : Met l yX6_canTryAll wsX6_canTryAll rm_X6_canTryAll (va_Pc [.ref aC] (fun U => va_P (dC, dI) vwCl [(aC, .inr (6, [.ref aG, .ref aL, .ref aW, vS])), (aL, .inr (4, [.ref aG, .ref aT, .int tc])), (aT, .inl (cI, 53, .inl tv)), (aG, .inr (2, [.ref aV, .int gc, .int gs, .int gb, .int gf, .int gl, .int gh, .int gn])), (aV, .inl (cI, 14, .inl gv)), (aW, .inr (3, [.ref aX, .int wn])), (aX, .inl (cI, 12, .inl wv))] U.heap ∧ va_K (dC, dI) vwCl [(cI, .int), (cJ, .long)] U)) (vp_Si (fun r => r = f_X6_canTryAll gc gs gl gh)) 0 0 (fun _ => False) := by
  refine Met.ofW (cc := cX6_canTryAll) (maxL := 1) (ret := (some .boolean)) (by decide) rfl ?_
  intro p e s m args below meth c s₁ B hml hv
  obtain ⟨rfl, hP, hK⟩ := hv
  have hl := lv_entry ([.ref aC]) (n := 1) (Nat.le_of_ble_eq_true rfl)
  rw [lg_entry_eq]
  refine w_X6_canTryAll B.exec B.bytes hml (findClass_of_methodNamed B.named) (atoms_spec (ws := wsX6_canTryAll) B.pre) hK hP rfl (fun r pc ls hz er hd => ?_) _ hl
  exact W.zret B.exec B.bytes B.returns (zb_n hz) (fun t ht hW => ⟨r, rfl, er, ht⟩) (fun _ h => by cases h) hd B.notSynchronized
end
def f_X6_faults_l13 (tc : Int32) (tv : Nat → Int32) (gc : Int32) (gs : Int32) (gb : Int32) (gf : Int32) (gv : Nat → Int32) (wv : Nat → Int32) : Nat → Int32 → Int32 → Int32
  | 0, _, _ => default
  | fu + 1, v1, v2 =>
    (if (f_X3_length tc) ≤ v2 then v1 else (f_X6_faults_l13 tc tv gc gs gb gf gv wv fu) (v1 + (f_J6_bitCount_0f7a4 ((f_X3_faultsAt tc tv gc gs gb gf gv v2) &&& (f_X2_weighing wv (1 : Int32))))) (v2 + (1 : Int32)))
theorem e_X6_faults_l13 {fu : Nat} {tc : Int32} {tv : Nat → Int32} {gc : Int32} {gs : Int32} {gb : Int32} {gf : Int32} {gv : Nat → Int32} {wv : Nat → Int32} {v1 : Int32} {v2 : Int32} : f_X6_faults_l13 tc tv gc gs gb gf gv wv (fu + 1) v1 v2 = (if (f_X3_length tc) ≤ v2 then v1 else (f_X6_faults_l13 tc tv gc gs gb gf gv wv fu) (v1 + (f_J6_bitCount_0f7a4 ((f_X3_faultsAt tc tv gc gs gb gf gv v2) &&& (f_X2_weighing wv (1 : Int32))))) (v2 + (1 : Int32))) := rfl
def f_X6_faults (tc : Int32) (tv : Nat → Int32) (gc : Int32) (gs : Int32) (gb : Int32) (gf : Int32) (gv : Nat → Int32) (wv : Nat → Int32) : Int32 :=
  f_X6_faults_l13 tc tv gc gs gb gf gv wv (((f_X3_length tc).toInt - (0 : Int32).toInt).toNat + 1) (0 : Int32) (0 : Int32)
theorem e_X6_faults {tc : Int32} {tv : Nat → Int32} {gc : Int32} {gs : Int32} {gb : Int32} {gf : Int32} {gv : Nat → Int32} {wv : Nat → Int32} : f_X6_faults tc tv gc gs gb gf gv wv = f_X6_faults_l13 tc tv gc gs gb gf gv wv (((f_X3_length tc).toInt - (0 : Int32).toInt).toNat + 1) (0 : Int32) (0 : Int32) := rfl
section
variable {p : Program} {l : Launch} {e : Env} {s : State} {m : MethodId} {args : Array Value} {below : List Frame} {meth : Method} {c : Code} {Q : State → Prop} {H : Heap} {locs : List Loc} {dC : Nat → ClassId} {dI : Nat → Nat → Nat} {cI cJ : ClassId}
abbrev rm_X6_faults : Room := { frames := 5, cells := 0, slots := 0, locals := 115 }
theorem hd_X6_faults : yX6_faults.cls = RX6 ∧ yX6_faults.cls ≠ "java/lang/invoke/MethodHandle" ∧ yX6_faults.cls ≠ "java/lang/invoke/VarHandle" ∧ (parseMethodDescriptor yX6_faults.desc).map (fun d => d.parameters.length) = some 0 := by decide +kernel
set_option maxHeartbeats 4000000 in
set_option maxRecDepth 100000 in
theorem w_X6_faults {aC : Nat} {aG : Nat} {aL : Nat} {aW : Nat} {aT : Nat} {aV : Nat} {aX : Nat} {vS : Value} {tc : Int32} {tv : Nat → Int32} {gc : Int32} {gs : Int32} {gb : Int32} {gf : Int32} {gl : Int32} {gh : Int32} {gn : Int32} {gv : Nat → Int32} {wn : Int32} {wv : Nat → Int32} (hz_gb : zb gb) (hz_gf : zb gf) {F : Int32} (hx : p.tables.exec = Jvm.exec) (hb : c.code = cX6_faults) (hml : c.maxLocals = 4) (hown : s.vm.findClass RX6 = some m.cls) (hts : ∀ w ∈ wsX6_faults, w.before args s = true) (hK : va_K (dC, dI) vwCl [(cI, .int), (cJ, .long)] s) (hP : va_P (dC, dI) vwCl [(aC, .inr (6, [.ref aG, .ref aL, .ref aW, vS])), (aL, .inr (4, [.ref aG, .ref aT, .int tc])), (aT, .inl (cI, 53, .inl tv)), (aG, .inr (2, [.ref aV, .int gc, .int gs, .int gb, .int gf, .int gl, .int gh, .int gn])), (aV, .inl (cI, 14, .inl gv)), (aW, .inr (3, [.ref aX, .int wn])), (aX, .inl (cI, 12, .inl wv))] H) (hR : F = f_X6_faults tc tv gc gs gb gf gv wv) (kR : ∀ (r : Int32) (pc : Nat) (ls : Array Slot), r = F → decode cX6_faults pc = .ok (.ireturn, 1) → W p l e rm_X6_faults s m args below meth c H locs 0 0 Q (F0 m pc ls [.int r])) (ls : Array Slot) (hl : lv_has ls 4 [(0, .ref aC)]) : W p l e rm_X6_faults s m args below meth c H locs 0 0 Q (F0 m 0 ls []) := by
  have hR := hR.trans e_X6_faults
  refine lv_aload_n hx hb dX6_faults_0 rfl (lv_at hl 0 rfl) ?_
  refine va_get (D := (dC, dI)) (ci := 6) (v := .ref aW) (C := RX6) (T := TX6) (N := 4) hx hb hts inC_X6 hown hK hP 0 rfl rfl 2 (by decide) (hts (.fieldLink RX6 28 "Counterpointery" "laws" "LCounterpointery$Laws;") (List.mem_cons_of_mem _ wm_389)) (fun _ h9 => h9) rfl dX6_faults_1 ?_
  refine lv_iconst (v := (1 : Int32)) hx hb dX6_faults_4 (by decide) ?_
  refine rV_i (q0 := 0) (As := [.int (1 : Int32)]) (rest := []) ⟨hx, hb, hml, hown, hts⟩ (m_X2_weighing l dC dI cI cJ aW aX wn wv (1 : Int32)) (cwV 1 hts (gi_V wm_526 wm_348 wm_349 wm_131 wm_350) rfl rfl rfl hd_X2_weighing ⟨Nat.le_of_ble_eq_true rfl, Nat.le_of_ble_eq_true rfl⟩) hK (hP.sub [5, 6] rfl) rfl rfl rfl hl.1 rfl (Nat.le_of_ble_eq_true rfl) dX6_faults_5 ⟨Nat.zero_le _, Nat.zero_le _⟩ ?_
  refine lv_istore_n (lv' := [(1, .int (f_X2_weighing wv (1 : Int32))), (0, .ref aC)]) hx hb dX6_faults_8 rfl hl (by decide) rfl (fun ls hl => ?_)
  refine lv_iconst (v := (0 : Int32)) hx hb dX6_faults_9 (by decide) ?_
  refine lv_istore_n (lv' := [(2, .int (0 : Int32)), (1, .int (f_X2_weighing wv (1 : Int32))), (0, .ref aC)]) hx hb dX6_faults_10 rfl hl (by decide) rfl (fun ls hl => ?_)
  refine lv_iconst (v := (0 : Int32)) hx hb dX6_faults_11 (by decide) ?_
  refine lv_istore_n (lv' := [(3, .int (0 : Int32)), (2, .int (0 : Int32)), (1, .int (f_X2_weighing wv (1 : Int32))), (0, .ref aC)]) hx hb dX6_faults_12 rfl hl (by decide) rfl (fun ls hl => ?_)
  have L13 : ∀ (fu13 : Nat) (v1 : Int32) (v2 : Int32), ∀ (ls : Array Slot), lv_has ls 4 [(0, .ref aC), (1, .int (f_X2_weighing wv (1 : Int32))), (2, .int v1), (3, .int v2)] → ((f_X3_length tc).toInt - v2.toInt).toNat < fu13 → F = f_X6_faults_l13 tc tv gc gs gb gf gv wv fu13 v1 v2 → W p l e rm_X6_faults s m args below meth c H locs 0 0 Q (F0 m 13 ls []) := by
    intro fu13
    induction fu13 with
    | zero => intro v1 v2 ls hl hm; exact absurd hm (Nat.not_lt_zero _)
    | succ fu13 ih13 =>
      intro v1 v2 ls hl hm13 hR
      have hR := hR.trans e_X6_faults_l13
      refine lv_iload_n hx hb dX6_faults_13 rfl (lv_at hl 3 rfl) ?_
      refine lv_aload_n hx hb dX6_faults_14 rfl (lv_at hl 0 rfl) ?_
      refine va_get (D := (dC, dI)) (ci := 6) (v := .ref aL) (C := RX6) (T := TX6) (N := 4) hx hb hts inC_X6 hown hK hP 0 rfl rfl 1 (by decide) (hts (.fieldLink RX6 21 "Counterpointery" "line" "LCounterpointery$Line;") (List.mem_cons_of_mem _ wm_386)) (fun _ h9 => h9) rfl dX6_faults_15 ?_
      refine rV_i (q0 := 0) (As := []) (rest := [.int v2]) ⟨hx, hb, hml, hown, hts⟩ (m_X3_length l dC dI cI cJ aL aG aT aV tc tv gc gs gb gf gl gh gn gv) (cwV 0 hts (gi_V wm_423 wm_1 wm_2 wm_3 wm_4) rfl rfl rfl hd_X3_length ⟨Nat.le_of_ble_eq_true rfl, Nat.le_of_ble_eq_true rfl⟩) hK (hP.sub [1, 2, 3, 4] rfl) rfl rfl rfl hl.1 rfl (Nat.le_of_ble_eq_true rfl) dX6_faults_18 ⟨Nat.zero_le _, Nat.zero_le _⟩ ?_
      refine lv_icmp_ge (tgt := 46) hx hb dX6_faults_21 (by decide) (fun c_1 => ?_) (fun c_1 => ?_)
      · have hR := hR.trans (if_pos c_1)
        refine lv_iload_n hx hb dX6_faults_46 rfl (lv_at hl 2 rfl) ?_
        exact kR v1 47 ls hR.symm dX6_faults_47
      · have hR := hR.trans (if_neg c_1)
        refine lv_iload_n hx hb dX6_faults_24 rfl (lv_at hl 2 rfl) ?_
        refine lv_aload_n hx hb dX6_faults_25 rfl (lv_at hl 0 rfl) ?_
        refine va_get (D := (dC, dI)) (ci := 6) (v := .ref aL) (C := RX6) (T := TX6) (N := 4) hx hb hts inC_X6 hown hK hP 0 rfl rfl 1 (by decide) (hts (.fieldLink RX6 21 "Counterpointery" "line" "LCounterpointery$Line;") (List.mem_cons_of_mem _ wm_386)) (fun _ h9 => h9) rfl dX6_faults_26 ?_
        refine lv_iload_n hx hb dX6_faults_29 rfl (lv_at hl 3 rfl) ?_
        refine rV_i (q0 := 0) (As := [.int v2]) (rest := [.int v1]) ⟨hx, hb, hml, hown, hts⟩ (m_X3_faultsAt l dC dI cI cJ aL aG aT aV tc tv gc gs gb gf gl gh gn gv v2 hz_gb hz_gf) (cwV 1 hts (gi_V wm_527 wm_214 wm_215 wm_3 wm_216) rfl rfl rfl hd_X3_faultsAt ⟨Nat.le_of_ble_eq_true rfl, Nat.le_of_ble_eq_true rfl⟩) hK (hP.sub [1, 2, 3, 4] rfl) rfl rfl rfl hl.1 rfl (Nat.le_of_ble_eq_true rfl) dX6_faults_30 ⟨Nat.zero_le _, Nat.zero_le _⟩ ?_
        refine lv_iload_n hx hb dX6_faults_33 rfl (lv_at hl 1 rfl) ?_
        refine lv_iand hx hb dX6_faults_34 ?_
        refine rS_i (As := [.int ((f_X3_faultsAt tc tv gc gs gb gf gv v2) &&& (f_X2_weighing wv (1 : Int32)))]) (rest := [.int v1]) ⟨hx, hb, hml, hown, hts⟩ (m_J6_bitCount_0f7a4 l dC dI cI cJ ((f_X3_faultsAt tc tv gc gs gb gf gv v2) &&& (f_X2_weighing wv (1 : Int32)))) (va_cwS 1 hts (gi_S wm_528 wm_218 wm_219 wm_220) rfl rfl rfl hd_J6_bitCount_0f7a4 ⟨Nat.le_of_ble_eq_true rfl, Nat.le_of_ble_eq_true rfl⟩) hK (hP.sub [] rfl) rfl hl.1 rfl (Nat.le_of_ble_eq_true rfl) dX6_faults_35 ⟨Nat.zero_le _, Nat.zero_le _⟩ ?_
        refine lv_iadd hx hb dX6_faults_38 ?_
        refine lv_istore_n (lv' := [(2, .int (v1 + (f_J6_bitCount_0f7a4 ((f_X3_faultsAt tc tv gc gs gb gf gv v2) &&& (f_X2_weighing wv (1 : Int32)))))), (0, .ref aC), (1, .int (f_X2_weighing wv (1 : Int32))), (3, .int v2)]) hx hb dX6_faults_39 rfl hl (by decide) rfl (fun ls hl => ?_)
        refine lv_iinc (v := (v2 + (1 : Int32))) (lv' := [(3, .int (v2 + (1 : Int32))), (2, .int (v1 + (f_J6_bitCount_0f7a4 ((f_X3_faultsAt tc tv gc gs gb gf gv v2) &&& (f_X2_weighing wv (1 : Int32)))))), (0, .ref aC), (1, .int (f_X2_weighing wv (1 : Int32)))]) hx hb dX6_faults_40 hl (k := 3) rfl rfl (by decide) rfl (fun ls hl => ?_)
        refine lv_goto (tgt := 13) hx hb dX6_faults_43 (by decide) ?_
        exact ih13 (v1 + (f_J6_bitCount_0f7a4 ((f_X3_faultsAt tc tv gc gs gb gf gv v2) &&& (f_X2_weighing wv (1 : Int32))))) (v2 + (1 : Int32)) ls (lv_sub hl [2, 3, 1, 0] rfl) (Nat.lt_of_lt_of_le (lp_up (by assumption)) (Nat.le_of_lt_succ hm13)) hR
  exact L13 (((f_X3_length tc).toInt - (0 : Int32).toInt).toNat + 1) (0 : Int32) (0 : Int32) ls (lv_sub hl [3, 2, 1, 0] rfl) (Nat.lt_succ_self _) hR
set_option maxHeartbeats 4000000 in
set_option maxRecDepth 100000 in
theorem m_X6_faults (l : Launch) (dC : Nat → ClassId) (dI : Nat → Nat → Nat) (cI cJ : ClassId) (aC : Nat) (aG : Nat) (aL : Nat) (aW : Nat) (aT : Nat) (aV : Nat) (aX : Nat) (vS : Value) (tc : Int32) (tv : Nat → Int32) (gc : Int32) (gs : Int32) (gb : Int32) (gf : Int32) (gl : Int32) (gh : Int32) (gn : Int32) (gv : Nat → Int32) (wn : Int32) (wv : Nat → Int32) (hz_gb : zb gb) (hz_gf : zb gf) : Met l yX6_faults wsX6_faults rm_X6_faults (va_Pc [.ref aC] (fun U => va_P (dC, dI) vwCl [(aC, .inr (6, [.ref aG, .ref aL, .ref aW, vS])), (aL, .inr (4, [.ref aG, .ref aT, .int tc])), (aT, .inl (cI, 53, .inl tv)), (aG, .inr (2, [.ref aV, .int gc, .int gs, .int gb, .int gf, .int gl, .int gh, .int gn])), (aV, .inl (cI, 14, .inl gv)), (aW, .inr (3, [.ref aX, .int wn])), (aX, .inl (cI, 12, .inl wv))] U.heap ∧ va_K (dC, dI) vwCl [(cI, .int), (cJ, .long)] U)) (vp_Si (fun r => r = f_X6_faults tc tv gc gs gb gf gv wv)) 0 0 (fun _ => False) := by
  refine Met.ofW (cc := cX6_faults) (maxL := 4) (ret := (some .int)) (by decide) rfl ?_
  intro p e s m args below meth c s₁ B hml hv
  obtain ⟨rfl, hP, hK⟩ := hv
  have hl := lv_entry ([.ref aC]) (n := 4) (Nat.le_of_ble_eq_true rfl)
  rw [lg_entry_eq]
  refine w_X6_faults hz_gb hz_gf B.exec B.bytes hml (findClass_of_methodNamed B.named) (atoms_spec (ws := wsX6_faults) B.pre) hK hP rfl (fun r pc ls er hd => ?_) _ hl
  exact W.iret B.exec B.bytes B.returns (fun t ht hW => ⟨r, rfl, er, ht⟩) (fun _ h => by cases h) hd B.notSynchronized
end
def f_X6_cost (tc : Int32) (tv : Nat → Int32) (gc : Int32) (gs : Int32) (gb : Int32) (gf : Int32) (gv : Nat → Int32) (wv : Nat → Int32) : Int32 :=
  (f_X3_costBetween tc tv gc gs gb gf gv wv (0 : Int32) ((f_X3_length tc) - (1 : Int32)))
theorem e_X6_cost {tc : Int32} {tv : Nat → Int32} {gc : Int32} {gs : Int32} {gb : Int32} {gf : Int32} {gv : Nat → Int32} {wv : Nat → Int32} : f_X6_cost tc tv gc gs gb gf gv wv = (f_X3_costBetween tc tv gc gs gb gf gv wv (0 : Int32) ((f_X3_length tc) - (1 : Int32))) := rfl
section
variable {p : Program} {l : Launch} {e : Env} {s : State} {m : MethodId} {args : Array Value} {below : List Frame} {meth : Method} {c : Code} {Q : State → Prop} {H : Heap} {locs : List Loc} {dC : Nat → ClassId} {dI : Nat → Nat → Nat} {cI cJ : ClassId}
abbrev rm_X6_cost : Room := { frames := 6, cells := 0, slots := 0, locals := 140 }
theorem hd_X6_cost : yX6_cost.cls = RX6 ∧ yX6_cost.cls ≠ "java/lang/invoke/MethodHandle" ∧ yX6_cost.cls ≠ "java/lang/invoke/VarHandle" ∧ (parseMethodDescriptor yX6_cost.desc).map (fun d => d.parameters.length) = some 0 := by decide +kernel
set_option maxHeartbeats 4000000 in
set_option maxRecDepth 100000 in
theorem w_X6_cost {aC : Nat} {aG : Nat} {aL : Nat} {aW : Nat} {aT : Nat} {aV : Nat} {aX : Nat} {vS : Value} {tc : Int32} {tv : Nat → Int32} {gc : Int32} {gs : Int32} {gb : Int32} {gf : Int32} {gl : Int32} {gh : Int32} {gn : Int32} {gv : Nat → Int32} {wn : Int32} {wv : Nat → Int32} (hz_gb : zb gb) (hz_gf : zb gf) {F : Int32} (hx : p.tables.exec = Jvm.exec) (hb : c.code = cX6_cost) (hml : c.maxLocals = 1) (hown : s.vm.findClass RX6 = some m.cls) (hts : ∀ w ∈ wsX6_cost, w.before args s = true) (hK : va_K (dC, dI) vwCl [(cI, .int), (cJ, .long)] s) (hP : va_P (dC, dI) vwCl [(aC, .inr (6, [.ref aG, .ref aL, .ref aW, vS])), (aL, .inr (4, [.ref aG, .ref aT, .int tc])), (aT, .inl (cI, 53, .inl tv)), (aG, .inr (2, [.ref aV, .int gc, .int gs, .int gb, .int gf, .int gl, .int gh, .int gn])), (aV, .inl (cI, 14, .inl gv)), (aW, .inr (3, [.ref aX, .int wn])), (aX, .inl (cI, 12, .inl wv))] H) (hR : F = f_X6_cost tc tv gc gs gb gf gv wv) (kR : ∀ (r : Int32) (pc : Nat) (ls : Array Slot), r = F → decode cX6_cost pc = .ok (.ireturn, 1) → W p l e rm_X6_cost s m args below meth c H locs 0 0 Q (F0 m pc ls [.int r])) (ls : Array Slot) (hl : lv_has ls 1 [(0, .ref aC)]) : W p l e rm_X6_cost s m args below meth c H locs 0 0 Q (F0 m 0 ls []) := by
  have hR := hR.trans e_X6_cost
  refine lv_aload_n hx hb dX6_cost_0 rfl (lv_at hl 0 rfl) ?_
  refine va_get (D := (dC, dI)) (ci := 6) (v := .ref aL) (C := RX6) (T := TX6) (N := 4) hx hb hts inC_X6 hown hK hP 0 rfl rfl 1 (by decide) (hts (.fieldLink RX6 21 "Counterpointery" "line" "LCounterpointery$Line;") (List.mem_cons_of_mem _ wm_386)) (fun _ h9 => h9) rfl dX6_cost_1 ?_
  refine lv_aload_n hx hb dX6_cost_4 rfl (lv_at hl 0 rfl) ?_
  refine va_get (D := (dC, dI)) (ci := 6) (v := .ref aW) (C := RX6) (T := TX6) (N := 4) hx hb hts inC_X6 hown hK hP 0 rfl rfl 2 (by decide) (hts (.fieldLink RX6 28 "Counterpointery" "laws" "LCounterpointery$Laws;") (List.mem_cons_of_mem _ wm_389)) (fun _ h9 => h9) rfl dX6_cost_5 ?_
  refine lv_iconst (v := (0 : Int32)) hx hb dX6_cost_8 (by decide) ?_
  refine lv_aload_n hx hb dX6_cost_9 rfl (lv_at hl 0 rfl) ?_
  refine va_get (D := (dC, dI)) (ci := 6) (v := .ref aL) (C := RX6) (T := TX6) (N := 4) hx hb hts inC_X6 hown hK hP 0 rfl rfl 1 (by decide) (hts (.fieldLink RX6 21 "Counterpointery" "line" "LCounterpointery$Line;") (List.mem_cons_of_mem _ wm_386)) (fun _ h9 => h9) rfl dX6_cost_10 ?_
  refine rV_i (q0 := 0) (As := []) (rest := [.int (0 : Int32), .ref aW, .ref aL]) ⟨hx, hb, hml, hown, hts⟩ (m_X3_length l dC dI cI cJ aL aG aT aV tc tv gc gs gb gf gl gh gn gv) (cwV 0 hts (gi_V wm_423 wm_1 wm_2 wm_3 wm_4) rfl rfl rfl hd_X3_length ⟨Nat.le_of_ble_eq_true rfl, Nat.le_of_ble_eq_true rfl⟩) hK (hP.sub [1, 2, 3, 4] rfl) rfl rfl rfl hl.1 rfl (Nat.le_of_ble_eq_true rfl) dX6_cost_13 ⟨Nat.zero_le _, Nat.zero_le _⟩ ?_
  refine lv_iconst (v := (1 : Int32)) hx hb dX6_cost_16 (by decide) ?_
  refine lv_isub hx hb dX6_cost_17 ?_
  refine rV_i (q0 := 0) (As := [.ref aW, .int (0 : Int32), .int ((f_X3_length tc) - (1 : Int32))]) (rest := []) ⟨hx, hb, hml, hown, hts⟩ (m_X3_costBetween l dC dI cI cJ aL aG aT aV aW aX tc tv gc gs gb gf gl gh gn gv wn wv (0 : Int32) ((f_X3_length tc) - (1 : Int32)) hz_gb hz_gf) (cwV 3 hts (gi_V wm_540 wm_232 wm_233 wm_3 wm_234) rfl rfl rfl hd_X3_costBetween ⟨Nat.le_of_ble_eq_true rfl, Nat.le_of_ble_eq_true rfl⟩) hK (hP.sub [1, 2, 3, 4, 5, 6] rfl) rfl rfl rfl hl.1 rfl (Nat.le_of_ble_eq_true rfl) dX6_cost_18 ⟨Nat.zero_le _, Nat.zero_le _⟩ ?_
  exact kR (f_X3_costBetween tc tv gc gs gb gf gv wv (0 : Int32) ((f_X3_length tc) - (1 : Int32))) 21 ls hR.symm dX6_cost_21
set_option maxHeartbeats 4000000 in
set_option maxRecDepth 100000 in
theorem m_X6_cost (l : Launch) (dC : Nat → ClassId) (dI : Nat → Nat → Nat) (cI cJ : ClassId) (aC : Nat) (aG : Nat) (aL : Nat) (aW : Nat) (aT : Nat) (aV : Nat) (aX : Nat) (vS : Value) (tc : Int32) (tv : Nat → Int32) (gc : Int32) (gs : Int32) (gb : Int32) (gf : Int32) (gl : Int32) (gh : Int32) (gn : Int32) (gv : Nat → Int32) (wn : Int32) (wv : Nat → Int32) (hz_gb : zb gb) (hz_gf : zb gf) : Met l yX6_cost wsX6_cost rm_X6_cost (va_Pc [.ref aC] (fun U => va_P (dC, dI) vwCl [(aC, .inr (6, [.ref aG, .ref aL, .ref aW, vS])), (aL, .inr (4, [.ref aG, .ref aT, .int tc])), (aT, .inl (cI, 53, .inl tv)), (aG, .inr (2, [.ref aV, .int gc, .int gs, .int gb, .int gf, .int gl, .int gh, .int gn])), (aV, .inl (cI, 14, .inl gv)), (aW, .inr (3, [.ref aX, .int wn])), (aX, .inl (cI, 12, .inl wv))] U.heap ∧ va_K (dC, dI) vwCl [(cI, .int), (cJ, .long)] U)) (vp_Si (fun r => r = f_X6_cost tc tv gc gs gb gf gv wv)) 0 0 (fun _ => False) := by
  refine Met.ofW (cc := cX6_cost) (maxL := 1) (ret := (some .int)) (by decide) rfl ?_
  intro p e s m args below meth c s₁ B hml hv
  obtain ⟨rfl, hP, hK⟩ := hv
  have hl := lv_entry ([.ref aC]) (n := 1) (Nat.le_of_ble_eq_true rfl)
  rw [lg_entry_eq]
  refine w_X6_cost hz_gb hz_gf B.exec B.bytes hml (findClass_of_methodNamed B.named) (atoms_spec (ws := wsX6_cost) B.pre) hK hP rfl (fun r pc ls er hd => ?_) _ hl
  exact W.iret B.exec B.bytes B.returns (fun t ht hW => ⟨r, rfl, er, ht⟩) (fun _ h => by cases h) hd B.notSynchronized
end
def f_X6_isGood (tc : Int32) (tv : Nat → Int32) (gc : Int32) (gs : Int32) (gb : Int32) (gf : Int32) (gv : Nat → Int32) (wv : Nat → Int32) : Int32 :=
  (if (f_X3_isWhole tc gc gs) = 0 then (0 : Int32) else (if (f_X3_isFree tc tv gc gs gb gf gv (f_X2_weighing wv (10 : Int32))) = 0 then (0 : Int32) else (1 : Int32)))
theorem e_X6_isGood {tc : Int32} {tv : Nat → Int32} {gc : Int32} {gs : Int32} {gb : Int32} {gf : Int32} {gv : Nat → Int32} {wv : Nat → Int32} : f_X6_isGood tc tv gc gs gb gf gv wv = (if (f_X3_isWhole tc gc gs) = 0 then (0 : Int32) else (if (f_X3_isFree tc tv gc gs gb gf gv (f_X2_weighing wv (10 : Int32))) = 0 then (0 : Int32) else (1 : Int32))) := rfl
section
variable {p : Program} {l : Launch} {e : Env} {s : State} {m : MethodId} {args : Array Value} {below : List Frame} {meth : Method} {c : Code} {Q : State → Prop} {H : Heap} {locs : List Loc} {dC : Nat → ClassId} {dI : Nat → Nat → Nat} {cI cJ : ClassId}
abbrev rm_X6_isGood : Room := { frames := 6, cells := 0, slots := 0, locals := 137 }
theorem hd_X6_isGood : yX6_isGood.cls = RX6 ∧ yX6_isGood.cls ≠ "java/lang/invoke/MethodHandle" ∧ yX6_isGood.cls ≠ "java/lang/invoke/VarHandle" ∧ (parseMethodDescriptor yX6_isGood.desc).map (fun d => d.parameters.length) = some 0 := by decide +kernel
set_option maxHeartbeats 4000000 in
set_option maxRecDepth 100000 in
theorem w_X6_isGood {aC : Nat} {aG : Nat} {aL : Nat} {aW : Nat} {aT : Nat} {aV : Nat} {aX : Nat} {vS : Value} {tc : Int32} {tv : Nat → Int32} {gc : Int32} {gs : Int32} {gb : Int32} {gf : Int32} {gl : Int32} {gh : Int32} {gn : Int32} {gv : Nat → Int32} {wn : Int32} {wv : Nat → Int32} (hz_gb : zb gb) (hz_gf : zb gf) {F : Int32} (hx : p.tables.exec = Jvm.exec) (hb : c.code = cX6_isGood) (hml : c.maxLocals = 1) (hown : s.vm.findClass RX6 = some m.cls) (hts : ∀ w ∈ wsX6_isGood, w.before args s = true) (hK : va_K (dC, dI) vwCl [(cI, .int), (cJ, .long)] s) (hP : va_P (dC, dI) vwCl [(aC, .inr (6, [.ref aG, .ref aL, .ref aW, vS])), (aL, .inr (4, [.ref aG, .ref aT, .int tc])), (aT, .inl (cI, 53, .inl tv)), (aG, .inr (2, [.ref aV, .int gc, .int gs, .int gb, .int gf, .int gl, .int gh, .int gn])), (aV, .inl (cI, 14, .inl gv)), (aW, .inr (3, [.ref aX, .int wn])), (aX, .inl (cI, 12, .inl wv))] H) (hR : F = f_X6_isGood tc tv gc gs gb gf gv wv) (kR : ∀ (r : Int32) (pc : Nat) (ls : Array Slot), zb r → r = F → decode cX6_isGood pc = .ok (.ireturn, 1) → W p l e rm_X6_isGood s m args below meth c H locs 0 0 Q (F0 m pc ls [.int r])) (ls : Array Slot) (hl : lv_has ls 1 [(0, .ref aC)]) : W p l e rm_X6_isGood s m args below meth c H locs 0 0 Q (F0 m 0 ls []) := by
  have hR := hR.trans e_X6_isGood
  refine lv_aload_n hx hb dX6_isGood_0 rfl (lv_at hl 0 rfl) ?_
  refine va_get (D := (dC, dI)) (ci := 6) (v := .ref aL) (C := RX6) (T := TX6) (N := 4) hx hb hts inC_X6 hown hK hP 0 rfl rfl 1 (by decide) (hts (.fieldLink RX6 21 "Counterpointery" "line" "LCounterpointery$Line;") (List.mem_cons_of_mem _ wm_386)) (fun _ h9 => h9) rfl dX6_isGood_1 ?_
  refine rV_i (q0 := 0) (As := []) (rest := []) ⟨hx, hb, hml, hown, hts⟩ (m_X3_isWhole l dC dI cI cJ aL aG aT aV tc tv gc gs gb gf gl gh gn gv) (cwV 0 hts (gi_V wm_541 wm_542 wm_543 wm_3 wm_544) rfl rfl rfl hd_X3_isWhole ⟨Nat.le_of_ble_eq_true rfl, Nat.le_of_ble_eq_true rfl⟩) hK (hP.sub [1, 2, 3, 4] rfl) rfl rfl rfl hl.1 rfl (Nat.le_of_ble_eq_true rfl) dX6_isGood_4 ⟨Nat.zero_le _, Nat.zero_le _⟩ ?_
  refine lv_if_eq (tgt := 33) hx hb dX6_isGood_7 (by decide) (fun c_1 => ?_) (fun c_1 => ?_)
  · have hR := hR.trans (if_pos c_1)
    refine lv_iconst (v := (0 : Int32)) hx hb dX6_isGood_33 (by decide) ?_
    exact kR (0 : Int32) 34 ls (by first | exact Or.inl rfl | exact Or.inr rfl) hR.symm dX6_isGood_34
  · have hR := hR.trans (if_neg c_1)
    refine lv_aload_n hx hb dX6_isGood_10 rfl (lv_at hl 0 rfl) ?_
    refine va_get (D := (dC, dI)) (ci := 6) (v := .ref aL) (C := RX6) (T := TX6) (N := 4) hx hb hts inC_X6 hown hK hP 0 rfl rfl 1 (by decide) (hts (.fieldLink RX6 21 "Counterpointery" "line" "LCounterpointery$Line;") (List.mem_cons_of_mem _ wm_386)) (fun _ h9 => h9) rfl dX6_isGood_11 ?_
    refine lv_aload_n hx hb dX6_isGood_14 rfl (lv_at hl 0 rfl) ?_
    refine va_get (D := (dC, dI)) (ci := 6) (v := .ref aW) (C := RX6) (T := TX6) (N := 4) hx hb hts inC_X6 hown hK hP 0 rfl rfl 2 (by decide) (hts (.fieldLink RX6 28 "Counterpointery" "laws" "LCounterpointery$Laws;") (List.mem_cons_of_mem _ wm_389)) (fun _ h9 => h9) rfl dX6_isGood_15 ?_
    refine lv_bipush (v := (10 : Int32)) hx hb dX6_isGood_18 (by decide) ?_
    refine rV_i (q0 := 0) (As := [.int (10 : Int32)]) (rest := [.ref aL]) ⟨hx, hb, hml, hown, hts⟩ (m_X2_weighing l dC dI cI cJ aW aX wn wv (10 : Int32)) (cwV 1 hts (gi_V wm_526 wm_348 wm_349 wm_131 wm_350) rfl rfl rfl hd_X2_weighing ⟨Nat.le_of_ble_eq_true rfl, Nat.le_of_ble_eq_true rfl⟩) hK (hP.sub [5, 6] rfl) rfl rfl rfl hl.1 rfl (Nat.le_of_ble_eq_true rfl) dX6_isGood_20 ⟨Nat.zero_le _, Nat.zero_le _⟩ ?_
    refine rV_i (q0 := 0) (As := [.int (f_X2_weighing wv (10 : Int32))]) (rest := []) ⟨hx, hb, hml, hown, hts⟩ (m_X3_isFree l dC dI cI cJ aL aG aT aV tc tv gc gs gb gf gl gh gn gv (f_X2_weighing wv (10 : Int32)) hz_gb hz_gf) (cwV 1 hts (gi_V wm_545 wm_364 wm_365 wm_3 wm_366) rfl rfl rfl hd_X3_isFree ⟨Nat.le_of_ble_eq_true rfl, Nat.le_of_ble_eq_true rfl⟩) hK (hP.sub [1, 2, 3, 4] rfl) rfl rfl rfl hl.1 rfl (Nat.le_of_ble_eq_true rfl) dX6_isGood_23 ⟨Nat.zero_le _, Nat.zero_le _⟩ ?_
    refine lv_if_eq (tgt := 33) hx hb dX6_isGood_26 (by decide) (fun c_2 => ?_) (fun c_2 => ?_)
    · have hR := hR.trans (if_pos c_2)
      refine lv_iconst (v := (0 : Int32)) hx hb dX6_isGood_33 (by decide) ?_
      exact kR (0 : Int32) 34 ls (by first | exact Or.inl rfl | exact Or.inr rfl) hR.symm dX6_isGood_34
    · have hR := hR.trans (if_neg c_2)
      refine lv_iconst (v := (1 : Int32)) hx hb dX6_isGood_29 (by decide) ?_
      refine lv_goto (tgt := 34) hx hb dX6_isGood_30 (by decide) ?_
      exact kR (1 : Int32) 34 ls (by first | exact Or.inl rfl | exact Or.inr rfl) hR.symm dX6_isGood_34
set_option maxHeartbeats 4000000 in
set_option maxRecDepth 100000 in
theorem m_X6_isGood (l : Launch) (dC : Nat → ClassId) (dI : Nat → Nat → Nat) (cI cJ : ClassId) (aC : Nat) (aG : Nat) (aL : Nat) (aW : Nat) (aT : Nat) (aV : Nat) (aX : Nat) (vS : Value) (tc : Int32) (tv : Nat → Int32) (gc : Int32) (gs : Int32) (gb : Int32) (gf : Int32) (gl : Int32) (gh : Int32) (gn : Int32) (gv : Nat → Int32) (wn : Int32) (wv : Nat → Int32) (hz_gb : zb gb) (hz_gf : zb gf) : Met l yX6_isGood wsX6_isGood rm_X6_isGood (va_Pc [.ref aC] (fun U => va_P (dC, dI) vwCl [(aC, .inr (6, [.ref aG, .ref aL, .ref aW, vS])), (aL, .inr (4, [.ref aG, .ref aT, .int tc])), (aT, .inl (cI, 53, .inl tv)), (aG, .inr (2, [.ref aV, .int gc, .int gs, .int gb, .int gf, .int gl, .int gh, .int gn])), (aV, .inl (cI, 14, .inl gv)), (aW, .inr (3, [.ref aX, .int wn])), (aX, .inl (cI, 12, .inl wv))] U.heap ∧ va_K (dC, dI) vwCl [(cI, .int), (cJ, .long)] U)) (vp_Si (fun r => r = f_X6_isGood tc tv gc gs gb gf gv wv)) 0 0 (fun _ => False) := by
  refine Met.ofW (cc := cX6_isGood) (maxL := 1) (ret := (some .boolean)) (by decide) rfl ?_
  intro p e s m args below meth c s₁ B hml hv
  obtain ⟨rfl, hP, hK⟩ := hv
  have hl := lv_entry ([.ref aC]) (n := 1) (Nat.le_of_ble_eq_true rfl)
  rw [lg_entry_eq]
  refine w_X6_isGood hz_gb hz_gf B.exec B.bytes hml (findClass_of_methodNamed B.named) (atoms_spec (ws := wsX6_isGood) B.pre) hK hP rfl (fun r pc ls hz er hd => ?_) _ hl
  exact W.zret B.exec B.bytes B.returns (zb_n hz) (fun t ht hW => ⟨r, rfl, er, ht⟩) (fun _ h => by cases h) hd B.notSynchronized
end
def f_X6_costIsSumOfFaults_j82 (tc : Int32) (tv : Nat → Int32) (gc : Int32) (gs : Int32) (gb : Int32) (gf : Int32) (gv : Nat → Int32) (wv : Nat → Int32) (v6 : Int32) : Int32 :=
  (if v6 = (f_X3_costBetween tc tv gc gs gb gf gv wv (0 : Int32) ((f_X3_length tc) - (1 : Int32))) then (1 : Int32) else (0 : Int32))
theorem e_X6_costIsSumOfFaults_j82 {tc : Int32} {tv : Nat → Int32} {gc : Int32} {gs : Int32} {gb : Int32} {gf : Int32} {gv : Nat → Int32} {wv : Nat → Int32} {v6 : Int32} : f_X6_costIsSumOfFaults_j82 tc tv gc gs gb gf gv wv v6 = (if v6 = (f_X3_costBetween tc tv gc gs gb gf gv wv (0 : Int32) ((f_X3_length tc) - (1 : Int32))) then (1 : Int32) else (0 : Int32)) := rfl
def f_X6_costIsSumOfFaults_j76 (v2 : Int32) (r_13 : Int32 → Int32 → Int32) (v5 : Int32) : Int32 :=
  r_13 v5 (v2 + (1 : Int32))
theorem e_X6_costIsSumOfFaults_j76 {v2 : Int32} {r_13 : Int32 → Int32 → Int32} {v5 : Int32} : f_X6_costIsSumOfFaults_j76 v2 r_13 v5 = r_13 v5 (v2 + (1 : Int32)) := rfl
def f_X6_costIsSumOfFaults_l46 (tc : Int32) (tv : Nat → Int32) (gc : Int32) (gs : Int32) (gb : Int32) (gf : Int32) (gv : Nat → Int32) (wv : Nat → Int32) (v2 : Int32) (k_76 : Int32 → Int32) : Nat → Int32 → Int32 → Int32
  | 0, _, _ => default
  | fu + 1, v3, v4 =>
    (if (f_J6_bitCount_0f7a4 ((f_X3_faultsAt tc tv gc gs gb gf gv v2) &&& (f_X2_weighing wv (1 : Int32)))) ≤ v4 then k_76 v3 else (f_X6_costIsSumOfFaults_l46 tc tv gc gs gb gf gv wv v2 k_76 fu) (v3 + (f_X2_weightOf wv (f_X2_nthOf ((f_X3_faultsAt tc tv gc gs gb gf gv v2) &&& (f_X2_weighing wv (1 : Int32))) v4))) (v4 + (1 : Int32)))
theorem e_X6_costIsSumOfFaults_l46 {fu : Nat} {tc : Int32} {tv : Nat → Int32} {gc : Int32} {gs : Int32} {gb : Int32} {gf : Int32} {gv : Nat → Int32} {wv : Nat → Int32} {v2 : Int32} {k_76 : Int32 → Int32} {v3 : Int32} {v4 : Int32} : f_X6_costIsSumOfFaults_l46 tc tv gc gs gb gf gv wv v2 k_76 (fu + 1) v3 v4 = (if (f_J6_bitCount_0f7a4 ((f_X3_faultsAt tc tv gc gs gb gf gv v2) &&& (f_X2_weighing wv (1 : Int32)))) ≤ v4 then k_76 v3 else (f_X6_costIsSumOfFaults_l46 tc tv gc gs gb gf gv wv v2 k_76 fu) (v3 + (f_X2_weightOf wv (f_X2_nthOf ((f_X3_faultsAt tc tv gc gs gb gf gv v2) &&& (f_X2_weighing wv (1 : Int32))) v4))) (v4 + (1 : Int32))) := rfl
def f_X6_costIsSumOfFaults_l13 (tc : Int32) (tv : Nat → Int32) (gc : Int32) (gs : Int32) (gb : Int32) (gf : Int32) (gv : Nat → Int32) (wv : Nat → Int32) : Nat → Int32 → Int32 → Int32
  | 0, _, _ => default
  | fu + 1, v1, v2 =>
    (if (f_X3_length tc) ≤ v2 then f_X6_costIsSumOfFaults_j82 tc tv gc gs gb gf gv wv v1 else f_X6_costIsSumOfFaults_l46 tc tv gc gs gb gf gv wv v2 (f_X6_costIsSumOfFaults_j76 v2 (f_X6_costIsSumOfFaults_l13 tc tv gc gs gb gf gv wv fu)) (((f_J6_bitCount_0f7a4 ((f_X3_faultsAt tc tv gc gs gb gf gv v2) &&& (f_X2_weighing wv (1 : Int32)))).toInt - (0 : Int32).toInt).toNat + 1) v1 (0 : Int32))
theorem e_X6_costIsSumOfFaults_l13 {fu : Nat} {tc : Int32} {tv : Nat → Int32} {gc : Int32} {gs : Int32} {gb : Int32} {gf : Int32} {gv : Nat → Int32} {wv : Nat → Int32} {v1 : Int32} {v2 : Int32} : f_X6_costIsSumOfFaults_l13 tc tv gc gs gb gf gv wv (fu + 1) v1 v2 = (if (f_X3_length tc) ≤ v2 then f_X6_costIsSumOfFaults_j82 tc tv gc gs gb gf gv wv v1 else f_X6_costIsSumOfFaults_l46 tc tv gc gs gb gf gv wv v2 (f_X6_costIsSumOfFaults_j76 v2 (f_X6_costIsSumOfFaults_l13 tc tv gc gs gb gf gv wv fu)) (((f_J6_bitCount_0f7a4 ((f_X3_faultsAt tc tv gc gs gb gf gv v2) &&& (f_X2_weighing wv (1 : Int32)))).toInt - (0 : Int32).toInt).toNat + 1) v1 (0 : Int32)) := rfl
def f_X6_costIsSumOfFaults (tc : Int32) (tv : Nat → Int32) (gc : Int32) (gs : Int32) (gb : Int32) (gf : Int32) (gv : Nat → Int32) (wv : Nat → Int32) : Int32 :=
  f_X6_costIsSumOfFaults_l13 tc tv gc gs gb gf gv wv (((f_X3_length tc).toInt - (0 : Int32).toInt).toNat + 1) (0 : Int32) (0 : Int32)
theorem e_X6_costIsSumOfFaults {tc : Int32} {tv : Nat → Int32} {gc : Int32} {gs : Int32} {gb : Int32} {gf : Int32} {gv : Nat → Int32} {wv : Nat → Int32} : f_X6_costIsSumOfFaults tc tv gc gs gb gf gv wv = f_X6_costIsSumOfFaults_l13 tc tv gc gs gb gf gv wv (((f_X3_length tc).toInt - (0 : Int32).toInt).toNat + 1) (0 : Int32) (0 : Int32) := rfl
section
variable {p : Program} {l : Launch} {e : Env} {s : State} {m : MethodId} {args : Array Value} {below : List Frame} {meth : Method} {c : Code} {Q : State → Prop} {H : Heap} {locs : List Loc} {dC : Nat → ClassId} {dI : Nat → Nat → Nat} {cI cJ : ClassId}
abbrev rm_X6_costIsSumOfFaults : Room := { frames := 6, cells := 0, slots := 0, locals := 140 }
theorem hd_X6_costIsSumOfFaults : yX6_costIsSumOfFaults.cls = RX6 ∧ yX6_costIsSumOfFaults.cls ≠ "java/lang/invoke/MethodHandle" ∧ yX6_costIsSumOfFaults.cls ≠ "java/lang/invoke/VarHandle" ∧ (parseMethodDescriptor yX6_costIsSumOfFaults.desc).map (fun d => d.parameters.length) = some 0 := by decide +kernel
set_option maxHeartbeats 4000000 in
set_option maxRecDepth 100000 in
theorem w_X6_costIsSumOfFaults {aC : Nat} {aG : Nat} {aL : Nat} {aW : Nat} {aT : Nat} {aV : Nat} {aX : Nat} {vS : Value} {tc : Int32} {tv : Nat → Int32} {gc : Int32} {gs : Int32} {gb : Int32} {gf : Int32} {gl : Int32} {gh : Int32} {gn : Int32} {gv : Nat → Int32} {wn : Int32} {wv : Nat → Int32} (hz_gb : zb gb) (hz_gf : zb gf) {F : Int32} (hx : p.tables.exec = Jvm.exec) (hb : c.code = cX6_costIsSumOfFaults) (hml : c.maxLocals = 7) (hown : s.vm.findClass RX6 = some m.cls) (hts : ∀ w ∈ wsX6_costIsSumOfFaults, w.before args s = true) (hK : va_K (dC, dI) vwCl [(cI, .int), (cJ, .long)] s) (hP : va_P (dC, dI) vwCl [(aC, .inr (6, [.ref aG, .ref aL, .ref aW, vS])), (aL, .inr (4, [.ref aG, .ref aT, .int tc])), (aT, .inl (cI, 53, .inl tv)), (aG, .inr (2, [.ref aV, .int gc, .int gs, .int gb, .int gf, .int gl, .int gh, .int gn])), (aV, .inl (cI, 14, .inl gv)), (aW, .inr (3, [.ref aX, .int wn])), (aX, .inl (cI, 12, .inl wv))] H) (hR : F = f_X6_costIsSumOfFaults tc tv gc gs gb gf gv wv) (kR : ∀ (r : Int32) (pc : Nat) (ls : Array Slot), zb r → r = F → decode cX6_costIsSumOfFaults pc = .ok (.ireturn, 1) → W p l e rm_X6_costIsSumOfFaults s m args below meth c H locs 0 0 Q (F0 m pc ls [.int r])) (ls : Array Slot) (hl : lv_has ls 7 [(0, .ref aC)]) : W p l e rm_X6_costIsSumOfFaults s m args below meth c H locs 0 0 Q (F0 m 0 ls []) := by
  have hR := hR.trans e_X6_costIsSumOfFaults
  refine lv_aload_n hx hb dX6_costIsSumOfFaults_0 rfl (lv_at hl 0 rfl) ?_
  refine va_get (D := (dC, dI)) (ci := 6) (v := .ref aW) (C := RX6) (T := TX6) (N := 4) hx hb hts inC_X6 hown hK hP 0 rfl rfl 2 (by decide) (hts (.fieldLink RX6 28 "Counterpointery" "laws" "LCounterpointery$Laws;") (List.mem_cons_of_mem _ wm_389)) (fun _ h9 => h9) rfl dX6_costIsSumOfFaults_1 ?_
  refine lv_iconst (v := (1 : Int32)) hx hb dX6_costIsSumOfFaults_4 (by decide) ?_
  refine rV_i (q0 := 0) (As := [.int (1 : Int32)]) (rest := []) ⟨hx, hb, hml, hown, hts⟩ (m_X2_weighing l dC dI cI cJ aW aX wn wv (1 : Int32)) (cwV 1 hts (gi_V wm_526 wm_348 wm_349 wm_131 wm_350) rfl rfl rfl hd_X2_weighing ⟨Nat.le_of_ble_eq_true rfl, Nat.le_of_ble_eq_true rfl⟩) hK (hP.sub [5, 6] rfl) rfl rfl rfl hl.1 rfl (Nat.le_of_ble_eq_true rfl) dX6_costIsSumOfFaults_5 ⟨Nat.zero_le _, Nat.zero_le _⟩ ?_
  refine lv_istore_n (lv' := [(1, .int (f_X2_weighing wv (1 : Int32))), (0, .ref aC)]) hx hb dX6_costIsSumOfFaults_8 rfl hl (by decide) rfl (fun ls hl => ?_)
  refine lv_iconst (v := (0 : Int32)) hx hb dX6_costIsSumOfFaults_9 (by decide) ?_
  refine lv_istore_n (lv' := [(2, .int (0 : Int32)), (1, .int (f_X2_weighing wv (1 : Int32))), (0, .ref aC)]) hx hb dX6_costIsSumOfFaults_10 rfl hl (by decide) rfl (fun ls hl => ?_)
  refine lv_iconst (v := (0 : Int32)) hx hb dX6_costIsSumOfFaults_11 (by decide) ?_
  refine lv_istore_n (lv' := [(3, .int (0 : Int32)), (2, .int (0 : Int32)), (1, .int (f_X2_weighing wv (1 : Int32))), (0, .ref aC)]) hx hb dX6_costIsSumOfFaults_12 rfl hl (by decide) rfl (fun ls hl => ?_)
  have L13 : ∀ (fu13 : Nat) (v1 : Int32) (v2 : Int32), ∀ (ls : Array Slot), lv_has ls 7 [(0, .ref aC), (1, .int (f_X2_weighing wv (1 : Int32))), (2, .int v1), (3, .int v2)] → ((f_X3_length tc).toInt - v2.toInt).toNat < fu13 → F = f_X6_costIsSumOfFaults_l13 tc tv gc gs gb gf gv wv fu13 v1 v2 → W p l e rm_X6_costIsSumOfFaults s m args below meth c H locs 0 0 Q (F0 m 13 ls []) := by
    intro fu13
    induction fu13 with
    | zero => intro v1 v2 ls hl hm; exact absurd hm (Nat.not_lt_zero _)
    | succ fu13 ih13 =>
      intro v1 v2 ls hl hm13 hR
      have hR := hR.trans e_X6_costIsSumOfFaults_l13
      refine lv_iload_n hx hb dX6_costIsSumOfFaults_13 rfl (lv_at hl 3 rfl) ?_
      refine lv_aload_n hx hb dX6_costIsSumOfFaults_14 rfl (lv_at hl 0 rfl) ?_
      refine va_get (D := (dC, dI)) (ci := 6) (v := .ref aL) (C := RX6) (T := TX6) (N := 4) hx hb hts inC_X6 hown hK hP 0 rfl rfl 1 (by decide) (hts (.fieldLink RX6 21 "Counterpointery" "line" "LCounterpointery$Line;") (List.mem_cons_of_mem _ wm_386)) (fun _ h9 => h9) rfl dX6_costIsSumOfFaults_15 ?_
      refine rV_i (q0 := 0) (As := []) (rest := [.int v2]) ⟨hx, hb, hml, hown, hts⟩ (m_X3_length l dC dI cI cJ aL aG aT aV tc tv gc gs gb gf gl gh gn gv) (cwV 0 hts (gi_V wm_423 wm_1 wm_2 wm_3 wm_4) rfl rfl rfl hd_X3_length ⟨Nat.le_of_ble_eq_true rfl, Nat.le_of_ble_eq_true rfl⟩) hK (hP.sub [1, 2, 3, 4] rfl) rfl rfl rfl hl.1 rfl (Nat.le_of_ble_eq_true rfl) dX6_costIsSumOfFaults_18 ⟨Nat.zero_le _, Nat.zero_le _⟩ ?_
      have J82 : ∀ (v6 : Int32) (ls : Array Slot), lv_has ls 7 [(0, .ref aC), (2, .int v6)] → F = f_X6_costIsSumOfFaults_j82 tc tv gc gs gb gf gv wv v6 → W p l e rm_X6_costIsSumOfFaults s m args below meth c H locs 0 0 Q (F0 m 82 ls []) := by
        intro v6 ls hl hR
        have hR := hR.trans e_X6_costIsSumOfFaults_j82
        refine lv_iload_n hx hb dX6_costIsSumOfFaults_82 rfl (lv_at hl 1 rfl) ?_
        refine lv_aload_n hx hb dX6_costIsSumOfFaults_83 rfl (lv_at hl 0 rfl) ?_
        refine va_get (D := (dC, dI)) (ci := 6) (v := .ref aL) (C := RX6) (T := TX6) (N := 4) hx hb hts inC_X6 hown hK hP 0 rfl rfl 1 (by decide) (hts (.fieldLink RX6 21 "Counterpointery" "line" "LCounterpointery$Line;") (List.mem_cons_of_mem _ wm_386)) (fun _ h9 => h9) rfl dX6_costIsSumOfFaults_84 ?_
        refine lv_aload_n hx hb dX6_costIsSumOfFaults_87 rfl (lv_at hl 0 rfl) ?_
        refine va_get (D := (dC, dI)) (ci := 6) (v := .ref aW) (C := RX6) (T := TX6) (N := 4) hx hb hts inC_X6 hown hK hP 0 rfl rfl 2 (by decide) (hts (.fieldLink RX6 28 "Counterpointery" "laws" "LCounterpointery$Laws;") (List.mem_cons_of_mem _ wm_389)) (fun _ h9 => h9) rfl dX6_costIsSumOfFaults_88 ?_
        refine lv_iconst (v := (0 : Int32)) hx hb dX6_costIsSumOfFaults_91 (by decide) ?_
        refine lv_aload_n hx hb dX6_costIsSumOfFaults_92 rfl (lv_at hl 0 rfl) ?_
        refine va_get (D := (dC, dI)) (ci := 6) (v := .ref aL) (C := RX6) (T := TX6) (N := 4) hx hb hts inC_X6 hown hK hP 0 rfl rfl 1 (by decide) (hts (.fieldLink RX6 21 "Counterpointery" "line" "LCounterpointery$Line;") (List.mem_cons_of_mem _ wm_386)) (fun _ h9 => h9) rfl dX6_costIsSumOfFaults_93 ?_
        refine rV_i (q0 := 0) (As := []) (rest := [.int (0 : Int32), .ref aW, .ref aL, .int v6]) ⟨hx, hb, hml, hown, hts⟩ (m_X3_length l dC dI cI cJ aL aG aT aV tc tv gc gs gb gf gl gh gn gv) (cwV 0 hts (gi_V wm_423 wm_1 wm_2 wm_3 wm_4) rfl rfl rfl hd_X3_length ⟨Nat.le_of_ble_eq_true rfl, Nat.le_of_ble_eq_true rfl⟩) hK (hP.sub [1, 2, 3, 4] rfl) rfl rfl rfl hl.1 rfl (Nat.le_of_ble_eq_true rfl) dX6_costIsSumOfFaults_96 ⟨Nat.zero_le _, Nat.zero_le _⟩ ?_
        refine lv_iconst (v := (1 : Int32)) hx hb dX6_costIsSumOfFaults_99 (by decide) ?_
        refine lv_isub hx hb dX6_costIsSumOfFaults_100 ?_
        refine rV_i (q0 := 0) (As := [.ref aW, .int (0 : Int32), .int ((f_X3_length tc) - (1 : Int32))]) (rest := [.int v6]) ⟨hx, hb, hml, hown, hts⟩ (m_X3_costBetween l dC dI cI cJ aL aG aT aV aW aX tc tv gc gs gb gf gl gh gn gv wn wv (0 : Int32) ((f_X3_length tc) - (1 : Int32)) hz_gb hz_gf) (cwV 3 hts (gi_V wm_540 wm_232 wm_233 wm_3 wm_234) rfl rfl rfl hd_X3_costBetween ⟨Nat.le_of_ble_eq_true rfl, Nat.le_of_ble_eq_true rfl⟩) hK (hP.sub [1, 2, 3, 4, 5, 6] rfl) rfl rfl rfl hl.1 rfl (Nat.le_of_ble_eq_true rfl) dX6_costIsSumOfFaults_101 ⟨Nat.zero_le _, Nat.zero_le _⟩ ?_
        refine lv_icmp_ne (tgt := 111) hx hb dX6_costIsSumOfFaults_104 (by decide) (fun c_1 => ?_) (fun c_1 => ?_)
        · have hR := hR.trans (if_neg c_1)
          refine lv_iconst (v := (0 : Int32)) hx hb dX6_costIsSumOfFaults_111 (by decide) ?_
          exact kR (0 : Int32) 112 ls (by first | exact Or.inl rfl | exact Or.inr rfl) hR.symm dX6_costIsSumOfFaults_112
        · have hR := hR.trans (if_pos c_1)
          refine lv_iconst (v := (1 : Int32)) hx hb dX6_costIsSumOfFaults_107 (by decide) ?_
          refine lv_goto (tgt := 112) hx hb dX6_costIsSumOfFaults_108 (by decide) ?_
          exact kR (1 : Int32) 112 ls (by first | exact Or.inl rfl | exact Or.inr rfl) hR.symm dX6_costIsSumOfFaults_112
      refine lv_icmp_ge (tgt := 82) hx hb dX6_costIsSumOfFaults_21 (by decide) (fun c_2 => ?_) (fun c_2 => ?_)
      · have hR := hR.trans (if_pos c_2)
        exact J82 v1 ls (lv_sub hl [0, 2] rfl) hR
      · have hR := hR.trans (if_neg c_2)
        refine lv_aload_n hx hb dX6_costIsSumOfFaults_24 rfl (lv_at hl 0 rfl) ?_
        refine va_get (D := (dC, dI)) (ci := 6) (v := .ref aL) (C := RX6) (T := TX6) (N := 4) hx hb hts inC_X6 hown hK hP 0 rfl rfl 1 (by decide) (hts (.fieldLink RX6 21 "Counterpointery" "line" "LCounterpointery$Line;") (List.mem_cons_of_mem _ wm_386)) (fun _ h9 => h9) rfl dX6_costIsSumOfFaults_25 ?_
        refine lv_iload_n hx hb dX6_costIsSumOfFaults_28 rfl (lv_at hl 3 rfl) ?_
        refine rV_i (q0 := 0) (As := [.int v2]) (rest := []) ⟨hx, hb, hml, hown, hts⟩ (m_X3_faultsAt l dC dI cI cJ aL aG aT aV tc tv gc gs gb gf gl gh gn gv v2 hz_gb hz_gf) (cwV 1 hts (gi_V wm_527 wm_214 wm_215 wm_3 wm_216) rfl rfl rfl hd_X3_faultsAt ⟨Nat.le_of_ble_eq_true rfl, Nat.le_of_ble_eq_true rfl⟩) hK (hP.sub [1, 2, 3, 4] rfl) rfl rfl rfl hl.1 rfl (Nat.le_of_ble_eq_true rfl) dX6_costIsSumOfFaults_29 ⟨Nat.zero_le _, Nat.zero_le _⟩ ?_
        refine lv_iload_n hx hb dX6_costIsSumOfFaults_32 rfl (lv_at hl 1 rfl) ?_
        refine lv_iand hx hb dX6_costIsSumOfFaults_33 ?_
        refine lv_istore (lv' := [(4, .int ((f_X3_faultsAt tc tv gc gs gb gf gv v2) &&& (f_X2_weighing wv (1 : Int32)))), (0, .ref aC), (1, .int (f_X2_weighing wv (1 : Int32))), (2, .int v1), (3, .int v2)]) hx hb dX6_costIsSumOfFaults_34 hl (by decide) rfl (fun ls hl => ?_)
        refine lv_iload hx hb dX6_costIsSumOfFaults_36 (lv_at hl 0 rfl) ?_
        refine rS_i (As := [.int ((f_X3_faultsAt tc tv gc gs gb gf gv v2) &&& (f_X2_weighing wv (1 : Int32)))]) (rest := []) ⟨hx, hb, hml, hown, hts⟩ (m_J6_bitCount_0f7a4 l dC dI cI cJ ((f_X3_faultsAt tc tv gc gs gb gf gv v2) &&& (f_X2_weighing wv (1 : Int32)))) (va_cwS 1 hts (gi_S wm_528 wm_218 wm_219 wm_220) rfl rfl rfl hd_J6_bitCount_0f7a4 ⟨Nat.le_of_ble_eq_true rfl, Nat.le_of_ble_eq_true rfl⟩) hK (hP.sub [] rfl) rfl hl.1 rfl (Nat.le_of_ble_eq_true rfl) dX6_costIsSumOfFaults_38 ⟨Nat.zero_le _, Nat.zero_le _⟩ ?_
        refine lv_istore (lv' := [(5, .int (f_J6_bitCount_0f7a4 ((f_X3_faultsAt tc tv gc gs gb gf gv v2) &&& (f_X2_weighing wv (1 : Int32))))), (4, .int ((f_X3_faultsAt tc tv gc gs gb gf gv v2) &&& (f_X2_weighing wv (1 : Int32)))), (0, .ref aC), (1, .int (f_X2_weighing wv (1 : Int32))), (2, .int v1), (3, .int v2)]) hx hb dX6_costIsSumOfFaults_41 hl (by decide) rfl (fun ls hl => ?_)
        refine lv_iconst (v := (0 : Int32)) hx hb dX6_costIsSumOfFaults_43 (by decide) ?_
        refine lv_istore (lv' := [(6, .int (0 : Int32)), (5, .int (f_J6_bitCount_0f7a4 ((f_X3_faultsAt tc tv gc gs gb gf gv v2) &&& (f_X2_weighing wv (1 : Int32))))), (4, .int ((f_X3_faultsAt tc tv gc gs gb gf gv v2) &&& (f_X2_weighing wv (1 : Int32)))), (0, .ref aC), (1, .int (f_X2_weighing wv (1 : Int32))), (2, .int v1), (3, .int v2)]) hx hb dX6_costIsSumOfFaults_44 hl (by decide) rfl (fun ls hl => ?_)
        have L46 : ∀ (fu46 : Nat) (v3 : Int32) (v4 : Int32), ∀ (ls : Array Slot), lv_has ls 7 [(0, .ref aC), (1, .int (f_X2_weighing wv (1 : Int32))), (2, .int v3), (3, .int v2), (4, .int ((f_X3_faultsAt tc tv gc gs gb gf gv v2) &&& (f_X2_weighing wv (1 : Int32)))), (5, .int (f_J6_bitCount_0f7a4 ((f_X3_faultsAt tc tv gc gs gb gf gv v2) &&& (f_X2_weighing wv (1 : Int32))))), (6, .int v4)] → ((f_J6_bitCount_0f7a4 ((f_X3_faultsAt tc tv gc gs gb gf gv v2) &&& (f_X2_weighing wv (1 : Int32)))).toInt - v4.toInt).toNat < fu46 → F = f_X6_costIsSumOfFaults_l46 tc tv gc gs gb gf gv wv v2 (f_X6_costIsSumOfFaults_j76 v2 (f_X6_costIsSumOfFaults_l13 tc tv gc gs gb gf gv wv fu13)) fu46 v3 v4 → W p l e rm_X6_costIsSumOfFaults s m args below meth c H locs 0 0 Q (F0 m 46 ls []) := by
          intro fu46
          induction fu46 with
          | zero => intro v3 v4 ls hl hm; exact absurd hm (Nat.not_lt_zero _)
          | succ fu46 ih46 =>
            intro v3 v4 ls hl hm46 hR
            have hR := hR.trans e_X6_costIsSumOfFaults_l46
            refine lv_iload hx hb dX6_costIsSumOfFaults_46 (lv_at hl 6 rfl) ?_
            refine lv_iload hx hb dX6_costIsSumOfFaults_48 (lv_at hl 5 rfl) ?_
            have J76 : ∀ (v5 : Int32) (ls : Array Slot), lv_has ls 7 [(0, .ref aC), (1, .int (f_X2_weighing wv (1 : Int32))), (2, .int v5), (3, .int v2)] → F = f_X6_costIsSumOfFaults_j76 v2 (f_X6_costIsSumOfFaults_l13 tc tv gc gs gb gf gv wv fu13) v5 → W p l e rm_X6_costIsSumOfFaults s m args below meth c H locs 0 0 Q (F0 m 76 ls []) := by
              intro v5 ls hl hR
              have hR := hR.trans e_X6_costIsSumOfFaults_j76
              refine lv_iinc (v := (v2 + (1 : Int32))) (lv' := [(3, .int (v2 + (1 : Int32))), (0, .ref aC), (1, .int (f_X2_weighing wv (1 : Int32))), (2, .int v5)]) hx hb dX6_costIsSumOfFaults_76 hl (k := 3) rfl rfl (by decide) rfl (fun ls hl => ?_)
              refine lv_goto (tgt := 13) hx hb dX6_costIsSumOfFaults_79 (by decide) ?_
              exact ih13 v5 (v2 + (1 : Int32)) ls (lv_sub hl [1, 2, 3, 0] rfl) (Nat.lt_of_lt_of_le (lp_up (by assumption)) (Nat.le_of_lt_succ hm13)) hR
            refine lv_icmp_ge (tgt := 76) hx hb dX6_costIsSumOfFaults_50 (by decide) (fun c_3 => ?_) (fun c_3 => ?_)
            · have hR := hR.trans (if_pos c_3)
              exact J76 v3 ls (lv_sub hl [0, 1, 2, 3] rfl) hR
            · have hR := hR.trans (if_neg c_3)
              refine lv_iload_n hx hb dX6_costIsSumOfFaults_53 rfl (lv_at hl 2 rfl) ?_
              refine lv_aload_n hx hb dX6_costIsSumOfFaults_54 rfl (lv_at hl 0 rfl) ?_
              refine va_get (D := (dC, dI)) (ci := 6) (v := .ref aW) (C := RX6) (T := TX6) (N := 4) hx hb hts inC_X6 hown hK hP 0 rfl rfl 2 (by decide) (hts (.fieldLink RX6 28 "Counterpointery" "laws" "LCounterpointery$Laws;") (List.mem_cons_of_mem _ wm_389)) (fun _ h9 => h9) rfl dX6_costIsSumOfFaults_55 ?_
              refine lv_iload hx hb dX6_costIsSumOfFaults_58 (lv_at hl 4 rfl) ?_
              refine lv_iload hx hb dX6_costIsSumOfFaults_60 (lv_at hl 6 rfl) ?_
              refine rS_i (As := [.int ((f_X3_faultsAt tc tv gc gs gb gf gv v2) &&& (f_X2_weighing wv (1 : Int32))), .int v4]) (rest := [.ref aW, .int v3]) ⟨hx, hb, hml, hown, hts⟩ (m_X2_nthOf l dC dI cI cJ ((f_X3_faultsAt tc tv gc gs gb gf gv v2) &&& (f_X2_weighing wv (1 : Int32))) v4) (va_cwS 2 hts (gi_S wm_589 wm_225 wm_131 wm_226) rfl rfl rfl hd_X2_nthOf ⟨Nat.le_of_ble_eq_true rfl, Nat.le_of_ble_eq_true rfl⟩) hK (hP.sub [] rfl) rfl hl.1 rfl (Nat.le_of_ble_eq_true rfl) dX6_costIsSumOfFaults_62 ⟨Nat.zero_le _, Nat.zero_le _⟩ ?_
              refine rV_i (q0 := 0) (As := [.int (f_X2_nthOf ((f_X3_faultsAt tc tv gc gs gb gf gv v2) &&& (f_X2_weighing wv (1 : Int32))) v4)]) (rest := [.int v3]) ⟨hx, hb, hml, hown, hts⟩ (m_X2_weightOf l dC dI cI cJ aW aX wn wv (f_X2_nthOf ((f_X3_faultsAt tc tv gc gs gb gf gv v2) &&& (f_X2_weighing wv (1 : Int32))) v4)) (cwV 1 hts (gi_V wm_520 wm_129 wm_130 wm_131 wm_132) rfl rfl rfl hd_X2_weightOf ⟨Nat.le_of_ble_eq_true rfl, Nat.le_of_ble_eq_true rfl⟩) hK (hP.sub [5, 6] rfl) rfl rfl rfl hl.1 rfl (Nat.le_of_ble_eq_true rfl) dX6_costIsSumOfFaults_65 ⟨Nat.zero_le _, Nat.zero_le _⟩ ?_
              refine lv_iadd hx hb dX6_costIsSumOfFaults_68 ?_
              refine lv_istore_n (lv' := [(2, .int (v3 + (f_X2_weightOf wv (f_X2_nthOf ((f_X3_faultsAt tc tv gc gs gb gf gv v2) &&& (f_X2_weighing wv (1 : Int32))) v4)))), (0, .ref aC), (1, .int (f_X2_weighing wv (1 : Int32))), (3, .int v2), (4, .int ((f_X3_faultsAt tc tv gc gs gb gf gv v2) &&& (f_X2_weighing wv (1 : Int32)))), (5, .int (f_J6_bitCount_0f7a4 ((f_X3_faultsAt tc tv gc gs gb gf gv v2) &&& (f_X2_weighing wv (1 : Int32))))), (6, .int v4)]) hx hb dX6_costIsSumOfFaults_69 rfl hl (by decide) rfl (fun ls hl => ?_)
              refine lv_iinc (v := (v4 + (1 : Int32))) (lv' := [(6, .int (v4 + (1 : Int32))), (2, .int (v3 + (f_X2_weightOf wv (f_X2_nthOf ((f_X3_faultsAt tc tv gc gs gb gf gv v2) &&& (f_X2_weighing wv (1 : Int32))) v4)))), (0, .ref aC), (1, .int (f_X2_weighing wv (1 : Int32))), (3, .int v2), (4, .int ((f_X3_faultsAt tc tv gc gs gb gf gv v2) &&& (f_X2_weighing wv (1 : Int32)))), (5, .int (f_J6_bitCount_0f7a4 ((f_X3_faultsAt tc tv gc gs gb gf gv v2) &&& (f_X2_weighing wv (1 : Int32)))))]) hx hb dX6_costIsSumOfFaults_70 hl (k := 6) rfl rfl (by decide) rfl (fun ls hl => ?_)
              refine lv_goto (tgt := 46) hx hb dX6_costIsSumOfFaults_73 (by decide) ?_
              exact ih46 (v3 + (f_X2_weightOf wv (f_X2_nthOf ((f_X3_faultsAt tc tv gc gs gb gf gv v2) &&& (f_X2_weighing wv (1 : Int32))) v4))) (v4 + (1 : Int32)) ls (lv_sub hl [2, 3, 1, 4, 5, 6, 0] rfl) (Nat.lt_of_lt_of_le (lp_up (by assumption)) (Nat.le_of_lt_succ hm46)) hR
        exact L46 (((f_J6_bitCount_0f7a4 ((f_X3_faultsAt tc tv gc gs gb gf gv v2) &&& (f_X2_weighing wv (1 : Int32)))).toInt - (0 : Int32).toInt).toNat + 1) v1 (0 : Int32) ls (lv_sub hl [3, 4, 5, 6, 2, 1, 0] rfl) (Nat.lt_succ_self _) hR
  exact L13 (((f_X3_length tc).toInt - (0 : Int32).toInt).toNat + 1) (0 : Int32) (0 : Int32) ls (lv_sub hl [3, 2, 1, 0] rfl) (Nat.lt_succ_self _) hR
set_option maxHeartbeats 4000000 in
set_option maxRecDepth 100000 in
theorem m_X6_costIsSumOfFaults (l : Launch) (dC : Nat → ClassId) (dI : Nat → Nat → Nat) (cI cJ : ClassId) (aC : Nat) (aG : Nat) (aL : Nat) (aW : Nat) (aT : Nat) (aV : Nat) (aX : Nat) (vS : Value) (tc : Int32) (tv : Nat → Int32) (gc : Int32) (gs : Int32) (gb : Int32) (gf : Int32) (gl : Int32) (gh : Int32) (gn : Int32) (gv : Nat → Int32) (wn : Int32) (wv : Nat → Int32) (hz_gb : zb gb) (hz_gf : zb gf) : Met l yX6_costIsSumOfFaults wsX6_costIsSumOfFaults rm_X6_costIsSumOfFaults (va_Pc [.ref aC] (fun U => va_P (dC, dI) vwCl [(aC, .inr (6, [.ref aG, .ref aL, .ref aW, vS])), (aL, .inr (4, [.ref aG, .ref aT, .int tc])), (aT, .inl (cI, 53, .inl tv)), (aG, .inr (2, [.ref aV, .int gc, .int gs, .int gb, .int gf, .int gl, .int gh, .int gn])), (aV, .inl (cI, 14, .inl gv)), (aW, .inr (3, [.ref aX, .int wn])), (aX, .inl (cI, 12, .inl wv))] U.heap ∧ va_K (dC, dI) vwCl [(cI, .int), (cJ, .long)] U)) (vp_Si (fun r => r = f_X6_costIsSumOfFaults tc tv gc gs gb gf gv wv)) 0 0 (fun _ => False) := by
  refine Met.ofW (cc := cX6_costIsSumOfFaults) (maxL := 7) (ret := (some .boolean)) (by decide) rfl ?_
  intro p e s m args below meth c s₁ B hml hv
  obtain ⟨rfl, hP, hK⟩ := hv
  have hl := lv_entry ([.ref aC]) (n := 7) (Nat.le_of_ble_eq_true rfl)
  rw [lg_entry_eq]
  refine w_X6_costIsSumOfFaults hz_gb hz_gf B.exec B.bytes hml (findClass_of_methodNamed B.named) (atoms_spec (ws := wsX6_costIsSumOfFaults) B.pre) hK hP rfl (fun r pc ls hz er hd => ?_) _ hl
  exact W.zret B.exec B.bytes B.returns (zb_n hz) (fun t ht hW => ⟨r, rfl, er, ht⟩) (fun _ h => by cases h) hd B.notSynchronized
end
