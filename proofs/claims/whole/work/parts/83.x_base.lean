/-- what comes of a call that may throw -/
def sb {α β : Type} (x : String ⊕ α) (f : String → β) (g : α → β) : β := match x with
  | .inl E => f E
  | .inr r => g r
theorem sb_l {α β : Type} {x : String ⊕ α} {f : String → β} {g : α → β} {E : String} (h : x = .inl E) : sb x f g = f E := by
  rw [h]
  rfl
theorem sb_r {α β : Type} {x : String ⊕ α} {f : String → β} {g : α → β} {r : α} (h : x = .inr r) : sb x f g = g r := by
  rw [h]
  rfl
abbrev nmR : List String := ["java/lang/RuntimeException", "java/lang/Exception"]
/-- the words of throws that the tables alone decide and that no method's list may hold -/
def XW : List Cond := [.castable "java/lang/IllegalArgumentException" "java/lang/IllegalArgumentException", .castable "java/lang/IllegalStateException" "java/lang/IllegalStateException", .castable "java/lang/IndexOutOfBoundsException" "java/lang/IndexOutOfBoundsException", .castable nE nE, .castable "java/lang/UnsupportedOperationException" "java/lang/UnsupportedOperationException", .castable "java/lang/ArithmeticException" "java/lang/ArithmeticException", .declares (Bundle.initS nR), .declares (Bundle.initS "java/lang/Exception"), .declares (Bundle.initS Bundle.tN)]
/-- the texts of the class's exceptions, by their entries -/
def XTL : List (Nat × String) := [(117, "no such weight"), (125, "no such style"), (165, "no change makes the cost less"), (170, "no such range"), (189, "no line is good"), (204, "no such law"), (221, "no such exchange"), (237, "no such distance"), (239, "no such number of steps"), (241, "the other line is too short"), (42, "the given line is full"), (57, "the other line is full"), (79, "no such ratio"), (258, "no such canon"), (262, "the other line does not move"), (273, "the other line is empty"), (287, "no such note"), (292, "no such index"), (304, "no such fault"), (306, "the other line is not whole"), (308, "the given line is too short"), (312, "no search with the ratio 4")]
def xfa (U : State) : Prop := (∀ w ∈ XW, va_Nw w U) ∧ ∀ q ∈ XTL, ∃ a, vk_R RX6 q.1 q.2 a U
def xst (A : Nat → Prop) (U : State) (H : Heap) : Prop := vx_Zq Bundle.tN "UNASSIGNED_STACK" Bundle.steD A U H ∧ vx_Zq Bundle.tN "SUPPRESSED_SENTINEL" Bundle.listD A U H
theorem XW_ot : ∀ w ∈ XW, w.onTables = true := List.all_eq_true.mp (by decide +kernel : XW.all Cond.onTables = true)
theorem xfa.same {u U : State} (hv : U.vm = u.vm) (h : xfa u) : xfa U := ⟨fun w hw => va_tabs (XW_ot w hw) hv.symm (h.1 w hw), fun q hq => by
  obtain ⟨a, ha⟩ := h.2 q hq
  exact ⟨a, ha.same hv⟩⟩
theorem xfa.warm {s U : State} (hW : s.WarmedH U.vm) (h : xfa s) : xfa U := by
  refine ⟨fun w hw => ?_, fun q hq => ?_⟩
  · have h1 := h.1 w hw
    simp only [XW, List.mem_cons, List.not_mem_nil, or_false] at hw
    rcases hw with e | e | e | e | e | e | e | e | e <;> subst e <;> first | exact va_Nw.warmC hW h1 | exact va_Nw.warmD hW h1
  · obtain ⟨a, ha⟩ := h.2 q hq
    exact ⟨a, ha.warm hW⟩
theorem xst.moved {A : Nat → Prop} {u U : State} {H : Heap} (hvm : u.vm.Alike U.vm) (h : xst A u H) : xst A U H := ⟨h.1.moved hvm, h.2.moved hvm⟩
theorem xst.kept {A : Nat → Prop} {U : State} {H H1 : Heap} (h : xst A U H) (hq : ∀ a : Nat, a < H.size → ¬ A a → H1[a]? = H[a]?) : xst A U H1 := ⟨h.1.kept hq, h.2.kept hq⟩
theorem xst.narrow {A B : Nat → Prop} {U : State} {H : Heap} (h : xst A U H) (hAB : ∀ q, B q → A q) : xst B U H := ⟨h.1.narrow hAB, h.2.narrow hAB⟩
theorem xw_hat {args : Array Value} {s : State} {L : List Cond} {k : List Cond} (hX : xfa s) (hk : ∀ w ∈ WA, w.before args s = true) (e : L.filter goodWord = k) (hkm : ∀ w ∈ k, w ∈ WA) (h2 : (L.filter (fun w => !goodWord w)).all (fun w => decide (w ∈ XW)) = true) : ∀ w ∈ L, w.before args s = true :=
  vx_hat (B := XW) (fun w hw => hk w (hkm w (e ▸ hw))) (fun w hw => of_decide_eq_true (List.all_eq_true.mp h2 w hw)) (fun w hw => (hX.1 w hw).use (XW_ot w hw))
section
variable {args : Array Value} {s : State}
set_option maxRecDepth 100000 in
theorem xh_IA (hX : xfa s) (hk : ∀ w ∈ WA, w.before args s = true) : ∀ w ∈ vx_atS RX6 81 "java/lang/IllegalArgumentException" nmR, w.before args s = true := xw_hat hX hk rfl q_wx_1 (by decide +kernel)
set_option maxRecDepth 100000 in
theorem xh_IS (hX : xfa s) (hk : ∀ w ∈ WA, w.before args s = true) : ∀ w ∈ vx_atS RX6 44 "java/lang/IllegalStateException" nmR, w.before args s = true := xw_hat hX hk rfl q_wx_2 (by decide +kernel)
set_option maxRecDepth 100000 in
theorem xh_IO (hX : xfa s) (hk : ∀ w ∈ WA, w.before args s = true) : ∀ w ∈ vx_atS RX6 206 "java/lang/IndexOutOfBoundsException" nmR, w.before args s = true := xw_hat hX hk rfl q_wx_3 (by decide +kernel)
set_option maxRecDepth 100000 in
theorem xh_UO (hX : xfa s) (hk : ∀ w ∈ WA, w.before args s = true) : ∀ w ∈ vx_atS RX6 314 "java/lang/UnsupportedOperationException" nmR, w.before args s = true := xw_hat hX hk rfl q_wx_5 (by decide +kernel)
set_option maxRecDepth 100000 in
theorem xh_AR (hX : xfa s) (hk : ∀ w ∈ WA, w.before args s = true) : ∀ w ∈ vx_atS RX6 264 "java/lang/ArithmeticException" nmR, w.before args s = true := xw_hat hX hk rfl q_wx_6 (by decide +kernel)
set_option maxRecDepth 100000 in
theorem xh_NE (hX : xfa s) (hk : ∀ w ∈ WA, w.before args s = true) : ∀ w ∈ xN_at 167, w.before args s = true := xw_hat hX hk rfl q_wx_4 (by decide +kernel)
end
theorem xg_IA : ∀ w ∈ Cond.classLink RX6 77 "java/lang/IllegalArgumentException" :: Cond.initialized "java/lang/IllegalArgumentException" :: vx_atS RX6 81 "java/lang/IllegalArgumentException" nmR, vx_ot w = true := List.all_eq_true.mp (by decide +kernel)
theorem xg_IS : ∀ w ∈ Cond.classLink RX6 40 "java/lang/IllegalStateException" :: Cond.initialized "java/lang/IllegalStateException" :: vx_atS RX6 44 "java/lang/IllegalStateException" nmR, vx_ot w = true := List.all_eq_true.mp (by decide +kernel)
theorem xg_IO : ∀ w ∈ Cond.classLink RX6 202 "java/lang/IndexOutOfBoundsException" :: Cond.initialized "java/lang/IndexOutOfBoundsException" :: vx_atS RX6 206 "java/lang/IndexOutOfBoundsException" nmR, vx_ot w = true := List.all_eq_true.mp (by decide +kernel)
theorem xg_UO : ∀ w ∈ Cond.classLink RX6 310 "java/lang/UnsupportedOperationException" :: Cond.initialized "java/lang/UnsupportedOperationException" :: vx_atS RX6 314 "java/lang/UnsupportedOperationException" nmR, vx_ot w = true := List.all_eq_true.mp (by decide +kernel)
theorem xg_AR : ∀ w ∈ Cond.classLink RX6 260 "java/lang/ArithmeticException" :: Cond.initialized "java/lang/ArithmeticException" :: vx_atS RX6 264 "java/lang/ArithmeticException" nmR, vx_ot w = true := List.all_eq_true.mp (by decide +kernel)
theorem fit_nmR : ∀ n ∈ nmR, Bundle.fit n = true := List.all_eq_true.mp (by decide +kernel)
section
variable {p : Program} {l : Launch} {e : Env} {R : Room} {s : State} {m : MethodId} {args : Array Value} {below : List Frame} {meth : Method} {c : Code} {H : Heap} {locs : List Loc} {cells slots : Nat} {cc bytes : ByteArray} {nL maxL index n ci N pc mc ms k1 k2 : Nat} {own C : String} {T : u_T} {y : MethodName} {ret : Option FieldType} {rm : Room} {Ts ws' : List Cond} {D : va_G} {cl : List vw_C} {tys : List (ClassId × FieldType)} {b : Addr} {fs st rest : List Value} {ls : Array Slot} {A : Nat → Prop} {W0 : va_W} {free : Addr → Prop}
variable {Qc : Array Value → State → Outcome → State → Prop} {XC : String → State → State → Prop}
/-- what a method's own world owes where an exception leaves it -/
abbrev xOwe (s : State) (A : Nat → Prop) (D : va_G) (cl : List vw_C) (w : va_W) (P : Prop) (X : State → Prop) : Prop := ∀ t : State, s.vm.Alike t.vm → va_P D cl w t.heap → va_D A w → va_F A s t → P → X t
theorem PX_blind {av : List Value} {wc : va_W} {sz : Nat} {A' : Nat → Prop} : FrameBlind (va_Pc av (fun U => U.heap.size = sz ∧ va_P D cl wc U.heap ∧ va_K D cl tys U ∧ va_D (fun _ => True) wc ∧ xfa U ∧ xst A' U U.heap)) := fun a U g mk q => ⟨q.1, q.2.1, q.2.2.1, va_K.moved (u := U) (U := U.calling g mk a) (Vm.Alike.refl U.vm) q.2.2.2.1, q.2.2.2.2.1, xfa.same (u := U) (U := U.calling g mk a) rfl q.2.2.2.2.2.1, xst.moved (u := U) (U := U.calling g mk a) (Vm.Alike.refl U.vm) q.2.2.2.2.2.2⟩
theorem tableNo (ht : ∀ x ∈ c.exceptionTable.toList, False) {k : Nat} : ∀ x ∈ c.exceptionTable.toList, covers x k = false := fun x hx => (ht x hx).elim
/-- a throw of the method's own: new, dup, ldc, invokespecial, athrow -/
theorem vT_s {cls text : String} {ik is ic : Nat} (hexec : p.tables.exec = Jvm.exec) (hb : c.code = cc) (hl : l.stackTraces = false) (hown : s.vm.findClass RX6 = some m.cls) (hX : xfa s) (hXs : xst A s s.heap) (ht : ∀ x ∈ c.exceptionTable.toList, False) (hlocks : meth.locks = false) (hfree : ∀ q, A q → free q) (hcls : Bundle.fit cls = true) (hk : (Cond.classLink RX6 ik cls).before args s = true) (hini : (Cond.initialized cls).before args s = true) (hstr : (is, text) ∈ XTL) (hat : ∀ w ∈ vx_atS RX6 ic cls nmR, w.before args s = true) (hgood : ∀ w ∈ Cond.classLink RX6 ik cls :: Cond.initialized cls :: vx_atS RX6 ic cls nmR, vx_ot w = true) (hP : va_P D cl W0 H) (hD : va_D A W0) (hS : va_S A s.heap H locs) (hsize : ls.size = nL) (hml : c.maxLocals = nL) (d0 : decode cc pc = .ok (.new ik, 3)) (d3 : decode cc (pc + 3) = .ok (.dup, 1)) (d4 : decode cc (pc + 4) = .ok (.ldc is, 2)) (d6 : decode cc (pc + 6) = .ok (.invokespecial ic, 3)) (d9 : decode cc (pc + 9) = .ok (.athrow, 1)) (hRf : 5 < R.frames) (hRl : (rest.map fun v => v.category).sum + 82 ≤ R.locals) (hRc : cells + 1 ≤ R.cells) (hRs : slots + 6 ≤ R.slots) (hc : cells + 1 ≤ mc) (hs : slots + 6 ≤ ms) (hx : ∀ t : State, s.vm.Alike t.vm → va_P D cl W0 t.heap → va_D A W0 → va_F A s t → XC cls s t) : W p l e R s m args below meth c H locs cells slots (vx_MQ below Qc XC args s mc ms free) (F0 m pc ls rest) := by
  obtain ⟨sa, hsa⟩ := hX.2 _ hstr
  refine vx_throwS hexec hb hl hown hcls fit_nmR hk hini hsa hat hgood hXs.1 hXs.2 hS (hsize.trans hml.symm) d0 d3 d4 d6 d9 (tableNo ht) hRf hRl hRc hRs hlocks (fun t ha hz hk1 => ?_) (fun z hz => hfree _ (hS.2.2 z hz)) hc hs
  exact hx t ha (hP.kept fun k q hq => hk1 q.1 (hP k q hq).lt) hD ⟨Nat.le_trans hS.1 hz, fun q h1 h2 => (hk1 q (Nat.lt_of_lt_of_le h1 hS.1)).trans (hS.2.1 q h1 h2)⟩
theorem vT_w {cls text : String} {ik is ic : Nat} (hexec : p.tables.exec = Jvm.exec) (hb : c.code = cc) (hl : l.stackTraces = false) (hown : s.vm.findClass RX6 = some m.cls) (hX : xfa s) (hXs : xst A s s.heap) (ht : ∀ x ∈ c.exceptionTable.toList, False) (hlocks : meth.locks = false) (hfree : ∀ q, A q → free q) (hcls : Bundle.fit cls = true) (hk : (Cond.classLink RX6 ik cls).before args s = true) (hini : (Cond.initialized cls).before args s = true) (hstr : (is, text) ∈ XTL) (hat : ∀ w ∈ vx_atS RX6 ic cls nmR, w.before args s = true) (hgood : ∀ w ∈ Cond.classLink RX6 ik cls :: Cond.initialized cls :: vx_atS RX6 ic cls nmR, vx_ot w = true) (hP : va_P D cl W0 H) (hD : va_D A W0) (hS : va_S A s.heap H locs) (hsize : ls.size = nL) (hml : c.maxLocals = nL) (d0 : decode cc pc = .ok (.new ik, 3)) (d3 : decode cc (pc + 3) = .ok (.dup, 1)) (d4 : decode cc (pc + 4) = .ok (.ldc_w is, 3)) (d7 : decode cc (pc + 7) = .ok (.invokespecial ic, 3)) (d10 : decode cc (pc + 10) = .ok (.athrow, 1)) (hRf : 5 < R.frames) (hRl : (rest.map fun v => v.category).sum + 82 ≤ R.locals) (hRc : cells + 1 ≤ R.cells) (hRs : slots + 6 ≤ R.slots) (hc : cells + 1 ≤ mc) (hs : slots + 6 ≤ ms) (hx : ∀ t : State, s.vm.Alike t.vm → va_P D cl W0 t.heap → va_D A W0 → va_F A s t → XC cls s t) : W p l e R s m args below meth c H locs cells slots (vx_MQ below Qc XC args s mc ms free) (F0 m pc ls rest) := by
  obtain ⟨sa, hsa⟩ := hX.2 _ hstr
  refine vx_throwSW hexec hb hl hown hcls fit_nmR hk hini hsa hat hgood hXs.1 hXs.2 hS (hsize.trans hml.symm) d0 d3 d4 d7 d10 (tableNo ht) hRf hRl hRc hRs hlocks (fun t ha hz hk1 => ?_) (fun z hz => hfree _ (hS.2.2 z hz)) hc hs
  exact hx t ha (hP.kept fun k q hq => hk1 q.1 (hP k q hq).lt) hD ⟨Nat.le_trans hS.1 hz, fun q h1 h2 => (hk1 q (Nat.lt_of_lt_of_le h1 hS.1)).trans (hS.2.1 q h1 h2)⟩
/-- a call that may throw, of a method that changes nothing; what it throws leaves this method too -/
theorem vC_v {wc w1 wr wn : va_W} {f : String ⊕ Unit} {mc9 ms9 : Nat} (q0 : Nat) (As rest : List Value) (S : CallFix p m c cc nL s args Ts own) (hM : vx_Met l y (Cond.code y bytes maxL ret :: ws') rm (va_Pc (.ref b :: As) (fun U => U.heap.size = H.size ∧ va_P D cl wc U.heap ∧ va_K D cl tys U ∧ va_D (fun _ => True) wc ∧ xfa U ∧ xst (va_A wc H.size) U U.heap)) (va_Qv (fun _ : Unit => f = .inr ()) (fun _ t => va_P D cl w1 t.heap ∧ va_K D cl tys t ∧ va_D (va_A wc H.size) w1) (va_A wc H.size)) (vx_X (fun _ : Unit => True) (fun E _ t => f = .inl E ∧ va_P D cl w1 t.heap ∧ va_K D cl tys t ∧ va_D (va_A wc H.size) w1) (va_A wc H.size)) k1 k2 (va_A wc H.size)) (cw : CallW R s args own C index y bytes maxL ret (Cond.code y bytes maxL ret :: ws') rm k1 k2 n) (hK : va_K D cl tys s) (hX : xfa s) (hXs : xst A s s.heap) (ht : ∀ x ∈ c.exceptionTable.toList, False) (hlocks : meth.locks = false) (hfree : ∀ q, A q → free q) (hP : va_P D cl W0 H) (hD : va_D A W0) (hS : va_S A s.heap H locs) (hA : ∀ q, s.heap.size ≤ q → A q) (isC isR back : List Nat) (hC : isC.map (fun i => W0[i]?) = wc.map some) (hR : isR.map (fun i => W0[i]?) = wr.map some) (hbk : back.map (fun i => (wr ++ w1)[i]?) = wn.map some) (hnd : va_nd isR = true) (hndC : va_nd isC = true) (hndb : va_nd back = true) (hdis : ∀ i ∈ isR, i ∉ isC) (he : wc[q0]? = some (b, .inr (ci, fs))) (hc : cl[ci]? = some (C, T, N)) (hn : As.length = n) (hsize : ls.size = nL) (hst : st = As.reverse ++ .ref b :: rest) (hcat : (rest.map fun v => v.category).sum ≤ 8) (hdg : decode cc pc = .ok (.invokevirtual index, 3)) (hf : cells + k1 ≤ R.cells ∧ slots + k2 ≤ R.slots) (hmc : cells + k1 ≤ mc9) (hms : slots + k2 ≤ ms9) (kx : ∀ (E : String), f = .inl E → ∀ t : State, s.vm.Alike t.vm → va_P D cl wn t.heap → va_D A wn → va_F A s t → XC E s t) (kk : ∀ (H1 : Heap) (locs1 : List Loc), f = .inr () → va_P D cl wn H1 → va_D A wn → va_S A s.heap H1 locs1 → W p l e R s m args below meth c H1 locs1 (cells + k1) (slots + k2) (vx_MQ below Qc XC args s mc9 ms9 free) (F0 m (pc + 3) ls rest)) : W p l e R s m args below meth c H locs cells slots (vx_MQ below Qc XC args s mc9 ms9 free) (F0 m pc ls st) := by
  have hPc : va_P D cl wc H := hP.sub isC (by
    have h := congrArg (List.filterMap id) hC
    simpa [List.filterMap_map] using h)
  have hFc := va_free (wc := wc) hD hS hA isC hC
  have hDc : va_D A wc := hD.sub isC hndC hC
  refine vx_callv (vx_runV S hM cw ⟨PX_blind, va_recv hK hPc hc he, fun U hU hW => ⟨rfl, by rw [hU], by rw [hU]; exact hPc, va_K.moved hW.alike hK, hDc.weaken (fun _ _ _ _ => trivial), hX.warm hW, by rw [hU]; exact ((hXs.kept hS.2.1).moved hW.alike).narrow hFc⟩⟩ rfl hn hsize hst (lv_room hcat) hdg hf) hS (fun q _ h => hFc q h) hFc (fun q _ h => hFc q h) (fun E ce q9 u t H1 locs1 ht1 hvm _ hB hz1 hk1 hS1 hce hcv hcl => ?_) (fun u t H1 locs1 ht1 hvm hw hB hz1 hk1 hS1 => ?_)
  · obtain ⟨ef, hP1, hK1, hD1⟩ := hB
    rw [ht1] at hP1
    obtain ⟨hP2, hD2⟩ := va_join (wr := wr) (w1 := w1) hP hD isC isR hC hR hnd hdis hk1 hFc hP1 hD1
    refine vx_out (tableNo ht) hlocks hce hcv hcl (fun t2 ht2 ha => ?_) (fun z hz => hfree _ (hS1.2.2 z hz)) hmc hms
    refine kx E ef t2 ha ?_ (hD2.sub back hndb hbk) (hS1.F ht2)
    rw [ht2]
    exact hP2.sub back (by
      have h := congrArg (List.filterMap id) hbk
      simpa [List.filterMap_map] using h)
  · obtain ⟨hP1, hK1, hD1⟩ := hB
    rw [ht1] at hP1
    obtain ⟨hP2, hD2⟩ := va_join (wr := wr) (w1 := w1) hP hD isC isR hC hR hnd hdis hk1 hFc hP1 hD1
    exact kk H1 locs1 hw (hP2.sub back (by
      have h := congrArg (List.filterMap id) hbk
      simpa [List.filterMap_map] using h)) (hD2.sub back hndb hbk) hS1
theorem vC_i {wc w1 wr wn : va_W} {f : String ⊕ Int32} {mc9 ms9 : Nat} (q0 : Nat) (As rest : List Value) (S : CallFix p m c cc nL s args Ts own) (hM : vx_Met l y (Cond.code y bytes maxL ret :: ws') rm (va_Pc (.ref b :: As) (fun U => U.heap.size = H.size ∧ va_P D cl wc U.heap ∧ va_K D cl tys U ∧ va_D (fun _ => True) wc ∧ xfa U ∧ xst (va_A wc H.size) U U.heap)) (va_Qi (fun (r : Int32) (_ : Unit) => f = .inr r) (fun _ t => va_P D cl w1 t.heap ∧ va_K D cl tys t ∧ va_D (va_A wc H.size) w1) (va_A wc H.size)) (vx_X (fun _ : Unit => True) (fun E _ t => f = .inl E ∧ va_P D cl w1 t.heap ∧ va_K D cl tys t ∧ va_D (va_A wc H.size) w1) (va_A wc H.size)) k1 k2 (va_A wc H.size)) (cw : CallW R s args own C index y bytes maxL ret (Cond.code y bytes maxL ret :: ws') rm k1 k2 n) (hK : va_K D cl tys s) (hX : xfa s) (hXs : xst A s s.heap) (ht : ∀ x ∈ c.exceptionTable.toList, False) (hlocks : meth.locks = false) (hfree : ∀ q, A q → free q) (hP : va_P D cl W0 H) (hD : va_D A W0) (hS : va_S A s.heap H locs) (hA : ∀ q, s.heap.size ≤ q → A q) (isC isR back : List Nat) (hC : isC.map (fun i => W0[i]?) = wc.map some) (hR : isR.map (fun i => W0[i]?) = wr.map some) (hbk : back.map (fun i => (wr ++ w1)[i]?) = wn.map some) (hnd : va_nd isR = true) (hndC : va_nd isC = true) (hndb : va_nd back = true) (hdis : ∀ i ∈ isR, i ∉ isC) (he : wc[q0]? = some (b, .inr (ci, fs))) (hc : cl[ci]? = some (C, T, N)) (hn : As.length = n) (hsize : ls.size = nL) (hst : st = As.reverse ++ .ref b :: rest) (hcat : (rest.map fun v => v.category).sum ≤ 8) (hdg : decode cc pc = .ok (.invokevirtual index, 3)) (hf : cells + k1 ≤ R.cells ∧ slots + k2 ≤ R.slots) (hmc : cells + k1 ≤ mc9) (hms : slots + k2 ≤ ms9) (kx : ∀ (E : String), f = .inl E → ∀ t : State, s.vm.Alike t.vm → va_P D cl wn t.heap → va_D A wn → va_F A s t → XC E s t) (kk : ∀ (r : Int32) (H1 : Heap) (locs1 : List Loc), f = .inr r → va_P D cl wn H1 → va_D A wn → va_S A s.heap H1 locs1 → W p l e R s m args below meth c H1 locs1 (cells + k1) (slots + k2) (vx_MQ below Qc XC args s mc9 ms9 free) (F0 m (pc + 3) ls (.int r :: rest))) : W p l e R s m args below meth c H locs cells slots (vx_MQ below Qc XC args s mc9 ms9 free) (F0 m pc ls st) := by
  have hPc : va_P D cl wc H := hP.sub isC (by
    have h := congrArg (List.filterMap id) hC
    simpa [List.filterMap_map] using h)
  have hFc := va_free (wc := wc) hD hS hA isC hC
  have hDc : va_D A wc := hD.sub isC hndC hC
  refine vx_calli (vx_runV S hM cw ⟨PX_blind, va_recv hK hPc hc he, fun U hU hW => ⟨rfl, by rw [hU], by rw [hU]; exact hPc, va_K.moved hW.alike hK, hDc.weaken (fun _ _ _ _ => trivial), hX.warm hW, by rw [hU]; exact ((hXs.kept hS.2.1).moved hW.alike).narrow hFc⟩⟩ rfl hn hsize hst (lv_room hcat) hdg hf) hS (fun q _ h => hFc q h) hFc (fun q _ h => hFc q h) (fun E ce q9 u t H1 locs1 ht1 hvm _ hB hz1 hk1 hS1 hce hcv hcl => ?_) (fun r u t H1 locs1 ht1 hvm hw hB hz1 hk1 hS1 => ?_)
  · obtain ⟨ef, hP1, hK1, hD1⟩ := hB
    rw [ht1] at hP1
    obtain ⟨hP2, hD2⟩ := va_join (wr := wr) (w1 := w1) hP hD isC isR hC hR hnd hdis hk1 hFc hP1 hD1
    refine vx_out (tableNo ht) hlocks hce hcv hcl (fun t2 ht2 ha => ?_) (fun z hz => hfree _ (hS1.2.2 z hz)) hmc hms
    refine kx E ef t2 ha ?_ (hD2.sub back hndb hbk) (hS1.F ht2)
    rw [ht2]
    exact hP2.sub back (by
      have h := congrArg (List.filterMap id) hbk
      simpa [List.filterMap_map] using h)
  · obtain ⟨hP1, hK1, hD1⟩ := hB
    rw [ht1] at hP1
    obtain ⟨hP2, hD2⟩ := va_join (wr := wr) (w1 := w1) hP hD isC isR hC hR hnd hdis hk1 hFc hP1 hD1
    exact kk r H1 locs1 hw (hP2.sub back (by
      have h := congrArg (List.filterMap id) hbk
      simpa [List.filterMap_map] using h)) (hD2.sub back hndb hbk) hS1
end
