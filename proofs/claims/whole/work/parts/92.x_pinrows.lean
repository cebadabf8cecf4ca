section
variable {p : Program} {l : Launch} {e : Env} {R : Room} {s : State} {m : MethodId} {args : Array Value} {below : List Frame} {meth : Method} {c : Code} {Q : State → Prop} {H H0 : Heap} {locs : List Loc} {cells slots : Nat} {cc bytes : ByteArray} {nL maxL index n ci N pc mc ms k1 k2 : Nat} {own C : String} {T : u_T} {y : MethodName} {ret : Option FieldType} {rm : Room} {Ts ws' : List Cond} {D : va_G} {cl : List vw_C} {tys : List (ClassId × FieldType)} {a b : Addr} {fs st rest : List Value} {ls : Array Slot} {A : Nat → Prop} {ws W0 : va_W} {free : Addr → Prop}
variable {Qc : Array Value → State → Outcome → State → Prop} {XC : String → State → State → Prop}
theorem PKDE_blind {av : List Value} {wc : va_W} {sz : Nat} {E : State → Prop} (hEb : ∀ (U : State) (g : JFrame) (mk : MethodId) (a : Array Value), E U → E (U.calling g mk a)) : FrameBlind (va_Pc av (fun U => U.heap.size = sz ∧ va_P D cl wc U.heap ∧ va_K D cl tys U ∧ va_D (fun _ => True) wc ∧ E U)) := fun a U g mk q => ⟨q.1, q.2.1, q.2.2.1, va_K.moved (u := U) (U := U.calling g mk a) (Vm.Alike.refl U.vm) q.2.2.2.1, q.2.2.2.2.1, hEb U g mk a q.2.2.2.2.2⟩
theorem PXE_blind {av : List Value} {wc : va_W} {sz : Nat} {A' : Nat → Prop} {E : State → Prop} (hEb : ∀ (U : State) (g : JFrame) (mk : MethodId) (a : Array Value), E U → E (U.calling g mk a)) : FrameBlind (va_Pc av (fun U => U.heap.size = sz ∧ va_P D cl wc U.heap ∧ va_K D cl tys U ∧ va_D (fun _ => True) wc ∧ xfa U ∧ xst A' U U.heap ∧ E U)) := fun a U g mk q => ⟨q.1, q.2.1, q.2.2.1, va_K.moved (u := U) (U := U.calling g mk a) (Vm.Alike.refl U.vm) q.2.2.2.1, q.2.2.2.2.1, xfa.same (u := U) (U := U.calling g mk a) rfl q.2.2.2.2.2.1, xst.moved (u := U) (U := U.calling g mk a) (Vm.Alike.refl U.vm) q.2.2.2.2.2.2.1, hEb U g mk a q.2.2.2.2.2.2.2⟩
theorem bl_Y {aY : Nat} {A' : Nat → Prop} : ∀ (U : State) (g : JFrame) (mk : MethodId) (a : Array Value), sty aY A' U U.heap → sty aY A' (U.calling g mk a) (U.calling g mk a).heap := fun U g mk a h => sty.moved (u := U) (U := U.calling g mk a) (Vm.Alike.refl U.vm) h
theorem bl_J {aQ aQV k : Nat} {vF : Value} {own tx : String} {A' : Nat → Prop} : ∀ (U : State) (g : JFrame) (mk : MethodId) (a : Array Value), (jpA aQ aQV vF A' U U.heap ∧ vk_R own k tx aQ U) → jpA aQ aQV vF A' (U.calling g mk a) (U.calling g mk a).heap ∧ vk_R own k tx aQ (U.calling g mk a) := fun U g mk a h => ⟨jpA.moved (u := U) (U := U.calling g mk a) (Vm.Alike.refl U.vm) h.1, h.2.same (u := U) (U := U.calling g mk a) rfl⟩
theorem su_Y {aY : Nat} {A1 : Nat → Prop} (hY : sty aY A s s.heap) (hS : va_S A s.heap H locs) (hF : ∀ q, A1 q → A q) (U : State) (hU : U.heap = H) (hW : s.WarmedH U.vm) : sty aY A1 U U.heap := by
  rw [hU]
  exact ((hY.kept hS.2.1).moved hW.alike).narrow hF
theorem su_J {aQ aQV k : Nat} {vF : Value} {own tx : String} {A1 : Nat → Prop} (hJ : jpA aQ aQV vF A s s.heap) (hq : vk_R own k tx aQ s) (hS : va_S A s.heap H locs) (hF : ∀ q, A1 q → A q) (U : State) (hU : U.heap = H) (hW : s.WarmedH U.vm) : jpA aQ aQV vF A1 U U.heap ∧ vk_R own k tx aQ U := by
  refine ⟨?_, hq.warm hW⟩
  rw [hU]
  exact ((hJ.kept hS.2.1).moved hW.alike).narrow hF
theorem wV_iE {E : State → Prop} {wc w1 wr wn : va_W} {v : Int32} (q0 : Nat) (As rest : List Value) (S : CallFix p m c cc nL s args Ts own) (hM : Met l y (Cond.code y bytes maxL ret :: ws') rm (va_Pc (.ref b :: As) (fun U => U.heap.size = H.size ∧ va_P D cl wc U.heap ∧ va_K D cl tys U ∧ va_D (fun _ => True) wc ∧ E U)) (va_Qi (fun (r : Int32) (_ : Unit) => r = v) (fun _ t => va_P D cl w1 t.heap ∧ va_K D cl tys t ∧ va_D (va_A wc H.size) w1) (va_A wc H.size)) 0 0 (va_A wc H.size)) (cw : CallW R s args own C index y bytes maxL ret (Cond.code y bytes maxL ret :: ws') rm 0 0 n) (hEb : ∀ (U : State) (g : JFrame) (mk : MethodId) (a : Array Value), E U → E (U.calling g mk a)) (hE : (∀ q, va_A wc H.size q → A q) → ∀ U : State, U.heap = H → s.WarmedH U.vm → E U) (hK : va_K D cl tys s) (hP : va_P D cl W0 H) (hD : va_D A W0) (hS : va_S A H0 H locs) (hA : ∀ q, H0.size ≤ q → A q) (isC isR back : List Nat) (hC : isC.map (fun i => W0[i]?) = wc.map some) (hR : isR.map (fun i => W0[i]?) = wr.map some) (hbk : back.map (fun i => (wr ++ w1)[i]?) = wn.map some) (hnd : va_nd isR = true) (hndC : va_nd isC = true) (hndb : va_nd back = true) (hdis : ∀ i ∈ isR, i ∉ isC) (he : wc[q0]? = some (b, .inr (ci, fs))) (hc : cl[ci]? = some (C, T, N)) (hn : As.length = n) (hsize : ls.size = nL) (hst : st = As.reverse ++ .ref b :: rest) (hcat : (rest.map fun v => v.category).sum ≤ 8) (hdg : decode cc pc = .ok (.invokevirtual index, 3)) (hf : cells ≤ R.cells ∧ slots ≤ R.slots) (kk : ∀ (H1 : Heap) (locs1 : List Loc), va_P D cl wn H1 → va_D A wn → va_S A H0 H1 locs1 → W p l e R s m args below meth c H1 locs1 cells slots Q (F0 m (pc + 3) ls (.int v :: rest))) : W p l e R s m args below meth c H locs cells slots Q (F0 m pc ls st) := by
  have hPc : va_P D cl wc H := hP.sub isC (by
    have h := congrArg (List.filterMap id) hC
    simpa [List.filterMap_map] using h)
  have hFc := va_free (wc := wc) hD hS hA isC hC
  have hDc : va_D A wc := hD.sub isC hndC hC
  refine va_calli (va_runV S hM cw ⟨PKDE_blind hEb, va_recv hK hPc hc he, fun U hU hW => ⟨rfl, by rw [hU], by rw [hU]; exact hPc, va_K.moved hW.alike hK, hDc.weaken (fun _ _ _ _ => trivial), hE hFc U hU hW⟩⟩ rfl hn hsize hst (lv_room hcat) hdg hf) hS (fun q _ h => hFc q h) hFc (fun r u t H1 locs1 ht hvm hw hB hz1 hk1 hS => ?_)
  obtain ⟨hP1, hK1, hD1⟩ := hB
  rw [ht] at hP1
  obtain ⟨hP2, hD2⟩ := va_join (wr := wr) (w1 := w1) hP hD isC isR hC hR hnd hdis hk1 hFc hP1 hD1
  rw [hw]
  exact kk H1 locs1 (hP2.sub back (by
    have h := congrArg (List.filterMap id) hbk
    simpa [List.filterMap_map] using h)) (hD2.sub back hndb hbk) hS
theorem vC_iE {E : State → Prop} {wc w1 wr wn : va_W} {f : String ⊕ Int32} {mc9 ms9 : Nat} (q0 : Nat) (As rest : List Value) (S : CallFix p m c cc nL s args Ts own) (hM : vx_Met l y (Cond.code y bytes maxL ret :: ws') rm (va_Pc (.ref b :: As) (fun U => U.heap.size = H.size ∧ va_P D cl wc U.heap ∧ va_K D cl tys U ∧ va_D (fun _ => True) wc ∧ xfa U ∧ xst (va_A wc H.size) U U.heap ∧ E U)) (va_Qi (fun (r : Int32) (_ : Unit) => f = .inr r) (fun _ t => va_P D cl w1 t.heap ∧ va_K D cl tys t ∧ va_D (va_A wc H.size) w1) (va_A wc H.size)) (vx_X (fun _ : Unit => True) (fun E _ t => f = .inl E ∧ va_P D cl w1 t.heap ∧ va_K D cl tys t ∧ va_D (va_A wc H.size) w1) (va_A wc H.size)) k1 k2 (va_A wc H.size)) (cw : CallW R s args own C index y bytes maxL ret (Cond.code y bytes maxL ret :: ws') rm k1 k2 n) (hEb : ∀ (U : State) (g : JFrame) (mk : MethodId) (a : Array Value), E U → E (U.calling g mk a)) (hE : (∀ q, va_A wc H.size q → A q) → ∀ U : State, U.heap = H → s.WarmedH U.vm → E U) (hK : va_K D cl tys s) (hX : xfa s) (hXs : xst A s s.heap) (ht : ∀ x ∈ c.exceptionTable.toList, False) (hlocks : meth.locks = false) (hfree : ∀ q, A q → free q) (hP : va_P D cl W0 H) (hD : va_D A W0) (hS : va_S A s.heap H locs) (hA : ∀ q, s.heap.size ≤ q → A q) (isC isR back : List Nat) (hC : isC.map (fun i => W0[i]?) = wc.map some) (hR : isR.map (fun i => W0[i]?) = wr.map some) (hbk : back.map (fun i => (wr ++ w1)[i]?) = wn.map some) (hnd : va_nd isR = true) (hndC : va_nd isC = true) (hndb : va_nd back = true) (hdis : ∀ i ∈ isR, i ∉ isC) (he : wc[q0]? = some (b, .inr (ci, fs))) (hc : cl[ci]? = some (C, T, N)) (hn : As.length = n) (hsize : ls.size = nL) (hst : st = As.reverse ++ .ref b :: rest) (hcat : (rest.map fun v => v.category).sum ≤ 8) (hdg : decode cc pc = .ok (.invokevirtual index, 3)) (hf : cells + k1 ≤ R.cells ∧ slots + k2 ≤ R.slots) (hmc : cells + k1 ≤ mc9) (hms : slots + k2 ≤ ms9) (kx : ∀ (E : String), f = .inl E → ∀ t : State, s.vm.Alike t.vm → va_P D cl wn t.heap → va_D A wn → va_F A s t → XC E s t) (kk : ∀ (r : Int32) (H1 : Heap) (locs1 : List Loc), f = .inr r → va_P D cl wn H1 → va_D A wn → va_S A s.heap H1 locs1 → W p l e R s m args below meth c H1 locs1 (cells + k1) (slots + k2) (vx_MQ below Qc XC args s mc9 ms9 free) (F0 m (pc + 3) ls (.int r :: rest))) : W p l e R s m args below meth c H locs cells slots (vx_MQ below Qc XC args s mc9 ms9 free) (F0 m pc ls st) := by
  have hPc : va_P D cl wc H := hP.sub isC (by
    have h := congrArg (List.filterMap id) hC
    simpa [List.filterMap_map] using h)
  have hFc := va_free (wc := wc) hD hS hA isC hC
  have hDc : va_D A wc := hD.sub isC hndC hC
  refine vx_calli (vx_runV S hM cw ⟨PXE_blind hEb, va_recv hK hPc hc he, fun U hU hW => ⟨rfl, by rw [hU], by rw [hU]; exact hPc, va_K.moved hW.alike hK, hDc.weaken (fun _ _ _ _ => trivial), hX.warm hW, by rw [hU]; exact ((hXs.kept hS.2.1).moved hW.alike).narrow hFc, hE hFc U hU hW⟩⟩ rfl hn hsize hst (lv_room hcat) hdg hf) hS (fun q _ h => hFc q h) hFc (fun q _ h => hFc q h) (fun E ce q9 u t H1 locs1 ht1 hvm _ hB hz1 hk1 hS1 hce hcv hcl => ?_) (fun r u t H1 locs1 ht1 hvm hw hB hz1 hk1 hS1 => ?_)
  · obtain ⟨ef, hP1, hK1, hD1⟩ := hB
    rw [ht1] at hP1
    obtain ⟨hP2, hD2⟩ := va_join (wr := wr) (w1 := w1) hP hD isC isR hC hR hnd hdis hk1 hFc hP1 hD1
    refine vx_out (tableNo ht) hlocks hce hcv hcl (fun t2 ht2 ha => ?_) (fun z hz => hfree _ (hS1.2.2 z hz)) hmc hms
    refine kx E ef t2 ha ?_ (hD2.sub back hndb hbk) (hS1.F ht2)
    rw [ht2]
    exact hP2.sub back (by
      have h := congrArg (List.filterMap id) hbk
      simpa [List.filterMap_map] using h)
  · obtain ⟨hP1, hK1, hD1⟩ := hB
    rw [ht1] at hP1
    obtain ⟨hP2, hD2⟩ := va_join (wr := wr) (w1 := w1) hP hD isC isR hC hR hnd hdis hk1 hFc hP1 hD1
    exact kk r H1 locs1 hw (hP2.sub back (by
      have h := congrArg (List.filterMap id) hbk
      simpa [List.filterMap_map] using h)) (hD2.sub back hndb hbk) hS1
theorem wI_vE {E : State → Prop} {wc wr : va_W} {G : va_W → Prop} (As rest : List Value) (S : CallFix p m c cc nL s args Ts own) (hM : Met l y (Cond.code y bytes maxL none :: ws') rm (va_Pc (.ref b :: As) (fun U => U.heap.size = H.size ∧ va_P D cl wc U.heap ∧ va_K D cl tys U ∧ va_D (fun _ => True) wc ∧ E U)) (va_Qv (fun _ : Unit => True) (fun _ t => ∃ w1, G w1 ∧ va_P D cl w1 t.heap ∧ va_K D cl tys t ∧ va_D (va_A wc H.size) w1) (va_A wc H.size)) mc ms (va_A wc H.size)) (cw : CallB R s args own index y bytes maxL none (Cond.code y bytes maxL none :: ws') rm mc ms n ∧ y.name = "<init>" ∧ (Cond.instanceMethod y).before args s = true) (hEb : ∀ (U : State) (g : JFrame) (mk : MethodId) (a : Array Value), E U → E (U.calling g mk a)) (hE : (∀ q, va_A wc H.size q → A q) → ∀ U : State, U.heap = H → s.WarmedH U.vm → E U) (hK : va_K D cl tys s) (hP : va_P D cl W0 H) (hD : va_D A W0) (hS : va_S A H0 H locs) (hA : ∀ q, H0.size ≤ q → A q) (isC isR : List Nat) (hC : isC.map (fun i => W0[i]?) = wc.map some) (hR : isR.map (fun i => W0[i]?) = wr.map some) (hnd : va_nd isR = true) (hndC : va_nd isC = true) (hdis : ∀ i ∈ isR, i ∉ isC) (hn : As.length = n) (hsize : ls.size = nL) (hst : st = As.reverse ++ .ref b :: rest) (hcat : (rest.map fun v => v.category).sum ≤ 8) (hdg : decode cc pc = .ok (.invokespecial index, 3)) (hf : cells + mc ≤ R.cells ∧ slots + ms ≤ R.slots) (kk : ∀ (w1 : va_W) (H1 : Heap) (locs1 : List Loc), G w1 → va_P D cl (wr ++ w1) H1 → va_D A (wr ++ w1) → va_S A H0 H1 locs1 → W p l e R s m args below meth c H1 locs1 (cells + mc) (slots + ms) Q (F0 m (pc + 3) ls rest)) : W p l e R s m args below meth c H locs cells slots Q (F0 m pc ls st) := by
  have hPc : va_P D cl wc H := hP.sub isC (by
    have h := congrArg (List.filterMap id) hC
    simpa [List.filterMap_map] using h)
  have hFc := va_free (wc := wc) hD hS hA isC hC
  have hDc : va_D A wc := hD.sub isC hndC hC
  refine va_callv (va_runI S hM cw ⟨PKDE_blind hEb, fun U hU hW => ⟨rfl, by rw [hU], by rw [hU]; exact hPc, va_K.moved hW.alike hK, hDc.weaken (fun _ _ _ _ => trivial), hE hFc U hU hW⟩⟩ rfl hn hsize hst (lv_room hcat) hdg hf) hS (fun q _ h => hFc q h) hFc (fun u t H1 locs1 ht hvm hw hB hz1 hk1 hS => ?_)
  obtain ⟨w1, hG, hP1, hK1, hD1⟩ := hB
  rw [ht] at hP1
  obtain ⟨hP2, hD2⟩ := va_join (wr := wr) (w1 := w1) hP hD isC isR hC hR hnd hdis hk1 hFc hP1 hD1
  exact kk w1 H1 locs1 hG hP2 hD2 hS
/-- a copy out of a table that lies fixed -/
theorem w_copyT (hexec : p.tables.exec = Jvm.exec) (hb : c.code = cc) (hml : c.maxLocals = ls.size) (hown : s.vm.findClass own = some m.cls) (hlink : (Cond.methodLink own index arraycopyName).before args s = true) (hnat : (Cond.native arraycopyName).before args s = true) (hstat : (Cond.static arraycopyName).before args s = true) (hini : (Cond.initialized "java/lang/System").before args s = true)
    (hK : va_K D cl tys s) (hP : va_P D cl ws H) (hD : va_D A ws) (hS : va_S A s.heap H locs) {b0 n0 : Nat} {f : Nat → Int32} (hX : va_T .int b0 n0 (fun j => .int (f j)) A s s.heap) (q1 t1 : Nat) {c1 : ClassId} {n1 : Nat} {g : Nat → Int32} (ha1 : ws[q1]? = some (a, .inl (c1, n1, .inl g))) (ht1 : tys[t1]? = some (c1, .int))
    {sp dp n' : Int32} (h1 : ¬ sp < 0) (h2 : ¬ dp < 0) (h3 : ¬ n' < 0) (h4 : sp.toNatClampNeg + n'.toNatClampNeg ≤ n0) (h5 : dp.toNatClampNeg + n'.toNatClampNeg ≤ n1)
    (hframes : 1 ≤ R.frames) (hlocals : (rest.map fun v => v.category).sum + (nativeFrameWords "java/lang/System" "arraycopy" 5 + 11) ≤ R.locals) (hdg : decode cc pc = .ok (.invokestatic index, 3))
    (kk : ∀ (H1 : Heap) (locs1 : List Loc), va_P D cl (ws.set q1 (a, .inl (c1, n1, .inl (va_cpy f g sp.toNatClampNeg dp.toNatClampNeg n'.toNatClampNeg)))) H1 → va_D A (ws.set q1 (a, .inl (c1, n1, .inl (va_cpy f g sp.toNatClampNeg dp.toNatClampNeg n'.toNatClampNeg)))) → va_S A s.heap H1 locs1 → W p l e R s m args below meth c H1 locs1 cells slots Q (F0 m (pc + 3) ls rest)) : W p l e R s m args below meth c H locs cells slots Q (F0 m pc ls (.int n' :: .int dp :: .ref a :: .int sp :: .ref b0 :: rest)) := by
  have nn : ∀ z : Int32, ¬ z < 0 → z.toInt = (z.toNatClampNeg : Int) := by
    intro z hz
    rw [t_lt, t_0] at hz
    show z.toInt = ((z.toInt.toNat : Nat) : Int)
    omega
  intro T hT X
  obtain ⟨scr, hs1, hs2, hs3, hs4, -, hs5, hs7⟩ := hX
  have hc0 : H[b0]? = some scr := by rw [hS.2.1 b0 (Array.getElem?_eq_some_iff.mp hs1).1 hs7]; exact hs1
  have hc1 : H[a]? = some (vp_cell c1 (n1, .inl g)) := hP q1 _ ha1
  obtain ⟨hs6, k0, hk0, cm0, hkk0⟩ := hs2
  obtain ⟨-, k1, hk1, cm1, hkk1⟩ := (hK.2 t1 _ ht1).1 n1 (fun j => .int (g j))
  obtain ⟨vm', X', step⟩ := X.arraycopy hexec hown hlink hnat hstat hini (src := b0) (dst := a) (cs := scr) (cd := vp_cell c1 (n1, .inl g)) (srcPos := sp) (destPos := dp) (n := n') (by rw [hT]; exact hc0) (by rw [hT]; exact hc1)
    hs6 (fun _ h => by cases h) hs3 (fun h => by cases h) hk0 hk1 hkk0 hkk1 (by simp [refKind]) h1 h2 h3
    (by rw [nn sp h1, nn n' h3]; omega)
    (by rw [nn dp h2, nn n' h3]; show ¬ _ > ((arrV c1 n1 (fun j => .int (g j))).slots.size : Int); rw [arrV_size]; omega)
    (fun vm₁ _ i hi => by
      have e : scr.slots.getD (sp.toNatClampNeg + i) .null = .int (f (sp.toNatClampNeg + i)) := by
        rw [Array.getD_eq_getD_getElem?, hs5 _ (by omega)]
        rfl
      refine ⟨?_, ?_⟩
      · rw [e]
        rfl
      · rw [e]
        exact trivial)
    (g := F0 m pc ls (.int n' :: .int dp :: .ref a :: .int sp :: .ref b0 :: rest)) rfl (by rw [hml]) (rest := rest) rfl (by rw [hb]; exact hdg) hframes (by show 2 * 0 + _ + _ ≤ _; omega)
  have e1 : copied scr (vp_cell c1 (n1, .inl g)) sp dp n' = vp_cell c1 (n1, .inl (va_cpy f g sp.toNatClampNeg dp.toNatClampNeg n'.toNatClampNeg)) := va_copiedX (fun z => .int z) scr c1 f g hs5 h4
  rw [e1] at X' step
  have hl : a < H.size := (Array.getElem?_eq_some_iff.mp hc1).1
  have hheap : ((T.setVm vm').setCell a (vp_cell c1 (n1, .inl (va_cpy f g sp.toNatClampNeg dp.toNatClampNeg n'.toNatClampNeg)))).heap = H.setIfInBounds a (vp_cell c1 (n1, .inl (va_cpy f g sp.toNatClampNeg dp.toNatClampNeg n'.toNatClampNeg))) := by rw [← hT]; rfl
  have oq : ∀ q : Nat, q ≠ a → (H.setIfInBounds a (vp_cell c1 (n1, .inl (va_cpy f g sp.toNatClampNeg dp.toNatClampNeg n'.toNatClampNeg))))[q]? = H[q]? := fun q hq => by simp [Array.getElem?_setIfInBounds, Ne.symm hq]
  obtain ⟨t, a1, b1⟩ := kk _ _ (hP.set hD ha1 (show (H.setIfInBounds a _)[a]? = some _ by simp [Array.getElem?_setIfInBounds, hl]) oq) (hD.set ha1) ⟨by simp; exact hS.1, fun q g1 g2 => by
      rw [oq q (fun e => g2 (by rw [e]; exact hD.2 q1 _ ha1))]
      exact hS.2.1 q g1 g2, fun q hq => by
      rcases List.mem_append.mp hq with h | h
      · exact hS.2.2 q h
      · obtain ⟨z, -, hz⟩ := List.mem_map.mp h
        rw [← hz]
        exact hD.2 q1 _ ha1⟩ _ hheap X'
  exact ⟨t, step t a1, b1⟩
end
