def zI : Nat → Int32 := fun _ => 0
def zJ : Nat → Int64 := fun _ => 0
section
variable {p : Program} {l : Launch} {e : Env} {R : Room} {s : State} {m : MethodId} {args : Array Value} {below : List Frame} {meth : Method} {c : Code} {Q : State → Prop} {H H0 : Heap} {locs : List Loc} {cells slots : Nat} {cc bytes : ByteArray} {nL maxL index n ci N pc mc ms : Nat} {own C : String} {T : u_T} {y : MethodName} {ret : Option FieldType} {rm : Room} {Ts ws' : List Cond} {D : va_G} {cl : List vw_C} {tys : List (ClassId × FieldType)} {b : Addr} {fs st rest : List Value} {ls : Array Slot} {A : Nat → Prop} {ws W0 : va_W} {cI cJ : ClassId}
theorem w_newI {N' : Nat} {n' : Int32} (hexec : p.tables.exec = Jvm.exec) (hb : c.code = cc) (harr : (Cond.arrayClass .int).before args s = true) (hK : va_K D cl [(cI, .int), (cJ, .long)] s) (hP : va_P D cl ws H) (hD : va_D A ws) (hS : va_S A H0 H locs) (hA : ∀ q, H0.size ≤ q → A q) (hn : ¬ n' < 0) (hN : n'.toNatClampNeg = N') (hbytes : N' * 4 ≤ 536870912) (hcells : cells + 1 ≤ R.cells) (hslots : slots + N' ≤ R.slots) (hdg : decode cc pc = .ok (.newarray .int, 2)) (kk : ∀ (q : Nat) (H1 : Heap), va_P D cl (ws ++ [(q, .inl (cI, N', .inl zI))]) H1 → va_D A (ws ++ [(q, .inl (cI, N', .inl zI))]) → va_S A H0 H1 locs → W p l e R s m args below meth c H1 locs (cells + 1) (slots + N') Q (F0 m (pc + 2) ls (.ref q :: rest))) : W p l e R s m args below meth c H locs cells slots Q (F0 m pc ls (.int n' :: rest)) := by
  refine va_newa (atype := .int) (ty := .int) hexec hb harr rfl hK hP hD hS hA (a0 := (N', .inl zI)) (fun cA => rfl) hn hN hbytes hcells hslots hdg (fun q cA H1 hK1 hP1 hD1 hS1 => ?_)
  have e : cA = cI := Option.some.inj ((hK1.2 2 _ rfl).2.symm.trans (hK.2 0 _ rfl).2)
  subst e
  exact kk q H1 hP1 hD1 hS1
theorem w_newJ {N' : Nat} {n' : Int32} (hexec : p.tables.exec = Jvm.exec) (hb : c.code = cc) (harr : (Cond.arrayClass .long).before args s = true) (hK : va_K D cl [(cI, .int), (cJ, .long)] s) (hP : va_P D cl ws H) (hD : va_D A ws) (hS : va_S A H0 H locs) (hA : ∀ q, H0.size ≤ q → A q) (hn : ¬ n' < 0) (hN : n'.toNatClampNeg = N') (hbytes : N' * 8 ≤ 536870912) (hcells : cells + 1 ≤ R.cells) (hslots : slots + N' ≤ R.slots) (hdg : decode cc pc = .ok (.newarray .long, 2)) (kk : ∀ (q : Nat) (H1 : Heap), va_P D cl (ws ++ [(q, .inl (cJ, N', .inr (.inl zJ)))]) H1 → va_D A (ws ++ [(q, .inl (cJ, N', .inr (.inl zJ)))]) → va_S A H0 H1 locs → W p l e R s m args below meth c H1 locs (cells + 1) (slots + N') Q (F0 m (pc + 2) ls (.ref q :: rest))) : W p l e R s m args below meth c H locs cells slots Q (F0 m pc ls (.int n' :: rest)) := by
  refine va_newa (atype := .long) (ty := .long) hexec hb harr rfl hK hP hD hS hA (a0 := (N', .inr (.inl zJ))) (fun cA => rfl) hn hN hbytes hcells hslots hdg (fun q cA H1 hK1 hP1 hD1 hS1 => ?_)
  have e : cA = cJ := Option.some.inj ((hK1.2 2 _ rfl).2.symm.trans (hK.2 1 _ rfl).2)
  subst e
  exact kk q H1 hP1 hD1 hS1
theorem wV_vn {wc w1 wr wn : va_W} (q0 : Nat) (As rest : List Value) (S : CallFix p m c cc nL s args Ts own) (hM : Met l y (Cond.code y bytes maxL ret :: ws') rm (va_Pc (.ref b :: As) (fun U => U.heap.size = H.size ∧ va_P D cl wc U.heap ∧ va_K D cl tys U ∧ va_D (fun _ => True) wc)) (va_Qv (fun _ : Unit => True) (fun _ t => va_P D cl w1 t.heap ∧ va_K D cl tys t ∧ va_D (va_A wc H.size) w1) (va_A wc H.size)) mc ms (va_A wc H.size)) (cw : CallW R s args own C index y bytes maxL ret (Cond.code y bytes maxL ret :: ws') rm mc ms n) (hK : va_K D cl tys s) (hP : va_P D cl W0 H) (hD : va_D A W0) (hS : va_S A H0 H locs) (hA : ∀ q, H0.size ≤ q → A q) (isC isR back : List Nat) (hC : isC.map (fun i => W0[i]?) = wc.map some) (hR : isR.map (fun i => W0[i]?) = wr.map some) (hbk : back.map (fun i => (wr ++ w1)[i]?) = wn.map some) (hnd : va_nd isR = true) (hndC : va_nd isC = true) (hndb : va_nd back = true) (hdis : ∀ i ∈ isR, i ∉ isC) (he : wc[q0]? = some (b, .inr (ci, fs))) (hc : cl[ci]? = some (C, T, N)) (hn : As.length = n) (hsize : ls.size = nL) (hst : st = As.reverse ++ .ref b :: rest) (hcat : (rest.map fun v => v.category).sum ≤ 8) (hdg : decode cc pc = .ok (.invokevirtual index, 3)) (hf : cells + mc ≤ R.cells ∧ slots + ms ≤ R.slots) (kk : ∀ (H1 : Heap) (locs1 : List Loc), va_P D cl wn H1 → va_D A wn → va_S A H0 H1 locs1 → W p l e R s m args below meth c H1 locs1 (cells + mc) (slots + ms) Q (F0 m (pc + 3) ls rest)) : W p l e R s m args below meth c H locs cells slots Q (F0 m pc ls st) := by
  have hPc : va_P D cl wc H := hP.sub isC (by
    have h := congrArg (List.filterMap id) hC
    simpa [List.filterMap_map] using h)
  have hFc := va_free (wc := wc) hD hS hA isC hC
  have hDc : va_D A wc := hD.sub isC hndC hC
  refine va_callv (va_runV S hM cw ⟨PKD_blind, va_recv hK hPc hc he, fun U hU hW => ⟨rfl, by rw [hU], by rw [hU]; exact hPc, va_K.moved hW.alike hK, hDc.weaken (fun _ _ _ _ => trivial)⟩⟩ rfl hn hsize hst (lv_room hcat) hdg hf) hS (fun q _ h => hFc q h) hFc (fun u t H1 locs1 ht hvm hw hB hz1 hk1 hS => ?_)
  obtain ⟨hP1, hK1, hD1⟩ := hB
  rw [ht] at hP1
  obtain ⟨hP2, hD2⟩ := va_join (wr := wr) (w1 := w1) hP hD isC isR hC hR hnd hdis hk1 hFc hP1 hD1
  exact kk H1 locs1 (hP2.sub back (by
    have h := congrArg (List.filterMap id) hbk
    simpa [List.filterMap_map] using h)) (hD2.sub back hndb hbk) hS
theorem wV_in {wc w1 wr wn : va_W} {v : Int32} (q0 : Nat) (As rest : List Value) (S : CallFix p m c cc nL s args Ts own) (hM : Met l y (Cond.code y bytes maxL ret :: ws') rm (va_Pc (.ref b :: As) (fun U => U.heap.size = H.size ∧ va_P D cl wc U.heap ∧ va_K D cl tys U ∧ va_D (fun _ => True) wc)) (va_Qi (fun (r : Int32) (_ : Unit) => r = v) (fun _ t => va_P D cl w1 t.heap ∧ va_K D cl tys t ∧ va_D (va_A wc H.size) w1) (va_A wc H.size)) mc ms (va_A wc H.size)) (cw : CallW R s args own C index y bytes maxL ret (Cond.code y bytes maxL ret :: ws') rm mc ms n) (hK : va_K D cl tys s) (hP : va_P D cl W0 H) (hD : va_D A W0) (hS : va_S A H0 H locs) (hA : ∀ q, H0.size ≤ q → A q) (isC isR back : List Nat) (hC : isC.map (fun i => W0[i]?) = wc.map some) (hR : isR.map (fun i => W0[i]?) = wr.map some) (hbk : back.map (fun i => (wr ++ w1)[i]?) = wn.map some) (hnd : va_nd isR = true) (hndC : va_nd isC = true) (hndb : va_nd back = true) (hdis : ∀ i ∈ isR, i ∉ isC) (he : wc[q0]? = some (b, .inr (ci, fs))) (hc : cl[ci]? = some (C, T, N)) (hn : As.length = n) (hsize : ls.size = nL) (hst : st = As.reverse ++ .ref b :: rest) (hcat : (rest.map fun v => v.category).sum ≤ 8) (hdg : decode cc pc = .ok (.invokevirtual index, 3)) (hf : cells + mc ≤ R.cells ∧ slots + ms ≤ R.slots) (kk : ∀ (H1 : Heap) (locs1 : List Loc), va_P D cl wn H1 → va_D A wn → va_S A H0 H1 locs1 → W p l e R s m args below meth c H1 locs1 (cells + mc) (slots + ms) Q (F0 m (pc + 3) ls (.int v :: rest))) : W p l e R s m args below meth c H locs cells slots Q (F0 m pc ls st) := by
  have hPc : va_P D cl wc H := hP.sub isC (by
    have h := congrArg (List.filterMap id) hC
    simpa [List.filterMap_map] using h)
  have hFc := va_free (wc := wc) hD hS hA isC hC
  have hDc : va_D A wc := hD.sub isC hndC hC
  refine va_calli (va_runV S hM cw ⟨PKD_blind, va_recv hK hPc hc he, fun U hU hW => ⟨rfl, by rw [hU], by rw [hU]; exact hPc, va_K.moved hW.alike hK, hDc.weaken (fun _ _ _ _ => trivial)⟩⟩ rfl hn hsize hst (lv_room hcat) hdg hf) hS (fun q _ h => hFc q h) hFc (fun r u t H1 locs1 ht hvm hw hB hz1 hk1 hS => ?_)
  obtain ⟨hP1, hK1, hD1⟩ := hB
  rw [ht] at hP1
  obtain ⟨hP2, hD2⟩ := va_join (wr := wr) (w1 := w1) hP hD isC isR hC hR hnd hdis hk1 hFc hP1 hD1
  rw [hw]
  exact kk H1 locs1 (hP2.sub back (by
    have h := congrArg (List.filterMap id) hbk
    simpa [List.filterMap_map] using h)) (hD2.sub back hndb hbk) hS
theorem wV_ln {wc w1 wr wn : va_W} {v : Int64} (q0 : Nat) (As rest : List Value) (S : CallFix p m c cc nL s args Ts own) (hM : Met l y (Cond.code y bytes maxL ret :: ws') rm (va_Pc (.ref b :: As) (fun U => U.heap.size = H.size ∧ va_P D cl wc U.heap ∧ va_K D cl tys U ∧ va_D (fun _ => True) wc)) (va_Ql (fun (r : Int64) (_ : Unit) => r = v) (fun _ t => va_P D cl w1 t.heap ∧ va_K D cl tys t ∧ va_D (va_A wc H.size) w1) (va_A wc H.size)) mc ms (va_A wc H.size)) (cw : CallW R s args own C index y bytes maxL ret (Cond.code y bytes maxL ret :: ws') rm mc ms n) (hK : va_K D cl tys s) (hP : va_P D cl W0 H) (hD : va_D A W0) (hS : va_S A H0 H locs) (hA : ∀ q, H0.size ≤ q → A q) (isC isR back : List Nat) (hC : isC.map (fun i => W0[i]?) = wc.map some) (hR : isR.map (fun i => W0[i]?) = wr.map some) (hbk : back.map (fun i => (wr ++ w1)[i]?) = wn.map some) (hnd : va_nd isR = true) (hndC : va_nd isC = true) (hndb : va_nd back = true) (hdis : ∀ i ∈ isR, i ∉ isC) (he : wc[q0]? = some (b, .inr (ci, fs))) (hc : cl[ci]? = some (C, T, N)) (hn : As.length = n) (hsize : ls.size = nL) (hst : st = As.reverse ++ .ref b :: rest) (hcat : (rest.map fun v => v.category).sum ≤ 8) (hdg : decode cc pc = .ok (.invokevirtual index, 3)) (hf : cells + mc ≤ R.cells ∧ slots + ms ≤ R.slots) (kk : ∀ (H1 : Heap) (locs1 : List Loc), va_P D cl wn H1 → va_D A wn → va_S A H0 H1 locs1 → W p l e R s m args below meth c H1 locs1 (cells + mc) (slots + ms) Q (F0 m (pc + 3) ls (.long v :: rest))) : W p l e R s m args below meth c H locs cells slots Q (F0 m pc ls st) := by
  have hPc : va_P D cl wc H := hP.sub isC (by
    have h := congrArg (List.filterMap id) hC
    simpa [List.filterMap_map] using h)
  have hFc := va_free (wc := wc) hD hS hA isC hC
  have hDc : va_D A wc := hD.sub isC hndC hC
  refine va_calll (va_runV S hM cw ⟨PKD_blind, va_recv hK hPc hc he, fun U hU hW => ⟨rfl, by rw [hU], by rw [hU]; exact hPc, va_K.moved hW.alike hK, hDc.weaken (fun _ _ _ _ => trivial)⟩⟩ rfl hn hsize hst (lv_room hcat) hdg hf) hS (fun q _ h => hFc q h) hFc (fun r u t H1 locs1 ht hvm hw hB hz1 hk1 hS => ?_)
  obtain ⟨hP1, hK1, hD1⟩ := hB
  rw [ht] at hP1
  obtain ⟨hP2, hD2⟩ := va_join (wr := wr) (w1 := w1) hP hD isC isR hC hR hnd hdis hk1 hFc hP1 hD1
  rw [hw]
  exact kk H1 locs1 (hP2.sub back (by
    have h := congrArg (List.filterMap id) hbk
    simpa [List.filterMap_map] using h)) (hD2.sub back hndb hbk) hS
theorem wV_l {wc w1 wr wn : va_W} {v : Int64} (q0 : Nat) (As rest : List Value) (S : CallFix p m c cc nL s args Ts own) (hM : Met l y (Cond.code y bytes maxL ret :: ws') rm (va_Pc (.ref b :: As) (fun U => U.heap.size = H.size ∧ va_P D cl wc U.heap ∧ va_K D cl tys U ∧ va_D (fun _ => True) wc)) (va_Ql (fun (r : Int64) (_ : Unit) => r = v) (fun _ t => va_P D cl w1 t.heap ∧ va_K D cl tys t ∧ va_D (va_A wc H.size) w1) (va_A wc H.size)) 0 0 (va_A wc H.size)) (cw : CallW R s args own C index y bytes maxL ret (Cond.code y bytes maxL ret :: ws') rm 0 0 n) (hK : va_K D cl tys s) (hP : va_P D cl W0 H) (hD : va_D A W0) (hS : va_S A H0 H locs) (hA : ∀ q, H0.size ≤ q → A q) (isC isR back : List Nat) (hC : isC.map (fun i => W0[i]?) = wc.map some) (hR : isR.map (fun i => W0[i]?) = wr.map some) (hbk : back.map (fun i => (wr ++ w1)[i]?) = wn.map some) (hnd : va_nd isR = true) (hndC : va_nd isC = true) (hndb : va_nd back = true) (hdis : ∀ i ∈ isR, i ∉ isC) (he : wc[q0]? = some (b, .inr (ci, fs))) (hc : cl[ci]? = some (C, T, N)) (hn : As.length = n) (hsize : ls.size = nL) (hst : st = As.reverse ++ .ref b :: rest) (hcat : (rest.map fun v => v.category).sum ≤ 8) (hdg : decode cc pc = .ok (.invokevirtual index, 3)) (hf : cells ≤ R.cells ∧ slots ≤ R.slots) (kk : ∀ (H1 : Heap) (locs1 : List Loc), va_P D cl wn H1 → va_D A wn → va_S A H0 H1 locs1 → W p l e R s m args below meth c H1 locs1 cells slots Q (F0 m (pc + 3) ls (.long v :: rest))) : W p l e R s m args below meth c H locs cells slots Q (F0 m pc ls st) := by
  have hPc : va_P D cl wc H := hP.sub isC (by
    have h := congrArg (List.filterMap id) hC
    simpa [List.filterMap_map] using h)
  have hFc := va_free (wc := wc) hD hS hA isC hC
  have hDc : va_D A wc := hD.sub isC hndC hC
  refine va_calll (va_runV S hM cw ⟨PKD_blind, va_recv hK hPc hc he, fun U hU hW => ⟨rfl, by rw [hU], by rw [hU]; exact hPc, va_K.moved hW.alike hK, hDc.weaken (fun _ _ _ _ => trivial)⟩⟩ rfl hn hsize hst (lv_room hcat) hdg hf) hS (fun q _ h => hFc q h) hFc (fun r u t H1 locs1 ht hvm hw hB hz1 hk1 hS => ?_)
  obtain ⟨hP1, hK1, hD1⟩ := hB
  rw [ht] at hP1
  obtain ⟨hP2, hD2⟩ := va_join (wr := wr) (w1 := w1) hP hD isC isR hC hR hnd hdis hk1 hFc hP1 hD1
  rw [hw]
  exact kk H1 locs1 (hP2.sub back (by
    have h := congrArg (List.filterMap id) hbk
    simpa [List.filterMap_map] using h)) (hD2.sub back hndb hbk) hS
end
theorem sf_2 {mc mr : Int32} (_ : mok mc mr) (h : f_X7_searchFault mc mr = 0) : 2 ≤ mc.toInt := by
  rw [e_X7_searchFault] at h
  by_cases h1 : (2 : Int32) ≤ mc
  · rw [t_le, t_2] at h1
    exact h1
  · rw [if_neg h1] at h
    exact absurd h (by decide)
theorem sf_r {mc mr : Int32} (hm : mok mc mr) (h : f_X7_searchFault mc mr = 0) : mr = 1 ∨ mr = 2 := by
  rw [e_X7_searchFault] at h
  rcases hm.1 with e | e | e
  · exact Or.inl e
  · exact Or.inr e
  · subst e
    by_cases h1 : (2 : Int32) ≤ mc
    · rw [if_pos h1, if_pos rfl] at h
      exact absurd h (by decide)
    · rw [if_neg h1] at h
      exact absurd h (by decide)
def rin (lo hi x : Int32) : Prop := lo.toInt ≤ x.toInt ∧ x.toInt ≤ hi.toInt
theorem fi_n0 {lo hi n : Int32} (hg : mrg lo hi) (h0 : 0 ≤ n.toInt) (hw : ¬ (hi - lo) + (1 : Int32) ≤ n) : rin lo hi (lo + n) := by
  obtain ⟨h1, h2, h3, h4⟩ := hg
  have e1 : (hi - lo).toInt = hi.toInt - lo.toInt := t_sub (by omega) (by omega)
  have e2 : ((hi - lo) + (1 : Int32)).toInt = hi.toInt - lo.toInt + 1 := by
    rw [t_add] <;> rw [t_1] <;> omega
  rw [t_le, e2] at hw
  have e3 : (lo + n).toInt = lo.toInt + n.toInt := t_add (by omega) (by omega)
  exact ⟨by omega, by omega⟩
theorem fi_1 {lo hi t : Int32} {f : Nat → Int32} (hg : mrg lo hi) (h0 : 0 ≤ t.toInt) (hw : ¬ ((hi - lo) + (1 : Int32)) * ((hi - lo) + (1 : Int32)) ≤ t) : rin lo hi (upd f (1 : Int32).toNatClampNeg (lo + (irem t ((hi - lo) + (1 : Int32)))) 1) := by
  have e9 : upd f (1 : Int32).toNatClampNeg (lo + (irem t ((hi - lo) + (1 : Int32)))) 1 = lo + (irem t ((hi - lo) + (1 : Int32))) := if_pos (by decide)
  rw [e9]
  obtain ⟨w, h1, h2, e⟩ := rk_w hg
  have hw' := hw
  rw [e] at hw
  obtain ⟨tt, htt, rfl⟩ := rk_t h2 h0 hw
  have hww : w * w ≤ 10 * 10 := Nat.mul_le_mul h2 h2
  have hlt : tt % w < w := Nat.mod_lt _ (by omega)
  refine fi_n0 hg ?_ ?_
  · rw [e, irem_nI (by omega) (by omega) (by omega), t_n (by omega)]
    omega
  · rw [e, irem_nI (by omega) (by omega) (by omega)]
    exact nI_ge hlt (by omega)
theorem fi_n {lo hi n k : Int32} {f : Nat → Int32} (hg : mrg lo hi) (h0 : 0 ≤ n.toInt) (hw : ¬ (hi - lo) + (1 : Int32) ≤ n) : rin lo hi (upd f k.toNatClampNeg (lo + n) k.toNatClampNeg) := by
  have e9 : upd f k.toNatClampNeg (lo + n) k.toNatClampNeg = lo + n := if_pos rfl
  rw [e9]
  exact fi_n0 hg h0 hw
theorem fi_e {lo hi t f : Int32} {P : Prop} (hg : mrg lo hi) (h : (t = 0 ∧ f = 0) ∨ P) (hw : ((hi - lo) + (1 : Int32)) * ((hi - lo) + (1 : Int32)) ≤ t) : P := by
  rcases h with ⟨h1, -⟩ | h
  · exfalso
    subst h1
    obtain ⟨w, h1, h2, e⟩ := rk_w hg
    rw [e] at hw
    have hww : w * w ≤ 10 * 10 := Nat.mul_le_mul h2 h2
    have hw1 : 1 * 1 ≤ w * w := Nat.mul_le_mul h1 h1
    rw [t_le, pk_mul, t_n (by omega), t_0] at hw
    omega
  · exact h
theorem fi_f {lo hi n f : Int32} {P : Prop} (hg : mrg lo hi) (h : (n = 0 ∧ f = 0) ∨ P) (hw : (hi - lo) + (1 : Int32) ≤ n) : P := by
  rcases h with ⟨h1, -⟩ | h
  · exfalso
    subst h1
    obtain ⟨w, h1, h2, e⟩ := rk_w hg
    rw [e, t_le, t_n (by omega), t_0] at hw
    omega
  · exact h
theorem fi_g {n f : Int32} {P : Prop} (h : (n = 0 ∧ f = 0) ∨ P) (hf : ¬ f = 0) : P := by
  rcases h with ⟨-, h1⟩ | h
  · exact absurd h1 hf
  · exact h
theorem fi_s {k n : Int32} (hk : 2 ≤ k.toInt) (h : ¬ n ≤ k) : 2 ≤ (k + (1 : Int32)).toInt := by
  rw [t_le] at h
  have := t_up n
  rw [t_add] <;> rw [t_1] <;> omega
theorem fi_c {k : Int32} : (k + (1 : Int32)) - (1 : Int32) = k := Int32.add_sub_cancel k 1
theorem fi_p {lo hi k : Int32} {f : Nat → Int32} (h : rin lo hi (f k.toNatClampNeg)) : rin lo hi (f ((k + (1 : Int32)) - (1 : Int32)).toNatClampNeg) := by
  rw [fi_c]
  exact h
theorem fi_k {mc mr k : Int32} (hm : mok mc mr) (hk : 2 ≤ k.toInt) (h : ¬ f_X7_most mc mr ≤ k) : 2 ≤ k.toInt ∧ k.toInt < (f_X7_most mc mr).toInt ∧ k.toInt ≤ 13 * mr.toInt ∧ k.toInt ≤ 52 := by
  rw [t_le] at h
  have hb := most_b hm
  have hr := mok_r hm
  omega
theorem fi_u {lo hi k mc mr x : Int32} {f : Nat → Int32} (hk : 2 ≤ k.toInt) (h : ¬ f_X7_most mc mr ≤ k) (hm : mok mc mr) (hq : rin lo hi (f (k - (1 : Int32)).toNatClampNeg)) : rin lo hi (upd f k.toNatClampNeg x (k - (1 : Int32)).toNatClampNeg) := by
  have h1 := fi_k hm hk h
  obtain ⟨j, hj, rfl⟩ := t_nI (i := k) (n := 53) (by omega) (by omega) (by omega)
  rw [t_n (by omega)] at h1
  obtain ⟨i, rfl⟩ : ∃ i, j = i + 1 := ⟨j - 1, by omega⟩
  rw [show nI (i + 1) - (1 : Int32) = nI i from nI_pred i] at hq ⊢
  have e : upd f (nI (i + 1)).toNatClampNeg x (nI i).toNatClampNeg = f (nI i).toNatClampNeg := if_neg (by rw [nI_clamp (by omega), nI_clamp (by omega)]; omega)
  rw [e]
  exact hq
theorem fi_v {mc mr k : Int32} (hm : mok mc mr) (hk : 2 ≤ k.toInt) (h : ¬ f_X7_most mc mr ≤ k) : vp_in k 53 := by
  have h1 := fi_k hm hk h
  rw [vp_in_iff]
  omega
theorem fi_w {mc mr k : Int32} (hm : mok mc mr) (hk : 2 ≤ k.toInt) (h : ¬ f_X7_most mc mr ≤ k) : vp_in (k - (1 : Int32)) 53 := by
  have h1 := fi_k hm hk h
  rw [vp_in_iff, mx_sub1 (by omega)]
  omega
theorem fi_m {mc mr k : Int32} (hm : mok mc mr) (hk : 2 ≤ k.toInt) (h : ¬ f_X7_most mc mr ≤ k) : mix mr k := by
  have h1 := fi_k hm hk h
  exact ⟨by omega, h1.2.2.1⟩
theorem fi_i {mc mr lo hi k n x : Int32} (hm : mok mc mr) (hr : mr = 1 ∨ mr = 2) (hg : mrg lo hi) (hk : 2 ≤ k.toInt) (h : ¬ f_X7_most mc mr ≤ k) (h0 : 0 ≤ n.toInt) (hw : ¬ (hi - lo) + (1 : Int32) ≤ n) (hq : rin lo hi x) : vp_in ((((100 : Int32) * k) + ((10 : Int32) * (x - lo))) + n) 2700 := by
  have h1 := fi_k hm hk h
  have h27 := rk_l hm hr
  obtain ⟨j, hj, rfl⟩ := t_nI (i := k) (n := 27) (by omega) (by omega) (by omega)
  have hg' := hg
  obtain ⟨g1, g2, g3, g4⟩ := hg
  have e3 : (x - lo).toInt = x.toInt - lo.toInt := t_sub (by have := hq.1; have := hq.2; omega) (by have := hq.1; have := hq.2; omega)
  have q1 := hq.1
  have q2 := hq.2
  obtain ⟨i, hi', e4⟩ := t_nI (i := x - lo) (n := 10) (by omega) (by omega) (by omega)
  obtain ⟨w, hw1, hw2, e⟩ := rk_w hg'
  rw [e, t_le, t_n (by omega)] at hw
  obtain ⟨v, hv, rfl⟩ := t_nI (i := n) (n := 10) (by omega) (by omega) (by omega)
  rw [e4, show (100 : Int32) = nI 100 from rfl, show (10 : Int32) = nI 10 from rfl, pk_mul, pk_mul, nI_add, nI_add]
  exact vp_in_nI (by omega) (by omega)
