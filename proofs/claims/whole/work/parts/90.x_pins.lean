/-! what lies fixed from the start: the table of styles, the letters of the laws, and three statics of the JDK -/
def STY : List Int32 := [10, 10, 10, 10, 10, 5, 3, 10, 2, 1, 10, 4, 10, 10, 10, 10, 10, 10, 10, 10, 10, 10, 10, 10, 0, 10, 10, 10, 10, 0, 0, 10, 0, 0, 3, 0]
def styv (j : Nat) : Int32 := STY.getD j 0
def ORD : List Int32 := [98, 101, 100, 119, 112, 113, 104, 120, 117, 115, 116, 114]
def ordv (j : Nat) : Int32 := ORD.getD j 0
abbrev oTx : String := "bedwpqhxustr"
def sty (aY : Nat) (A : Nat → Prop) (U : State) (H : Heap) : Prop := va_Z RX2 "STYLES" "[I" (.ref aY) A U H ∧ va_T .int aY 36 (fun j => .int (styv j)) A U H
theorem sty.moved {aY : Nat} {A : Nat → Prop} {u U : State} {H : Heap} (hvm : u.vm.Alike U.vm) (h : sty aY A u H) : sty aY A U H := ⟨h.1.moved hvm, h.2.moved hvm⟩
theorem sty.kept {aY : Nat} {A : Nat → Prop} {U : State} {H H1 : Heap} (h : sty aY A U H) (hq : ∀ a : Nat, a < H.size → ¬ A a → H1[a]? = H[a]?) : sty aY A U H1 := ⟨h.1.kept hq, h.2.kept hq⟩
theorem sty.narrow {aY : Nat} {A B : Nat → Prop} {U : State} {H : Heap} (h : sty aY A U H) (hAB : ∀ q, B q → A q) : sty aY B U H := ⟨h.1.narrow hAB, h.2.narrow hAB⟩
def vRef (v : Value) : Prop := v = .null ∨ ∃ t, v = .ref t
def jpA (aQ aQV : Nat) (vF : Value) (A : Nat → Prop) (U : State) (H : Heap) : Prop :=
  (va_O "java/lang/String" aQ A U H ∧ va_OF "java/lang/String" "coder" "B" (.int 0) aQ A U H ∧ va_OF "java/lang/String" "value" "[B" (.ref aQV) aQ A U H ∧ va_T .byte aQV 12 (fun j => .int (ordv j)) A U H) ∧ va_Z "java/lang/String" "COMPACT_STRINGS" "Z" (.int 1) A U H ∧ va_Z "jdk/internal/util/Preconditions" "SIOOBE_FORMATTER" "Ljava/util/function/BiFunction;" vF A U H ∧ vRef vF
theorem jpA.moved {aQ aQV : Nat} {vF : Value} {A : Nat → Prop} {u U : State} {H : Heap} (hvm : u.vm.Alike U.vm) (h : jpA aQ aQV vF A u H) : jpA aQ aQV vF A U H := ⟨⟨h.1.1.moved hvm, h.1.2.1.moved hvm, h.1.2.2.1.moved hvm, h.1.2.2.2.moved hvm⟩, h.2.1.moved hvm, h.2.2.1.moved hvm, h.2.2.2⟩
theorem jpA.kept {aQ aQV : Nat} {vF : Value} {A : Nat → Prop} {U : State} {H H1 : Heap} (h : jpA aQ aQV vF A U H) (hq : ∀ a : Nat, a < H.size → ¬ A a → H1[a]? = H[a]?) : jpA aQ aQV vF A U H1 := ⟨⟨h.1.1.kept hq, h.1.2.1.kept hq, h.1.2.2.1.kept hq, h.1.2.2.2.kept hq⟩, h.2.1.kept hq, h.2.2.1.kept hq, h.2.2.2⟩
theorem jpA.narrow {aQ aQV : Nat} {vF : Value} {A B : Nat → Prop} {U : State} {H : Heap} (h : jpA aQ aQV vF A U H) (hAB : ∀ q, B q → A q) : jpA aQ aQV vF B U H := ⟨⟨h.1.1.narrow hAB, h.1.2.1.narrow hAB, h.1.2.2.1.narrow hAB, h.1.2.2.2.narrow hAB⟩, h.2.1.narrow hAB, h.2.2.1.narrow hAB, h.2.2.2⟩
def jpin (aQ aQV : Nat) (vF : Value) (U : State) : Prop := jpA aQ aQV vF (fun _ => False) U U.heap
theorem jpin.to {aQ aQV : Nat} {vF : Value} {u U : State} (h : jpin aQ aQV vF u) (hh : U.heap = u.heap) (hvm : u.vm.Alike U.vm) : jpin aQ aQV vF U := by
  unfold jpin at h ⊢
  rw [hh]
  exact h.moved hvm
theorem jpA.pin {aQ aQV : Nat} {vF : Value} {A : Nat → Prop} {s U : State} {H : Heap} {locs : List Loc} (h : jpA aQ aQV vF A s s.heap) (hS : va_S A s.heap H locs) (hh : U.heap = H) (hvm : s.vm.Alike U.vm) : jpin aQ aQV vF U := by
  unfold jpin
  rw [hh]
  exact ((h.kept hS.2.1).moved hvm).narrow (fun _ h => h.elim)
theorem jbl {av : List Value} {aQ aQV : Nat} {vF : Value} : FrameBlind (va_Pc av (fun U => jpin aQ aQV vF U)) := fun a U g mk q => ⟨q.1, jpin.to (u := U) (U := U.calling g mk a) q.2 rfl (Vm.Alike.refl U.vm)⟩
theorem jbl2 {av : List Value} {aQ aQV : Nat} {vF : Value} {own tx : String} {k : Nat} : FrameBlind (va_Pc av (fun U => jpin aQ aQV vF U ∧ vk_R own k tx aQ U)) := fun a U g mk q => ⟨q.1, jpin.to (u := U) (U := U.calling g mk a) q.2.1 rfl (Vm.Alike.refl U.vm), q.2.2.same (u := U) (U := U.calling g mk a) rfl⟩
def jSv : Array Value → State → Outcome → State → Prop := fun _ st o t => o = .returned none ∧ t.heap = st.heap
section
variable {p : Program} {l : Launch} {e : Env} {R : Room} {s : State} {m : MethodId} {args : Array Value} {below : List Frame} {meth : Method} {c : Code} {Q : State → Prop} {H H0 : Heap} {locs : List Loc} {cells slots : Nat} {cc bytes : ByteArray} {nL maxL index n pc : Nat} {own C : String} {y : MethodName} {ret : Option FieldType} {rm : Room} {Ts ws' : List Cond} {b : Addr} {st : List Value} {ls : Array Slot} {P : State → Prop}
theorem j_callSv {a : Array Value} {st0 rest : List Value} (hr : CallRun p l e R s m args below meth c H locs cells slots 0 0 (F0 m pc ls st0) rest (jSv a) (fun _ => False)) (kk : W p l e R s m args below meth c H locs cells slots Q (F0 m (pc + 3) ls rest)) : W p l e R s m args below meth c H locs cells slots Q (F0 m pc ls st0) := by
  intro T hT X
  obtain ⟨v, st₀, t, T', L, h0, X', hL, e1, ⟨hv, hh⟩, st⟩ := hr T hT X
  cases hv
  obtain ⟨t2, a1, b1⟩ := kk T' (by rw [e1, hh, h0]) (Stand.forget X' (fun q h => (hL q h).elim))
  exact ⟨t2, st t2 a1, b1⟩
/-- calls of readers whose start is any blind P -/
theorem rG_Vi {v : Int32} (As rest : List Value) (S : CallFix p m c cc nL s args Ts own) (hM : Met l y (Cond.code y bytes maxL ret :: ws') rm (va_Pc (.ref b :: As) P) (vp_Si (fun r => r = v)) 0 0 (fun _ => False)) (hbl : FrameBlind (va_Pc (.ref b :: As) P)) (cw : CallW R s args own C index y bytes maxL ret (Cond.code y bytes maxL ret :: ws') rm 0 0 n) (hr : ∃ cell : Cell, H[b]? = some cell ∧ cell.vm.isStatics = false ∧ s.vm.findClass C = some cell.cls) (hPs : ∀ U : State, U.heap = H → s.WarmedH U.vm → P U) (hn : As.length = n) (hsize : ls.size = nL) (hst : st = As.reverse ++ .ref b :: rest) (hcat : (rest.map fun v => v.category).sum ≤ 8) (hdg : decode cc pc = .ok (.invokevirtual index, 3)) (hf : cells ≤ R.cells ∧ slots ≤ R.slots) (kk : W p l e R s m args below meth c H locs cells slots Q (F0 m (pc + 3) ls (.int v :: rest))) : W p l e R s m args below meth c H locs cells slots Q (F0 m pc ls st) :=
  vp_callSi (W.runV S hM cw ⟨hbl, hr, fun U hU hW => ⟨rfl, hPs U hU hW⟩⟩ rfl hn hsize hst (lv_room hcat) hdg hf) (fun r er => by rw [er]; exact kk)
theorem rG_Si {v : Int32} (As rest : List Value) (S : CallFix p m c cc nL s args Ts own) (hM : Met l y (Cond.code y bytes maxL ret :: ws') rm (va_Pc As P) (vp_Si (fun r => r = v)) 0 0 (fun _ => False)) (hbl : FrameBlind (va_Pc As P)) (cw : CallB R s args own index y bytes maxL ret (Cond.code y bytes maxL ret :: ws') rm 0 0 n ∧ (Cond.static y).before args s = true) (hPs : ∀ U : State, U.heap = H → s.WarmedH U.vm → P U) (hn : As.length = n) (hsize : ls.size = nL) (hst : st = As.reverse ++ rest) (hcat : (rest.map fun v => v.category).sum ≤ 8) (hdg : decode cc pc = .ok (.invokestatic index, 3)) (hf : cells ≤ R.cells ∧ slots ≤ R.slots) (kk : W p l e R s m args below meth c H locs cells slots Q (F0 m (pc + 3) ls (.int v :: rest))) : W p l e R s m args below meth c H locs cells slots Q (F0 m pc ls st) :=
  vp_callSi (W.runS S hM cw ⟨hbl, fun U hU hW => ⟨rfl, hPs U hU hW⟩⟩ rfl hn hsize hst (lv_room hcat) hdg hf) (fun r er => by rw [er]; exact kk)
theorem rG_Sv (As rest : List Value) (S : CallFix p m c cc nL s args Ts own) (hM : Met l y (Cond.code y bytes maxL ret :: ws') rm (va_Pc As P) jSv 0 0 (fun _ => False)) (hbl : FrameBlind (va_Pc As P)) (cw : CallB R s args own index y bytes maxL ret (Cond.code y bytes maxL ret :: ws') rm 0 0 n ∧ (Cond.static y).before args s = true) (hPs : ∀ U : State, U.heap = H → s.WarmedH U.vm → P U) (hn : As.length = n) (hsize : ls.size = nL) (hst : st = As.reverse ++ rest) (hcat : (rest.map fun v => v.category).sum ≤ 8) (hdg : decode cc pc = .ok (.invokestatic index, 3)) (hf : cells ≤ R.cells ∧ slots ≤ R.slots) (kk : W p l e R s m args below meth c H locs cells slots Q (F0 m (pc + 3) ls rest)) : W p l e R s m args below meth c H locs cells slots Q (F0 m pc ls st) :=
  j_callSv (W.runS S hM cw ⟨hbl, fun U hU hW => ⟨rfl, hPs U hU hW⟩⟩ rfl hn hsize hst (lv_room hcat) hdg hf) kk
theorem jrecv {aQ aQV : Nat} {vF : Value} (hPs : ∀ U : State, U.heap = H → s.WarmedH U.vm → jpin aQ aQV vF U) : ∃ cell : Cell, H[aQ]? = some cell ∧ cell.vm.isStatics = false ∧ s.vm.findClass RJ0 = some cell.cls := by
  obtain ⟨⟨⟨cell, h1, h2, h3, -⟩, -⟩, -⟩ := hPs { s with heap := H } rfl (State.WarmedH.refl s)
  exact ⟨cell, h1, h2, h3⟩
theorem w_ldcSW (hexec : p.tables.exec = Jvm.exec) (hb : c.code = cc) {tx : String} {q : Nat} (hown : s.vm.findClass own = some m.cls) (hZ : vk_R own index tx q s) (hdg : decode cc pc = .ok (.ldc_w index, 3)) {rest : List Value} (k : W p l e R s m args below meth c H locs cells slots Q (F0 m (pc + 3) ls (.ref q :: rest))) : W p l e R s m args below meth c H locs cells slots Q (F0 m pc ls rest) := by
  intro T hT X
  obtain ⟨t, a1, b1⟩ := k T hT X
  exact ⟨t, X.ldcStringW hexec hown (text := tx) (a := q) hZ.1 hZ.2 (g := F0 m pc ls rest) rfl (by rw [hb]; exact hdg) t a1, b1⟩
end
theorem ch_ord {i : Int32} (h : vp_in i 12) : narrow .char (.int (((ordv i.toNatClampNeg) &&& (255 : Int32)).toUInt32 % 65536).toInt32) = .int (((ordv i.toNatClampNeg) &&& (255 : Int32)).toUInt32 % 65536).toInt32 := by
  obtain ⟨j, hj, rfl⟩ := vp_in_of h (by decide)
  rw [nI_clamp (by omega)]
  have key : ∀ j : Nat, j < 12 → narrow .char (.int (((ordv j) &&& (255 : Int32)).toUInt32 % 65536).toInt32) = .int (((ordv j) &&& (255 : Int32)).toUInt32 % 65536).toInt32 := by
    intro j hj
    rcases (show j = 0 ∨ j = 1 ∨ j = 2 ∨ j = 3 ∨ j = 4 ∨ j = 5 ∨ j = 6 ∨ j = 7 ∨ j = 8 ∨ j = 9 ∨ j = 10 ∨ j = 11 by omega) with rfl | rfl | rfl | rfl | rfl | rfl | rfl | rfl | rfl | rfl | rfl | rfl <;> rfl
  exact key j hj
