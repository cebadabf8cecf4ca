/-! what lies fixed at the law's start, and the whole law out of its steps -/
abbrev FL : List Cond := flatC (Jvm.Cond.and given_1 narrow_1)
theorem x_1 : ∀ w ∈ XW, w ∈ lw_tbl := by decide +kernel
theorem x_2 : ∀ q ∈ XTL, Cond.stringRef RX6 q.1 q.2 ∈ lw_tbl := by decide +kernel
theorem x_3 : ∀ q ∈ XTL, Cond.exactly (Term.string RX6 q.1) "java/lang/String" ∈ FL := by decide +kernel
theorem x_4 : ∀ q ∈ NCL, Cond.not (.castable q.1 q.2) ∈ FL := by decide +kernel
theorem x_5 : Cond.arrayOf (.static RX2 "STYLES" "[I") .int ∈ FL := by decide +kernel
theorem x_6 : Cond.eq (.length (.static RX2 "STYLES" "[I")) (.int (Int32.ofNat 36)) ∈ FL := by decide +kernel
theorem x_7 : ∀ j, j < 36 → Cond.eq (.elem (.static RX2 "STYLES" "[I") (.int (Int32.ofNat j))) (.int (styv j)) ∈ FL := by decide +kernel
theorem x_8 : ∀ w ∈ ([.laysStatic RX2 "STYLES" "[I", .initialized RX2, .laysStatic Bundle.tN "UNASSIGNED_STACK" Bundle.steD, .laysStatic Bundle.tN "SUPPRESSED_SENTINEL" Bundle.listD, .initialized Bundle.tN, .laysStatic "java/lang/String" "COMPACT_STRINGS" "Z", .initialized "java/lang/String", .laysStatic "jdk/internal/util/Preconditions" "SIOOBE_FORMATTER" "Ljava/util/function/BiFunction;", .initialized "jdk/internal/util/Preconditions", .stringRef RX6 294 oTx, .stringRef RX2 22 oTx, .arrayClass .int, .arrayClass .long, .arrayClass .double] : List Cond), w ∈ lw_tbl := by decide +kernel
theorem x_9 : ∀ w ∈ ([.isRef (.static Bundle.tN "UNASSIGNED_STACK" Bundle.steD), .isRef (.static Bundle.tN "SUPPRESSED_SENTINEL" Bundle.listD), .eq (.static "java/lang/String" "COMPACT_STRINGS" "Z") (.int 1), .isRef (.static "jdk/internal/util/Preconditions" "SIOOBE_FORMATTER" "Ljava/util/function/BiFunction;")] : List Cond), w ∈ FL := by decide +kernel
theorem x_s6 : (Cond.exactly (Term.string RX6 294) "java/lang/String" ∈ FL ∧ Cond.eq (.field (Term.string RX6 294) "java/lang/String" "coder" "B") (.int 0) ∈ FL ∧ Cond.arrayOf (.field (Term.string RX6 294) "java/lang/String" "value" "[B") .byte ∈ FL ∧ Cond.eq (.length (.field (Term.string RX6 294) "java/lang/String" "value" "[B")) (.int (Int32.ofNat 12)) ∈ FL) ∧ ∀ j, j < 12 → Cond.eq (.elem (.field (Term.string RX6 294) "java/lang/String" "value" "[B") (.int (Int32.ofNat j))) (.int (ordv j)) ∈ FL := by decide +kernel
theorem x_s2 : (Cond.exactly (Term.string RX2 22) "java/lang/String" ∈ FL ∧ Cond.eq (.field (Term.string RX2 22) "java/lang/String" "coder" "B") (.int 0) ∈ FL ∧ Cond.arrayOf (.field (Term.string RX2 22) "java/lang/String" "value" "[B") .byte ∈ FL ∧ Cond.eq (.length (.field (Term.string RX2 22) "java/lang/String" "value" "[B")) (.int (Int32.ofNat 12)) ∈ FL) ∧ ∀ j, j < 12 → Cond.eq (.elem (.field (Term.string RX2 22) "java/lang/String" "value" "[B") (.int (Int32.ofNat j))) (.int (ordv j)) ∈ FL := by decide +kernel
theorem x_i0 : Cond.instantiable RJ0 4 ∈ lw_tbl := by decide +kernel
theorem x_i1 : Cond.instantiable RJx00060 6 ∈ lw_tbl := by decide +kernel
theorem x_i2 : Cond.instantiable RX1 8 ∈ lw_tbl := by decide +kernel
theorem x_i3 : Cond.instantiable RX2 2 ∈ lw_tbl := by decide +kernel
theorem x_i4 : Cond.instantiable RX3 3 ∈ lw_tbl := by decide +kernel
theorem x_i5 : Cond.instantiable RX4 14 ∈ lw_tbl := by decide +kernel
theorem x_i6 : Cond.instantiable RX6 4 ∈ lw_tbl := by decide +kernel
theorem x_i7 : Cond.instantiable RX7 14 ∈ lw_tbl := by decide +kernel
theorem in_Jx : ∀ w ∈ u_ws RJx00060 TJx00060 6, w ∈ lw_tbl := by decide +kernel
theorem st_str {args : Array Value} {s : State} {own tx : String} {k : Nat} (hsr : (Cond.stringRef own k tx).before args s = true) (hex : (Cond.exactly (Term.string own k) "java/lang/String").before args s = true) : ∃ a, vk_R own k tx a s := by
  obtain ⟨a, c, cA, kA, q1, -⟩ := Cond.exactly_spec (args := args) (first := s) (o := none) (s := s) (idx := []) (t := Term.string own k) (cls := "java/lang/String") hex
  exact ⟨a, vk_R.of hsr q1⟩
theorem st_xfa {args : Array Value} {s : State} (hts : ∀ w ∈ lw_tbl, w.before args s = true) (hs : ∀ w ∈ FL, w.before args s = true) : xfa s :=
  ⟨fun w hw => va_Nw.of (XW_ot w hw) (hts w (x_1 w hw)), fun q hq => st_str (hts _ (x_2 q hq)) (hs _ (x_3 q hq))⟩
theorem st_xst {args : Array Value} {s : State} {A : Nat → Prop} (hts : ∀ w ∈ lw_tbl, w.before args s = true) (hs : ∀ w ∈ FL, w.before args s = true) (hA : ∀ a : Nat, a < s.heap.size → ¬ A a) : xst A s s.heap :=
  ⟨vx_Zqof (hts _ (x_8 _ (List.mem_of_getElem? (i := 2) rfl))) (hts _ (x_8 _ (List.mem_of_getElem? (i := 4) rfl))) (hs _ (x_9 _ (List.mem_of_getElem? (i := 0) rfl))) hA, vx_Zqof (hts _ (x_8 _ (List.mem_of_getElem? (i := 3) rfl))) (hts _ (x_8 _ (List.mem_of_getElem? (i := 4) rfl))) (hs _ (x_9 _ (List.mem_of_getElem? (i := 1) rfl))) hA⟩
theorem st_sty {args : Array Value} {s : State} {A : Nat → Prop} (hts : ∀ w ∈ lw_tbl, w.before args s = true) (hs : ∀ w ∈ FL, w.before args s = true) (hA : ∀ a : Nat, a < s.heap.size → ¬ A a) : ∃ aY, sty aY A s s.heap := by
  obtain ⟨t, ht, hT⟩ := va_Tof (tm := Term.static RX2 "STYLES" "[I") (ty := .int) (N := 36) (f := fun j => .int (styv j)) (by decide) (hs _ x_5) (va_eqt (hs _ x_6)) (fun j hj => va_eqt (hs _ (x_7 j hj))) hA
  exact ⟨t, va_Zof (hts _ (x_8 _ (List.mem_of_getElem? (i := 0) rfl))) (hts _ (x_8 _ (List.mem_of_getElem? (i := 1) rfl))) ht hA, hT⟩
theorem st_jp1 {args : Array Value} {s : State} {A : Nat → Prop} {own : String} {k : Nat} (hs : ∀ w ∈ FL, w.before args s = true) (hsr : (Cond.stringRef own k oTx).before args s = true) (hm : (Cond.exactly (Term.string own k) "java/lang/String" ∈ FL ∧ Cond.eq (.field (Term.string own k) "java/lang/String" "coder" "B") (.int 0) ∈ FL ∧ Cond.arrayOf (.field (Term.string own k) "java/lang/String" "value" "[B") .byte ∈ FL ∧ Cond.eq (.length (.field (Term.string own k) "java/lang/String" "value" "[B")) (.int (Int32.ofNat 12)) ∈ FL) ∧ ∀ j, j < 12 → Cond.eq (.elem (.field (Term.string own k) "java/lang/String" "value" "[B") (.int (Int32.ofNat j))) (.int (ordv j)) ∈ FL) (hA : ∀ a : Nat, a < s.heap.size → ¬ A a) : ∃ aQ aQV, (va_O "java/lang/String" aQ A s s.heap ∧ va_OF "java/lang/String" "coder" "B" (.int 0) aQ A s s.heap ∧ va_OF "java/lang/String" "value" "[B" (.ref aQV) aQ A s s.heap ∧ va_T .byte aQV 12 (fun j => .int (ordv j)) A s s.heap) ∧ vk_R own k oTx aQ s := by
  obtain ⟨⟨h1, h2, h3, h4⟩, h5⟩ := hm
  obtain ⟨a, c, cA, kA, q1, -⟩ := Cond.exactly_spec (args := args) (first := s) (o := none) (s := s) (idx := []) (t := Term.string own k) (cls := "java/lang/String") (hs _ h1)
  obtain ⟨t, ht, hT⟩ := va_Tof (tm := Term.field (Term.string own k) "java/lang/String" "value" "[B") (ty := .byte) (N := 12) (f := fun j => .int (ordv j)) (A := A) (by decide) (hs _ h3) (va_eqt (hs _ h4)) (fun j hj => va_eqt (hs _ (h5 j hj))) hA
  exact ⟨a, t, ⟨va_Oof (hs _ h1) q1 hA, vk_OFof q1 (va_eqt (hs _ h2)) hA, vk_OFof q1 ht hA, hT⟩, vk_R.of hsr q1⟩
theorem st_pre {args : Array Value} {s : State} {A : Nat → Prop} (hts : ∀ w ∈ lw_tbl, w.before args s = true) (hs : ∀ w ∈ FL, w.before args s = true) (hA : ∀ a : Nat, a < s.heap.size → ¬ A a) : ∃ vF : Value, va_Z "jdk/internal/util/Preconditions" "SIOOBE_FORMATTER" "Ljava/util/function/BiFunction;" vF A s s.heap ∧ vRef vF := by
  rcases va_Zqof (C := "jdk/internal/util/Preconditions") (n := "SIOOBE_FORMATTER") (d := "Ljava/util/function/BiFunction;") (hts _ (x_8 _ (List.mem_of_getElem? (i := 7) rfl))) (hts _ (x_8 _ (List.mem_of_getElem? (i := 8) rfl))) (hs _ (x_9 _ (List.mem_of_getElem? (i := 3) rfl))) hA with h | ⟨t, h⟩
  · exact ⟨.null, h, Or.inl rfl⟩
  · exact ⟨.ref t, h, Or.inr ⟨t, rfl⟩⟩
theorem st_K {args : Array Value} {s : State} (hts : ∀ w ∈ lw_tbl, w.before args s = true) : ∃ (dC : Nat → ClassId) (dI : Nat → Nat → Nat) (cI cJ cD : ClassId), va_K (dC, dI) vwCl [(cI, .int), (cJ, .long), (cD, .double)] s := by
  obtain ⟨c0, i0, k0⟩ := u_known (C := RJ0) (T := TJ0) (N := 2) (n := 4) hts in_wsJ00 (hts _ x_i0)
  obtain ⟨c1, i1, k1⟩ := u_known (C := RJx00060) (T := TJx00060) (N := 6) (n := 6) hts in_Jx (hts _ x_i1)
  obtain ⟨c2, i2, k2⟩ := u_known (C := RX1) (T := TX1) (N := 8) (n := 8) hts in_wsX10 (hts _ x_i2)
  obtain ⟨c3, i3, k3⟩ := u_known (C := RX2) (T := TX2) (N := 2) (n := 2) hts in_wsX20 (hts _ x_i3)
  obtain ⟨c4, i4, k4⟩ := u_known (C := RX3) (T := TX3) (N := 3) (n := 3) hts in_wsX30 (hts _ x_i4)
  obtain ⟨c5, i5, k5⟩ := u_known (C := RX4) (T := TX4) (N := 14) (n := 14) hts in_wsX40 (hts _ x_i5)
  obtain ⟨c6, i6, k6⟩ := u_known (C := RX6) (T := TX6) (N := 4) (n := 4) hts in_wsX60 (hts _ x_i6)
  obtain ⟨c7, i7, k7⟩ := u_known (C := RX7) (T := TX7) (N := 14) (n := 14) hts in_wsX70 (hts _ x_i7)
  obtain ⟨cI, hI⟩ := kA_I (hts _ (x_8 _ (List.mem_of_getElem? (i := 11) rfl)))
  obtain ⟨cJ, hJ⟩ := kA_J (hts _ (x_8 _ (List.mem_of_getElem? (i := 12) rfl)))
  obtain ⟨cD, hD⟩ := kA_D (hts _ (x_8 _ (List.mem_of_getElem? (i := 13) rfl)))
  refine ⟨fun k => if k = 0 then c0 else if k = 1 then c1 else if k = 2 then c2 else if k = 3 then c3 else if k = 4 then c4 else if k = 5 then c5 else if k = 6 then c6 else c7, fun k => if k = 0 then i0 else if k = 1 then i1 else if k = 2 then i2 else if k = 3 then i3 else if k = 4 then i4 else if k = 5 then i5 else if k = 6 then i6 else i7, cI, cJ, cD, ⟨fun k q hq => ?_, fun k q hq => ?_⟩⟩
  · match k, hq with
    | 0, hq => cases hq; exact k0
    | 1, hq => cases hq; exact k1
    | 2, hq => cases hq; exact k2
    | 3, hq => cases hq; exact k3
    | 4, hq => cases hq; exact k4
    | 5, hq => cases hq; exact k5
    | 6, hq => cases hq; exact k6
    | 7, hq => cases hq; exact k7
    | k + 8, hq => simp [vwCl] at hq
  · match k, hq with
    | 0, hq => cases hq; exact hI
    | 1, hq => cases hq; exact hJ
    | 2, hq => cases hq; exact hD
    | k + 3, hq => simp at hq
theorem law_all {Rel : RelT} (st : StAll Rel) (RF : RelF Rel) (h0 : Rel0 Rel) {p : Program} {e : Env} {s : State} {m : MethodId} {below : List Frame} {meth : Method} {c : Code} {Q : State → Prop} (l : Launch) (hflags : l.flags = flags0) {b L : Nat} {xs : Nat → Int32} (hL : L ≤ 1536) (hx : p.tables.exec = Jvm.exec) (hb : c.code = code) (hml : c.maxLocals = 9) (hown : s.vm.findClass RL = some m.cls) (hts : ∀ w ∈ lw_tbl, w.before #[Value.ref b] s = true) (hXb : va_X b L xs s s.heap) (hbl : b < s.heap.size) (hgv : (Jvm.Cond.and given_1 narrow_1).before #[Value.ref b] s = true) (kE : ∀ (ls : Array Slot) (H : Heap) (locs : List Loc), (∀ q ∈ locs, s.heap.size ≤ q.base) → W p l e room_1 s m #[Value.ref b] below meth c H locs 603072 7198826 Q (F0 m 1736 ls [])) (ls : Array Slot) (hl : lv_has ls 9 [(0, .ref b)]) : W p l e room_1 s m #[Value.ref b] below meth c s.heap [] 0 0 Q (F0 m 0 ls []) := by
  have hs := flat_of_before _ hgv
  have hA : ∀ q : Nat, s.heap.size ≤ q → (fun q : Nat => s.heap.size ≤ q) q := fun _ h => h
  have hA2 : ∀ q : Nat, q < s.heap.size → ¬ (fun q : Nat => s.heap.size ≤ q) q := fun _ h => Nat.not_le.mpr h
  obtain ⟨dC, dI, cI, cJ, cD, hK3⟩ := st_K hts
  obtain ⟨aY, hY⟩ := st_sty hts hs hA2
  obtain ⟨vF, hF1, hF2⟩ := st_pre hts hs hA2
  obtain ⟨aQ6, aQV6, hj6, hq⟩ := st_jp1 hs (hts _ (x_8 _ (List.mem_of_getElem? (i := 9) rfl))) x_s6 hA2
  obtain ⟨aQ2, aQV2, hj2, hq2⟩ := st_jp1 hs (hts _ (x_8 _ (List.mem_of_getElem? (i := 10) rfl))) x_s2 hA2
  have hCS := va_Zof (hts _ (x_8 _ (List.mem_of_getElem? (i := 5) rfl))) (hts _ (x_8 _ (List.mem_of_getElem? (i := 6) rfl))) (va_eqi (hs _ (x_9 _ (List.mem_of_getElem? (i := 2) rfl)))) hA2
  have hts2 : ∀ w ∈ (Cond.arrayClass .double) :: WA, w.before #[Value.ref b] s = true := fun w hw => (List.mem_cons.mp hw).elim (fun e => by rw [e]; exact hts _ (x_8 _ (List.mem_of_getElem? (i := 13) rfl))) (fun h => hts w (in_WA w h))
  have hnt : l.stackTraces = false := by
    show (!l.flags.contains noTraceFlag) = false
    rw [hflags]
    decide +kernel
  exact law_go st RF h0 hx hb hml hown hts2 hK3 hA hnt (st_xfa hts hs) (st_xst hts hs hA2) (fun q hq => va_Nc.of (hs _ (x_4 q hq))) hY ⟨hj6, hCS, hF1, hF2⟩ hq ⟨hj2, hCS, hF1, hF2⟩ hq2 hXb hbl (Nat.not_le.mpr hbl) hL (fun ls H locs hS => kE ls H locs (fun q hq => hS.2.2 q hq)) ls hl
