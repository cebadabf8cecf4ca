/-! the calls that write notes -/
theorem kcd_0 {α : Type} {E : String} {L : List String} : kcd (E :: L) (Sum.inl E : String ⊕ α) = 1 := if_pos rfl
theorem kcd_1 {α : Type} {E0 E : String} {L : List String} (h : E ≠ E0) : kcd (E0 :: E :: L) (Sum.inl E : String ⊕ α) = 2 := (if_neg (fun e => h (Option.some.inj e))).trans (if_pos rfl)
theorem inr_ne {α : Type} {P : Prop} {a : α} {E : String} (h : (Sum.inr a : String ⊕ α) = Sum.inl E) : P := nomatch h
theorem go0 : f_X7_goesOn (0 : Int32) = ((1 : Int32), (0 : Int32)) := if_pos rfl
theorem go1 : f_X7_goesOn (1 : Int32) = ((0 : Int32), (1 : Int32)) := if_neg (by decide)
theorem go2 : f_X7_goesOn (2 : Int32) = ((0 : Int32), (2 : Int32)) := if_neg (by decide)
theorem most_nn {mc mr : Int32} (hm : mok mc mr) : 0 ≤ (f_X7_most mc mr).toInt := by
  have key : ∀ g, g < 3 → ∀ c, c < 15 → 0 ≤ (f_X7_most (nI c) (nI (2 ^ g))).toInt := by decide +kernel
  obtain ⟨h1, h2, h3⟩ := hm
  obtain ⟨c, hc, rfl⟩ := t_nI (i := mc) (n := 15) h2 (by omega) (by omega)
  rcases h1 with h | h | h
  · rw [h]
    exact key 0 (by omega) c hc
  · rw [h]
    exact key 1 (by omega) c hc
  · rw [h]
    exact key 2 (by omega) c hc
theorem mnb_0 {mc mr : Int32} (hm : mok mc mr) : mnb mc mr (0 : Int32) := ⟨Int.le_refl _, most_nn hm⟩
theorem upd_r {f g : Nat → Int32} {N k : Nat} {x : Int32} (h : ∀ j, j < N → f j = g j ∧ 0 ≤ (g j).toInt ∧ (g j).toInt ≤ 27) (hx : 0 ≤ x.toInt ∧ x.toInt ≤ 27) : ∀ j, j < N → upd f k x j = upd g k x j ∧ 0 ≤ (upd g k x j).toInt ∧ (upd g k x j).toInt ≤ 27 := by
  intro j hj
  by_cases e : j = k
  · have e1 : upd f k x j = x := if_pos e
    have e2 : upd g k x j = x := if_pos e
    rw [e1, e2]
    exact ⟨rfl, hx⟩
  · have e1 : upd f k x j = f j := if_neg e
    have e2 : upd g k x j = g j := if_neg e
    rw [e1, e2]
    exact h j hj
theorem x_gv1 {gc gn : Int32} {tc p0 : Int32} {gv : Nat → Int32} (h : f_X5_isNote p0 = 0) : f_X6_given tc gc gn gv p0 = (Sum.inl "java/lang/IllegalArgumentException", gv, gc, tc, gn) := by
  rw [e_X6_given, e_X6_requireNote, if_pos h, sb_l rfl]
theorem x_gv2 {gc gn : Int32} {tc p0 : Int32} {gv : Nat → Int32} (h : ¬ f_X5_isNote p0 = 0) (h2 : ¬ gc < (14 : Int32)) : f_X6_given tc gc gn gv p0 = (Sum.inl "java/lang/IllegalStateException", gv, gc, tc, gn) := by
  rw [e_X6_given, e_X6_requireNote, if_neg h, sb_r rfl]
  exact if_neg h2
theorem x_gv3 {gc gn : Int32} {tc p0 : Int32} {gv : Nat → Int32} (h : ¬ f_X5_isNote p0 = 0) (h2 : gc < (14 : Int32)) (h3 : ¬ (14 : Int32) ≤ gc) : f_X6_given tc gc gn gv p0 = (Sum.inr (gc + (1 : Int32)), upd gv gc.toNatClampNeg p0, gc + (1 : Int32), (0 : Int32), gn + (1 : Int32)) := by
  have e1 : f_X1_append gc gn gv p0 = (upd gv gc.toNatClampNeg p0, gc + (1 : Int32), gn + (1 : Int32)) := if_neg h3
  have e2 : f_X3_stretch (0 : Int32) = 0 := by decide
  rw [e_X6_given, e_X6_requireNote, if_neg h, sb_r rfl, e1, e2]
  exact if_pos h2
theorem y_gv1 {mc mn p0 : Int32} {mg : Nat → Int32} (h : f_X5_isNote p0 = 0) : f_X7_given mc mn mg p0 = ((0 : Int32), (1 : Int32), mg, mc, mn) := by
  rw [e_X7_given, isn, if_pos h, e_X7_given_j26, go1]
  exact if_pos rfl
theorem y_gv2 {mc mn p0 : Int32} {mg : Nat → Int32} (h : ¬ f_X5_isNote p0 = 0) (h2 : mc = (14 : Int32)) : f_X7_given mc mn mg p0 = ((0 : Int32), (2 : Int32), mg, mc, mn) := by
  rw [e_X7_given, isn, if_neg h, if_pos h2, e_X7_given_j26, go2]
  exact if_pos rfl
theorem y_gv3 {mc mn p0 : Int32} {mg : Nat → Int32} (h : ¬ f_X5_isNote p0 = 0) (h2 : ¬ mc = (14 : Int32)) : f_X7_given mc mn mg p0 = (mc + (1 : Int32), (0 : Int32), upd mg mc.toNatClampNeg p0, mc + (1 : Int32), (0 : Int32)) := by
  rw [e_X7_given, isn, if_neg h, if_neg h2, e_X7_given_j26, go0]
  exact if_neg (by decide)
theorem s_given {Rs : RsT} (R : RsOk Rs) : St_given (RelB Rs) := by
  intro k tc tv gc gs gb gf gl gh gn gv wn wv mt mc mn mr mb mf mlo mhi mx mg ml mw me mo p0 w hk h
  have h0 := h
  obtain ⟨⟨hm, hg, hf, hb, hgv, htv⟩, hc, ht, hn, hw, hr, hz, ⟨a, ha, rfl⟩, hwn, hs⟩ := h
  subst hc
  have e14 : (14 : Int32).toInt = 14 := rfl
  by_cases h1 : f_X5_isNote p0 = 0
  · rw [x_gv1 h1, y_gv1 h1]
    exact ⟨fun E e => Or.inl (Sum.inl.inj e).symm, kcd_0.symm, fun e => absurd e kc_ne, rb_up h0⟩
  · by_cases h2 : gc < (14 : Int32)
    · have h3 : ¬ (14 : Int32) ≤ gc := by
        rw [t_lt, e14] at h2
        rw [t_le, e14]
        omega
      have h4 : ¬ gc = (14 : Int32) := by
        intro e
        rw [e] at h2
        exact absurd h2 (by decide)
      rw [x_gv3 h1 h2 h3, y_gv3 h1 h4]
      have h6 := hm.2
      have e1 : (1 : Int32).toInt = 1 := rfl
      rw [t_lt, e14] at h2
      have h5 : (gc + (1 : Int32)).toInt = gc.toInt + 1 := by
        rw [t_add (by rw [e1]; omega) (by rw [e1]; omega), e1]
      have hm2 : mok (gc + (1 : Int32)) mr := ⟨hm.1, by rw [h5]; omega, by rw [h5]; omega⟩
      exact ⟨fun E e => inr_ne e, rfl, fun _ => rfl, ⟨hm2, hg, hf, hb, upd_r hgv (isn_r h1), htv⟩, rfl, rfl, mnb_0 hm2, hw, hr, hz, e_up1 ha, e_up hwn, R.g (by omega) hs⟩
    · have h4 : gc = (14 : Int32) := by
        have := hm.2
        rw [t_lt, e14] at h2
        exact Int32.toInt_inj.mp (by rw [e14]; omega)
      rw [x_gv2 h1 h2, y_gv2 h1 h4]
      exact ⟨fun E e => Or.inr (Sum.inl.inj e).symm, (kcd_1 (by decide)).symm, fun e => absurd e kc_ne, rb_up h0⟩
theorem s_clear {Rs : RsT} (R : RsOk Rs) : St_clear (RelB Rs) := by
  intro k tc tv gc gs gb gf gl gh gn gv wn wv mt mc mn mr mb mf mlo mhi mx mg ml mw me mo p0 w hz0 hk h
  obtain ⟨⟨hm, hg, hf, hb, hgv, htv⟩, hc, ht, hn, hw, hr, hz, ⟨a, ha, rfl⟩, hwn, hs⟩ := h
  have e2 : f_X3_stretch (0 : Int32) = 0 := by decide
  rcases hz0 with e | e
  · have e6 : f_X6_clear tc gc (nI a) p0 = (tc, (0 : Int32), gc, nI a) := by
      rw [e_X6_clear, if_pos e, e2]
      rfl
    have e7 : f_X7_clear mc mn p0 = (mn, (0 : Int32), mc, (0 : Int32)) := by
      rw [e_X7_clear, if_pos e]
      rfl
    rw [e6, e7]
    exact ⟨ht, ⟨hm, hg, hf, hb, hgv, htv⟩, hc, rfl, mnb_0 hm, hw, hr, hz, ⟨a, by omega, rfl⟩, e_up hwn, hs⟩
  · have hne : ¬ p0 = 0 := by
      rw [e]
      decide
    have e6 : f_X6_clear tc gc (nI a) p0 = (tc, (0 : Int32), (0 : Int32), nI a + (1 : Int32)) := by
      rw [e_X6_clear, if_neg hne, e2]
      rfl
    have e7 : f_X7_clear mc mn p0 = (mn, (0 : Int32), (0 : Int32), (0 : Int32)) := by
      rw [e_X7_clear, if_neg hne]
      rfl
    have hm2 : mok (0 : Int32) mr := ⟨hm.1, by decide, by decide⟩
    rw [e6, e7]
    exact ⟨ht, ⟨hm2, hg, hf, hb, hgv, htv⟩, rfl, rfl, mnb_0 hm2, hw, hr, hz, e_up1 ha, e_up hwn, R.g (by omega) hs⟩
theorem s_faults {Rs : RsT} : St_faults (RelB Rs) := by
  intro k tc tv gc gs gb gf gl gh gn gv wn wv mt mc mn mr mb mf mlo mhi mx mg ml mw me mo w hk h
  have h0 := h
  obtain ⟨hl, hc, ht, hn, hw, hr, hz, -⟩ := h
  subst hc ht
  exact ⟨faults_eq hl hw hn, rb_up h0⟩
theorem s_cost {Rs : RsT} : St_cost (RelB Rs) := by
  intro k tc tv gc gs gb gf gl gh gn gv wn wv mt mc mn mr mb mf mlo mhi mx mg ml mw me mo w hk h
  have h0 := h
  obtain ⟨hl, hc, ht, hn, hw, hr, hz, -⟩ := h
  subst hc ht
  exact ⟨cost_eq hl (fun j hj => (hw j hj).1) hn, rb_up h0⟩
theorem s_isGood {Rs : RsT} : St_isGood (RelB Rs) := by
  intro k tc tv gc gs gb gf gl gh gn gv wn wv mt mc mn mr mb mf mlo mhi mx mg ml mw me mo w hk h
  have h0 := h
  obtain ⟨hl, hc, ht, hn, hw, hr, hz, -⟩ := h
  subst hc ht
  rw [good_eq hl hw hn]
  exact ⟨rfl, rb_up h0⟩
