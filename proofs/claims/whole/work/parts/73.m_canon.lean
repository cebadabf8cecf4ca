/-! ===== canons ===== -/
def ltr (tv ml : Nat → Int32) : Prop := ∀ j, j < 53 → tv j = ml j ∧ 0 ≤ (ml j).toInt ∧ (ml j).toInt ≤ 27
section
variable {tc p0 p1 i : Int32} {tv ml : Nat → Int32}
theorem lt_tone (h : ltr tv ml) (h0 : 0 ≤ i.toInt) (h1 : i.toInt < 53) : f_X3_toneAt tv i = ml i.toNatClampNeg ∧ 0 ≤ (ml i.toNatClampNeg).toInt ∧ (ml i.toNatClampNeg).toInt ≤ 27 := by
  obtain ⟨j, hj, rfl⟩ := t_nI (n := 53) h0 h1 (by omega)
  rw [e_X3_toneAt, if_neg (nI_pos (by omega)), if_neg (by rw [show (53 : Int32) = nI 53 from rfl]; exact nI_ge hj (by omega)), nI_clamp (by omega)]
  exact h j hj
theorem tg_kg (h : ltr tv ml) (h0 : 0 ≤ i.toInt) (h1 : i.toInt < 53) (h2 : 0 ≤ (i - p0).toInt) (h3 : (i - p0).toInt < 53) (ha : -7 ≤ p1.toInt ∧ p1.toInt ≤ 7) : KG (f_X7_together ml i p0 p1) (f_X5_plainGap (f_X3_toneAt tv i) ((f_X3_toneAt tv (i - p0)) + p1)) := by
  have e1 := lt_tone h h0 h1
  have e2 := lt_tone h h2 h3
  have e3 : (ml (i - p0).toNatClampNeg + p1).toInt = (ml (i - p0).toNatClampNeg).toInt + p1.toInt := t_add (by omega) (by omega)
  have b1 := ma_pb (x := ml i.toNatClampNeg) (by omega) (by omega)
  have b2 := ma_pb (x := ml (i - p0).toNatClampNeg + p1) (by omega) (by omega)
  rw [e_X7_together, e_X5_plainGap, e1.1, e2.1, ma_pitch (x := ml i.toNatClampNeg) (by omega) (by omega), ma_pitch (x := ml (i - p0).toNatClampNeg + p1) (by omega) (by omega)]
  apply ma_kg
  · rw [t_sub] <;> omega
  · rw [t_sub] <;> omega
theorem st_0 (h : ltr tv ml) (h0 : 1 ≤ i.toInt) (h1 : i.toInt < 53) : f_X3_stepTo tv i = 0 ↔ ml i.toNatClampNeg = ml (i - (1 : Int32)).toNatClampNeg := by
  have hs : (i - (1 : Int32)).toInt = i.toInt - 1 := t_sub (b := (1 : Int32)) (by rw [t_1]; omega) (by rw [t_1]; omega)
  have e1 := lt_tone (i := i) h (by omega) h1
  have e2 := lt_tone (i := i - (1 : Int32)) h (by omega) (by omega)
  rw [e_X3_stepTo, if_pos (by rw [t_le, t_1]; omega), e1.1, e2.1, sub0]
theorem j74_0 {v2 D : Int32} {r : Int32 → Int32 → Int32 → Int32} : f_X0_faultsOf_j74 tv p0 p1 v2 i D r (0 : Int32) = f_X0_faultsOf_j99 tv p0 p1 i r D := by
  rw [e_X0_faultsOf_j74, if_pos (rfl : (0 : Int32) = 0)]
  split <;> rfl
theorem cf_step {v1 v2 d D : Int32} {r : Int32 → Int32 → Int32 → Int32} {r' : Int32 → Int32 → Int32} (h : ltr tv ml) (hp : 1 ≤ p0.toInt ∧ p0.toInt ≤ 12) (ha : -7 ≤ p1.toInt ∧ p1.toInt ≤ 7) (h0 : p0.toInt ≤ i.toInt) (h1 : i.toInt < 53) (hv : p0.toInt < i.toInt → v2 = f_X5_plainGap (f_X3_toneAt tv (i - (1 : Int32))) ((f_X3_toneAt tv (i - (1 : Int32) - p0)) + p1)) (hD : D = v1 + d) (hr : ∀ x, r x (f_X5_plainGap (f_X3_toneAt tv i) ((f_X3_toneAt tv (i - p0)) + p1)) (i + (1 : Int32)) = r' x (i + (1 : Int32))) : f_X0_faultsOf_j49 tv p0 p1 v2 i r D = f_X7_canonFaults_j36 ml p0 p1 v1 i r' d := by
  have hq : (i - p0).toInt = i.toInt - p0.toInt := t_sub (by omega) (by omega)
  have j99 : ∀ x, f_X0_faultsOf_j99 tv p0 p1 i r x = r' x (i + (1 : Int32)) := fun x => by rw [e_X0_faultsOf_j99]; exact hr x
  rw [e_X0_faultsOf_j49, e_X7_canonFaults_j36, e_X0_faultsOf_j73, j74_0, j99, e_X7_canonFaults_j115, e_X7_canonFaults_j112, e_X7_canonFaults_j113, e_X7_canonFaults_j113, e_X7_canonFaults_j115, e_X7_canonFaults_j115, Int32.add_zero, ← hD]
  by_cases c0 : p0.toInt < i.toInt
  · have hs : (i - (1 : Int32)).toInt = i.toInt - 1 := t_sub (b := (1 : Int32)) (by rw [t_1]; omega) (by rw [t_1]; omega)
    have hq1 : (i - (1 : Int32) - p0).toInt = i.toInt - 1 - p0.toInt := by
      rw [t_sub] <;> omega
    have g1 := tg_kg (i := i) (p0 := p0) h (by omega) h1 (by omega) (by omega) ha
    have g2 := tg_kg (i := i - (1 : Int32)) (p0 := p0) h (by omega) (by omega) (by omega) (by omega) ha
    have s1 := st_0 (i := i) h (by omega) h1
    have s2 := st_0 (i := i - p0) h (by omega) (by omega)
    rw [if_neg (by rw [t_le]; omega : ¬ i ≤ p0), e_X0_faultsOf_j74, hv c0, if_neg (by decide : ¬ (1 : Int32) = 0), j99, j99]
    have hpf := kg_perfect g1
    by_cases c2 : (2 : Int32) ≤ f_X7_together ml i p0 p1
    · rw [if_pos c2, if_pos (hpf.mpr c2)]
      split
      · rfl
      · split
        · rfl
        · split <;> rfl
    · have he := kg_eq g1 g2 c2
      rw [if_neg c2, if_neg (fun e => c2 (hpf.mp e))]
      by_cases c3 : f_X7_together ml (i - (1 : Int32)) p0 p1 = f_X7_together ml i p0 p1
      · rw [if_pos c3, if_pos (he.mpr c3)]
        by_cases c4 : ml i.toNatClampNeg = ml (i - (1 : Int32)).toNatClampNeg
        · rw [if_pos c4, if_pos (s1.mpr c4)]
        · rw [if_neg c4, if_neg (fun e => c4 (s1.mp e))]
          by_cases c5 : ml (i - p0).toNatClampNeg = ml (i - p0 - (1 : Int32)).toNatClampNeg
          · rw [if_pos c5, if_pos (s2.mpr c5)]
          · rw [if_neg c5, if_neg (fun e => c5 (s2.mp e))]
      · rw [if_neg c3, if_neg (fun e => c3 (he.mp e))]
        split
        · rfl
        · split <;> rfl
  · have ei : i = p0 := ma_inj (by omega)
    rw [if_pos (by rw [t_le]; omega : i ≤ p0)]
    have hz : f_X3_stepTo tv (i - p0) = 0 := by
      rw [e_X3_stepTo, if_neg (by rw [t_le, t_1]; omega)]
    rw [if_pos hz]
    split <;> rfl
/-- the faults of one canon, class = model -/
theorem canon_eq (h : ltr tv ml) (hp : 1 ≤ p0.toInt ∧ p0.toInt ≤ 12) (ha : -7 ≤ p1.toInt ∧ p1.toInt ≤ 7) (hc : tc.toInt ≤ 53) (hq : p0.toInt ≤ tc.toInt) : f_X0_faultsOf tc tv p0 p1 = f_X7_canonFaults tc ml p0 p1 := by
  have key : ∀ n fu fu' (v1 v2 i : Int32), p0.toInt ≤ i.toInt → i.toInt ≤ tc.toInt → (tc.toInt - i.toInt).toNat = n → n < fu → n < fu' → (p0.toInt < i.toInt → v2 = f_X5_plainGap (f_X3_toneAt tv (i - (1 : Int32))) ((f_X3_toneAt tv (i - (1 : Int32) - p0)) + p1)) → f_X0_faultsOf_l8 tc tv p0 p1 fu v1 v2 i = f_X7_canonFaults_l5 tc ml p0 p1 fu' v1 i := by
    intro n
    induction n with
    | zero =>
      intro fu fu' v1 v2 i h0 h1 hk hf hf' hv
      obtain ⟨fu, rfl⟩ : ∃ f, fu = f + 1 := ⟨fu - 1, by omega⟩
      obtain ⟨fu', rfl⟩ : ∃ f, fu' = f + 1 := ⟨fu' - 1, by omega⟩
      have hle : tc ≤ i := by rw [t_le]; omega
      rw [e_X0_faultsOf_l8, e_X7_canonFaults_l5, e_X3_length, if_pos hle, if_pos hle]
    | succ n ih =>
      intro fu fu' v1 v2 i h0 h1 hk hf hf' hv
      obtain ⟨fu, rfl⟩ : ∃ f, fu = f + 1 := ⟨fu - 1, by omega⟩
      obtain ⟨fu', rfl⟩ : ∃ f, fu' = f + 1 := ⟨fu' - 1, by omega⟩
      have hle : ¬ tc ≤ i := by rw [t_le]; omega
      have hs : (i - p0).toInt = i.toInt - p0.toInt := t_sub (by omega) (by omega)
      have ha1 : (i + (1 : Int32)).toInt = i.toInt + 1 := t_add (b := (1 : Int32)) (by rw [t_1]; omega) (by rw [t_1]; omega)
      have g1 := tg_kg (i := i) (p0 := p0) h (by omega) (by omega) (by omega) (by omega) ha
      have hd := kg_diss g1
      have hr : ∀ x, f_X0_faultsOf_l8 tc tv p0 p1 fu x (f_X5_plainGap (f_X3_toneAt tv i) ((f_X3_toneAt tv (i - p0)) + p1)) (i + (1 : Int32)) = f_X7_canonFaults_l5 tc ml p0 p1 fu' x (i + (1 : Int32)) := fun x => ih fu fu' x _ _ (by omega) (by omega) (by omega) (by omega) (by omega) (fun _ => by rw [Int32.add_sub_cancel])
      rw [e_X0_faultsOf_l8, e_X7_canonFaults_l5, e_X3_length, if_neg hle, if_neg hle]
      by_cases c : f_X7_together ml i p0 p1 = (3 : Int32)
      · rw [if_pos c, if_neg (fun e => hd.mp e c)]
        exact cf_step h hp ha h0 (by omega) hv rfl hr
      · rw [if_neg c, if_pos (hd.mpr c)]
        exact cf_step h hp ha h0 (by omega) hv (Int32.add_zero _).symm hr
  rw [e_X0_faultsOf, e_X7_canonFaults, e_X3_length]
  exact key _ _ _ _ _ _ (Int.le_refl _) hq rfl (by omega) (by omega) (fun e => absurd e (by omega))
end
