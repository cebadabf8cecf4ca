/-! ===== faults counted and told, over the line ===== -/
theorem nI_times (a b : Nat) : nI (a * b) = nI a * nI b := Int32.ofNat_mul a b
theorem nI_minus {a b : Nat} (h : b ≤ a) : nI a - nI b = nI (a - b) := by
  have e : nI a = nI (a - b) + nI b := by
    rw [← nI_plus]
    congr 1
    omega
  rw [e, Int32.add_sub_cancel]
section
variable {gs gf gb gc tc mc mr mf mb i : Int32} {gv tv mg ml mw wv : Nat → Int32}
theorem at_pv (hl : lnr gs gf gb gv tv mc mr mf mb mg ml) (hw : wtr wv mw) (h0 : 0 ≤ i.toInt) (h1 : i.toInt < (f_X7_most mc mr).toInt) : f_X3_faultsAt tc tv mc gs gb gf gv i &&& f_X2_weighing wv (1 : Int32) = nI (mkn (pvb mc mr mb mf mg ml mw i tc) 12) := by
  rw [at_mk hl h0 h1, weigh_w hw, and_mk]
  rfl
/-- how many faults, class = model -/
theorem faults_eq (hl : lnr gs gf gb gv tv mc mr mf mb mg ml) (hw : wtr wv mw) (hn : mnb mc mr tc) : f_X6_faults tc tv mc gs gb gf gv wv = f_X7_faultsUpTo mc tc mr mb mf mg ml mw (-1 : Int32) := by
  have h53 := most_53 hl.1
  have key : ∀ n fu fu' c (v2 : Int32), 0 ≤ v2.toInt → v2.toInt ≤ tc.toInt → (tc.toInt - v2.toInt).toNat = n → n < fu → n < fu' → c + 12 * n < 2 ^ 31 → f_X6_faults_l13 tc tv mc gs gb gf gv wv fu (nI c) v2 = f_X7_faultsUpTo_l4 mc tc mr mb mf mg ml mw (-1 : Int32) fu' (nI c) v2 := by
    intro n
    induction n with
    | zero =>
      intro fu fu' c v2 h0 h1 hk hf hf' hc
      obtain ⟨fu, rfl⟩ : ∃ f, fu = f + 1 := ⟨fu - 1, by omega⟩
      obtain ⟨fu', rfl⟩ : ∃ f, fu' = f + 1 := ⟨fu' - 1, by omega⟩
      have hle : tc ≤ v2 := by rw [t_le]; omega
      rw [e_X6_faults_l13, e_X7_faultsUpTo_l4, e_X3_length, if_pos hle, if_pos hle, e_X7_faultsUpTo_j74, if_pos rfl]
    | succ n ih =>
      intro fu fu' c v2 h0 h1 hk hf hf' hc
      obtain ⟨fu, rfl⟩ : ∃ f, fu = f + 1 := ⟨fu - 1, by omega⟩
      obtain ⟨fu', rfl⟩ : ∃ f, fu' = f + 1 := ⟨fu' - 1, by omega⟩
      have hu := t_up tc
      have hle : ¬ tc ≤ v2 := by rw [t_le]; omega
      have ha : (v2 + (1 : Int32)).toInt = v2.toInt + 1 := t_add (b := (1 : Int32)) (by rw [t_1]; omega) (by rw [t_1]; omega)
      have hi := fu_inm (mc := mc) (tc := tc) (mr := mr) (mb := mb) (mf := mf) (mg := mg) (ml := ml) (mw := mw) (v2 := v2) (K := f_X7_faultsUpTo_j68 v2 (f_X7_faultsUpTo_l4 mc tc mr mb mf mg ml mw (-1 : Int32) fu')) 12 0 13 c rfl (by omega) (by omega)
      rw [show nI 0 = (0 : Int32) from rfl] at hi
      have hcl := cnt_le (pvb mc mr mb mf mg ml mw v2 tc) 12 0
      rw [e_X6_faults_l13, e_X7_faultsUpTo_l4, e_X3_length, if_neg hle, if_neg hle, hi, e_X7_faultsUpTo_j68, at_pv hl hw h0 (by have := hn.2; omega), bc_mk, ← nI_plus]
      exact ih fu fu' _ _ (by omega) (by omega) (by omega) (by omega) (by omega) (by omega)
  rw [e_X6_faults, e_X7_faultsUpTo, e_X3_length]
  have h0 := hn.1
  have h1 := hn.2
  exact key _ _ _ 0 _ (by rw [t_0]; omega) (by rw [t_0]; exact hn.1) rfl (by omega) (by omega) (by rw [t_0]; omega)
/-- a fault told by the class (12 i + law) and by the model (100 i + law), or none -/
def ftr (a b : Int32) : Prop := (a = (-1 : Int32) ∧ b = (-1 : Int32)) ∨ ∃ i k : Nat, i < 53 ∧ k < 12 ∧ a = nI (12 * i + k) ∧ b = nI (100 * i + k)
theorem number_eq (hl : lnr gs gf gb gv tv mc mr mf mb mg ml) (hw : wtr wv mw) (hn : mnb mc mr tc) {P : Nat} (hP : P < 2 ^ 31) : ftr (f_X3_faultNumber tc tv mc gs gb gf gv (nI P) (f_X2_weighing wv (1 : Int32))) (f_X7_faultsUpTo mc tc mr mb mf mg ml mw (nI P)) := by
  have h53 := most_53 hl.1
  have key : ∀ n fu fu' c (v2 : Int32), 0 ≤ v2.toInt → v2.toInt ≤ tc.toInt → (tc.toInt - v2.toInt).toNat = n → n < fu → n < fu' → c ≤ P → ftr (f_X3_faultNumber_l11 tc tv mc gs gb gf gv (f_X2_weighing wv (1 : Int32)) fu (nI (P - c)) v2) (f_X7_faultsUpTo_l4 mc tc mr mb mf mg ml mw (nI P) fu' (nI c) v2) := by
    intro n
    induction n with
    | zero =>
      intro fu fu' c v2 h0 h1 hk hf hf' hc
      obtain ⟨fu, rfl⟩ : ∃ f, fu = f + 1 := ⟨fu - 1, by omega⟩
      obtain ⟨fu', rfl⟩ : ∃ f, fu' = f + 1 := ⟨fu' - 1, by omega⟩
      have hle : tc ≤ v2 := by rw [t_le]; omega
      rw [e_X3_faultNumber_l11, e_X7_faultsUpTo_l4, if_pos hle, if_pos hle, e_X7_faultsUpTo_j74, if_neg (m1_nI hP)]
      exact Or.inl ⟨rfl, rfl⟩
    | succ n ih =>
      intro fu fu' c v2 h0 h1 hk hf hf' hc
      obtain ⟨fu, rfl⟩ : ∃ f, fu = f + 1 := ⟨fu - 1, by omega⟩
      obtain ⟨fu', rfl⟩ : ∃ f, fu' = f + 1 := ⟨fu' - 1, by omega⟩
      have hu := t_up tc
      have hle : ¬ tc ≤ v2 := by rw [t_le]; omega
      have ha : (v2 + (1 : Int32)).toInt = v2.toInt + 1 := t_add (b := (1 : Int32)) (by rw [t_1]; omega) (by rw [t_1]; omega)
      have hi := fu_in (mc := mc) (tc := tc) (mr := mr) (mb := mb) (mf := mf) (mg := mg) (ml := ml) (mw := mw) (v2 := v2) (K := f_X7_faultsUpTo_j68 v2 (f_X7_faultsUpTo_l4 mc tc mr mb mf mg ml mw (nI P) fu')) hP 12 0 13 c rfl (by omega) hc
      rw [show nI 0 = (0 : Int32) from rfl] at hi
      have hcl := cnt_le (pvb mc mr mb mf mg ml mw v2 tc) 12 0
      rw [e_X3_faultNumber_l11, e_X7_faultsUpTo_l4, if_neg hle, if_neg hle, hi, e_X7_faultsUpTo_j68, at_pv hl hw h0 (by have := hn.2; omega), bc_mk, nth_mk _ (by omega)]
      by_cases hd : P - c < cnt (pvb mc mr mb mf mg ml mw v2 tc) 12 0
      · rw [if_neg (nI_ge hd (by omega)), if_pos hd]
        obtain ⟨k, _, hk2, _, hk4⟩ := nth_in _ 12 0 _ hd
        obtain ⟨i, hi3, hi4⟩ := t_nI (n := 53) h0 (by have := hn.2; omega) (by omega)
        refine Or.inr ⟨i, k, hi3, by omega, ?_, ?_⟩
        · rw [hk4, hi4, nI_plus, nI_times, Int32.mul_comm]
          rfl
        · rw [hk4, hi4, nI_plus, nI_times]
          rfl
      · rw [if_pos (nI_le (by omega) (by omega)), if_neg hd, nI_minus (by omega), show P - c - cnt (pvb mc mr mb mf mg ml mw v2 tc) 12 0 = P - (c + cnt (pvb mc mr mb mf mg ml mw v2 tc) 12 0) by omega]
        exact ih fu fu' _ _ (by omega) (by omega) (by omega) (by omega) (by omega) (by omega)
  rw [e_X3_faultNumber, if_pos (nI_pos' hP), e_X7_faultsUpTo]
  have go := key _ ((tc.toInt - (0 : Int32).toInt).toNat + 1) ((tc.toInt - (0 : Int32).toInt).toNat + 1) 0 (0 : Int32) (by rw [t_0]; omega) (by rw [t_0]; exact hn.1) rfl (by omega) (by omega) (by omega)
  exact go
end
