/-! ===== the cost is the sum of the faults' weights ===== -/
theorem tls_sh (f : Nat → Int32) : ∀ n k, tls f n (k + 1) = tls (fun j => f (j + 1)) n k
  | 0, _ => rfl
  | n + 1, k => by rw [tls, tls, tls_sh f n (k + 1)]
theorem nth_sum (W : Int32 → Int32) (b : Nat → Bool) : ∀ n k, tls (fun v => W (nth b n k v)) (cnt b n k) 0 = tls (fun j => if b j = true then W (nI j) else 0) n k
  | 0, _ => rfl
  | n + 1, k => by
    have ih := nth_sum W b n (k + 1)
    rw [cnt, tls]
    by_cases hb : b k = true
    · rw [if_pos hb, if_pos hb, Nat.add_comm 1 (cnt b n (k + 1)), tls, tls_sh, ← ih]
      congr 1
      · rw [nth, if_pos hb, if_pos rfl]
      · exact tls_congr _ 0 (fun j _ _ => by rw [nth, if_pos hb, if_neg (by omega), Nat.add_sub_cancel])
    · rw [if_neg hb, if_neg hb, Nat.zero_add, Int32.zero_add, ← ih]
      exact tls_congr _ 0 (fun j _ _ => by rw [nth, if_neg hb])
section
variable {gs gf gb mc mr mf mb : Int32} {gv tv mg ml mw wv : Nat → Int32} {N : Nat}
theorem cs_in {v2 : Int32} {K : Int32 → Int32} {b : Nat → Bool} (hb : f_X3_faultsAt (nI N) tv mc gs gb gf gv v2 &&& f_X2_weighing wv (1 : Int32) = nI (mkn b 12)) : ∀ n c fu v, c + n = cnt b 12 0 → n < fu → f_X6_costIsSumOfFaults_l46 (nI N) tv mc gs gb gf gv wv v2 K fu v (nI c) = K (v + tls (fun v => f_X2_weightOf wv (nth b 12 0 v)) n c) := by
  have hcl := cnt_le b 12 0
  intro n
  induction n with
  | zero =>
    intro c fu v hk hf
    obtain ⟨fu, rfl⟩ : ∃ f, fu = f + 1 := ⟨fu - 1, by omega⟩
    rw [e_X6_costIsSumOfFaults_l46, hb, bc_mk, if_pos (nI_le (by omega) (by omega)), tls, Int32.add_zero]
  | succ n ih =>
    intro c fu v hk hf
    obtain ⟨fu, rfl⟩ : ∃ f, fu = f + 1 := ⟨fu - 1, by omega⟩
    rw [e_X6_costIsSumOfFaults_l46, hb, bc_mk, if_neg (nI_ge (by omega) (by omega)), nth_mk b (by omega), ← nI_succ, ih (c + 1) fu _ (by omega) (by omega), tls, Int32.add_assoc]
theorem pv_sum (hw : wtr wv mw) {i n : Int32} : tls (fun j => if pvb mc mr mb mf mg ml mw i n j = true then f_X2_weightOf wv (nI j) else 0) 12 0 = tls (wsum mw (flb mc mr mb mf mg ml i n)) 12 0 := by
  refine tls_congr 12 0 (fun j _ h => ?_)
  obtain ⟨h1, h2, h3⟩ := hw j (by omega)
  rw [wt_nI (by omega), h1, wsum, pvb]
  cases hf : flb mc mr mb mf mg ml i n j
  · rw [Bool.false_and]
  · rw [Bool.true_and, if_pos rfl]
    by_cases c : mw j < (1 : Int32)
    · have e : mw j = 0 := by
        rw [t_lt, t_1] at c
        apply ma_inj
        rw [t_0]
        omega
      rw [if_neg (by rw [decide_eq_true_eq]; exact fun h => h c), e]
    · rw [if_pos (by rw [decide_eq_true_eq]; exact c)]
theorem sumof_eq (hl : lnr gs gf gb gv tv mc mr mf mb mg ml) (hw : wtr wv mw) (hN : N ≤ (f_X7_most mc mr).toInt.toNat) : f_X6_costIsSumOfFaults (nI N) tv mc gs gb gf gv wv = f_X6_costIsSumOfFaults_j82 (nI N) tv mc gs gb gf gv wv (f_X6_cost (nI N) tv mc gs gb gf gv wv) := by
  have h53 := most_53 hl.1
  have key : ∀ n k fu v, k + n = N → n < fu → f_X6_costIsSumOfFaults_l13 (nI N) tv mc gs gb gf gv wv fu v (nI k) = f_X6_costIsSumOfFaults_j82 (nI N) tv mc gs gb gf gv wv (v + tls (wcs mc mr mb mf mg ml mw (nI N)) n k) := by
    intro n
    induction n with
    | zero =>
      intro k fu v hk hf
      obtain ⟨fu, rfl⟩ : ∃ f, fu = f + 1 := ⟨fu - 1, by omega⟩
      rw [e_X6_costIsSumOfFaults_l13, e_X3_length, if_pos (nI_le (by omega) (by omega)), tls, Int32.add_zero]
    | succ n ih =>
      intro k fu v hk hf
      obtain ⟨fu, rfl⟩ : ∃ f, fu = f + 1 := ⟨fu - 1, by omega⟩
      have hb := at_pv (tc := nI N) (i := nI k) hl hw (by rw [nI_toInt (by omega)]; omega) (by rw [nI_toInt (by omega)]; omega)
      have hcl := cnt_le (pvb mc mr mb mf mg ml mw (nI k) (nI N)) 12 0
      have hi := cs_in (K := f_X6_costIsSumOfFaults_j76 (nI k) (f_X6_costIsSumOfFaults_l13 (nI N) tv mc gs gb gf gv wv fu)) hb (cnt (pvb mc mr mb mf mg ml mw (nI k) (nI N)) 12 0) 0 (cnt (pvb mc mr mb mf mg ml mw (nI k) (nI N)) 12 0 + 1) v (by omega) (by omega)
      rw [show nI 0 = (0 : Int32) from rfl] at hi
      rw [e_X6_costIsSumOfFaults_l13, e_X3_length, if_neg (nI_ge (by omega) (by omega)), show ((f_J6_bitCount_0f7a4 (f_X3_faultsAt (nI N) tv mc gs gb gf gv (nI k) &&& f_X2_weighing wv (1 : Int32))).toInt - (0 : Int32).toInt).toNat + 1 = cnt (pvb mc mr mb mf mg ml mw (nI k) (nI N)) 12 0 + 1 by rw [hb, bc_mk, nI_toInt (by omega), t_0]; omega, hi, nth_sum, pv_sum hw, e_X6_costIsSumOfFaults_j76, ← nI_succ, ih (k + 1) fu _ (by omega) (by omega), tls, Int32.add_assoc]
      rfl
  have hmb := (most_b hl.1).1
  have hc : f_X6_cost (nI N) tv mc gs gb gf gv wv = tls (wcs mc mr mb mf mg ml mw (nI N)) N 0 := by
    rw [cost_eq hl (fun j h => (hw j h).1) ⟨by rw [nI_toInt (by omega)]; omega, by rw [nI_toInt (by omega)]; omega⟩, now_sum (by omega)]
  have h := key N 0 (N + 1) 0 (by omega) (by omega)
  rw [show nI 0 = (0 : Int32) from rfl, Int32.zero_add, ← hc] at h
  rw [e_X6_costIsSumOfFaults, e_X3_length, nI_toInt (by omega), t_0, show ((N : Int) - 0).toNat + 1 = N + 1 by omega]
  exact h
theorem sumof_1 (hl : lnr gs gf gb gv tv mc mr mf mb mg ml) (hw : wtr wv mw) (hN : N ≤ (f_X7_most mc mr).toInt.toNat) : f_X6_costIsSumOfFaults (nI N) tv mc gs gb gf gv wv = 1 := by
  rw [sumof_eq hl hw hN, e_X6_costIsSumOfFaults_j82, e_X6_cost, if_pos rfl]
end
