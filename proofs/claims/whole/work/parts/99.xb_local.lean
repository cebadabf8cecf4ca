/-! ===== what a note's faults read, told by the pitches (for the search) ===== -/
section
variable {mc mr mb mf i n n' L q : Int32} {mg ml ml' : Nat → Int32}
theorem kind_d (h0 : sc ml ml' i) (q0 : f_X7_pitchAt mc mr mf ml i n = f_X7_pitchAt mc mr mf ml' i n') : f_X7_kindAt mc mr mf mg ml i n = f_X7_kindAt mc mr mf mg ml' i n' := by
  rw [e_X7_kindAt, e_X7_kindAt, q0, show ml i.toNatClampNeg = ml' i.toNatClampNeg from h0]
theorem ends_d (h0 : sc ml ml' i) (hm : sc ml ml' (i - (1 : Int32))) (q0 : f_X7_pitchAt mc mr mf ml i n = f_X7_pitchAt mc mr mf ml' i n') : f_X7_endsBadly mc mr mf mg ml i n = f_X7_endsBadly mc mr mf mg ml' i n' := by
  rw [e_X7_endsBadly, e_X7_endsBadly, kind_d h0 q0, move_c h0 hm]
theorem par_d (h0 : sc ml ml' i) (g0 : sc ml ml' q) (q0 : f_X7_pitchAt mc mr mf ml i n = f_X7_pitchAt mc mr mf ml' i n') (qq : f_X7_pitchAt mc mr mf ml q n = f_X7_pitchAt mc mr mf ml' q n') : f_X7_isParallel mc mr mf mg ml i q n = f_X7_isParallel mc mr mf mg ml' i q n' := by
  simp only [e_X7_isParallel, e_X7_isParallel_j40, e_X7_isParallel_j41, kind_d (mg := mg) h0 q0, kind_d (mg := mg) g0 qq, show ml i.toNatClampNeg = ml' i.toNatClampNeg from h0, show ml q.toNatClampNeg = ml' q.toNatClampNeg from g0]
theorem hidden_d (h0 : sc ml ml' i) (hm : sc ml ml' (i - (1 : Int32))) (q0 : f_X7_pitchAt mc mr mf ml i n = f_X7_pitchAt mc mr mf ml' i n') : f_X7_isHidden mc mr mf mg ml i n = f_X7_isHidden mc mr mf mg ml' i n' := by
  simp only [e_X7_isHidden, e_X7_isHidden_j34, e_X7_isHidden_j35, kind_d (mg := mg) h0 q0, move_c h0 hm]
theorem leaps_d (h0 : sc ml ml' i) (hm : sc ml ml' (i - (1 : Int32))) (q0 : f_X7_pitchAt mc mr mf ml i n = f_X7_pitchAt mc mr mf ml' i n') (qm : f_X7_pitchAt mc mr mf ml (i - (1 : Int32)) n = f_X7_pitchAt mc mr mf ml' (i - (1 : Int32)) n') : f_X7_leapsBadly mc mr mf ml i n = f_X7_leapsBadly mc mr mf ml' i n' := by
  rw [e_X7_leapsBadly, e_X7_leapsBadly, q0, qm, move_c h0 hm]
theorem passes_d (h0 : sc ml ml' i) (hm : sc ml ml' (i - (1 : Int32))) (hm2 : sc ml ml' (i - (1 : Int32) - (1 : Int32))) (qm : f_X7_pitchAt mc mr mf ml (i - (1 : Int32)) n = f_X7_pitchAt mc mr mf ml' (i - (1 : Int32)) n') : f_X7_passesBadly mc mr mf mg ml i n = f_X7_passesBadly mc mr mf mg ml' i n' := by
  have hk : f_X7_kindAt mc mr mf mg ml (i - (1 : Int32)) n = f_X7_kindAt mc mr mf mg ml' (i - (1 : Int32)) n' := kind_d hm qm
  rw [e_X7_passesBadly, e_X7_passesBadly, hk, e_X7_passesBadly_j31, e_X7_passesBadly_j31, e_X7_passesBadly_j32, e_X7_passesBadly_j32, e_X7_passesBadly_j32, e_X7_passesBadly_j32, move_c h0 hm, move_c hm hm2]
theorem ft_i0 {k : Int32} (c : i = 0) (h0 : ¬ k = 0) (h1 : ¬ k = (1 : Int32)) (h2 : ¬ k = (2 : Int32)) (h7 : ¬ k = (7 : Int32)) (h8 : ¬ k = (8 : Int32)) : ft mc mr mb mf mg ml k i n L = 0 := by
  rw [ft, e_X7_isFault_j15, if_neg h0, if_neg h1, if_neg h2, if_neg h7, if_neg h8, if_pos c]
theorem ftd_0 (h0 : sc ml ml' i) (q0 : f_X7_pitchAt mc mr mf ml i n = f_X7_pitchAt mc mr mf ml' i n') : ft mc mr mb mf mg ml (0 : Int32) i n L = ft mc mr mb mf mg ml' (0 : Int32) i n' L := by
  rw [ft_0, ft_0]
  by_cases c : i = 0
  · subst c
    rw [kind_d h0 q0, show ml (0 : Int32).toNatClampNeg = ml' (0 : Int32).toNatClampNeg from h0]
  · rw [if_neg c, if_neg c]
theorem ftd_1 (h0 : sc ml ml' i) (hm : sc ml ml' (i - (1 : Int32))) (q0 : f_X7_pitchAt mc mr mf ml i n = f_X7_pitchAt mc mr mf ml' i n') : ft mc mr mb mf mg ml (1 : Int32) i n L = ft mc mr mb mf mg ml' (1 : Int32) i n' L := by
  rw [ft_1, ft_1, ends_d h0 hm q0]
theorem ftd_2 (h0 : sc ml ml' i) (q0 : f_X7_pitchAt mc mr mf ml i n = f_X7_pitchAt mc mr mf ml' i n') : ft mc mr mb mf mg ml (2 : Int32) i n L = ft mc mr mb mf mg ml' (2 : Int32) i n' L := by
  rw [ft_2, ft_2, kind_d h0 q0]
theorem ftd_7 (h0 : sc ml ml' i) : ft mc mr mb mf mg ml (7 : Int32) i n L = ft mc mr mb mf mg ml' (7 : Int32) i n' L := by
  rw [ft_7, ft_7, show ml i.toNatClampNeg = ml' i.toNatClampNeg from h0]
theorem ftd_8 (h0 : sc ml ml' i) : ft mc mr mb mf mg ml (8 : Int32) i n L = ft mc mr mb mf mg ml' (8 : Int32) i n' L := by
  rw [ft_8, ft_8, show ml i.toNatClampNeg = ml' i.toNatClampNeg from h0]
theorem ftd_3 (h0 : sc ml ml' i) (hm : sc ml ml' (i - (1 : Int32))) (hm2 : sc ml ml' (i - (1 : Int32) - (1 : Int32))) (qm : f_X7_pitchAt mc mr mf ml (i - (1 : Int32)) n = f_X7_pitchAt mc mr mf ml' (i - (1 : Int32)) n') : ft mc mr mb mf mg ml (3 : Int32) i n L = ft mc mr mb mf mg ml' (3 : Int32) i n' L := by
  by_cases c : i = 0
  · rw [ft_i0 c (by decide) (by decide) (by decide) (by decide) (by decide), ft_i0 c (by decide) (by decide) (by decide) (by decide) (by decide)]
  · rw [ft_3 c, ft_3 c, passes_d h0 hm hm2 qm]
theorem ftd_4 (h0 : sc ml ml' i) (hm : sc ml ml' (i - (1 : Int32))) (q0 : f_X7_pitchAt mc mr mf ml i n = f_X7_pitchAt mc mr mf ml' i n') (qm : f_X7_pitchAt mc mr mf ml (i - (1 : Int32)) n = f_X7_pitchAt mc mr mf ml' (i - (1 : Int32)) n') : ft mc mr mb mf mg ml (4 : Int32) i n L = ft mc mr mb mf mg ml' (4 : Int32) i n' L := by
  by_cases c : i = 0
  · rw [ft_i0 c (by decide) (by decide) (by decide) (by decide) (by decide), ft_i0 c (by decide) (by decide) (by decide) (by decide) (by decide)]
  · rw [ft_4 c, ft_4 c, par_d h0 hm q0 qm]
theorem ftd_5 (h0 : sc ml ml' i) (g0 : sc ml ml' (i - mr)) (q0 : f_X7_pitchAt mc mr mf ml i n = f_X7_pitchAt mc mr mf ml' i n') (qg : f_X7_pitchAt mc mr mf ml (i - mr) n = f_X7_pitchAt mc mr mf ml' (i - mr) n') : ft mc mr mb mf mg ml (5 : Int32) i n L = ft mc mr mb mf mg ml' (5 : Int32) i n' L := by
  by_cases c : i = 0
  · rw [ft_i0 c (by decide) (by decide) (by decide) (by decide) (by decide), ft_i0 c (by decide) (by decide) (by decide) (by decide) (by decide)]
  · rw [ft_5 c, ft_5 c, par_d h0 g0 q0 qg]
theorem ftd_6 (h0 : sc ml ml' i) (hm : sc ml ml' (i - (1 : Int32))) (q0 : f_X7_pitchAt mc mr mf ml i n = f_X7_pitchAt mc mr mf ml' i n') : ft mc mr mb mf mg ml (6 : Int32) i n L = ft mc mr mb mf mg ml' (6 : Int32) i n' L := by
  by_cases c : i = 0
  · rw [ft_i0 c (by decide) (by decide) (by decide) (by decide) (by decide), ft_i0 c (by decide) (by decide) (by decide) (by decide) (by decide)]
  · rw [ft_6 c, ft_6 c, hidden_d h0 hm q0]
theorem ftd_9 (h0 : sc ml ml' i) (hm : sc ml ml' (i - (1 : Int32))) : ft mc mr mb mf mg ml (9 : Int32) i n L = ft mc mr mb mf mg ml' (9 : Int32) i n' L := by
  by_cases c : i = 0
  · rw [ft_i0 c (by decide) (by decide) (by decide) (by decide) (by decide), ft_i0 c (by decide) (by decide) (by decide) (by decide) (by decide)]
  · rw [ft_9 c, ft_9 c, move_c h0 hm]
theorem ftd_10 (h0 : sc ml ml' i) (hm : sc ml ml' (i - (1 : Int32))) (q0 : f_X7_pitchAt mc mr mf ml i n = f_X7_pitchAt mc mr mf ml' i n') (qm : f_X7_pitchAt mc mr mf ml (i - (1 : Int32)) n = f_X7_pitchAt mc mr mf ml' (i - (1 : Int32)) n') : ft mc mr mb mf mg ml (10 : Int32) i n L = ft mc mr mb mf mg ml' (10 : Int32) i n' L := by
  by_cases c : i = 0
  · rw [ft_i0 c (by decide) (by decide) (by decide) (by decide) (by decide), ft_i0 c (by decide) (by decide) (by decide) (by decide) (by decide)]
  · rw [ft_10 c, ft_10 c, leaps_d h0 hm q0 qm]
theorem ftd_11 (h0 : sc ml ml' i) (hm : sc ml ml' (i - (1 : Int32))) (hm2 : sc ml ml' (i - (1 : Int32) - (1 : Int32))) : ft mc mr mb mf mg ml (11 : Int32) i n L = ft mc mr mb mf mg ml' (11 : Int32) i n' L := by
  by_cases c : i = 0
  · rw [ft_i0 c (by decide) (by decide) (by decide) (by decide) (by decide), ft_i0 c (by decide) (by decide) (by decide) (by decide) (by decide)]
  · rw [ft_11 c, ft_11 c, unans_c h0 hm hm2]
/-- where nothing is feigned the pitch is that of the note -/
theorem pt_26 : f_X7_pitchAt_j26 ml i = f_X7_pitchOf (ml i.toNatClampNeg) := by
  rw [e_X7_pitchAt_j26, e_X7_pitchAt_j27, if_pos rfl, e_X7_pitchAt_j80, e_X7_pitchAt_j81, if_pos rfl, Int32.add_zero]
theorem pt_pl (h : ¬ i = n - (2 : Int32) ∨ ¬ n = f_X7_most mc mr) : f_X7_pitchAt mc mr mf ml i n = f_X7_pitchOf (ml i.toNatClampNeg) := by
  rw [e_X7_pitchAt]
  split
  · exact pt_26
  · split
    · rename_i hn
      rcases h with h | h
      · rw [if_neg h]
        exact pt_26
      · exact absurd hn h
    · exact pt_26
theorem pt_nf (h : ¬ ml i.toNatClampNeg = ml (i + (1 : Int32)).toNatClampNeg - (1 : Int32)) : f_X7_pitchAt mc mr mf ml i n = f_X7_pitchOf (ml i.toNatClampNeg) := by
  have h27 : f_X7_pitchAt_j27 ml i (1 : Int32) = f_X7_pitchOf (ml i.toNatClampNeg) := by
    rw [e_X7_pitchAt_j27, if_neg (by decide), if_neg h, e_X7_pitchAt_j80, e_X7_pitchAt_j81, if_pos rfl, Int32.add_zero]
  rw [e_X7_pitchAt]
  split
  · exact pt_26
  · split
    · split
      · exact h27
      · exact pt_26
    · exact pt_26
theorem pt_eq (c : sc ml ml' i) (h : ¬ i = n - (2 : Int32) ∨ ¬ n = f_X7_most mc mr) (h' : ¬ i = n' - (2 : Int32) ∨ ¬ n' = f_X7_most mc mr) : f_X7_pitchAt mc mr mf ml i n = f_X7_pitchAt mc mr mf ml' i n' := by
  rw [pt_pl h, pt_pl h', show ml i.toNatClampNeg = ml' i.toNatClampNeg from c]
theorem pt_en (c : sc ml ml' i) (h : ¬ ml i.toNatClampNeg = ml (i + (1 : Int32)).toNatClampNeg - (1 : Int32)) (h' : ¬ ml' i.toNatClampNeg = ml' (i + (1 : Int32)).toNatClampNeg - (1 : Int32)) : f_X7_pitchAt mc mr mf ml i n = f_X7_pitchAt mc mr mf ml' i n' := by
  rw [pt_nf h, pt_nf h', show ml i.toNatClampNeg = ml' i.toNatClampNeg from c]
end
/-! the same by numbers -/
theorem cl_sub {j r : Nat} (hj : j < 53) (hr : r < 5) : (nI j - nI r).toNatClampNeg = j - r := by
  have key : ∀ j, j < 53 → ∀ r, r < 5 → (nI j - nI r).toNatClampNeg = j - r := by decide +kernel
  exact key j hj r hr
theorem cl_s2 {j : Nat} (hj : j < 53) : nI j - (1 : Int32) - (1 : Int32) = nI j - nI 2 := by
  have key : ∀ j, j < 53 → nI j - (1 : Int32) - (1 : Int32) = nI j - nI 2 := by decide +kernel
  exact key j hj
theorem cl_n2 {j r M : Nat} (hj : j < 53) (hr : r < 5) (hM : M < 54) (h : (j : Int) - r ≠ (M : Int) - 2) : ¬ nI j - nI r = nI M - (2 : Int32) := by
  intro e
  have h1 := congrArg Int32.toInt e
  rw [t_sub (by rw [t_n (by omega), t_n (by omega)]; omega) (by rw [t_n (by omega), t_n (by omega)]; omega), t_sub (by rw [t_n (by omega), t_2]; omega) (by rw [t_n (by omega), t_2]; omega), t_n (by omega), t_n (by omega), t_n (by omega), t_2] at h1
  omega
theorem sc_n {ml ml' : Nat → Int32} {j r : Nat} (hj : j < 53) (hr : r < 5) (h : ml (j - r) = ml' (j - r)) : sc ml ml' (nI j - nI r) := by
  rw [sc, cl_sub hj hr]
  exact h
theorem sc_0 {ml ml' : Nat → Int32} {j : Nat} (hj : j < 53) (h : ml j = ml' j) : sc ml ml' (nI j) := by
  rw [sc, nI_clamp (by omega)]
  exact h
theorem mkn_congr {b b' : Nat → Bool} : ∀ n, (∀ k, k < n → b k = b' k) → mkn b n = mkn b' n
  | 0, _ => rfl
  | n + 1, h => by rw [mkn, mkn, mkn_congr n (fun k hk => h k (by omega)), h n (by omega)]
section
variable {mc mr mb mf n n' : Int32} {mg ml ml' : Nat → Int32} {j R N : Nat}
theorem flb_e {k : Nat} (h : ft mc mr mb mf mg ml (nI k) (nI j) n (lst mc mr (nI j)) = ft mc mr mb mf mg ml' (nI k) (nI j) n' (lst mc mr (nI j))) : flb mc mr mb mf mg ml (nI j) n k = flb mc mr mb mf mg ml' (nI j) n' k := by
  rw [flb, flb, h]
/-- the faults of a note hang on three cells and on the pitches there -/
theorem flb_d (hR : mr = nI R) (hR2 : R = 1 ∨ R = 2) (hj : j < 53) (c0 : ml j = ml' j) (c1 : ml (j - 1) = ml' (j - 1)) (c2 : ml (j - 2) = ml' (j - 2)) (q0 : f_X7_pitchAt mc mr mf ml (nI j) n = f_X7_pitchAt mc mr mf ml' (nI j) n') (q1 : f_X7_pitchAt mc mr mf ml (nI j - nI 1) n = f_X7_pitchAt mc mr mf ml' (nI j - nI 1) n') (q2 : R = 2 → f_X7_pitchAt mc mr mf ml (nI j - nI 2) n = f_X7_pitchAt mc mr mf ml' (nI j - nI 2) n') : ∀ k, k < 12 → flb mc mr mb mf mg ml (nI j) n k = flb mc mr mb mf mg ml' (nI j) n' k := by
  have h0 : sc ml ml' (nI j) := sc_0 hj c0
  have hm : sc ml ml' (nI j - (1 : Int32)) := sc_n (r := 1) hj (by omega) c1
  have hm2 : sc ml ml' (nI j - (1 : Int32) - (1 : Int32)) := by
    rw [cl_s2 hj]
    exact sc_n hj (by omega) c2
  have hg : sc ml ml' (nI j - mr) := by
    rw [hR]
    rcases hR2 with e | e <;> subst e
    · exact sc_n hj (by omega) c1
    · exact sc_n hj (by omega) c2
  have qg : f_X7_pitchAt mc mr mf ml (nI j - mr) n = f_X7_pitchAt mc mr mf ml' (nI j - mr) n' := by
    rcases hR2 with e | e <;> subst e
    · rw [show nI j - mr = nI j - nI 1 by rw [hR]]
      exact q1
    · rw [show nI j - mr = nI j - nI 2 by rw [hR]]
      exact q2 rfl
  intro k hk
  rcases (show k = 0 ∨ k = 1 ∨ k = 2 ∨ k = 3 ∨ k = 4 ∨ k = 5 ∨ k = 6 ∨ k = 7 ∨ k = 8 ∨ k = 9 ∨ k = 10 ∨ k = 11 by omega) with rfl | rfl | rfl | rfl | rfl | rfl | rfl | rfl | rfl | rfl | rfl | rfl
  · exact flb_e (ftd_0 h0 q0)
  · exact flb_e (ftd_1 h0 hm q0)
  · exact flb_e (ftd_2 h0 q0)
  · exact flb_e (ftd_3 h0 hm hm2 q1)
  · exact flb_e (ftd_4 h0 hm q0 q1)
  · exact flb_e (ftd_5 h0 hg q0 qg)
  · exact flb_e (ftd_6 h0 hm q0)
  · exact flb_e (ftd_7 h0)
  · exact flb_e (ftd_8 h0)
  · exact flb_e (ftd_9 h0 hm)
  · exact flb_e (ftd_10 h0 hm q0 q1)
  · exact flb_e (ftd_11 h0 hm hm2)
/-- ahead of the last two notes; the number of notes may be the one so far -/
theorem flb_lo (hR : mr = nI R) (hR2 : R = 1 ∨ R = 2) (hN : f_X7_most mc mr = nI N) (hN2 : N < 54) (hj : j + 2 < N) (hn : n = nI N ∨ n = nI (j + 1)) (hn' : n' = nI N ∨ n' = nI (j + 1)) (c0 : ml j = ml' j) (c1 : ml (j - 1) = ml' (j - 1)) (c2 : ml (j - 2) = ml' (j - 2)) : ∀ k, k < 12 → flb mc mr mb mf mg ml (nI j) n k = flb mc mr mb mf mg ml' (nI j) n' k := by
  have key : ∀ m r, (m = nI N ∨ m = nI (j + 1)) → r < 5 → ¬ nI j - nI r = m - (2 : Int32) ∨ ¬ m = f_X7_most mc mr := by
    intro m r hm hr
    rcases hm with e | e
    · refine Or.inl ?_
      rw [e]
      exact cl_n2 (by omega) hr hN2 (by omega)
    · refine Or.inr ?_
      rw [e, hN, nI_eq (by omega) (by omega)]
      omega
  have q0 : f_X7_pitchAt mc mr mf ml (nI j - nI 0) n = f_X7_pitchAt mc mr mf ml' (nI j - nI 0) n' := pt_eq (sc_n (by omega) (by omega) c0) (key n 0 hn (by omega)) (key n' 0 hn' (by omega))
  rw [show nI j - nI 0 = nI j from Int32.sub_zero _] at q0
  exact flb_d hR hR2 (by omega) c0 c1 c2 q0 (pt_eq (sc_n (by omega) (by omega) c1) (key n 1 hn (by omega)) (key n' 1 hn' (by omega))) (fun _ => pt_eq (sc_n (by omega) (by omega) c2) (key n 2 hn (by omega)) (key n' 2 hn' (by omega)))
/-- the last note -/
theorem flb_la (hR : mr = nI R) (hR2 : R = 1 ∨ R = 2) (hN : N < 54) (h2 : 2 ≤ N) (c0 : ml (N - 1) = ml' (N - 1)) (c1 : ml (N - 2) = ml' (N - 2)) (c2 : ml (N - 3) = ml' (N - 3)) : ∀ k, k < 12 → flb mc mr mb mf mg ml (nI (N - 1)) (nI N) k = flb mc mr mb mf mg ml' (nI (N - 1)) (nI N) k := by
  have hn : ∀ r, r < 5 → r ≠ 1 → ¬ nI (N - 1) - nI r = nI N - (2 : Int32) := fun r hr h1 => cl_n2 (by omega) hr hN (by omega)
  have q0 : f_X7_pitchAt mc mr mf ml (nI (N - 1) - nI 0) (nI N) = f_X7_pitchAt mc mr mf ml' (nI (N - 1) - nI 0) (nI N) := pt_eq (sc_n (by omega) (by omega) c0) (Or.inl (hn 0 (by omega) (by omega))) (Or.inl (hn 0 (by omega) (by omega)))
  rw [show nI (N - 1) - nI 0 = nI (N - 1) from Int32.sub_zero _] at q0
  have e1 : nI (N - 1) - nI 1 = nI (N - 2) := by
    rw [nI_minus (by omega), show N - 1 - 1 = N - 2 by omega]
  have e2 : nI (N - 2) + (1 : Int32) = nI (N - 1) := by
    rw [show (1 : Int32) = nI 1 from rfl, ← nI_plus, show N - 2 + 1 = N - 1 by omega]
  have q1 : f_X7_pitchAt mc mr mf ml (nI (N - 1) - nI 1) (nI N) = f_X7_pitchAt mc mr mf ml' (nI (N - 1) - nI 1) (nI N) := by
    rw [e1]
    exact pitch_c (sc_0 (by omega) c1) (by rw [e2]; exact sc_0 (by omega) c0)
  exact flb_d hR hR2 (by omega) c0 (by rw [show N - 1 - 1 = N - 2 by omega]; exact c1) (by rw [show N - 1 - 2 = N - 3 by omega]; exact c2) q0 q1 (fun _ => pt_eq (sc_n (by omega) (by omega) (by rw [show N - 1 - 2 = N - 3 by omega]; exact c2)) (Or.inl (hn 2 (by omega) (by omega))) (Or.inl (hn 2 (by omega) (by omega))))
/-- the note ahead of the last one: what the last one tells of it is whether it is feigned -/
theorem flb_pe (hR : mr = nI R) (hR2 : R = 1 ∨ R = 2) (hN : N < 54) (h2 : 2 ≤ N) (c0 : ml (N - 2) = ml' (N - 2)) (c1 : ml (N - 3) = ml' (N - 3)) (c2 : ml (N - 4) = ml' (N - 4)) (c3 : ml (N - 1) = ml' (N - 1) ∨ ¬ ml (N - 2) = ml (N - 1) - (1 : Int32) ∧ ¬ ml' (N - 2) = ml' (N - 1) - (1 : Int32)) : ∀ k, k < 12 → flb mc mr mb mf mg ml (nI (N - 2)) (nI N) k = flb mc mr mb mf mg ml' (nI (N - 2)) (nI N) k := by
  have hn : ∀ r, r < 5 → 0 < r → ¬ nI (N - 2) - nI r = nI N - (2 : Int32) := fun r hr h1 => cl_n2 (by omega) hr hN (by omega)
  have e2 : nI (N - 2) + (1 : Int32) = nI (N - 1) := by
    rw [show (1 : Int32) = nI 1 from rfl, ← nI_plus, show N - 2 + 1 = N - 1 by omega]
  have e3 : N - 2 - 1 = N - 3 := by omega
  have e4 : N - 2 - 2 = N - 4 := by omega
  have q0 : f_X7_pitchAt mc mr mf ml (nI (N - 2)) (nI N) = f_X7_pitchAt mc mr mf ml' (nI (N - 2)) (nI N) := by
    rcases c3 with c3 | ⟨c3, c4⟩
    · exact pitch_c (sc_0 (by omega) c0) (by rw [e2]; exact sc_0 (by omega) c3)
    · exact pt_en (sc_0 (by omega) c0) (by rw [e2, nI_clamp (by omega), nI_clamp (by omega)]; exact c3) (by rw [e2, nI_clamp (by omega), nI_clamp (by omega)]; exact c4)
  exact flb_d hR hR2 (by omega) c0 (by rw [e3]; exact c1) (by rw [e4]; exact c2) q0 (pt_eq (sc_n (by omega) (by omega) (by rw [e3]; exact c1)) (Or.inl (hn 1 (by omega) (by omega))) (Or.inl (hn 1 (by omega) (by omega)))) (fun _ => pt_eq (sc_n (by omega) (by omega) (by rw [e4]; exact c2)) (Or.inl (hn 2 (by omega) (by omega))) (Or.inl (hn 2 (by omega) (by omega))))
/-- the note ahead of the last one, but the last law: the note two ahead is not read -/
theorem flb_p3 (hm : mok mc mr) (hR : mr = nI R) (hR2 : R = 1 ∨ R = 2) (hN : f_X7_most mc mr = nI N) (hN2 : N < 54) (h2 : 2 ≤ N) (c0 : ml (N - 2) = ml' (N - 2)) (c1 : ml (N - 3) = ml' (N - 3)) (c3 : ml (N - 1) = ml' (N - 1)) : ∀ k, k < 11 → flb mc mr mb mf mg ml (nI (N - 2)) (nI N) k = flb mc mr mb mf mg ml' (nI (N - 2)) (nI N) k := by
  have e2 : nI (N - 2) + (1 : Int32) = nI (N - 1) := by
    rw [show (1 : Int32) = nI 1 from rfl, ← nI_plus, show N - 2 + 1 = N - 1 by omega]
  have e3 : N - 2 - 1 = N - 3 := by omega
  have hj : N - 2 < 53 := by omega
  have h0 : sc ml ml' (nI (N - 2)) := sc_0 hj c0
  have hm1 : sc ml ml' (nI (N - 2) - (1 : Int32)) := sc_n (r := 1) hj (by omega) (by rw [e3]; exact c1)
  have q0 : f_X7_pitchAt mc mr mf ml (nI (N - 2)) (nI N) = f_X7_pitchAt mc mr mf ml' (nI (N - 2)) (nI N) := pitch_c h0 (by rw [e2]; exact sc_0 (by omega) c3)
  have q1 : f_X7_pitchAt mc mr mf ml (nI (N - 2) - nI 1) (nI N) = f_X7_pitchAt mc mr mf ml' (nI (N - 2) - nI 1) (nI N) := pt_eq (sc_n (by omega) (by omega) (by rw [e3]; exact c1)) (Or.inl (cl_n2 (by omega) (by omega) hN2 (by omega))) (Or.inl (cl_n2 (by omega) (by omega) hN2 (by omega)))
  have ks1 : ∀ j, j < 53 → ¬ f_X7_isStrong (nI 1) (nI j) = 0 := by decide +kernel
  have ks2 : ∀ j, j < 53 → j % 2 = 1 → f_X7_isStrong (nI 2) (nI j) = 0 ∧ (1 ≤ j → ¬ f_X7_isStrong (nI 2) (nI j - (1 : Int32)) = 0) := by decide +kernel
  have ks3 : ∀ j, j < 53 → 1 ≤ j → ¬ f_X7_isStrong (nI 1) (nI j - (1 : Int32)) = 0 := by decide +kernel
  have hpar : R = 2 → (N - 2) % 2 = 1 ∨ N = 2 := by
    intro e
    subst e
    obtain ⟨g, hg, rfl⟩ := t_nI (i := mc) (n := 15) hm.2.1 (by have := hm.2.2; omega) (by omega)
    rw [hR, most_nI 2 (by simp) g (by omega)] at hN
    rw [nI_eq (by split <;> omega) (by omega)] at hN
    split at hN <;> omega
  have hnz : ¬ N = 2 → ¬ nI (N - 2) = 0 := by
    intro h e
    rw [show (0 : Int32) = nI 0 from rfl, nI_eq (by omega) (by omega)] at e
    omega
  have p3 : ∀ u : Nat → Int32, ¬ N = 2 → f_X7_passesBadly mc mr mf mg u (nI (N - 2)) (nI N) = 0 := by
    intro u h
    have hs : ¬ f_X7_isStrong mr (nI (N - 2) - (1 : Int32)) = 0 := by
      rw [hR]
      rcases hR2 with e | e
      · subst e
        exact ks3 _ hj (by omega)
      · subst e
        exact (ks2 _ hj ((hpar rfl).resolve_right h)).2 (by omega)
    rw [e_X7_passesBadly, if_neg hs]
    split <;> rw [e_X7_passesBadly_j31, e_X7_passesBadly_j32, if_pos rfl]
  have p5 : ∀ u : Nat → Int32, ∀ L, ¬ N = 2 → ft mc mr mb mf mg u (5 : Int32) (nI (N - 2)) (nI N) L = 0 := by
    intro u L h
    rw [ft_5 (hnz h)]
    rcases hR2 with e | e
    · subst e
      rw [hR, if_pos (by decide)]
    · subst e
      rw [hR, if_neg (by decide), if_pos (ks2 _ hj ((hpar rfl).resolve_right h)).1]
  intro k hk
  rcases (show k = 0 ∨ k = 1 ∨ k = 2 ∨ k = 3 ∨ k = 4 ∨ k = 5 ∨ k = 6 ∨ k = 7 ∨ k = 8 ∨ k = 9 ∨ k = 10 by omega) with rfl | rfl | rfl | rfl | rfl | rfl | rfl | rfl | rfl | rfl | rfl
  · exact flb_e (ftd_0 h0 q0)
  · exact flb_e (ftd_1 h0 hm1 q0)
  · exact flb_e (ftd_2 h0 q0)
  · refine flb_e (show ft mc mr mb mf mg ml (3 : Int32) _ _ _ = ft mc mr mb mf mg ml' (3 : Int32) _ _ _ from ?_)
    by_cases h : N = 2
    · rw [ft_i0 (by rw [h]; rfl) (by decide) (by decide) (by decide) (by decide) (by decide), ft_i0 (by rw [h]; rfl) (by decide) (by decide) (by decide) (by decide) (by decide)]
    · rw [ft_3 (hnz h), ft_3 (hnz h), p3 ml h, p3 ml' h]
  · exact flb_e (ftd_4 h0 hm1 q0 q1)
  · refine flb_e (show ft mc mr mb mf mg ml (5 : Int32) _ _ _ = ft mc mr mb mf mg ml' (5 : Int32) _ _ _ from ?_)
    by_cases h : N = 2
    · rw [ft_i0 (by rw [h]; rfl) (by decide) (by decide) (by decide) (by decide) (by decide), ft_i0 (by rw [h]; rfl) (by decide) (by decide) (by decide) (by decide) (by decide)]
    · rw [p5 ml _ h, p5 ml' _ h]
  · exact flb_e (ftd_6 h0 hm1 q0)
  · exact flb_e (ftd_7 h0)
  · exact flb_e (ftd_8 h0)
  · exact flb_e (ftd_9 h0 hm1)
  · exact flb_e (ftd_10 h0 hm1 q0 q1)
/-- the last law hangs on the three notes alone -/
theorem flb_11 (hj : j < 53) (c0 : ml j = ml' j) (c1 : ml (j - 1) = ml' (j - 1)) (c2 : ml (j - 2) = ml' (j - 2)) : flb mc mr mb mf mg ml (nI j) n 11 = flb mc mr mb mf mg ml' (nI j) n' 11 :=
  flb_e (ftd_11 (sc_0 hj c0) (sc_n (r := 1) hj (by omega) c1) (by rw [cl_s2 hj]; exact sc_n hj (by omega) c2))
end
