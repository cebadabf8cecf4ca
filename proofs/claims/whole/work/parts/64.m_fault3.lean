section
variable {gs gf gb mc mr mf mb i tc L : Int32} {gv tv mg ml : Nat → Int32}
theorem one_ne : ¬ (1 : Int32) = 0 := by decide
theorem mv_0 : f_X7_move ml i = 0 ↔ ml i.toNatClampNeg = ml (i - (1 : Int32)).toNatClampNeg := by rw [e_X7_move, sub0]
theorem gm_0 : f_X7_givenMove mr mg i = 0 ↔ f_X7_givenOf mr mg i = f_X7_givenOf mr mg (i - (1 : Int32)) := by rw [e_X7_givenMove, sub0]
theorem t0_iff {x : Int32} : x = 0 ↔ x.toInt = 0 := by rw [← Int32.toInt_inj, t_0]
theorem sz_le {x : Int32} (h : -27 ≤ x.toInt ∧ x.toInt ≤ 27) : f_X7_size x ≤ (1 : Int32) ↔ x.toInt.natAbs ≤ 1 := by
  rw [ma_size (by omega), t_le, t_n (by omega), t_1]
  omega
/-- the faults of a move to a perfect interval: p and h -/
theorem sg_p (hl : lnr gs gf gb gv tv mc mr mf mb mg ml) (h0 : 1 ≤ i.toInt) (h1 : i.toInt < (f_X7_most mc mr).toInt) : f_X3_parallels tv mc gs gv i (f_X3_gapAt tc tv mc gs gf gv i) (f_X3_gapAt tc tv mc gs gf gv (i - (1 : Int32))) = ob (ft mc mr mb mf mg ml (4 : Int32) i tc L) (16 : Int32) ||| ob (ft mc mr mb mf mg ml (6 : Int32) i tc L) (64 : Int32) := by
  have hs := mx_sub1 h0
  have hne : ¬ i = 0 := fun e => by
    rw [e, t_0] at h0
    omega
  have hi1 : mix1 mr i := ⟨h0, (lt_mix hl.1 (by omega) h1).2⟩
  have hp := par_iff (tc := tc) (b := i - (1 : Int32)) hl (by omega) h1 (by omega) (by omega)
  have k1 := ma_gap (tc := tc) hl (i := i) (by omega) h1
  have kp := kg_perfect k1
  obtain ⟨m1, m2⟩ := ma_move hl hi1
  obtain ⟨g1, g2⟩ := ma_gmove hl h0 h1
  rw [e_X3_parallels, ft_4 hne, ft_6 hne, hp, m1, g1, e_X7_isHidden, e_X7_isHidden_j34, e_X7_isHidden_j35, e_X7_isHidden_j35]
  by_cases cp : f_X5_isPerfect (f_X3_gapAt tc tv mc gs gf gv i) = 0
  · rw [if_pos cp, if_pos cp, if_pos (kp.mp cp), if_pos (kp.mp cp), ob_0]
    split
    · rw [ob_0]; rfl
    · split <;> (rw [ob_0]; rfl)
  · rw [if_neg cp, if_neg cp, if_neg (fun e => cp (kp.mpr e)), if_neg (fun e => cp (kp.mpr e)), if_pos (rfl : (0 : Int32) = 0), if_neg one_ne]
    by_cases cm : f_X7_move ml i = 0
    · rw [if_pos cm, if_pos (mv_0.mp cm), if_pos (sgn.1.mpr (t0_iff.mp cm)), ob_0, ob_0]; rfl
    · rw [if_neg cm, if_neg (fun e => cm (mv_0.mpr e)), if_neg (fun e => cm (t0_iff.mpr (sgn.1.mp e)))]
      have cm' : ¬ (f_X7_move ml i).toInt = 0 := fun e => cm (t0_iff.mpr e)
      by_cases cg : f_X7_givenMove mr mg i = 0
      · have s0 := sgn.1.mpr (t0_iff.mp cg)
        rw [if_pos cg, if_pos (gm_0.mp cg), ob_0, if_neg (fun e => cm' (sgn.1.mp (e.trans s0))), ob_0]; rfl
      · rw [if_neg cg, if_neg (fun e => cg (gm_0.mpr e))]
        have cg' : ¬ (f_X7_givenMove mr mg i).toInt = 0 := fun e => cg (t0_iff.mpr e)
        have key : ∀ A : Int32, f_X3_parallels_j47 tv mc gs gv i A = A ||| ob (if f_X7_sign (f_X7_move ml i) = f_X7_sign (f_X7_givenMove mr mg i) then (if f_X7_size (f_X7_move ml i) ≤ (1 : Int32) then (0 : Int32) else (1 : Int32)) else (0 : Int32)) (64 : Int32) := by
          intro A
          rw [e_X3_parallels_j47, e_X3_parallels_j68, e_X3_parallels_j68, e_X3_parallels_j78, e_X3_parallels_j78, e_X3_parallels_j78, e_X3_parallels_j78, m1, g1, ma_as (x := f_X7_move ml i) (by omega)]
          by_cases c1 : f_X7_size (f_X7_move ml i) ≤ (1 : Int32)
          · rw [if_pos c1, if_pos c1]
            split <;> rw [or_ob0]
          · rw [if_neg c1, if_neg c1]
            by_cases c2 : f_X7_move ml i ≤ 0
            · rw [if_pos c2]
              rw [t_le, t_0] at c2
              have sm := sgn.2.2.mpr (show (f_X7_move ml i).toInt < 0 by omega)
              by_cases c3 : f_X7_givenMove mr mg i ≤ 0
              · rw [if_pos c3, if_pos rfl]
                rw [t_le, t_0] at c3
                rw [if_pos (sm.trans (sgn.2.2.mpr (show (f_X7_givenMove mr mg i).toInt < 0 by omega)).symm), or_ob1]
              · rw [if_neg c3, if_neg (by decide : ¬ (0 : Int32) = (1 : Int32))]
                rw [t_le, t_0] at c3
                have sg := sgn.2.1.mpr (show 0 < (f_X7_givenMove mr mg i).toInt by omega)
                rw [sm, sg, if_neg (by decide), or_ob0]
            · rw [if_neg c2]
              rw [t_le, t_0] at c2
              have sm := sgn.2.1.mpr (show 0 < (f_X7_move ml i).toInt by omega)
              by_cases c3 : f_X7_givenMove mr mg i ≤ 0
              · rw [if_pos c3, if_neg (by decide : ¬ (1 : Int32) = (0 : Int32))]
                rw [t_le, t_0] at c3
                have sg := sgn.2.2.mpr (show (f_X7_givenMove mr mg i).toInt < 0 by omega)
                rw [sm, sg, if_neg (by decide), or_ob0]
              · rw [if_neg c3, if_pos rfl]
                rw [t_le, t_0] at c3
                rw [if_pos (sm.trans (sgn.2.1.mpr (show 0 < (f_X7_givenMove mr mg i).toInt by omega)).symm), or_ob1]
        rw [key, key]
        by_cases ce : f_X3_gapAt tc tv mc gs gf gv i = f_X3_gapAt tc tv mc gs gf gv (i - (1 : Int32))
        · rw [if_pos ce, if_pos ce, ob_1]
        · rw [if_neg ce, if_neg ce, ob_0]
theorem ft_z {k : Int32} (h : i = 0) (n0 : ¬ k = 0) (n1 : ¬ k = (1 : Int32)) (n2 : ¬ k = (2 : Int32)) (n7 : ¬ k = (7 : Int32)) (n8 : ¬ k = (8 : Int32)) : ft mc mr mb mf mg ml k i tc L = 0 := by
  rw [ft, e_X7_isFault_j15, if_neg n0, if_neg n1, if_neg n2, if_neg n7, if_neg n8, if_pos h]
/-- the first stage of what hangs on a note and the one before -/
theorem sg_0 (hl : lnr gs gf gb gv tv mc mr mf mb mg ml) (h0 : 0 ≤ i.toInt) (h1 : i.toInt < (f_X7_most mc mr).toInt) : f_X3_nearFaults_j24 tc tv mc gs gb gf gv i L = f_X3_nearFaults_j107 tc tv mc gs gb gf gv i L (ob (ft mc mr mb mf mg ml (0 : Int32) i tc L) (1 : Int32) ||| ((ob (ft mc mr mb mf mg ml (4 : Int32) i tc L) (16 : Int32) ||| ob (ft mc mr mb mf mg ml (6 : Int32) i tc L) (64 : Int32)) ||| (ob (ft mc mr mb mf mg ml (9 : Int32) i tc L) (512 : Int32) ||| ob (ft mc mr mb mf mg ml (10 : Int32) i tc L) (1024 : Int32)))) := by
  have hi := lt_mix hl.1 h0 h1
  by_cases c0 : i = 0
  · rw [ft_z (k := (4 : Int32)) c0 (by decide) (by decide) (by decide) (by decide) (by decide), ft_z (k := (6 : Int32)) c0 (by decide) (by decide) (by decide) (by decide) (by decide), ft_z (k := (9 : Int32)) c0 (by decide) (by decide) (by decide) (by decide) (by decide), ft_z (k := (10 : Int32)) c0 (by decide) (by decide) (by decide) (by decide) (by decide), ob_0, ob_0, ob_0, ob_0, or_00 rfl rfl, or_00 rfl rfl, Int32.or_zero]
    have k1 := ma_gap (tc := tc) hl h0 h1
    have kp := kg_perfect k1
    have kf := kg_fifth k1
    obtain ⟨a1, a2⟩ := ab_le hl hi
    rw [e_X3_nearFaults_j24, if_pos (by rw [c0]; decide : i ≤ 0), e_X3_nearFaults_j104, ft_0, if_pos c0, (ln_tone hl (mx_in hl.1 hi)).1, ln_against hl h0 h1]
    rw [c0] at kp kf a1 ⊢
    by_cases c1 : (1 : Int32) < f_X7_kindAt mc mr mf mg ml (0 : Int32) tc
    · have c2 : (2 : Int32) ≤ f_X7_kindAt mc mr mf mg ml (0 : Int32) tc := by
        rw [t_le, t_2]
        rw [t_lt, t_1] at c1
        omega
      rw [if_pos c1, if_pos (kp.mpr c2), ob_1]
    · have c2 : ¬ (2 : Int32) ≤ f_X7_kindAt mc mr mf mg ml (0 : Int32) tc := by
        rw [t_le, t_2]
        rw [t_lt, t_1] at c1
        omega
      rw [if_neg c1, if_neg (fun e => c2 (kp.mp e))]
      by_cases c3 : f_X7_kindAt mc mr mf mg ml (0 : Int32) tc = (1 : Int32)
      · rw [if_pos c3, if_neg (fun e => kf.mp e c3)]
        by_cases c4 : f_X7_givenOf mr mg (0 : Int32) ≤ ml (0 : Int32).toNatClampNeg
        · rw [if_pos c4, if_pos (a1.mpr c4), ob_0]
        · rw [if_neg c4, if_neg (fun e => c4 (a1.mp e)), ob_1]
      · rw [if_neg c3, if_pos (kf.mpr c3), ob_0]
  · have hp := i_pos c0 h0
    have hi1 : mix1 mr i := ⟨hp, hi.2⟩
    rw [e_X3_nearFaults_j24, if_neg (by rw [t_le, t_0]; omega : ¬ i ≤ 0), sg_p (L := L) hl hp h1, sg_m (L := L) hl hi1, ft_0, if_neg c0, ob_0, or_zl]
theorem near_l : f_X3_nearFaults tc tv mc gs gb gf gv i = f_X3_nearFaults_j24 tc tv mc gs gb gf gv i (if i = f_X1_room mc gs - (1 : Int32) then (1 : Int32) else (0 : Int32)) := by
  rw [e_X3_nearFaults]
  split <;> rfl
/-- what hangs on a note and the one before, law by law -/
theorem near_ob (hl : lnr gs gf gb gv tv mc mr mf mb mg ml) (h0 : 0 ≤ i.toInt) (h1 : i.toInt < (f_X7_most mc mr).toInt) : f_X3_nearFaults tc tv mc gs gb gf gv i = ((((ob (ft mc mr mb mf mg ml (0 : Int32) i tc (lst mc mr i)) (1 : Int32) ||| ((ob (ft mc mr mb mf mg ml (4 : Int32) i tc (lst mc mr i)) (16 : Int32) ||| ob (ft mc mr mb mf mg ml (6 : Int32) i tc (lst mc mr i)) (64 : Int32)) ||| (ob (ft mc mr mb mf mg ml (9 : Int32) i tc (lst mc mr i)) (512 : Int32) ||| ob (ft mc mr mb mf mg ml (10 : Int32) i tc (lst mc mr i)) (1024 : Int32)))) ||| ob (ft mc mr mb mf mg ml (1 : Int32) i tc (lst mc mr i)) (2 : Int32)) ||| ob (ft mc mr mb mf mg ml (2 : Int32) i tc (lst mc mr i)) (4 : Int32)) ||| ob (ft mc mr mb mf mg ml (7 : Int32) i tc (lst mc mr i)) (128 : Int32)) ||| ob (ft mc mr mb mf mg ml (8 : Int32) i tc (lst mc mr i)) (256 : Int32) := by
  rw [near_l, ma_room hl.1 hl.2.1, show (if i = f_X7_most mc mr - (1 : Int32) then (1 : Int32) else (0 : Int32)) = lst mc mr i from rfl, sg_0 hl h0 h1, sg_1 hl h0 h1, sg_2 hl h0 h1, sg_7 (tc := tc) hl h0 h1, sg_8 (tc := tc) hl h0 h1]
end
