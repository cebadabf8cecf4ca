section
variable {gs gf gb mc mr mf mb i tc L : Int32} {gv tv mg ml : Nat → Int32}
/-- q, behind what comes ahead of it -/
theorem sg_5 (hl : lnr gs gf gb gv tv mc mr mf mb mg ml) (h0 : 2 ≤ i.toInt) (h1 : i.toInt < (f_X7_most mc mr).toInt) (v : Int32) : f_X3_farFaults_j109 tc tv mc gs gf gv i v = v ||| ob (ft mc mr mb mf mg ml (5 : Int32) i tc L) (32 : Int32) := by
  have hi := lt_mix hl.1 (by omega) h1
  have hne : ¬ i = 0 := fun e => by
    rw [e, t_0] at h0
    omega
  have hr := mok_r hl.1
  rw [e_X3_farFaults_j109, ft_5 hne, e_X3_bothMovedSinceStrong, ma_per hl.2.1, ma_strong hl.1 hl.2.1 hi]
  by_cases c1 : mr ≤ (1 : Int32)
  · have e1 : mr = (1 : Int32) := by
      apply ma_inj
      rw [t_le, t_1] at c1
      rw [t_1]
      omega
    rw [if_pos c1, if_pos e1, if_pos rfl, or_ob0]
  · have e1 : ¬ mr = (1 : Int32) := fun e => c1 (by rw [e]; decide)
    rw [if_neg c1, if_neg e1]
    by_cases c2 : f_X7_isStrong mr i = 0
    · have e2 : (if i - mr < 0 then (0 : Int32) else (0 : Int32)) = 0 := by split <;> rfl
      rw [if_pos c2, if_pos c2, or_ob0, e2, if_pos rfl]
    · have hb := mx_str hl.1 hi hne c2
      have hu := t_up i
      have hbl : (i - mr).toInt = i.toInt - mr.toInt := t_sub (by omega) (by omega)
      have hb0 := hb.1
      have hp := par_iff (tc := tc) (b := i - mr) hl (by omega) h1 hb0 (by omega)
      rw [if_neg c2, if_neg c2, if_neg (by rw [t_lt, t_0]; omega : ¬ i - mr < 0), hp, (ln_tone hl (mx_in hl.1 hi)).1, (ln_tone hl (mx_in hl.1 hb)).1, ln_against hl (by omega) h1, ln_against hl (i := i - mr) hb0 (by omega)]
      by_cases c3 : ml i.toNatClampNeg = ml (i - mr).toNatClampNeg
      · rw [if_pos c3, if_pos rfl, if_pos c3]
        split
        · rw [if_pos rfl, or_ob0]
        · rw [if_pos rfl, or_ob0]
      · rw [if_neg c3, if_neg c3]
        by_cases c4 : f_X7_givenOf mr mg i = f_X7_givenOf mr mg (i - mr)
        · rw [if_pos c4, if_pos rfl, if_pos c4]
          split
          · rw [if_pos rfl, or_ob0]
          · rw [if_pos rfl, or_ob0]
        · rw [if_neg c4, if_neg one_ne, if_neg c4]
          by_cases c5 : f_X5_isPerfect (f_X3_gapAt tc tv mc gs gf gv i) = 0
          · rw [if_pos c5, if_pos c5, if_pos rfl, or_ob0]
          · rw [if_neg c5, if_neg c5]
            by_cases c6 : f_X3_gapAt tc tv mc gs gf gv i = f_X3_gapAt tc tv mc gs gf gv (i - mr)
            · rw [if_pos c6, if_pos c6, if_neg one_ne, or_ob1]
            · rw [if_neg c6, if_neg c6, if_pos rfl, or_ob0]
/-- w, ahead of q -/
theorem sg_3 (hl : lnr gs gf gb gv tv mc mr mf mb mg ml) (h0 : 2 ≤ i.toInt) (h1 : i.toInt < (f_X7_most mc mr).toInt) (v : Int32) : f_X3_farFaults_j52 tc tv mc gs gf gv i v = f_X3_farFaults_j109 tc tv mc gs gf gv i (v ||| ob (ft mc mr mb mf mg ml (3 : Int32) i tc L) (8 : Int32)) := by
  have hi := lt_mix hl.1 (by omega) h1
  have hne : ¬ i = 0 := fun e => by
    rw [e, t_0] at h0
    omega
  have hs := mx_sub1 (i := i) (by omega)
  have hi1 : mix1 mr i := ⟨by omega, hi.2⟩
  have hj1 : mix1 mr (i - (1 : Int32)) := ⟨by omega, by have := hi.2; omega⟩
  obtain ⟨m1, m2⟩ := ma_move hl hi1
  obtain ⟨n1, n2⟩ := ma_move hl hj1
  have hk := kg_diss (ma_gap (tc := tc) hl (i := i - (1 : Int32)) (by omega) (by omega))
  have e71 : ∀ w, f_X3_farFaults_j71 tc tv mc gs gf gv i v w = f_X3_farFaults_j109 tc tv mc gs gf gv i (v ||| ob (if w = 0 then (if f_X7_isStrong mr (i - (1 : Int32)) = 0 then (if f_X7_kindAt mc mr mf mg ml (i - (1 : Int32)) tc = (3 : Int32) then (1 : Int32) else (0 : Int32)) else (0 : Int32)) else (0 : Int32)) (8 : Int32)) := by
    intro w
    rw [e_X3_farFaults_j71, ma_strong hl.1 hl.2.1 (mx_1m hj1)]
    by_cases c1 : w = 0
    · rw [if_pos c1, if_pos c1]
      by_cases c2 : f_X7_isStrong mr (i - (1 : Int32)) = 0
      · rw [if_pos c2, if_pos c2]
        by_cases c3 : f_X7_kindAt mc mr mf mg ml (i - (1 : Int32)) tc = (3 : Int32)
        · rw [if_pos c3, if_neg (fun e => hk.mp e c3), or_ob1]
        · rw [if_neg c3, if_pos (hk.mpr c3), or_ob0]
      · rw [if_neg c2, if_neg c2, or_ob0]
    · rw [if_neg c1, if_neg c1, or_ob0]
  rw [e_X3_farFaults_j52, e_X3_farFaults_j70, e71, e71, ft_3 hne, e_X7_passesBadly, e_X7_passesBadly_j31, e_X7_passesBadly_j32, e_X7_passesBadly_j32, if_pos rfl, if_neg one_ne, if_pos rfl, if_neg one_ne, m1, n1, ma_as (x := f_X7_move ml (i - (1 : Int32))) (by omega), if_neg (by rw [t_le, t_1]; omega : ¬ i ≤ (1 : Int32))]
  by_cases c1 : f_X7_size (f_X7_move ml (i - (1 : Int32))) = (1 : Int32)
  · rw [if_pos c1, if_pos c1]
    by_cases c2 : f_X7_move ml i = f_X7_move ml (i - (1 : Int32))
    · rw [if_pos c2, if_pos c2, or_ob0]
      congr 1
      split
      · split
        · rw [or_ob0]
        · rw [or_ob0]
      · rw [or_ob0]
    · rw [if_neg c2, if_neg c2]
  · rw [if_neg c1, if_neg c1]
/-- r, ahead of w -/
theorem sg_11 (hl : lnr gs gf gb gv tv mc mr mf mb mg ml) (h0 : 2 ≤ i.toInt) (h1 : i.toInt < (f_X7_most mc mr).toInt) : f_X3_farFaults tc tv mc gs gf gv i = f_X3_farFaults_j52 tc tv mc gs gf gv i (ob (ft mc mr mb mf mg ml (11 : Int32) i tc L) (2048 : Int32)) := by
  have hi := lt_mix hl.1 (by omega) h1
  have hne : ¬ i = 0 := fun e => by
    rw [e, t_0] at h0
    omega
  have hs := mx_sub1 (i := i) (by omega)
  have hi1 : mix1 mr i := ⟨by omega, hi.2⟩
  have hj1 : mix1 mr (i - (1 : Int32)) := ⟨by omega, by have := hi.2; omega⟩
  obtain ⟨m1, m2⟩ := ma_move hl hi1
  obtain ⟨n1, n2⟩ := ma_move hl hj1
  have z4 : f_X7_size (f_X7_move ml (i - (1 : Int32))) < (4 : Int32) ↔ (f_X7_move ml (i - (1 : Int32))).toInt.natAbs < 4 := by
    rw [ma_size (by omega), t_lt, t_n (by omega), t_4]
    omega
  rw [e_X3_farFaults, e_X3_farFaults_j43, e_X3_farFaults_j43, ft_11 hne, e_X7_isUnanswered, m1, n1, ma_as (x := f_X7_move ml (i - (1 : Int32))) (by omega), if_pos (by rw [t_le, t_2]; omega : (2 : Int32) ≤ i), if_neg (by rw [t_le, t_1]; omega : ¬ i ≤ (1 : Int32))]
  by_cases c1 : f_X7_size (f_X7_move ml (i - (1 : Int32))) < (4 : Int32)
  · rw [if_pos c1, if_pos c1, if_pos rfl, ob_0]
  · rw [if_neg c1, if_neg c1]
    have c1' : ¬ (f_X7_move ml (i - (1 : Int32))).toInt.natAbs < 4 := fun e => c1 (z4.mpr e)
    by_cases c2 : f_X7_move ml (i - (1 : Int32)) ≤ 0
    · rw [if_pos c2]
      rw [t_le, t_0] at c2
      rw [sgn.2.2.mpr (show (f_X7_move ml (i - (1 : Int32))).toInt < 0 by omega), show -(-1 : Int32) = (1 : Int32) by decide]
      by_cases c3 : f_X7_move ml i = (1 : Int32)
      · rw [if_pos c3, if_pos c3, if_pos rfl, ob_0]
      · rw [if_neg c3, if_neg c3, if_neg one_ne, ob_1, or_zl]
    · rw [if_neg c2]
      rw [t_le, t_0] at c2
      rw [sgn.2.1.mpr (show 0 < (f_X7_move ml (i - (1 : Int32))).toInt by omega), show -(1 : Int32) = (-1 : Int32) by decide]
      by_cases c3 : f_X7_move ml i = (-1 : Int32)
      · rw [if_pos c3, if_pos c3, if_pos rfl, ob_0]
      · rw [if_neg c3, if_neg c3, if_neg one_ne, ob_1, or_zl]
/-- what hangs on notes ahead, law by law -/
theorem far_ob (hl : lnr gs gf gb gv tv mc mr mf mb mg ml) (h0 : 0 ≤ i.toInt) (h1 : i.toInt < (f_X7_most mc mr).toInt) : f_X3_farFaults tc tv mc gs gf gv i = (ob (ft mc mr mb mf mg ml (11 : Int32) i tc L) (2048 : Int32) ||| ob (ft mc mr mb mf mg ml (3 : Int32) i tc L) (8 : Int32)) ||| ob (ft mc mr mb mf mg ml (5 : Int32) i tc L) (32 : Int32) := by
  by_cases c2 : 2 ≤ i.toInt
  · rw [sg_11 (L := L) hl c2 h1, sg_3 (L := L) hl c2 h1, sg_5 (L := L) hl c2 h1]
  · have hlow : i ≤ (1 : Int32) := by
      rw [t_le, t_1]
      omega
    rw [e_X3_farFaults, if_neg (by rw [t_le, t_2]; omega : ¬ (2 : Int32) ≤ i)]
    by_cases c0 : i = 0
    · rw [ft_z (k := (11 : Int32)) c0 (by decide) (by decide) (by decide) (by decide) (by decide), ft_z (k := (3 : Int32)) c0 (by decide) (by decide) (by decide) (by decide) (by decide), ft_z (k := (5 : Int32)) c0 (by decide) (by decide) (by decide) (by decide) (by decide), ob_0, ob_0, ob_0]
      rfl
    · have e1 : i = (1 : Int32) := by
        have := i_pos c0 h0
        apply ma_inj
        rw [t_1]
        omega
      have hr := hl.1.1
      rw [ft_11 c0, ft_3 c0, ft_5 c0, if_pos hlow, e_X7_passesBadly, if_pos hlow, e_X7_passesBadly_j31, e_X7_passesBadly_j32, if_pos rfl, ob_0, ob_0]
      have e5 : (if mr ≤ (1 : Int32) then (0 : Int32) else (if (f_X7_isStrong mr i) = 0 then (0 : Int32) else (if (f_X7_isParallel mc mr mf mg ml i (i - mr) tc) = 0 then (0 : Int32) else (1 : Int32)))) = 0 := by
        rw [e1]
        rcases hr with e | e | e <;> subst e
        · rw [if_pos (by decide)]
        · rw [if_neg (by decide), if_pos (by decide)]
        · rw [if_neg (by decide), if_pos (by decide)]
      rw [e5, ob_0]
      rfl
end
