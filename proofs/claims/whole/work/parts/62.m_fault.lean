/-! ===== the class's set of faults at a note, law by law, is the model's ===== -/
def ob (b v : Int32) : Int32 := if b = 0 then 0 else v
theorem ob_0 {v : Int32} : ob (0 : Int32) v = 0 := if_pos rfl
theorem ob_1 {v : Int32} : ob (1 : Int32) v = v := if_neg (by decide)
theorem or_ob0 {x v : Int32} : x ||| ob (0 : Int32) v = x := by rw [ob_0, Int32.or_zero]
theorem or_ob1 {x v : Int32} : x ||| ob (1 : Int32) v = x ||| v := by rw [ob_1]
theorem sub0 {a b : Int32} : a - b = 0 ↔ a = b := by
  rw [sub_iff, Int32.sub_zero]
  exact ⟨Eq.symm, Eq.symm⟩
/-- 1 at the last note that a line can have -/
def lst (mc mr i : Int32) : Int32 := if i = f_X7_most mc mr - (1 : Int32) then (1 : Int32) else (0 : Int32)
theorem fault_l {mc mr mb mf p0 p1 p2 : Int32} {mg ml : Nat → Int32} : f_X7_isFault mc mr mb mf mg ml p0 p1 p2 = f_X7_isFault_j15 mc mr mb mf mg ml p0 p1 p2 (lst mc mr p1) := by
  rw [e_X7_isFault, lst]
  split <;> rfl
theorem lst_01 (mc mr i : Int32) : lst mc mr i = 0 ∨ lst mc mr i = 1 := by
  rw [lst]
  split
  · exact Or.inr rfl
  · exact Or.inl rfl
section
variable {mc mr mb mf i tc L : Int32} {mg ml : Nat → Int32}
abbrev ft (mc mr mb mf : Int32) (mg ml : Nat → Int32) (k i tc L : Int32) : Int32 := f_X7_isFault_j15 mc mr mb mf mg ml k i tc L
theorem ft_0 : ft mc mr mb mf mg ml (0 : Int32) i tc L = (if i = 0 then (if (1 : Int32) < (f_X7_kindAt mc mr mf mg ml (0 : Int32) tc) then (1 : Int32) else (if (f_X7_kindAt mc mr mf mg ml (0 : Int32) tc) = (1 : Int32) then (if (f_X7_givenOf mr mg i) ≤ (ml (0 : Int32).toNatClampNeg) then (0 : Int32) else (1 : Int32)) else (0 : Int32))) else (0 : Int32)) := by
  rw [ft, e_X7_isFault_j15, if_pos rfl]
theorem ft_1 : ft mc mr mb mf mg ml (1 : Int32) i tc L = (if L = 0 then (0 : Int32) else (if (f_X7_endsBadly mc mr mf mg ml i tc) = 0 then (0 : Int32) else (1 : Int32))) := by
  rw [ft, e_X7_isFault_j15, if_neg (by decide), if_pos rfl]
theorem ft_2 : ft mc mr mb mf mg ml (2 : Int32) i tc L = (if (f_X7_isStrong mr i) = 0 then (0 : Int32) else (if (f_X7_kindAt mc mr mf mg ml i tc) = (3 : Int32) then (1 : Int32) else (0 : Int32))) := by
  rw [ft, e_X7_isFault_j15, if_neg (by decide), if_neg (by decide), if_pos rfl]
theorem ft_7 : ft mc mr mb mf mg ml (7 : Int32) i tc L = (if mb = 0 then (if (f_X7_givenOf mr mg i) ≤ (ml i.toNatClampNeg) then (0 : Int32) else (1 : Int32)) else (if (ml i.toNatClampNeg) ≤ (f_X7_givenOf mr mg i) then (0 : Int32) else (1 : Int32))) := by
  rw [ft, e_X7_isFault_j15, if_neg (by decide), if_neg (by decide), if_neg (by decide), if_pos rfl]
theorem ft_8 : ft mc mr mb mf mg ml (8 : Int32) i tc L = (if i ≤ 0 then (0 : Int32) else (if L = 0 then (if (ml i.toNatClampNeg) = (f_X7_givenOf mr mg i) then (1 : Int32) else (0 : Int32)) else (0 : Int32))) := by
  rw [ft, e_X7_isFault_j15, if_neg (by decide), if_neg (by decide), if_neg (by decide), if_neg (by decide), if_pos rfl]
theorem ft_3 (h : ¬ i = 0) : ft mc mr mb mf mg ml (3 : Int32) i tc L = f_X7_passesBadly mc mr mf mg ml i tc := by
  rw [ft, e_X7_isFault_j15, if_neg (by decide), if_neg (by decide), if_neg (by decide), if_neg (by decide), if_neg (by decide), if_neg h, if_pos rfl]
theorem ft_4 (h : ¬ i = 0) : ft mc mr mb mf mg ml (4 : Int32) i tc L = f_X7_isParallel mc mr mf mg ml i (i - (1 : Int32)) tc := by
  rw [ft, e_X7_isFault_j15, if_neg (by decide), if_neg (by decide), if_neg (by decide), if_neg (by decide), if_neg (by decide), if_neg h, if_neg (by decide), if_pos rfl]
theorem ft_5 (h : ¬ i = 0) : ft mc mr mb mf mg ml (5 : Int32) i tc L = (if mr ≤ (1 : Int32) then (0 : Int32) else (if (f_X7_isStrong mr i) = 0 then (0 : Int32) else (if (f_X7_isParallel mc mr mf mg ml i (i - mr) tc) = 0 then (0 : Int32) else (1 : Int32)))) := by
  rw [ft, e_X7_isFault_j15, if_neg (by decide), if_neg (by decide), if_neg (by decide), if_neg (by decide), if_neg (by decide), if_neg h, if_neg (by decide), if_neg (by decide), if_pos rfl]
theorem ft_6 (h : ¬ i = 0) : ft mc mr mb mf mg ml (6 : Int32) i tc L = f_X7_isHidden mc mr mf mg ml i tc := by
  rw [ft, e_X7_isFault_j15, if_neg (by decide), if_neg (by decide), if_neg (by decide), if_neg (by decide), if_neg (by decide), if_neg h, if_neg (by decide), if_neg (by decide), if_neg (by decide), if_pos rfl]
theorem ft_9 (h : ¬ i = 0) : ft mc mr mb mf mg ml (9 : Int32) i tc L = (if (f_X7_move ml i) = 0 then (1 : Int32) else (0 : Int32)) := by
  rw [ft, e_X7_isFault_j15, if_neg (by decide), if_neg (by decide), if_neg (by decide), if_neg (by decide), if_neg (by decide), if_neg h, if_neg (by decide), if_neg (by decide), if_neg (by decide), if_neg (by decide), if_pos rfl]
theorem ft_10 (h : ¬ i = 0) : ft mc mr mb mf mg ml (10 : Int32) i tc L = f_X7_leapsBadly mc mr mf ml i tc := by
  rw [ft, e_X7_isFault_j15, if_neg (by decide), if_neg (by decide), if_neg (by decide), if_neg (by decide), if_neg (by decide), if_neg h, if_neg (by decide), if_neg (by decide), if_neg (by decide), if_neg (by decide), if_neg (by decide), if_pos rfl]
theorem ft_11 (h : ¬ i = 0) : ft mc mr mb mf mg ml (11 : Int32) i tc L = (if i ≤ (1 : Int32) then (0 : Int32) else (if (f_X7_isUnanswered ml i) = 0 then (0 : Int32) else (1 : Int32))) := by
  rw [ft, e_X7_isFault_j15, if_neg (by decide), if_neg (by decide), if_neg (by decide), if_neg (by decide), if_neg (by decide), if_neg h, if_neg (by decide), if_neg (by decide), if_neg (by decide), if_neg (by decide), if_neg (by decide), if_neg (by decide)]
end
section
variable {gs gf gb mc mr mf mb i tc L : Int32} {gv tv mg ml : Nat → Int32}
/-- the number of the note against the given one's -/
theorem ab_le (hl : lnr gs gf gb gv tv mc mr mf mb mg ml) (hi : mix mr i) : (0 ≤ ml i.toNatClampNeg - f_X7_givenOf mr mg i ↔ f_X7_givenOf mr mg i ≤ ml i.toNatClampNeg) ∧ (ml i.toNatClampNeg - f_X7_givenOf mr mg i ≤ 0 ↔ ml i.toNatClampNeg ≤ f_X7_givenOf mr mg i) := by
  have h1 := (ln_tone hl (mx_in hl.1 hi)).2
  have h2 := gv_b hl hi
  have e : (ml i.toNatClampNeg - f_X7_givenOf mr mg i).toInt = (ml i.toNatClampNeg).toInt - (f_X7_givenOf mr mg i).toInt := t_sub (by omega) (by omega)
  rw [t_le, t_le, t_le, t_le, e, t_0]
  omega
theorem sg_8 (hl : lnr gs gf gb gv tv mc mr mf mb mg ml) (h0 : 0 ≤ i.toInt) (h1 : i.toInt < (f_X7_most mc mr).toInt) (v : Int32) : f_X3_nearFaults_j187 tv mc gs gv i L v = v ||| ob (ft mc mr mb mf mg ml (8 : Int32) i tc L) (256 : Int32) := by
  have hi := lt_mix hl.1 h0 h1
  rw [e_X3_nearFaults_j187, ft_8, (ln_tone hl (mx_in hl.1 hi)).1, ln_against hl h0 h1]
  by_cases c1 : ml i.toNatClampNeg = f_X7_givenOf mr mg i
  · rw [if_pos (sub0.mpr c1), if_pos c1]
    split
    · rw [or_ob0]
    · split
      · rw [or_ob1]
      · rw [or_ob0]
  · rw [if_neg (fun e => c1 (sub0.mp e)), if_neg c1]
    split
    · rw [or_ob0]
    · split <;> rw [or_ob0]
theorem sg_7 (hl : lnr gs gf gb gv tv mc mr mf mb mg ml) (h0 : 0 ≤ i.toInt) (h1 : i.toInt < (f_X7_most mc mr).toInt) (v : Int32) : f_X3_nearFaults_j156 tv mc gs gb gv i L v = f_X3_nearFaults_j187 tv mc gs gv i L (v ||| ob (ft mc mr mb mf mg ml (7 : Int32) i tc L) (128 : Int32)) := by
  have hi := lt_mix hl.1 h0 h1
  obtain ⟨a1, a2⟩ := ab_le hl hi
  rw [e_X3_nearFaults_j156, e_X3_nearFaults_j179, ft_7, (ln_tone hl (mx_in hl.1 hi)).1, ln_against hl h0 h1, e_X1_isBelow, hl.2.2.2.1]
  by_cases c1 : mb = 0
  · rw [if_pos c1, if_pos c1]
    by_cases c2 : f_X7_givenOf mr mg i ≤ ml i.toNatClampNeg
    · rw [if_pos (a1.mpr c2), if_pos c2, or_ob0]
    · rw [if_neg (fun e => c2 (a1.mp e)), if_neg c2, or_ob1]
  · rw [if_neg c1, if_neg c1]
    by_cases c2 : ml i.toNatClampNeg ≤ f_X7_givenOf mr mg i
    · rw [if_pos (a2.mpr c2), if_pos c2, or_ob0]
    · rw [if_neg (fun e => c2 (a2.mp e)), if_neg c2, or_ob1]
theorem sg_2 (hl : lnr gs gf gb gv tv mc mr mf mb mg ml) (h0 : 0 ≤ i.toInt) (h1 : i.toInt < (f_X7_most mc mr).toInt) (v : Int32) : f_X3_nearFaults_j132 tc tv mc gs gb gf gv i L v = f_X3_nearFaults_j156 tv mc gs gb gv i L (v ||| ob (ft mc mr mb mf mg ml (2 : Int32) i tc L) (4 : Int32)) := by
  have hi := lt_mix hl.1 h0 h1
  have hk := kg_diss (ma_gap (tc := tc) hl h0 h1)
  rw [e_X3_nearFaults_j132, ft_2, ma_strong hl.1 hl.2.1 hi]
  by_cases c1 : f_X7_isStrong mr i = 0
  · rw [if_pos c1, if_pos c1, or_ob0]
  · rw [if_neg c1, if_neg c1]
    by_cases c2 : f_X7_kindAt mc mr mf mg ml i tc = (3 : Int32)
    · rw [if_neg (fun e => hk.mp e c2), if_pos c2, or_ob1]
    · rw [if_pos (hk.mpr c2), if_neg c2, or_ob0]
theorem n1_iff {x : Int32} (h : -27 ≤ x.toInt ∧ x.toInt ≤ 27) {n : Nat} (hn : n < 100) : iabs x = nI n ↔ x.toInt.natAbs = n := by
  rw [ma_abs (by omega), nI_eq (by omega) (by omega)]
theorem s1_iff {x : Int32} (h : -27 ≤ x.toInt ∧ x.toInt ≤ 27) {n : Nat} (hn : n < 100) : f_X7_size x = nI n ↔ x.toInt.natAbs = n := by
  rw [ma_size (by omega), nI_eq (by omega) (by omega)]
theorem sg_1 (hl : lnr gs gf gb gv tv mc mr mf mb mg ml) (h0 : 0 ≤ i.toInt) (h1 : i.toInt < (f_X7_most mc mr).toInt) (v : Int32) : f_X3_nearFaults_j107 tc tv mc gs gb gf gv i L v = f_X3_nearFaults_j132 tc tv mc gs gb gf gv i L (v ||| ob (ft mc mr mb mf mg ml (1 : Int32) i tc L) (2 : Int32)) := by
  have hi := lt_mix hl.1 h0 h1
  have hk := kg_unison (ma_gap (tc := tc) hl h0 h1)
  rw [e_X3_nearFaults_j107, e_X3_nearFaults_j126, ft_1, e_X7_endsBadly]
  by_cases cL : L = 0
  · rw [if_pos cL, if_pos cL, or_ob0]
  · rw [if_neg cL, if_neg cL]
    by_cases c1 : f_X7_kindAt mc mr mf mg ml i tc = 0
    · rw [if_neg (fun e => hk.mp e c1), if_pos c1, e_X3_comesByContrarySteps]
      by_cases c2 : i = 0
      · rw [if_pos c2]
        have e1 : f_X3_stepTo tv i = 0 := by
          rw [e_X3_stepTo, c2, if_neg (by decide)]
        rw [e1, if_neg (by decide : ¬ iabs (0 : Int32) = (1 : Int32)), if_pos rfl, if_neg (by decide : ¬ (1 : Int32) = 0), or_ob1]
      · rw [if_neg c2]
        have hi1 := mx_01 hi c2
        obtain ⟨m1, m2⟩ := ma_move hl hi1
        obtain ⟨g1, g2⟩ := ma_gmove hl hi1.1 h1
        rw [m1, g1]
        have q1 := n1_iff (x := f_X7_move ml i) m2 (n := 1) (by omega)
        have q2 := s1_iff (x := f_X7_move ml i) m2 (n := 1) (by omega)
        have q3 := s1_iff (x := f_X7_givenMove mr mg i) g2 (n := 1) (by omega)
        rw [show (nI 1) = (1 : Int32) from rfl] at q1 q2 q3
        by_cases c3 : (f_X7_move ml i).toInt.natAbs = 1
        · rw [if_pos (q1.mpr c3), if_pos (q2.mpr c3)]
          have en : f_X7_givenMove mr mg i = -(f_X7_move ml i) ↔ (f_X7_givenMove mr mg i).toInt = -(f_X7_move ml i).toInt := by
            rw [← Int32.toInt_inj, ma_neg (by omega)]
          have ee : f_X7_move ml i = f_X7_givenMove mr mg i ↔ (f_X7_move ml i).toInt = (f_X7_givenMove mr mg i).toInt := Int32.toInt_inj.symm
          by_cases c4 : f_X7_givenMove mr mg i = -(f_X7_move ml i)
          · have c4' := en.mp c4
            have hne : ¬ f_X7_move ml i = f_X7_givenMove mr mg i := fun e => by
              have := ee.mp e
              omega
            rw [if_pos c4, if_neg (by decide : ¬ (1 : Int32) = 0), if_pos (q3.mpr (by omega)), if_neg hne, if_pos rfl, or_ob0]
          · have c4' : ¬ (f_X7_givenMove mr mg i).toInt = -(f_X7_move ml i).toInt := fun e => c4 (en.mpr e)
            rw [if_neg c4, if_pos rfl]
            by_cases c5 : f_X7_size (f_X7_givenMove mr mg i) = (1 : Int32)
            · have c5' := q3.mp c5
              rw [if_pos c5, if_pos (ee.mpr (by omega)), if_neg (by decide : ¬ (1 : Int32) = 0), or_ob1]
            · rw [if_neg c5, if_neg (by decide : ¬ (1 : Int32) = 0), or_ob1]
        · rw [if_neg (fun e => c3 (q1.mp e)), if_neg (fun e => c3 (q2.mp e)), if_pos rfl, if_neg (by decide : ¬ (1 : Int32) = 0), or_ob1]
    · rw [if_pos (hk.mpr c1), if_neg c1, if_neg (by decide : ¬ (1 : Int32) = 0), or_ob1]
end
