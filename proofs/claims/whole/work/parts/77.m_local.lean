/-! ===== what a note's faults read (for mend) ===== -/
section
variable {mc mr mf mb i n k L q : Int32} {mg ml ml' : Nat → Int32}
abbrev sc (ml ml' : Nat → Int32) (x : Int32) : Prop := ml x.toNatClampNeg = ml' x.toNatClampNeg
theorem pitch_c (h0 : sc ml ml' i) (h1 : sc ml ml' (i + (1 : Int32))) : f_X7_pitchAt mc mr mf ml i n = f_X7_pitchAt mc mr mf ml' i n := by
  simp only [e_X7_pitchAt, e_X7_pitchAt_j26, e_X7_pitchAt_j27, e_X7_pitchAt_j80, e_X7_pitchAt_j81, show ml i.toNatClampNeg = ml' i.toNatClampNeg from h0, show ml (i + (1 : Int32)).toNatClampNeg = ml' (i + (1 : Int32)).toNatClampNeg from h1]
theorem kind_c (h0 : sc ml ml' i) (h1 : sc ml ml' (i + (1 : Int32))) : f_X7_kindAt mc mr mf mg ml i n = f_X7_kindAt mc mr mf mg ml' i n := by
  rw [e_X7_kindAt, e_X7_kindAt, pitch_c h0 h1, show ml i.toNatClampNeg = ml' i.toNatClampNeg from h0]
theorem move_c (h0 : sc ml ml' i) (hm : sc ml ml' (i - (1 : Int32))) : f_X7_move ml i = f_X7_move ml' i := by
  rw [e_X7_move, e_X7_move, show ml i.toNatClampNeg = ml' i.toNatClampNeg from h0, show ml (i - (1 : Int32)).toNatClampNeg = ml' (i - (1 : Int32)).toNatClampNeg from hm]
theorem ends_c (h0 : sc ml ml' i) (h1 : sc ml ml' (i + (1 : Int32))) (hm : sc ml ml' (i - (1 : Int32))) : f_X7_endsBadly mc mr mf mg ml i n = f_X7_endsBadly mc mr mf mg ml' i n := by
  rw [e_X7_endsBadly, e_X7_endsBadly, kind_c h0 h1, move_c h0 hm]
theorem passes_c (h0 : sc ml ml' i) (hm : sc ml ml' (i - (1 : Int32))) (hm2 : sc ml ml' (i - (1 : Int32) - (1 : Int32))) : f_X7_passesBadly mc mr mf mg ml i n = f_X7_passesBadly mc mr mf mg ml' i n := by
  have e : i - (1 : Int32) + (1 : Int32) = i := Int32.sub_add_cancel _ _
  have hk : f_X7_kindAt mc mr mf mg ml (i - (1 : Int32)) n = f_X7_kindAt mc mr mf mg ml' (i - (1 : Int32)) n := kind_c hm (by rw [sc, e]; exact h0)
  rw [e_X7_passesBadly, e_X7_passesBadly, hk, e_X7_passesBadly_j31, e_X7_passesBadly_j31, e_X7_passesBadly_j32, e_X7_passesBadly_j32, e_X7_passesBadly_j32, e_X7_passesBadly_j32, move_c h0 hm, move_c hm hm2]
theorem hidden_c (h0 : sc ml ml' i) (h1 : sc ml ml' (i + (1 : Int32))) (hm : sc ml ml' (i - (1 : Int32))) : f_X7_isHidden mc mr mf mg ml i n = f_X7_isHidden mc mr mf mg ml' i n := by
  simp only [e_X7_isHidden, e_X7_isHidden_j34, e_X7_isHidden_j35, kind_c (mc := mc) (mr := mr) (mf := mf) (mg := mg) (n := n) h0 h1, move_c h0 hm]
theorem leaps_c (h0 : sc ml ml' i) (h1 : sc ml ml' (i + (1 : Int32))) (hm : sc ml ml' (i - (1 : Int32))) : f_X7_leapsBadly mc mr mf ml i n = f_X7_leapsBadly mc mr mf ml' i n := by
  have e : i - (1 : Int32) + (1 : Int32) = i := Int32.sub_add_cancel _ _
  have hp : f_X7_pitchAt mc mr mf ml (i - (1 : Int32)) n = f_X7_pitchAt mc mr mf ml' (i - (1 : Int32)) n := pitch_c hm (by rw [sc, e]; exact h0)
  rw [e_X7_leapsBadly, e_X7_leapsBadly, hp, pitch_c h0 h1, move_c h0 hm]
theorem unans_c (h0 : sc ml ml' i) (hm : sc ml ml' (i - (1 : Int32))) (hm2 : sc ml ml' (i - (1 : Int32) - (1 : Int32))) : f_X7_isUnanswered ml i = f_X7_isUnanswered ml' i := by
  rw [e_X7_isUnanswered, e_X7_isUnanswered, move_c h0 hm, move_c hm hm2]
theorem par_c (h0 : sc ml ml' i) (h1 : sc ml ml' (i + (1 : Int32))) (g0 : sc ml ml' q) (g1 : sc ml ml' (q + (1 : Int32))) : f_X7_isParallel mc mr mf mg ml i q n = f_X7_isParallel mc mr mf mg ml' i q n := by
  simp only [e_X7_isParallel, e_X7_isParallel_j40, e_X7_isParallel_j41, kind_c (mc := mc) (mr := mr) (mf := mf) (mg := mg) (n := n) h0 h1, kind_c (mc := mc) (mr := mr) (mf := mf) (mg := mg) (n := n) g0 g1, show ml i.toNatClampNeg = ml' i.toNatClampNeg from h0, show ml q.toNatClampNeg = ml' q.toNatClampNeg from g0]
/-- a fault is the same where the cells that it reads are the same -/
theorem ft_c (h0 : sc ml ml' i) (h1 : sc ml ml' (i + (1 : Int32))) (hm : sc ml ml' (i - (1 : Int32))) (hm2 : sc ml ml' (i - (1 : Int32) - (1 : Int32))) (g0 : sc ml ml' (i - mr)) (g1 : sc ml ml' (i - mr + (1 : Int32))) : ft mc mr mb mf mg ml k i n L = ft mc mr mb mf mg ml' k i n L := by
  have e : i - (1 : Int32) + (1 : Int32) = i := Int32.sub_add_cancel _ _
  have p1 : f_X7_isParallel mc mr mf mg ml i (i - (1 : Int32)) n = f_X7_isParallel mc mr mf mg ml' i (i - (1 : Int32)) n := par_c h0 h1 hm (by rw [sc, e]; exact h0)
  have p2 : f_X7_isParallel mc mr mf mg ml i (i - mr) n = f_X7_isParallel mc mr mf mg ml' i (i - mr) n := par_c h0 h1 g0 g1
  have k0 : f_X7_kindAt mc mr mf mg ml i n = f_X7_kindAt mc mr mf mg ml' i n := kind_c h0 h1
  have hh : ml i.toNatClampNeg = ml' i.toNatClampNeg := h0
  by_cases c : i = 0
  · subst c
    simp only [ft, e_X7_isFault_j15, k0, hh, p1, p2, ends_c (mc := mc) (mr := mr) (mf := mf) (mg := mg) (n := n) h0 h1 hm, passes_c (mc := mc) (mr := mr) (mf := mf) (mg := mg) (n := n) h0 hm hm2, hidden_c (mc := mc) (mr := mr) (mf := mf) (mg := mg) (n := n) h0 h1 hm, leaps_c (mc := mc) (mr := mr) (mf := mf) (n := n) h0 h1 hm, unans_c h0 hm hm2, move_c h0 hm, move_c hm hm2]
  · simp only [ft, e_X7_isFault_j15, if_neg c, k0, hh, p1, p2, ends_c (mc := mc) (mr := mr) (mf := mf) (mg := mg) (n := n) h0 h1 hm, passes_c (mc := mc) (mr := mr) (mf := mf) (mg := mg) (n := n) h0 hm hm2, hidden_c (mc := mc) (mr := mr) (mf := mf) (mg := mg) (n := n) h0 h1 hm, leaps_c (mc := mc) (mr := mr) (mf := mf) (n := n) h0 h1 hm, unans_c h0 hm hm2, move_c h0 hm, move_c hm hm2]
end
