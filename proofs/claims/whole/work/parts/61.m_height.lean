/-! ===== heights, intervals and moves at a note: the same in both ===== -/
theorem sub_iff {a b c : Int32} : a - b = c ↔ b = a - c := by
  constructor
  · intro h
    rw [← h]
    apply ma_inj
    rw [Int32.toInt_sub, Int32.toInt_sub]
    have h1 := t_up a
    have h2 := t_up b
    rw [Int.sub_bmod_bmod]
    have e : a.toInt - (a.toInt - b.toInt) = b.toInt := by omega
    rw [e]
    exact (Int.bmod_eq_of_le (by omega) (by omega)).symm
  · intro h
    rw [h]
    apply ma_inj
    rw [Int32.toInt_sub, Int32.toInt_sub]
    have h1 := t_up a
    have h2 := t_up c
    rw [Int.sub_bmod_bmod]
    have e : a.toInt - (a.toInt - c.toInt) = c.toInt := by omega
    rw [e]
    exact Int.bmod_eq_of_le (by omega) (by omega)
theorem ln_tone {gs gf gb mc mr mf mb i : Int32} {gv tv mg ml : Nat → Int32} (hl : lnr gs gf gb gv tv mc mr mf mb mg ml) (hi : vp_in i 53) : f_X3_toneAt tv i = ml i.toNatClampNeg ∧ 0 ≤ (ml i.toNatClampNeg).toInt ∧ (ml i.toNatClampNeg).toInt ≤ 27 := by
  obtain ⟨hm, hg, hf, hb, hgv, htv⟩ := hl
  have h53 := vp_in_iff.mp hi
  obtain ⟨j, hj, rfl⟩ := t_nI h53.1 h53.2 (by omega)
  rw [e_X3_toneAt, if_neg (nI_pos (by omega)), if_neg (by rw [show (53 : Int32) = nI 53 from rfl]; exact nI_ge hj (by omega)), nI_clamp (by omega)]
  exact ⟨(htv j hj).1, (htv j hj).2⟩
theorem ln_hp {gs gf gb mc mr mf mb i : Int32} {gv tv mg ml : Nat → Int32} (hl : lnr gs gf gb gv tv mc mr mf mb mg ml) (hi : vp_in i 53) : f_X5_heightOf (ml i.toNatClampNeg) = f_X7_pitchOf (ml i.toNatClampNeg) := by
  have h := (ln_tone hl hi).2
  exact ma_pitch (by omega) (by omega)
theorem ma_height {gs gf gb mc mr mf mb i tc : Int32} {gv tv mg ml : Nat → Int32} (hl : lnr gs gf gb gv tv mc mr mf mb mg ml) (hi : mix mr i) : f_X3_heightAt tc tv mc gs gf i = f_X7_pitchAt mc mr mf ml i tc := by
  have hl0 := hl
  obtain ⟨hm, hg, hf, hb, hgv, htv⟩ := hl
  have hin := mx_in hm hi
  have ht := (ln_tone hl0 hin).1
  have hp := ln_hp hl0 hin
  have hj0 : f_X7_pitchAt_j26 ml i = f_X7_pitchOf (ml i.toNatClampNeg) := by
    rw [e_X7_pitchAt_j26, e_X7_pitchAt_j27, if_pos rfl, e_X7_pitchAt_j80, e_X7_pitchAt_j81, if_pos rfl, Int32.add_zero]
  have hj8 : f_X7_pitchAt_j80 ml i = f_X7_pitchOf (ml i.toNatClampNeg) := by
    rw [e_X7_pitchAt_j80, e_X7_pitchAt_j81, if_pos rfl, Int32.add_zero]
  have hk0 : f_X3_heightAt_j78 tv i = f_X7_pitchOf (ml i.toNatClampNeg) := by
    rw [e_X3_heightAt_j78, e_X3_heightAt_j79, if_pos rfl, ht, hp]
  rw [e_X3_heightAt, e_X7_pitchAt, e_X1_isFeigning, hf, ma_room hm hg, ht, hp, hj0, hk0]
  by_cases h1 : mf = 0
  · rw [if_pos h1, if_pos h1]
  · rw [if_neg h1, if_neg h1]
    by_cases h2 : tc = f_X7_most mc mr
    · by_cases h3 : i = tc - (2 : Int32)
      · rw [if_pos h3, if_pos h2, if_pos h2, if_pos h3]
        have hx := mx_nx hm hi ⟨h2, h3⟩
        have ht1 := (ln_tone hl0 hx).1
        have hp1 := ln_hp hl0 hx
        rw [ht1, hp1, e_X7_pitchAt_j27, if_neg (by decide : ¬ (1 : Int32) = 0), hj8]
        by_cases h4 : ml i.toNatClampNeg = ml (i + (1 : Int32)).toNatClampNeg - (1 : Int32)
        · rw [if_pos h4, if_pos (sub_iff.mpr h4)]
          by_cases h5 : f_X7_pitchOf (ml i.toNatClampNeg) = f_X7_pitchOf (ml (i + (1 : Int32)).toNatClampNeg) - (2 : Int32)
          · rw [if_pos h5, if_pos (sub_iff.mpr h5), e_X3_heightAt_j79, e_X7_pitchAt_j81, if_neg (by decide : ¬ (1 : Int32) = 0), if_neg (by decide : ¬ (1 : Int32) = 0), ht, hp]
          · rw [if_neg h5, if_neg (fun e => h5 (sub_iff.mp e))]
        · rw [if_neg h4, if_neg (fun e => h4 (sub_iff.mp e))]
      · rw [if_neg h3, if_pos h2, if_neg h3]
    · rw [if_neg h2, if_neg h2]
      split <;> rfl
/-- a pitch at a note lies in bounds -/
theorem pa_b {gs gf gb mc mr mf mb i many : Int32} {gv tv mg ml : Nat → Int32} (hl : lnr gs gf gb gv tv mc mr mf mb mg ml) (hi : mix mr i) : -36 ≤ (f_X7_pitchAt mc mr mf ml i many).toInt ∧ (f_X7_pitchAt mc mr mf ml i many).toInt ≤ 85 := by
  have hin := mx_in hl.1 hi
  have h := (ln_tone hl hin).2
  have hb := ma_pb (x := ml i.toNatClampNeg) (by omega) (by omega)
  have key : ∀ v, -36 ≤ (f_X7_pitchAt_j81 ml i v).toInt ∧ (f_X7_pitchAt_j81 ml i v).toInt ≤ 85 := by
    intro v
    rw [e_X7_pitchAt_j81]
    split
    · rw [Int32.add_zero]; omega
    · rw [t_add] <;> rw [t_1] <;> omega
  rw [e_X7_pitchAt, e_X7_pitchAt_j26]
  have k27 : ∀ v, -36 ≤ (f_X7_pitchAt_j27 ml i v).toInt ∧ (f_X7_pitchAt_j27 ml i v).toInt ≤ 85 := by
    intro v
    rw [e_X7_pitchAt_j27, e_X7_pitchAt_j80]
    split
    · exact key _
    · split
      · split
        · exact key _
        · exact key _
      · exact key _
  split
  · exact k27 _
  · split
    · split
      · exact k27 _
      · exact k27 _
    · exact k27 _
theorem gv_b {gs gf gb mc mr mf mb i : Int32} {gv tv mg ml : Nat → Int32} (hl : lnr gs gf gb gv tv mc mr mf mb mg ml) (hi : mix mr i) : 0 ≤ (f_X7_givenOf mr mg i).toInt ∧ (f_X7_givenOf mr mg i).toInt ≤ 27 := by
  have h14 := vp_in_iff.mp (mx_div hl.1 hi)
  obtain ⟨j, hj, e⟩ := t_nI h14.1 h14.2 (by omega)
  rw [e_X7_givenOf, e, nI_clamp (by omega)]
  exact (hl.2.2.2.2.1 j hj).2
theorem ln_against {gs gf gb mc mr mf mb i : Int32} {gv tv mg ml : Nat → Int32} (hl : lnr gs gf gb gv tv mc mr mf mb mg ml) (h0 : 0 ≤ i.toInt) (h1 : i.toInt < (f_X7_most mc mr).toInt) : f_X1_against mc gs gv i = f_X7_givenOf mr mg i := ma_against hl.1 hl.2.1 (fun j hj => (hl.2.2.2.2.1 j hj).1) h0 h1
theorem lt_mix {mc mr i : Int32} (hm : mok mc mr) (h0 : 0 ≤ i.toInt) (h1 : i.toInt < (f_X7_most mc mr).toInt) : mix mr i := ⟨h0, by have := most_b hm; omega⟩
theorem ma_gap {gs gf gb mc mr mf mb i tc : Int32} {gv tv mg ml : Nat → Int32} (hl : lnr gs gf gb gv tv mc mr mf mb mg ml) (h0 : 0 ≤ i.toInt) (h1 : i.toInt < (f_X7_most mc mr).toInt) : KG (f_X7_kindAt mc mr mf mg ml i tc) (f_X3_gapAt tc tv mc gs gf gv i) := by
  have hi := lt_mix hl.1 h0 h1
  have hin := mx_in hl.1 hi
  have ht := ln_tone hl hin
  have hg := gv_b hl hi
  have hp := pa_b (many := tc) hl hi
  have hq := ma_pb (x := f_X7_givenOf mr mg i) (by omega) (by omega)
  rw [e_X7_kindAt, e_X3_gapAt, ht.1, ln_against hl h0 h1, ma_height hl hi, ma_pitch (x := f_X7_givenOf mr mg i) (by omega) (by omega)]
  have h2 := ht.2
  apply ma_kg
  · rw [t_sub] <;> omega
  · rw [t_sub] <;> omega
theorem ma_move {gs gf gb mc mr mf mb i : Int32} {gv tv mg ml : Nat → Int32} (hl : lnr gs gf gb gv tv mc mr mf mb mg ml) (hi : mix1 mr i) : f_X3_stepTo tv i = f_X7_move ml i ∧ -27 ≤ (f_X7_move ml i).toInt ∧ (f_X7_move ml i).toInt ≤ 27 := by
  have h1 := ln_tone hl (mx_in1 hl.1 hi)
  have h2 := ln_tone hl (mx_inp hl.1 hi)
  have h3 : (1 : Int32) ≤ i := by
    rw [t_le, t_1]
    exact hi.1
  rw [e_X3_stepTo, if_pos h3, h1.1, h2.1, e_X7_move]
  refine ⟨rfl, ?_⟩
  rw [t_sub] <;> omega
theorem ma_gmove {gs gf gb mc mr mf mb i : Int32} {gv tv mg ml : Nat → Int32} (hl : lnr gs gf gb gv tv mc mr mf mb mg ml) (h0 : 1 ≤ i.toInt) (h1 : i.toInt < (f_X7_most mc mr).toInt) : f_X1_stepTo mc gs gv i = f_X7_givenMove mr mg i ∧ -27 ≤ (f_X7_givenMove mr mg i).toInt ∧ (f_X7_givenMove mr mg i).toInt ≤ 27 := by
  have hs := mx_sub1 h0
  have h3 : (1 : Int32) ≤ i := by
    rw [t_le, t_1]
    exact h0
  have g1 := gv_b hl (lt_mix hl.1 (by omega) h1)
  have g2 := gv_b hl (i := i - (1 : Int32)) (lt_mix hl.1 (by omega) (by omega))
  rw [e_X1_stepTo, if_pos h3, ln_against hl (by omega) h1, ln_against hl (i := i - (1 : Int32)) (by omega) (by omega), e_X7_givenMove]
  refine ⟨rfl, ?_⟩
  rw [t_sub] <;> omega
