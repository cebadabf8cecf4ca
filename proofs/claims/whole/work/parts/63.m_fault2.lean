section
variable {gs gf gb mc mr mf mb i tc L : Int32} {gv tv mg ml : Nat → Int32}
theorem or_00 {a b : Int32} (ha : a = 0) (hb : b = 0) : a ||| b = 0 := by
  rw [ha, hb]
  rfl
theorem or_zl {a : Int32} : (0 : Int32) ||| a = a := Int32.zero_or
theorem i_pos (h : ¬ i = 0) (h0 : 0 ≤ i.toInt) : 1 ≤ i.toInt := by
  have := ti_ne h
  rw [t_0] at this
  omega
/-- signs -/
theorem sgn {x : Int32} : (f_X7_sign x = 0 ↔ x.toInt = 0) ∧ (f_X7_sign x = (1 : Int32) ↔ 0 < x.toInt) ∧ (f_X7_sign x = (-1 : Int32) ↔ x.toInt < 0) := by
  rw [e_X7_sign]
  by_cases h : (0 : Int32) ≤ x
  · rw [if_pos h]
    rw [t_le, t_0] at h
    by_cases h2 : x ≤ 0
    · rw [if_pos h2]
      rw [t_le, t_0] at h2
      refine ⟨⟨fun _ => by omega, fun _ => rfl⟩, ⟨fun e => absurd e (by decide), fun e => by omega⟩, ⟨fun e => absurd e (by decide), fun e => by omega⟩⟩
    · rw [if_neg h2]
      rw [t_le, t_0] at h2
      refine ⟨⟨fun e => absurd e (by decide), fun e => by omega⟩, ⟨fun _ => by omega, fun _ => rfl⟩, ⟨fun e => absurd e (by decide), fun e => by omega⟩⟩
  · rw [if_neg h]
    rw [t_le, t_0] at h
    refine ⟨⟨fun e => absurd e (by decide), fun e => by omega⟩, ⟨fun e => absurd e (by decide), fun e => by omega⟩, ⟨fun _ => by omega, fun _ => rfl⟩⟩
theorem sgn3 (x : Int32) : f_X7_sign x = 0 ∨ f_X7_sign x = (1 : Int32) ∨ f_X7_sign x = (-1 : Int32) := by
  rcases Int.lt_trichotomy x.toInt 0 with h | h | h
  · exact Or.inr (Or.inr (sgn.2.2.mpr h))
  · exact Or.inl (sgn.1.mpr h)
  · exact Or.inr (Or.inl (sgn.2.1.mpr h))
/-- the faults of a move: s and t -/
theorem sg_m (hl : lnr gs gf gb gv tv mc mr mf mb mg ml) (hi : mix1 mr i) : f_X3_moves tv i (f_X3_heightAt tc tv mc gs gf i - f_X3_heightAt tc tv mc gs gf (i - (1 : Int32))) = ob (ft mc mr mb mf mg ml (9 : Int32) i tc L) (512 : Int32) ||| ob (ft mc mr mb mf mg ml (10 : Int32) i tc L) (1024 : Int32) := by
  have hne : ¬ i = 0 := fun e => by
    have := hi.1
    rw [e, t_0] at this
    omega
  obtain ⟨m1, m2⟩ := ma_move hl hi
  have b1 := pa_b (many := tc) hl (mx_1m hi)
  have b2 := pa_b (many := tc) hl (mx_1p hl.1 hi)
  rw [e_X3_moves, e_X3_moves_j44, ft_9 hne, ft_10 hne, e_X7_leapsBadly, m1, ma_height hl (mx_1m hi), ma_height hl (mx_1p hl.1 hi)]
  have hd : (f_X7_pitchAt mc mr mf ml i tc - f_X7_pitchAt mc mr mf ml (i - (1 : Int32)) tc).toInt = (f_X7_pitchAt mc mr mf ml i tc).toInt - (f_X7_pitchAt mc mr mf ml (i - (1 : Int32)) tc).toInt := t_sub (by omega) (by omega)
  generalize f_X7_pitchAt mc mr mf ml i tc - f_X7_pitchAt mc mr mf ml (i - (1 : Int32)) tc = d at hd
  rw [ma_as (x := d) (by omega), e_X3_moves_j49, e_X3_moves_j49, m1, ma_as (x := f_X7_move ml i) (by omega)]
  generalize f_X7_size d = sd
  have z9 : f_X7_move ml i = 0 ↔ f_X7_size (f_X7_move ml i) = 0 := by
    rw [show (0 : Int32) = nI 0 from rfl, s1_iff m2 (n := 0) (by omega), ← Int32.toInt_inj]
    rw [show (nI 0).toInt = 0 from rfl]
    omega
  by_cases c0 : f_X7_size (f_X7_move ml i) = 0
  · rw [if_pos c0, if_pos (z9.mpr c0), c0, if_pos (by decide : (0 : Int32) ≤ (1 : Int32)), ob_1, ob_0, Int32.or_zero]
  · rw [if_neg c0, if_neg (fun e => c0 (z9.mp e)), ob_0, or_zl]
    by_cases c1 : f_X7_size (f_X7_move ml i) ≤ (1 : Int32)
    · rw [if_pos c1, if_pos c1, if_pos c1, ob_0]
      split
      · rfl
      · split
        · rfl
        · split <;> rfl
    · rw [if_neg c1, if_neg c1, if_neg c1]
      by_cases c6 : f_X7_size (f_X7_move ml i) = (6 : Int32)
      · rw [if_pos c6, if_pos c6, if_pos c6, ob_1]
        split
        · rfl
        · split
          · rfl
          · split <;> rfl
      · rw [if_neg c6, if_neg c6, if_neg c6]
        by_cases c7 : (7 : Int32) < f_X7_size (f_X7_move ml i)
        · rw [if_pos c7, if_pos c7, if_pos c7, ob_1]
          split
          · rfl
          · split
            · rfl
            · split <;> rfl
        · rw [if_neg c7, if_neg c7, if_neg c7]
          by_cases d6 : sd = (6 : Int32)
          · rw [if_pos d6, if_pos d6, if_neg (by decide : ¬ (1 : Int32) = 0), ob_1]
          · rw [if_neg d6, if_neg d6]
            by_cases d10 : sd = (10 : Int32)
            · rw [if_pos d10, if_pos d10, if_neg (by decide : ¬ (1 : Int32) = 0), ob_1]
            · rw [if_neg d10, if_neg d10]
              by_cases d11 : sd = (11 : Int32)
              · rw [if_pos d11, if_pos d11, if_neg (by decide : ¬ (1 : Int32) = 0), ob_1]
              · rw [if_neg d11, if_neg d11, if_pos rfl, ob_0]
/-- parallels between two notes, as the class asks -/
theorem par_iff (hl : lnr gs gf gb gv tv mc mr mf mb mg ml) (h0 : 0 ≤ i.toInt) (h1 : i.toInt < (f_X7_most mc mr).toInt) {b : Int32} (hb0 : 0 ≤ b.toInt) (hb1 : b.toInt < (f_X7_most mc mr).toInt) : f_X7_isParallel mc mr mf mg ml i b tc = (if f_X5_isPerfect (f_X3_gapAt tc tv mc gs gf gv i) = 0 then (0 : Int32) else (if ml i.toNatClampNeg = ml b.toNatClampNeg then (0 : Int32) else (if f_X7_givenOf mr mg i = f_X7_givenOf mr mg b then (0 : Int32) else (if f_X3_gapAt tc tv mc gs gf gv i = f_X3_gapAt tc tv mc gs gf gv b then (1 : Int32) else (0 : Int32))))) := by
  have k1 := ma_gap (tc := tc) hl h0 h1
  have k2 := ma_gap (tc := tc) hl hb0 hb1
  have kp := kg_perfect k1
  have e41 : ∀ v, f_X7_isParallel_j41 mc mr mf mg ml i b tc v = (if f_X5_isPerfect (f_X3_gapAt tc tv mc gs gf gv i) = 0 then (0 : Int32) else (if v = 0 then (0 : Int32) else (if f_X3_gapAt tc tv mc gs gf gv i = f_X3_gapAt tc tv mc gs gf gv b then (1 : Int32) else (0 : Int32)))) := by
    intro v
    rw [e_X7_isParallel_j41]
    by_cases c1 : (2 : Int32) ≤ f_X7_kindAt mc mr mf mg ml i tc
    · rw [if_pos c1, if_pos (kp.mpr c1)]
    · rw [if_neg c1, if_neg (fun e => c1 (kp.mp e))]
      have ke := kg_eq k1 k2 c1
      by_cases cv : v = 0
      · rw [if_pos cv, if_pos cv]
      · rw [if_neg cv, if_neg cv]
        by_cases c2 : f_X7_kindAt mc mr mf mg ml b tc = f_X7_kindAt mc mr mf mg ml i tc
        · rw [if_pos c2, if_pos (ke.mpr c2)]
        · rw [if_neg c2, if_neg (fun e => c2 (ke.mp e))]
  rw [e_X7_isParallel, e_X7_isParallel_j40, e41, e41, if_pos (rfl : (0 : Int32) = 0), if_neg (by decide : ¬ (1 : Int32) = 0)]
  by_cases cp : f_X5_isPerfect (f_X3_gapAt tc tv mc gs gf gv i) = 0
  · rw [if_pos cp, if_pos cp, if_pos cp]
    split
    · rfl
    · split <;> rfl
  · rw [if_neg cp, if_neg cp, if_neg cp]
end
