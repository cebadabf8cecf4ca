/-! ===== how many canons, and which ===== -/
section
variable {tc : Int32} {tv ml : Nat → Int32}
theorem far_12 {i : Int32} (h0 : 1 ≤ i.toInt) (h2 : 2 ≤ tc.toInt) (h3 : tc.toInt ≤ 53) : f_X0_farthestOf tc < i ↔ (tc ≤ i ∨ (12 : Int32) < i) := by
  have hs : (tc - (1 : Int32)).toInt = tc.toInt - 1 := t_sub (b := (1 : Int32)) (by rw [t_1]; omega) (by rw [t_1]; omega)
  have h12 : (12 : Int32).toInt = 12 := rfl
  rw [e_X0_farthestOf, e_X3_length, imin]
  split
  · rename_i c
    rw [t_lt, hs, h12] at c
    rw [t_lt, t_le, t_lt, h12, hs]
    omega
  · rename_i c
    rw [t_lt, hs, h12] at c
    rw [t_lt, t_le, h12]
    omega
theorem i_m8 {x : Int32} : (7 : Int32) < x ↔ (8 : Int32) ≤ x := by
  have h7 : (7 : Int32).toInt = 7 := rfl
  have h8 : (8 : Int32).toInt = 8 := rfl
  rw [t_lt, t_le, h7, h8]
  omega
/-- the canons at one distance -/
theorem cc_in {v2 P : Int32} {K K' : Int32 → Int32} (hl : ltr tv ml) (hp : 1 ≤ v2.toInt ∧ v2.toInt ≤ 12) (hc : tc.toInt ≤ 53) (hq : v2.toInt ≤ tc.toInt) (hK : ∀ x, K x = K' x) : ∀ (n fu : Nat) (v3 v4 : Int32), -7 ≤ v4.toInt → v4.toInt + n = 8 → n < fu → f_X0_faultlessNumber_l16 tc tv P v2 K fu v3 v4 = f_X7_canonsUpTo_l22 tc ml P v2 K' fu v3 v4 := by
  have h8 : (8 : Int32).toInt = 8 := rfl
  intro n
  induction n with
  | zero =>
    intro fu v3 v4 h0 h1 hf
    obtain ⟨fu, rfl⟩ : ∃ f, fu = f + 1 := ⟨fu - 1, by omega⟩
    have c : (8 : Int32) ≤ v4 := by rw [t_le, h8]; omega
    rw [e_X0_faultlessNumber_l16, e_X7_canonsUpTo_l22, if_pos (i_m8.mpr c), if_pos c]
    exact hK v3
  | succ n ih =>
    intro fu v3 v4 h0 h1 hf
    obtain ⟨fu, rfl⟩ : ∃ f, fu = f + 1 := ⟨fu - 1, by omega⟩
    have c : ¬ (8 : Int32) ≤ v4 := by rw [t_le, h8]; omega
    have ha1 : (v4 + (1 : Int32)).toInt = v4.toInt + 1 := t_add (b := (1 : Int32)) (by rw [t_1]; omega) (by rw [t_1]; omega)
    have i1 := fun v3 => ih fu v3 (v4 + (1 : Int32)) (by omega) (by omega) (by omega)
    rw [e_X0_faultlessNumber_l16, e_X7_canonsUpTo_l22, if_neg (fun e => c (i_m8.mp e)), if_neg c, canon_eq hl hp ⟨h0, by omega⟩ hc hq, e_X0_faultlessNumber_j52, e_X0_faultlessNumber_j52, e_X7_canonsUpTo_j58, e_X7_canonsUpTo_j58, i1, i1]
theorem canonNo_eq {P : Int32} (hl : ltr tv ml) (h2 : 2 ≤ tc.toInt) (hc : tc.toInt ≤ 53) (hP : ¬ P = (-1 : Int32)) : f_X0_faultlessNumber tc tv P = f_X7_canonsUpTo tc ml P := by
  have h12 : (12 : Int32).toInt = 12 := rfl
  have key : ∀ n fu fu' (v1 i : Int32), 1 ≤ i.toInt → i.toInt ≤ 13 → (13 - i.toInt).toNat = n → (i.toInt ≤ tc.toInt) → n < fu ∨ (tc.toInt - i.toInt).toNat < fu → n < fu' ∨ (tc.toInt - i.toInt).toNat < fu' → f_X0_faultlessNumber_l4 tc tv P fu v1 i = f_X7_canonsUpTo_l4 tc ml P fu' v1 i := by
    intro n
    induction n with
    | zero =>
      intro fu fu' v1 i h0 h1 hk hi hf hf'
      obtain ⟨fu, rfl⟩ : ∃ f, fu = f + 1 := ⟨fu - 1, by omega⟩
      obtain ⟨fu', rfl⟩ : ∃ f, fu' = f + 1 := ⟨fu' - 1, by omega⟩
      have c : (12 : Int32) < i := by rw [t_lt, h12]; omega
      rw [e_X0_faultlessNumber_l4, e_X7_canonsUpTo_l4, if_pos ((far_12 h0 h2 hc).mpr (Or.inr c)), if_pos c, e_X7_canonsUpTo_j70, if_neg hP]
      split <;> rfl
    | succ n ih =>
      intro fu fu' v1 i h0 h1 hk hi hf hf'
      obtain ⟨fu, rfl⟩ : ∃ f, fu = f + 1 := ⟨fu - 1, by omega⟩
      obtain ⟨fu', rfl⟩ : ∃ f, fu' = f + 1 := ⟨fu' - 1, by omega⟩
      have c : ¬ (12 : Int32) < i := by rw [t_lt, h12]; omega
      have ha1 : (i + (1 : Int32)).toInt = i.toInt + 1 := t_add (b := (1 : Int32)) (by rw [t_1]; omega) (by rw [t_1]; omega)
      by_cases ct : tc ≤ i
      · rw [e_X0_faultlessNumber_l4, e_X7_canonsUpTo_l4, if_pos ((far_12 h0 h2 hc).mpr (Or.inl ct)), if_pos ct, e_X7_canonsUpTo_j70, if_neg hP]
      · have ct' := ct
        rw [t_le] at ct'
        rw [e_X0_faultlessNumber_l4, e_X7_canonsUpTo_l4, if_neg (fun e => ((far_12 h0 h2 hc).mp e).elim ct c), if_neg ct, if_neg c]
        refine cc_in hl ⟨h0, by omega⟩ hc hi (fun x => ?_) 15 16 v1 (-7 : Int32) (by decide) (by decide) (by omega)
        rw [e_X0_faultlessNumber_j58, e_X7_canonsUpTo_j64]
        exact ih fu fu' x _ (by omega) (by omega) (by omega) (by omega) (by omega) (by omega)
  have hfar : (13 : Int) - 1 ≤ (f_X0_farthestOf tc).toInt ∨ tc.toInt - 1 ≤ (f_X0_farthestOf tc).toInt := by
    have hs : (tc - (1 : Int32)).toInt = tc.toInt - 1 := t_sub (b := (1 : Int32)) (by rw [t_1]; omega) (by rw [t_1]; omega)
    rw [e_X0_farthestOf, e_X3_length, imin]
    split
    · rw [hs]
      omega
    · rw [h12]
      omega
  rw [e_X0_faultlessNumber, e_X7_canonsUpTo]
  exact key _ _ _ _ _ (by rw [t_1]; omega) (by rw [t_1]; omega) rfl (by rw [t_1]; omega) (by rw [t_1]; omega) (by rw [t_1]; omega)
end
