/-! ===== how many canons ===== -/
section
variable {tc : Int32} {tv ml : Nat → Int32}
theorem ck_in {v2 : Int32} {K K' : Int32 → Int32} {B : Nat} (hl : ltr tv ml) (hp : 1 ≤ v2.toInt ∧ v2.toInt ≤ 12) (hc : tc.toInt ≤ 53) (hq : v2.toInt ≤ tc.toInt) (hB : B < 2 ^ 31) (hK : ∀ x, x ≤ B → K (nI x) = K' (nI x)) : ∀ (n fu v : Nat) (v4 : Int32), -7 ≤ v4.toInt → v4.toInt + n = 8 → n < fu → v + n ≤ B → f_X0_faultlessCount_l15 tc tv v2 K fu (nI v) v4 = f_X7_canonsUpTo_l22 tc ml (-1 : Int32) v2 K' fu (nI v) v4 := by
  have h8 : (8 : Int32).toInt = 8 := rfl
  intro n
  induction n with
  | zero =>
    intro fu v v4 h0 h1 hf hv
    obtain ⟨fu, rfl⟩ : ∃ f, fu = f + 1 := ⟨fu - 1, by omega⟩
    have c : (8 : Int32) ≤ v4 := by rw [t_le, h8]; omega
    rw [e_X0_faultlessCount_l15, e_X7_canonsUpTo_l22, if_pos (i_m8.mpr c), if_pos c]
    exact hK v (by omega)
  | succ n ih =>
    intro fu v v4 h0 h1 hf hv
    obtain ⟨fu, rfl⟩ : ∃ f, fu = f + 1 := ⟨fu - 1, by omega⟩
    have c : ¬ (8 : Int32) ≤ v4 := by rw [t_le, h8]; omega
    have ha1 : (v4 + (1 : Int32)).toInt = v4.toInt + 1 := t_add (b := (1 : Int32)) (by rw [t_1]; omega) (by rw [t_1]; omega)
    rw [e_X0_faultlessCount_l15, e_X7_canonsUpTo_l22, if_neg (fun e => c (i_m8.mp e)), if_neg c, canon_eq hl hp ⟨h0, by omega⟩ hc hq, e_X0_faultlessCount_j33, e_X0_faultlessCount_j33, e_X7_canonsUpTo_j58, e_X7_canonsUpTo_j58, if_neg (m1_nI (by omega) : ¬ nI v = (-1 : Int32)), ← nI_succ, ih fu (v + 1) (v4 + (1 : Int32)) (by omega) (by omega) (by omega) (by omega), ih fu v (v4 + (1 : Int32)) (by omega) (by omega) (by omega) (by omega)]
/-- how many canons without a fault, class = model -/
theorem canons_eq (hl : ltr tv ml) (h2 : 2 ≤ tc.toInt) (hc : tc.toInt ≤ 53) : f_X0_faultlessCount tc tv = f_X7_canonsUpTo tc ml (-1 : Int32) := by
  have h12 : (12 : Int32).toInt = 12 := rfl
  have key : ∀ (n fu fu' v : Nat) (i : Int32), 1 ≤ i.toInt → i.toInt ≤ 13 → (13 - i.toInt).toNat = n → (i.toInt ≤ tc.toInt) → n < fu ∨ (tc.toInt - i.toInt).toNat < fu → n < fu' ∨ (tc.toInt - i.toInt).toNat < fu' → v + 15 * n < 2 ^ 31 → f_X0_faultlessCount_l4 tc tv fu (nI v) i = f_X7_canonsUpTo_l4 tc ml (-1 : Int32) fu' (nI v) i := by
    intro n
    induction n with
    | zero =>
      intro fu fu' v i h0 h1 hk hi hf hf' hv
      obtain ⟨fu, rfl⟩ : ∃ f, fu = f + 1 := ⟨fu - 1, by omega⟩
      obtain ⟨fu', rfl⟩ : ∃ f, fu' = f + 1 := ⟨fu' - 1, by omega⟩
      have c : (12 : Int32) < i := by rw [t_lt, h12]; omega
      rw [e_X0_faultlessCount_l4, e_X7_canonsUpTo_l4, if_pos ((far_12 h0 h2 hc).mpr (Or.inr c)), if_pos c, e_X7_canonsUpTo_j70, if_pos rfl]
      split <;> rfl
    | succ n ih =>
      intro fu fu' v i h0 h1 hk hi hf hf' hv
      obtain ⟨fu, rfl⟩ : ∃ f, fu = f + 1 := ⟨fu - 1, by omega⟩
      obtain ⟨fu', rfl⟩ : ∃ f, fu' = f + 1 := ⟨fu' - 1, by omega⟩
      have c : ¬ (12 : Int32) < i := by rw [t_lt, h12]; omega
      have ha1 : (i + (1 : Int32)).toInt = i.toInt + 1 := t_add (b := (1 : Int32)) (by rw [t_1]; omega) (by rw [t_1]; omega)
      by_cases ct : tc ≤ i
      · rw [e_X0_faultlessCount_l4, e_X7_canonsUpTo_l4, if_pos ((far_12 h0 h2 hc).mpr (Or.inl ct)), if_pos ct, e_X7_canonsUpTo_j70, if_pos rfl]
      · have ct' := ct
        rw [t_le] at ct'
        rw [e_X0_faultlessCount_l4, e_X7_canonsUpTo_l4, if_neg (fun e => ((far_12 h0 h2 hc).mp e).elim ct c), if_neg ct, if_neg c]
        refine ck_in (B := v + 15) hl ⟨h0, by omega⟩ hc hi (by omega) (fun x hx => ?_) 15 16 v (-7 : Int32) (by decide) (by decide) (by omega) (by omega)
        rw [e_X0_faultlessCount_j39, e_X7_canonsUpTo_j64]
        exact ih fu fu' x _ (by omega) (by omega) (by omega) (by omega) (by omega) (by omega) (by omega)
  have hfar : (13 : Int) - 1 ≤ (f_X0_farthestOf tc).toInt ∨ tc.toInt - 1 ≤ (f_X0_farthestOf tc).toInt := by
    have hs : (tc - (1 : Int32)).toInt = tc.toInt - 1 := t_sub (b := (1 : Int32)) (by rw [t_1]; omega) (by rw [t_1]; omega)
    rw [e_X0_farthestOf, e_X3_length, imin]
    split
    · rw [hs]
      omega
    · rw [h12]
      omega
  rw [e_X0_faultlessCount, e_X7_canonsUpTo]
  exact key _ _ _ 0 _ (by rw [t_1]; omega) (by rw [t_1]; omega) rfl (by rw [t_1]; omega) (by rw [t_1]; omega) (by rw [t_1]; omega) (by rw [t_1]; decide)
end
