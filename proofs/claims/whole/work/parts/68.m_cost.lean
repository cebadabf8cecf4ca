/-! ===== the cost of a line ===== -/
section
variable {gs gf gb gc tc mc mr mf mb i : Int32} {gv tv mg ml mw wv : Nat → Int32}
theorem flb_f {i n : Int32} {k : Nat} : (f_X7_isFault mc mr mb mf mg ml (nI k) i n = 0) ↔ flb mc mr mb mf mg ml i n k = false := by
  rw [fault_l, flb, decide_eq_false_iff_not]
  exact ⟨fun h e => e h, fun h => Classical.byContradiction h⟩
theorem cn_in {v2 : Int32} {K : Int32 → Int32} : ∀ n k fu v, k + n = 12 → n < fu → f_X7_costNow_l14 mc tc mr mb mf mg ml mw v2 K fu v (nI k) = K (v + tls (wsum mw (flb mc mr mb mf mg ml v2 tc)) n k) := by
  intro n
  induction n with
  | zero =>
    intro k fu v hk hf
    obtain ⟨fu, rfl⟩ : ∃ f, fu = f + 1 := ⟨fu - 1, by omega⟩
    have e : k = 12 := by omega
    subst e
    rw [e_X7_costNow_l14, if_pos (by decide), tls, Int32.add_zero]
  | succ n ih =>
    intro k fu v hk hf
    obtain ⟨fu, rfl⟩ : ∃ f, fu = f + 1 := ⟨fu - 1, by omega⟩
    rw [e_X7_costNow_l14, if_neg (by rw [show (12 : Int32) = nI 12 from rfl]; exact nI_ge (by omega) (by omega)), e_X7_costNow_j44, e_X7_costNow_j44, ← nI_succ, nI_clamp (by omega), tls, wsum]
    have hb := flb_f (mc := mc) (mr := mr) (mb := mb) (mf := mf) (mg := mg) (ml := ml) (i := v2) (n := tc) (k := k)
    cases hbk : flb mc mr mb mf mg ml v2 tc k
    · rw [if_pos (hb.mpr hbk), if_neg (by decide), ih (k + 1) fu _ (by omega) (by omega), Int32.add_zero, Int32.zero_add]
    · rw [if_neg (fun e => by rw [hb.mp e] at hbk; cases hbk), if_pos rfl, ih (k + 1) fu _ (by omega) (by omega), Int32.add_assoc]
theorem most_53 (hm : mok mc mr) : (f_X7_most mc mr).toInt ≤ 53 := by
  obtain ⟨hr, h0, h1⟩ := hm
  have hc : ∃ c : Nat, c < 15 ∧ mc = nI c := t_nI h0 (by omega) (by omega)
  obtain ⟨c, hc, rfl⟩ := hc
  have k1 : ∀ c, c < 15 → (f_X7_most (nI c) 1).toInt ≤ 53 := by decide +kernel
  have k2 : ∀ c, c < 15 → (f_X7_most (nI c) 2).toInt ≤ 53 := by decide +kernel
  have k4 : ∀ c, c < 15 → (f_X7_most (nI c) 4).toInt ≤ 53 := by decide +kernel
  rcases hr with rfl | rfl | rfl
  · exact k1 c hc
  · exact k2 c hc
  · exact k4 c hc
theorem cost_eq (hl : lnr gs gf gb gv tv mc mr mf mb mg ml) (hw : ∀ j, j < 12 → wv j = mw j) (hn : mnb mc mr tc) : f_X6_cost tc tv mc gs gb gf gv wv = f_X7_costNow mc tc mr mb mf mg ml mw := by
  have h53 := most_53 hl.1
  have key : ∀ n fu fu' (v v2 : Int32), 0 ≤ v2.toInt → v2.toInt ≤ tc.toInt → (tc.toInt - v2.toInt).toNat = n → n < fu → n < fu' → f_X3_costBetween_l10 tc tv mc gs gb gf gv wv (tc - (1 : Int32)) fu v v2 = f_X7_costNow_l4 mc tc mr mb mf mg ml mw fu' v v2 := by
    intro n
    induction n with
    | zero =>
      intro fu fu' v v2 h0 h1 hk hf hf'
      obtain ⟨fu, rfl⟩ : ∃ f, fu = f + 1 := ⟨fu - 1, by omega⟩
      obtain ⟨fu', rfl⟩ : ∃ f, fu' = f + 1 := ⟨fu' - 1, by omega⟩
      have hle : tc ≤ v2 := by rw [t_le]; omega
      rw [e_X3_costBetween_l10, e_X7_costNow_l4, if_pos hle, if_pos hle]
      split <;> rfl
    | succ n ih =>
      intro fu fu' v v2 h0 h1 hk hf hf'
      obtain ⟨fu, rfl⟩ : ∃ f, fu = f + 1 := ⟨fu - 1, by omega⟩
      obtain ⟨fu', rfl⟩ : ∃ f, fu' = f + 1 := ⟨fu' - 1, by omega⟩
      have hu := t_up tc
      have hle : ¬ tc ≤ v2 := by rw [t_le]; omega
      have hs : (tc - (1 : Int32)).toInt = tc.toInt - 1 := t_sub (b := (1 : Int32)) (by rw [t_1]; omega) (by rw [t_1]; omega)
      have ha : (v2 + (1 : Int32)).toInt = v2.toInt + 1 := t_add (b := (1 : Int32)) (by rw [t_1]; omega) (by rw [t_1]; omega)
      have hlt : ¬ tc - (1 : Int32) < v2 := by rw [t_lt, hs]; omega
      rw [e_X3_costBetween_l10, e_X7_costNow_l4, if_neg hlt, if_neg hle, if_neg hle, show (0 : Int32) = nI 0 from rfl, cn_in 12 0 13 v rfl (by omega), e_X7_costNow_j52, at_mk hl h0 (by have := hn.2; omega), cost_mk, tls_congr (f := wsum wv (flb mc mr mb mf mg ml v2 tc)) (g := wsum mw (flb mc mr mb mf mg ml v2 tc)) 12 0 (fun j _ h => by rw [wsum, wsum, hw j (by omega)])]
      exact ih fu fu' _ _ (by omega) (by omega) (by omega) (by omega) (by omega)
  rw [e_X6_cost, e_X3_costBetween, e_X7_costNow, e_X3_length, show imax (0 : Int32) (0 : Int32) = 0 from by decide]
  exact key _ _ _ _ _ (by rw [t_0]; omega) (by rw [t_0]; exact hn.1) rfl (by omega) (by omega)
end
