/-! ===== the class's best line is the one found note by note ===== -/
section
variable {W N : Nat} {pd : (Nat → Nat) → Nat → Int}
/-- the last two notes at once are found as one after the other -/
theorem GP_2 (P : PD N pd) {p e d : Nat} {x : Nat → Nat} (hp : p + 2 = N) (h0 : ∀ z, pd z p = 0) (h : GP W N pd p x) (he : e < W) (hd : d < W) (hz : VT W pd (N - p) p x < ZZ) (h1 : EQ2 pd W N x p e d) (h2 : ∀ d', d' < d → ¬ EQ2 pd W N x p e d') (h3 : ∀ e' d', e' < e → d' < W → ¬ EQ2 pd W N x p e' d') : GP W N pd N (lset (lset x p e) (p + 1) d) := by
  have hm : ∀ c, VT W pd (N - p - 1) (p + 1) (lset x p c) = lmin (V2 pd x p c) W := fun c => by
    rw [show N - p - 1 = 0 + 1 by omega, VT]
    refine lmin_congr W (fun l _ => ?_)
    rw [VT, Int.add_zero]
    rfl
  have hme : lmin (V2 pd x p e) W = VT W pd (N - p) p x := by
    apply Int.le_antisymm
    · have a1 := lmin_le (V2 pd x p e) W d hd
      rw [EQ2] at h1
      have a2 : V2 pd x p e d = min ZZ (pd (lset (lset x p e) (p + 1) d) (p + 1)) := rfl
      rw [h1] at a2
      omega
    · have a1 := lmin_le (VS W pd N x p) W e he
      rw [(VS_2 hp h0).1, ← VT_S (by omega)] at a1
      exact a1
  have g1 : GP W N pd (p + 1) (lset x p e) := by
    refine GP_n P (by omega) h he ?_ (fun e' he' hq => ?_)
    · rw [h0, Int.zero_add, hm, hme]
    · rw [h0, Int.zero_add, hm] at hq
      rw [← hq] at hz
      obtain ⟨d', b1, b2, b3⟩ := lmin_at W hz
      refine h3 e' d' he' b1 ?_
      rw [← b2] at hz
      have b4 : V2 pd x p e' d' = min ZZ (pd (lset (lset x p e') (p + 1) d') (p + 1)) := rfl
      rw [EQ2, ← hq, ← b2]
      omega
  have hN1 : VT W pd (N - (p + 1)) (p + 1) (lset x p e) = VT W pd (N - p) p x := by rw [show N - (p + 1) = N - p - 1 by omega, hm, hme]
  have g2 := GP_n P (show p + 1 < N by omega) g1 hd (by rw [show N - (p + 1) - 1 = 0 by omega, VT, Int.add_zero, hN1]; exact h1) (fun d' hd' hq => by
    rw [show N - (p + 1) - 1 = 0 by omega, VT, Int.add_zero, hN1] at hq
    exact h2 d' hd' hq)
  rw [show p + 1 + 1 = N by omega] at g2
  exact g2
theorem EQ2_x {p : Nat} {x : Nat → Nat} (hp : p + 2 = N) (h0 : ∀ z, pd z p = 0) (hz : VT W pd (N - p) p x < ZZ) : ∃ e d, e < W ∧ d < W ∧ EQ2 pd W N x p e d := by
  have hz0 := hz
  rw [VT_S (by omega)] at hz
  obtain ⟨e, h1, h2, h3⟩ := lmin_at W hz
  rw [← h2, (VS_2 hp h0).1] at hz
  obtain ⟨d, b1, b2, b3⟩ := lmin_at W hz
  refine ⟨e, d, h1, b1, ?_⟩
  rw [← b2] at hz
  have b4 : V2 pd x p e d = min ZZ (pd (lset (lset x p e) (p + 1) d) (p + 1)) := rfl
  rw [EQ2, VT_S (by omega), ← h2, (VS_2 hp h0).1, ← b2]
  omega
end
section
variable {gs mc mr mf mb : Int32} {gv mg mv wv mw : Nat → Int32} {N W LO R : Nat} {F : Nat → Bool}
theorem wb_l (C : cx gs gv mc mr mg N W LO R) (hw : wtr wv mw) (hTB : TB mc mr mb mf mg N W LO mv) {u : Nat → Int32} {y : Nat → Int64} (hT : TI (pdc mc mr mb mf mg mw N LO F) N W 0 u y) {t0 : Nat → Int32} : ∀ n p fu x t, p + n = N - 2 → n < fu → dg W x → (∀ j, j < p → t j = nI (LO + x j)) → (∀ j, N ≤ j → t j = t0 j) → (∀ j, j < 53 → rg (t j)) → (VT W (pdc mc mr mb mf mg mw N LO F) N 0 (fun _ => 0) < ZZ → GP W N (pdc mc mr mb mf mg mw N LO F) p x ∧ VT W (pdc mc mr mb mf mg mw N LO F) (N - p) p x < ZZ) → ∃ t' g, f_X4_writeBest_l16 (nI N) (nI W) (nI LO) mv u wv (nI (mkn F 12)) fu (nI (d2 x p)) (nI (d1 x p)) (nI p) (nI N) t = (t', nI N) ∧ (∀ j, N ≤ j → t' j = t0 j) ∧ (∀ j, j < 53 → rg (t' j)) ∧ (VT W (pdc mc mr mb mf mg mw N LO F) N 0 (fun _ => 0) < ZZ → dg W g ∧ GV W N (pdc mc mr mb mf mg mw N LO F) g ∧ ∀ j, j < N → t' j = nI (LO + g j)) := by
  have PP := PD_c (F := F) (mf := mf) (mb := mb) C hw
  have C0 := C
  obtain ⟨hm, hg, hgv, hN, hN2, hR, hW, hLO⟩ := C
  have e2 : nI N - (2 : Int32) = nI (N - 2) := nI_minus (b := 2) (by omega)
  intro n
  induction n with
  | zero =>
    intro p fu x t hp hf hx h1 h2 h3 h4
    obtain ⟨fu, rfl⟩ : ∃ f, fu = f + 1 := ⟨fu - 1, by omega⟩
    have hp2 : p + 2 = N := by omega
    have h0 : ∀ z, pdc mc mr mb mf mg mw N LO F z p = 0 := fun z => (pd_e (mc := mc) (mr := mr) (mb := mb) (mf := mf) (mg := mg) (mw := mw) (LO := LO) (F := F) hp2 z).1
    have hend : f_X4_writeBest_l16 (nI N) (nI W) (nI LO) mv u wv (nI (mkn F 12)) (fu + 1) (nI (d2 x p)) (nI (d1 x p)) (nI p) (nI N) t = ((f_X4_writeBestEnd_l3 (nI N) (nI W) (nI LO) mv u wv (nI (d2 x p)) (nI (d1 x p)) (nI (mkn F 12)) (((nI W).toInt - (0 : Int32).toInt).toNat + 1) (0 : Int32) t), nI N) := by
      rw [e_X4_writeBest_l16, e2, if_pos (nI_le (by omega) (by omega)), e_X4_writeBest_j65, e_X4_writeBestEnd]
    rw [hend]
    rcases we_out C0 hw hTB hT hp2 hx W 0 (((nI W).toInt - (0 : Int32).toInt).toNat + 1) t (Nat.zero_add _) (by rw [t_n (by omega), t_0]; omega) (fun e d he => absurd he (Nat.not_lt_zero _)) with ⟨a1, a2⟩ | ⟨e, d, b1, b2, b3, b4, b5, b6⟩
    · rw [show nI 0 = (0 : Int32) from rfl] at a1
      refine ⟨t, x, by rw [a1], h2, h3, fun hz => ?_⟩
      obtain ⟨e, d, q1, q2, q3⟩ := EQ2_x hp2 h0 (h4 hz).2
      exact absurd q3 (a2 e d q1 q2)
    · rw [show nI 0 = (0 : Int32) from rfl] at b3
      refine ⟨_, lset (lset x p e) (p + 1) d, by rw [b3], fun j hj => ?_, fun j hj => ?_, fun hz => ⟨dg_set (dg_set hx b1) b2, GP_2 PP hp2 h0 (h4 hz).1 b1 b2 (h4 hz).2 b4 b5 b6, fun j hj => ?_⟩⟩
      · rw [upd_ne (by omega), upd_ne (by omega)]
        exact h2 j hj
      · by_cases c1 : j = p + 1
        · rw [c1, upd_at]
          exact rg_n (by omega)
        · rw [upd_ne c1]
          by_cases c2 : j = p
          · rw [c2, upd_at]
            exact rg_n (by omega)
          · rw [upd_ne c2]
            exact h3 j hj
      · by_cases c1 : j = p + 1
        · rw [c1, upd_at, lset_at]
        · rw [upd_ne c1, lset_ne c1]
          by_cases c2 : j = p
          · rw [c2, upd_at, lset_at]
          · rw [upd_ne c2, lset_ne c2]
            exact h1 j (by omega)
  | succ n ih =>
    intro p fu x t hp hf hx h1 h2 h3 h4
    obtain ⟨fu, rfl⟩ : ∃ f, fu = f + 1 := ⟨fu - 1, by omega⟩
    obtain ⟨d, g1, g2, g3⟩ := bn_ok C0 hw hTB hT (p := p) (by omega) hx
    have hst : f_X4_writeBest_l16 (nI N) (nI W) (nI LO) mv u wv (nI (mkn F 12)) (fu + 1) (nI (d2 x p)) (nI (d1 x p)) (nI p) (nI N) t = f_X4_writeBest_l16 (nI N) (nI W) (nI LO) mv u wv (nI (mkn F 12)) fu (nI (d2 (lset x p d) (p + 1))) (nI (d1 (lset x p d) (p + 1))) (nI (p + 1)) (nI N) (upd t p (nI (LO + d))) := by
      rw [e_X4_writeBest_l16, e2, if_neg (nI_ge (by omega) (by omega)), g2, put_0 (by omega), ← nI_plus, ← nI_succ, d1_n, d2_n]
    rw [hst]
    refine ih (p + 1) fu (lset x p d) _ (by omega) (by omega) (dg_set hx g1) (fun j hj => ?_) (fun j hj => ?_) (fun j hj => ?_) (fun hz => ?_)
    · by_cases c : j = p
      · rw [c, upd_at, lset_at]
      · rw [upd_ne c, lset_ne c]
        exact h1 j (by omega)
    · rw [upd_ne (by omega)]
      exact h2 j hj
    · by_cases c : j = p
      · rw [c, upd_at]
        exact rg_n (by omega)
      · rw [upd_ne c]
        exact h3 j hj
    · obtain ⟨a1, a2⟩ := h4 hz
      obtain ⟨a3, a4⟩ := g3 a2
      refine ⟨GP_n PP (by omega) a1 g1 a3 a4, ?_⟩
      have a5 := PP.1 (lset x p d) p
      rw [show N - (p + 1) = N - p - 1 by omega]
      omega
theorem wb_ok (C : cx gs gv mc mr mg N W LO R) (hw : wtr wv mw) (hTB : TB mc mr mb mf mg N W LO mv) {u : Nat → Int32} {y : Nat → Int64} (hT : TI (pdc mc mr mb mf mg mw N LO F) N W 0 u y) {t : Nat → Int32} (hr : ∀ j, j < 53 → rg (t j)) : ∃ t' g, f_X4_writeBest (nI N) (nI W) (nI LO) mv u wv t (nI (mkn F 12)) = (t', nI N) ∧ (∀ j, N ≤ j → t' j = t j) ∧ (∀ j, j < 53 → rg (t' j)) ∧ (VT W (pdc mc mr mb mf mg mw N LO F) N 0 (fun _ => 0) < ZZ → dg W g ∧ GV W N (pdc mc mr mb mf mg mw N LO F) g ∧ ∀ j, j < N → t' j = nI (LO + g j)) := by
  have hW := C.2.2.2.2.2.2.1
  have hN2 := C.2.2.2.2.1
  have e2 : nI N - (2 : Int32) = nI (N - 2) := nI_minus (b := 2) (by omega)
  obtain ⟨t', g, h1, h2, h3, h4⟩ := wb_l C hw hTB hT (t0 := t) (N - 2) 0 (N - 2 + 1) (fun _ => 0) t (by omega) (by omega) (dg_0 hW.1) (fun j hj => absurd hj (Nat.not_lt_zero _)) (fun _ _ => rfl) hr (fun hz => ⟨fun p hp => absurd hp (Nat.not_lt_zero _), hz⟩)
  refine ⟨t', g, ?_, h2, h3, h4⟩
  rw [e_X4_writeBest, str_n N (by omega), e2, t_n (by omega), t_0, show (((N - 2 : Nat) : Int) - 0).toNat + 1 = N - 2 + 1 by omega]
  exact h1
end
