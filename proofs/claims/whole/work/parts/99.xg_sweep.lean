/-! ===== the class's sweep: the last two notes, and all of it ===== -/
def V2 (pd : (Nat → Nat) → Nat → Int) (x : Nat → Nat) (p c : Nat) : Nat → Int := fun l => min ZZ (pd (lset (lset x p c) (p + 1) l) (p + 1))
def W2 (pd : (Nat → Nat) → Nat → Int) (x : Nat → Nat) (p c : Nat) : Nat → Int64 := fun l => if pd (lset (lset x p c) (p + 1) l) (p + 1) < ZZ then 1 else 0
theorem VS_2 {W N p c : Nat} {pd : (Nat → Nat) → Nat → Int} {x : Nat → Nat} (hp : p + 2 = N) (h0 : ∀ z, pd z p = 0) : VS W pd N x p c = lmin (V2 pd x p c) W ∧ WS W pd N x p c = lsum (W2 pd x p c) W := by
  have e : N - p - 1 = 0 + 1 := by omega
  have h1 : VT W pd (N - p - 1) (p + 1) (lset x p c) = lmin (V2 pd x p c) W := by
    rw [e, VT]
    refine lmin_congr W (fun l _ => ?_)
    rw [VT, Int.add_zero]
    rfl
  have h2 : WT W pd (N - p - 1) (p + 1) (lset x p c) = lsum (W2 pd x p c) W := by
    rw [e, WT]
    refine lsum_congr W (fun l _ => ?_)
    rw [WT]
    rfl
  have h3 := lmin_z (V2 pd x p c) W
  have hZ := ZZ_e
  refine ⟨?_, ?_⟩
  · rw [VS, h1, h0]
    omega
  · rw [WS, h2, h0, if_pos (by omega)]
section
variable {gs mc mr mf mb : Int32} {gv mg mv wv mw : Nat → Int32} {N W LO R : Nat} {F : Nat → Bool}
theorem sl_n {c l : Nat} (hN : 2 ≤ N ∧ N ≤ 27) (hc : c < 10) (hl : l < 10) : f_X4_slotAheadOf (nI N) (nI c) (nI l) = nI (if l = c + 1 then N - 1 else N - 2) := by
  have key : ∀ c, c < 10 → ∀ l, l < 10 → (nI l - nI c = (1 : Int32) ↔ l = c + 1) := by decide +kernel
  rw [e_X4_slotAheadOf]
  by_cases h : l = c + 1
  · rw [if_pos ((key c hc l hl).mpr h), if_pos h]
    exact nI_minus (b := 1) (by omega)
  · rw [if_neg (fun e => h ((key c hc l hl).mp e)), if_neg h]
    exact nI_minus (b := 2) (by omega)
theorem pd_e {p : Nat} (hp : p + 2 = N) (z : Nat → Nat) : pdc mc mr mb mf mg mw N LO F z p = 0 ∧ pdc mc mr mb mf mg mw N LO F z (p + 1) = pce mc mr mb mf mg mw N LO F z p + pce mc mr mb mf mg mw N LO F z (p + 1) := by
  rw [pdc, pdc, if_neg (by omega), if_pos (by omega), if_neg (by omega), if_neg (by omega), show N - 2 = p by omega, show N - 1 = p + 1 by omega]
  exact ⟨rfl, rfl⟩
theorem se_last (C : cx gs gv mc mr mg N W LO R) (hw : wtr wv mw) (hTB : TB mc mr mb mf mg N W LO mv) {p b c : Nat} {K : (Nat → Int32) → (Nat → Int64) → ((Nat → Int32) × (Nat → Int64))} (hp : p + 2 = N) (hb : b < W) (hc : c < W) : ∀ n l fu u y, l + n = W → n < fu → (∀ x, dg W x → d1 x p = b → (u (tp p (d2 x p) b)).toInt = min (lmin (VS W (pdc mc mr mb mf mg mw N LO F) N x p) c) (lmin (V2 (pdc mc mr mb mf mg mw N LO F) x p c) l) ∧ y (tp p (d2 x p) b) = lsum (WS W (pdc mc mr mb mf mg mw N LO F) N x p) c + lsum (W2 (pdc mc mr mb mf mg mw N LO F) x p c) l) → ∃ u' y', f_X4_sweepEnd_l40 (nI N) (nI W) mv wv (nI (mkn F 12)) (nI b) (nI c) K fu (nI l) u y = K u' y' ∧ (∀ i, (∀ a', a' < 10 → i ≠ tp p a' b) → u' i = u i ∧ y' i = y i) ∧ (∀ x, dg W x → d1 x p = b → (u' (tp p (d2 x p) b)).toInt = min (lmin (VS W (pdc mc mr mb mf mg mw N LO F) N x p) c) (lmin (V2 (pdc mc mr mb mf mg mw N LO F) x p c) W) ∧ y' (tp p (d2 x p) b) = lsum (WS W (pdc mc mr mb mf mg mw N LO F) N x p) c + lsum (W2 (pdc mc mr mb mf mg mw N LO F) x p c) W) := by
  obtain ⟨hm, hg, hgv, hN, hN2, hR, hW, hLO⟩ := C
  have hZ := ZZ_e
  intro n
  induction n with
  | zero =>
    intro l fu u y hl hf h2
    obtain ⟨fu, rfl⟩ : ∃ f, fu = f + 1 := ⟨fu - 1, by omega⟩
    rw [Nat.add_zero] at hl
    rw [hl] at h2
    refine ⟨u, y, ?_, fun _ _ => ⟨rfl, rfl⟩, h2⟩
    rw [e_X4_sweepEnd_l40, if_pos (nI_le (by omega) (by omega))]
  | succ n ih =>
    intro l fu u y hl hf h2
    obtain ⟨fu, rfl⟩ : ∃ f, fu = f + 1 := ⟨fu - 1, by omega⟩
    have hlW : l < W := by omega
    have hma : f_X4_maskAt mv (nI N) (nI b) (nI c) (nI l) = mv (mpl N b c l) := ma_n hN2.2 (by omega) (by omega) (by omega)
    have hdz : ∀ x, dg W x → dg W (lset (lset x p c) (p + 1) l) := fun x hx => dg_set (dg_set hx hc) hlW
    have hP : ∀ x, dg W x → d1 x p = b → (f_X4_priceOf wv (mv (mpl N b c l)) (nI (mkn F 12))).toInt = pce mc mr mb mf mg mw N LO F (lset (lset x p c) (p + 1) l) (p + 1) := by
      intro x hx hb1
      have h := hTB (lset (lset x p c) (p + 1) l) (hdz x hx) (p + 1) (by omega)
      rw [slt, if_pos (by omega), d1_s, d2_s, d1_n, d2_n, hb1, lset_at] at h
      rw [h, price_n hw]
    have hQ : ∀ x, dg W x → d1 x p = b → mv (mpl (if l = c + 1 then N - 1 else N - 2) (d2 x p) b c) = fk mc mr mb mf mg N LO (lset (lset x p c) (p + 1) l) p := by
      intro x hx hb1
      have h := hTB (lset (lset x p c) (p + 1) l) (hdz x hx) p (by omega)
      have ea : d2 (lset (lset x p c) (p + 1) l) p = d2 x p := by
        rw [d2, d2]
        split
        · rw [lset_ne (by omega), lset_ne (by omega)]
        · rfl
      have eb : d1 (lset (lset x p c) (p + 1) l) p = b := by
        rw [← hb1, d1, d1]
        split
        · rw [lset_ne (by omega), lset_ne (by omega)]
        · rfl
      have e1 : lset (lset x p c) (p + 1) l p = c := by rw [lset_ne (by omega), lset_at]
      have e2 : lset (lset x p c) (p + 1) l (N - 1) = l := by rw [show N - 1 = p + 1 by omega, lset_at]
      rw [slt, if_neg (by omega), ea, eb, e1, e2, show N - 2 = p by omega, e1] at h
      rw [← h, show N - 2 = p by omega]
      by_cases e : l = c + 1
      · rw [if_pos e, if_pos ⟨rfl, e⟩]
      · rw [if_neg e, if_neg (fun h => e h.2)]
    by_cases hZ1 : (1000000 : Int32) ≤ f_X4_priceOf wv (mv (mpl N b c l)) (nI (mkn F 12))
    · obtain ⟨u', y', g1, g2, g3⟩ := ih (l + 1) fu u y (by omega) (by omega) (fun x hx hb1 => by
        have h3 := hP x hx hb1
        have h4 := h2 x hx hb1
        have h5 := (pce_b (mc := mc) (mr := mr) (mb := mb) (mf := mf) (mg := mg) (N := N) (LO := LO) (F := F) hw (lset (lset x p c) (p + 1) l) p).1
        have h7 := lmin_z (V2 (pdc mc mr mb mf mg mw N LO F) x p c) l
        have h8 := (pd_e (mc := mc) (mr := mr) (mb := mb) (mf := mf) (mg := mg) (mw := mw) (LO := LO) (F := F) hp (lset (lset x p c) (p + 1) l)).2
        rw [t_le, tZ, h3] at hZ1
        have h9 : V2 (pdc mc mr mb mf mg mw N LO F) x p c l = ZZ := by rw [V2, h8]; omega
        have h10 : W2 (pdc mc mr mb mf mg mw N LO F) x p c l = 0 := by rw [W2, h8, if_neg (by omega)]
        rw [lmin_s, lsum_s, h4.1, h4.2, h9, h10, Int64.add_zero]
        exact ⟨by omega, rfl⟩)
      refine ⟨u', y', ?_, g2, g3⟩
      rw [e_X4_sweepEnd_l40, if_neg (nI_ge (by omega) (by omega)), hma, if_pos hZ1, e_X4_sweepEnd_j96, ← nI_succ]
      exact g1
    · obtain ⟨u1, y1, k1, k2, k3⟩ := pa_ok (W := W) (p := p) (s := if l = c + 1 then N - 1 else N - 2) (b := b) (c := c) (mv := mv) (wv := wv) (u := u) (y := y) (fb := (nI (mkn F 12))) (P := f_X4_priceOf wv (mv (mpl N b c l)) (nI (mkn F 12))) (Q := (1 : Int64)) (by omega) (by split <;> omega) (by omega) (by omega) hW
      obtain ⟨u', y', g1, g2, g3⟩ := ih (l + 1) fu u1 y1 (by omega) (by omega) (fun x hx hb1 => by
        have h3 := hP x hx hb1
        have h4 := h2 x hx hb1
        have h5 := pce_b (mc := mc) (mr := mr) (mb := mb) (mf := mf) (mg := mg) (N := N) (LO := LO) (F := F) hw (lset (lset x p c) (p + 1) l) (p + 1)
        have h7 := lmin_z (V2 (pdc mc mr mb mf mg mw N LO F) x p c) l
        have h8 := cw_b (mc := mc) (mr := mr) (mb := mb) (mf := mf) (mg := mg) (N := N) (LO := LO) hw (lset (lset x p c) (p + 1) l) p
        have h10 := (pd_e (mc := mc) (mr := mr) (mb := mb) (mf := mf) (mg := mg) (mw := mw) (LO := LO) (F := F) hp (lset (lset x p c) (p + 1) l)).2
        rw [t_le, tZ, h3] at hZ1
        have h6 := h5.2 (by omega)
        have hd2 := d2_lt hx hW.1 p
        have h9 := k3 (d2 x p) hd2
        rw [hQ x hx hb1] at h9
        cases hbd : bd mc mr mb mf mg N LO F (lset (lset x p c) (p + 1) l) p
        · have hpc : pce mc mr mb mf mg mw N LO F (lset (lset x p c) (p + 1) l) p = cw mc mr mb mf mg mw N LO (lset (lset x p c) (p + 1) l) p := by rw [pce, if_neg (by rw [hbd]; decide)]
          rw [hpc] at h10
          have h11 := h9.1 (bd_mask.mpr hbd)
          have h12 : V2 (pdc mc mr mb mf mg mw N LO F) x p c l = min ZZ (cw mc mr mb mf mg mw N LO (lset (lset x p c) (p + 1) l) p + pce mc mr mb mf mg mw N LO F (lset (lset x p c) (p + 1) l) (p + 1)) := by rw [V2, h10]
          have h13 : W2 (pdc mc mr mb mf mg mw N LO F) x p c l = 1 := by rw [W2, h10, if_pos (by omega)]
          have h14 := fk_cost (mc := mc) (mr := mr) (mb := mb) (mf := mf) (mg := mg) (N := N) (LO := LO) (x := lset (lset x p c) (p + 1) l) (p := p) hw
          have h15 : (f_X4_priceOf wv (mv (mpl N b c l)) (nI (mkn F 12)) + f_X2_costOf wv (fk mc mr mb mf mg N LO (lset (lset x p c) (p + 1) l) p)).toInt = pce mc mr mb mf mg mw N LO F (lset (lset x p c) (p + 1) l) (p + 1) + cw mc mr mb mf mg mw N LO (lset (lset x p c) (p + 1) l) p := by
            rw [t_add (by rw [h3, h14]; omega) (by rw [h3, h14]; omega), h3, h14]
          rw [lmin_s, lsum_s, h11.1, h11.2, imin_i, h15, h4.1, h4.2, h12, h13, Int64.add_assoc]
          exact ⟨by omega, rfl⟩
        · have hpc : pce mc mr mb mf mg mw N LO F (lset (lset x p c) (p + 1) l) p = ZZ := by rw [pce, if_pos hbd]
          rw [hpc] at h10
          have h11 := h9.2 (fun e => by rw [bd_mask.mp e] at hbd; cases hbd)
          have h12 : V2 (pdc mc mr mb mf mg mw N LO F) x p c l = ZZ := by rw [V2, h10]; omega
          have h13 : W2 (pdc mc mr mb mf mg mw N LO F) x p c l = 0 := by rw [W2, h10, if_neg (by omega)]
          rw [lmin_s, lsum_s, h11.1, h11.2, h4.1, h4.2, h12, h13, Int64.add_zero]
          exact ⟨by omega, rfl⟩)
      refine ⟨u', y', ?_, fun i hi => ?_, g3⟩
      · rw [e_X4_sweepEnd_l40, if_neg (nI_ge (by omega) (by omega)), hma, if_neg hZ1, sl_n hN2 (by omega) (by omega), show nI N - (2 : Int32) = nI p by rw [show p = N - 2 by omega]; exact nI_minus (b := 2) (by omega), k1, e_X4_sweepEnd_j96, ← nI_succ]
        exact g1
      · have h := g2 i hi
        rw [(k2 i hi).1, (k2 i hi).2] at h
        exact h
theorem se_mid (C : cx gs gv mc mr mg N W LO R) (hw : wtr wv mw) (hTB : TB mc mr mb mf mg N W LO mv) {p b : Nat} {K : (Nat → Int32) → (Nat → Int64) → ((Nat → Int32) × (Nat → Int64))} (hp : p + 2 = N) (hb : b < W) : ∀ n c fu u y, c + n = W → n < fu → (∀ x, dg W x → d1 x p = b → (u (tp p (d2 x p) b)).toInt = lmin (VS W (pdc mc mr mb mf mg mw N LO F) N x p) c ∧ y (tp p (d2 x p) b) = lsum (WS W (pdc mc mr mb mf mg mw N LO F) N x p) c) → ∃ u' y', f_X4_sweepEnd_l28 (nI N) (nI W) mv wv (nI (mkn F 12)) (nI b) K fu (nI c) u y = K u' y' ∧ (∀ i, (∀ a', a' < 10 → i ≠ tp p a' b) → u' i = u i ∧ y' i = y i) ∧ (∀ x, dg W x → d1 x p = b → (u' (tp p (d2 x p) b)).toInt = lmin (VS W (pdc mc mr mb mf mg mw N LO F) N x p) W ∧ y' (tp p (d2 x p) b) = lsum (WS W (pdc mc mr mb mf mg mw N LO F) N x p) W) := by
  have C0 := C
  obtain ⟨hm, hg, hgv, hN, hN2, hR, hW, hLO⟩ := C
  intro n
  induction n with
  | zero =>
    intro c fu u y hc hf h2
    obtain ⟨fu, rfl⟩ : ∃ f, fu = f + 1 := ⟨fu - 1, by omega⟩
    rw [Nat.add_zero] at hc
    rw [hc] at h2
    refine ⟨u, y, ?_, fun _ _ => ⟨rfl, rfl⟩, h2⟩
    rw [e_X4_sweepEnd_l28, if_pos (nI_le (by omega) (by omega))]
  | succ n ih =>
    intro c fu u y hc hf h2
    obtain ⟨fu, rfl⟩ : ∃ f, fu = f + 1 := ⟨fu - 1, by omega⟩
    obtain ⟨u1, y1, k1, k2, k3⟩ := se_last (K := f_X4_sweepEnd_j102 (nI c) (f_X4_sweepEnd_l28 (nI N) (nI W) mv wv (nI (mkn F 12)) (nI b) K fu)) C0 hw hTB hp hb (show c < W by omega) W 0 (((nI W).toInt - (0 : Int32).toInt).toNat + 1) u y (Nat.zero_add _) (by rw [t_n (by omega), t_0]; omega) (fun x hx hb1 => by
      have h3 := h2 x hx hb1
      have h4 := lmin_z (VS W (pdc mc mr mb mf mg mw N LO F) N x p) c
      rw [h3.1, h3.2]
      exact ⟨by rw [show lmin (V2 (pdc mc mr mb mf mg mw N LO F) x p c) 0 = ZZ from rfl]; omega, (Int64.add_zero _).symm⟩)
    obtain ⟨u', y', g1, g2, g3⟩ := ih (c + 1) fu u1 y1 (by omega) (by omega) (fun x hx hb1 => by
      have h3 := k3 x hx hb1
      have h4 := VS_2 (W := W) (c := c) (x := x) hp (fun z => (pd_e (mc := mc) (mr := mr) (mb := mb) (mf := mf) (mg := mg) (mw := mw) (LO := LO) (F := F) hp z).1)
      rw [lmin_s, lsum_s, h4.1, h4.2]
      exact h3)
    refine ⟨u', y', ?_, fun i hi => ?_, g3⟩
    · rw [e_X4_sweepEnd_l28, if_neg (nI_ge (by omega) (by omega))]
      rw [show (0 : Int32) = nI 0 from rfl] at k1 ⊢
      rw [k1, e_X4_sweepEnd_j102, ← nI_succ]
      exact g1
    · have h := g2 i hi
      rw [(k2 i hi).1, (k2 i hi).2] at h
      exact h
theorem se_out (C : cx gs gv mc mr mg N W LO R) (hw : wtr wv mw) (hTB : TB mc mr mb mf mg N W LO mv) {p : Nat} (hp : p + 2 = N) : ∀ n b fu u y, b + n = (if 1 ≤ p then W else 1) → n < fu → RW W (pdc mc mr mb mf mg mw N LO F) N p b u y → ∃ u' y', f_X4_sweepEnd_l14 (nI N) (nI W) mv wv (nI (mkn F 12)) fu (nI b) u y = (u', y') ∧ TI (pdc mc mr mb mf mg mw N LO F) N W p u' y' := by
  have C0 := C
  obtain ⟨hm, hg, hgv, hN, hN2, hR, hW, hLO⟩ := C
  have hch : f_X4_choices (nI W) ((nI N - (2 : Int32)) - (1 : Int32)) = nI (if 1 ≤ p then W else 1) := by
    have h := ch_n (sw := nI W) (p := p) (r := 1) (by omega) (by omega)
    rw [show nI 1 = (1 : Int32) from rfl] at h
    rw [show nI N - (2 : Int32) = nI p by rw [show p = N - 2 by omega]; exact nI_minus (b := 2) (by omega), h]
    split <;> rfl
  have hch2 : (if 1 ≤ p then W else 1) ≤ W := by split <;> omega
  intro n
  induction n with
  | zero =>
    intro b fu u y hb hf h2
    obtain ⟨fu, rfl⟩ : ∃ f, fu = f + 1 := ⟨fu - 1, by omega⟩
    rw [Nat.add_zero] at hb
    rw [hb] at h2
    refine ⟨u, y, ?_, RW_e hW (by omega) h2 (fun q h3 h4 => absurd h3 (by omega))⟩
    rw [e_X4_sweepEnd_l14, hch, if_pos (nI_le (by omega) (by omega))]
  | succ n ih =>
    intro b fu u y hb hf h2
    obtain ⟨fu, rfl⟩ : ∃ f, fu = f + 1 := ⟨fu - 1, by omega⟩
    obtain ⟨u1, y1, k1, k2, k3⟩ := se_mid (K := f_X4_sweepEnd_j108 (nI b) (f_X4_sweepEnd_l14 (nI N) (nI W) mv wv (nI (mkn F 12)) fu)) C0 hw hTB hp (show b < W by omega) W 0 (((nI W).toInt - (0 : Int32).toInt).toNat + 1) u y (Nat.zero_add _) (by rw [t_n (by omega), t_0]; omega) (RW_c h2)
    obtain ⟨u', y', g1, g2⟩ := ih (b + 1) fu u1 y1 (by omega) (by omega) (RW_n hW (by omega) h2 k2 k3)
    refine ⟨u', y', ?_, g2⟩
    rw [e_X4_sweepEnd_l14, hch, if_neg (nI_ge (by omega) (by omega))]
    rw [show (0 : Int32) = nI 0 from rfl] at k1 ⊢
    rw [k1, e_X4_sweepEnd_j108, ← nI_succ]
    exact g1
theorem se_ok (C : cx gs gv mc mr mg N W LO R) (hw : wtr wv mw) (hTB : TB mc mr mb mf mg N W LO mv) (u : Nat → Int32) (y : Nat → Int64) : ∃ u' y', f_X4_sweepEnd (nI N) (nI W) mv u y wv (nI (mkn F 12)) = (u', y') ∧ TI (pdc mc mr mb mf mg mw N LO F) N W (N - 2) u' y' := by
  have C0 := C
  obtain ⟨hm, hg, hgv, hN, hN2, hR, hW, hLO⟩ := C
  have e2 : nI N - (2 : Int32) = nI (N - 2) := nI_minus (b := 2) (by omega)
  have hch : f_X4_choices (nI W) ((nI N - (2 : Int32)) - (1 : Int32)) = nI (if 1 ≤ N - 2 then W else 1) := by
    have h := ch_n (sw := nI W) (p := N - 2) (r := 1) (by omega) (by omega)
    rw [show nI 1 = (1 : Int32) from rfl] at h
    rw [e2, h]
    split <;> rfl
  have hch2 : (if 1 ≤ N - 2 then W else 1) ≤ W := by split <;> omega
  obtain ⟨u1, y1, k1, k2, k3⟩ := er_ok (W := W) (p := N - 2) (by omega) hW.2 u y
  obtain ⟨u', y', g1, g2⟩ := se_out C0 hw hTB (p := N - 2) (by omega) (if 1 ≤ N - 2 then W else 1) 0 (((f_X4_choices (nI W) ((nI N - (2 : Int32)) - (1 : Int32))).toInt - (0 : Int32).toInt).toNat + 1) u1 y1 (Nat.zero_add _) (by rw [hch, t_n (by omega), t_0]; omega) (RW_0 hW k3)
  refine ⟨u', y', ?_, g2⟩
  rw [e_X4_sweepEnd]
  rw [← e2] at k1
  rw [k1]
  exact g1
theorem sw_l (C : cx gs gv mc mr mg N W LO R) (hw : wtr wv mw) (hTB : TB mc mr mb mf mg N W LO mv) : ∀ n fu u y, n + 2 ≤ N → n < fu → TI (pdc mc mr mb mf mg mw N LO F) N W n u y → ∃ u' y', f_X4_sweep_l12 (nI W) mv wv (nI (mkn F 12)) fu (nI n - nI 1) u y = (u' (tp 0 0 0), u', y') ∧ TI (pdc mc mr mb mf mg mw N LO F) N W 0 u' y' := by
  have C0 := C
  obtain ⟨hm, hg, hgv, hN, hN2, hR, hW, hLO⟩ := C
  intro n
  induction n with
  | zero =>
    intro fu u y hn hf h2
    obtain ⟨fu, rfl⟩ : ∃ f, fu = f + 1 := ⟨fu - 1, by omega⟩
    refine ⟨u, y, ?_, h2⟩
    rw [e_X4_sweep_l12, if_pos (by decide), e_X4_sweep_j28, show (0 : Int32) = nI 0 from rfl, tl_n (by omega) (by omega) (by omega)]
  | succ n ih =>
    intro fu u y hn hf h2
    obtain ⟨fu, rfl⟩ : ∃ f, fu = f + 1 := ⟨fu - 1, by omega⟩
    have key : ∀ n, n < 30 → nI n + (-1 : Int32) = nI n - nI 1 := by decide +kernel
    obtain ⟨u1, y1, k1, k2⟩ := sp_ok C0 hw hTB (p := n) (by omega) h2
    obtain ⟨u', y', g1, g2⟩ := ih fu u1 y1 (by omega) (by omega) k2
    refine ⟨u', y', ?_, g2⟩
    rw [e_X4_sweep_l12, nI_minus (by omega), show n + 1 - 1 = n by omega, if_neg (nI_pos (by omega)), k1, key n (by omega)]
    exact g1
/-- a sweep: all rows, and what stands at the beginning -/
theorem sw_ok (C : cx gs gv mc mr mg N W LO R) (hw : wtr wv mw) (hTB : TB mc mr mb mf mg N W LO mv) (u : Nat → Int32) (y : Nat → Int64) : ∃ u' y', f_X4_sweep (nI N) (nI W) mv u y wv (nI (mkn F 12)) = (u' (tp 0 0 0), u', y') ∧ TI (pdc mc mr mb mf mg mw N LO F) N W 0 u' y' := by
  have C0 := C
  obtain ⟨hm, hg, hgv, hN, hN2, hR, hW, hLO⟩ := C
  have key : ∀ n, n < 28 → 2 ≤ n → nI n - (3 : Int32) = nI (n - 2) - nI 1 := by decide +kernel
  have key2 : ∀ n, n < 28 → 2 ≤ n → ((nI n - (3 : Int32)).toInt + 1).toNat + 1 = n - 2 + 1 := by decide +kernel
  obtain ⟨u1, y1, k1, k2⟩ := se_ok C0 hw hTB u y
  obtain ⟨u', y', g1, g2⟩ := sw_l C0 hw hTB (N - 2) (N - 2 + 1) u1 y1 (by omega) (by omega) k2
  refine ⟨u', y', ?_, g2⟩
  rw [e_X4_sweep, key2 N (by omega) (by omega), key N (by omega) (by omega), k1]
  exact g1
end
