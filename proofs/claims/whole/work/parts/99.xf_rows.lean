/-! ===== the class's sweep: all rows ===== -/
def VS (W : Nat) (pd : (Nat → Nat) → Nat → Int) (N : Nat) (x : Nat → Nat) (p : Nat) : Nat → Int := fun c => min ZZ (pd (lset x p c) p + VT W pd (N - p - 1) (p + 1) (lset x p c))
def WS (W : Nat) (pd : (Nat → Nat) → Nat → Int) (N : Nat) (x : Nat → Nat) (p : Nat) : Nat → Int64 := fun c => if pd (lset x p c) p < ZZ then WT W pd (N - p - 1) (p + 1) (lset x p c) else 0
theorem VT_S {W N p : Nat} {pd : (Nat → Nat) → Nat → Int} {x : Nat → Nat} (h : p < N) : VT W pd (N - p) p x = lmin (VS W pd N x p) W := by
  obtain ⟨d, hd⟩ : ∃ d, N - p = d + 1 := ⟨N - p - 1, by omega⟩
  rw [hd, VT, show d = N - p - 1 by omega]
  rfl
theorem WT_S {W N p : Nat} {pd : (Nat → Nat) → Nat → Int} {x : Nat → Nat} (h : p < N) : WT W pd (N - p) p x = lsum (WS W pd N x p) W := by
  obtain ⟨d, hd⟩ : ∃ d, N - p = d + 1 := ⟨N - p - 1, by omega⟩
  rw [hd, WT, show d = N - p - 1 by omega]
  rfl
theorem lmin_s {h : Nat → Int} {c : Nat} : lmin h (c + 1) = min (lmin h c) (h c) := rfl
theorem lsum_s {h : Nat → Int64} {c : Nat} : lsum h (c + 1) = lsum h c + h c := rfl
theorem tp_k {q a b : Nat} (ha : a < 10) (hb : b < 10) : tp q a b / 100 = q := by
  rw [tp]
  omega
section
variable {gs mc mr mf mb : Int32} {gv mg mv wv mw : Nat → Int32} {N W LO R : Nat} {F : Nat → Bool}
theorem d1_9 {x : Nat → Nat} {p : Nat} (hx : dg W x) (hW : 1 ≤ W ∧ W ≤ 10) : d1 x p < W := by
  have := d1_lt hx hW.1 p
  split at this <;> omega
theorem d2_9 {x : Nat → Nat} {p : Nat} (hx : dg W x) (hW : 1 ≤ W ∧ W ≤ 10) : d2 x p < W := by
  have := d2_lt hx hW.1 p
  split at this <;> omega
theorem sp_in (C : cx gs gv mc mr mg N W LO R) (hw : wtr wv mw) (hTB : TB mc mr mb mf mg N W LO mv) {p b : Nat} {K : (Nat → Int32) → (Nat → Int64) → ((Nat → Int32) × (Nat → Int64))} {u0 : Nat → Int32} {y0 : Nat → Int64} (hp : p + 2 < N) (hb : b < W) (hT : TI (pdc mc mr mb mf mg mw N LO F) N W (p + 1) u0 y0) : ∀ n c fu u y, c + n = W → n < fu → (∀ i, i / 100 ≠ p → u i = u0 i ∧ y i = y0 i) → (∀ x, dg W x → d1 x p = b → (u (tp p (d2 x p) b)).toInt = lmin (VS W (pdc mc mr mb mf mg mw N LO F) N x p) c ∧ y (tp p (d2 x p) b) = lsum (WS W (pdc mc mr mb mf mg mw N LO F) N x p) c) → ∃ u' y', f_X4_sweepPlace_l21 (nI W) mv wv (nI p) (nI (mkn F 12)) (nI b) K fu (nI c) u y = K u' y' ∧ (∀ i, (∀ a', a' < 10 → i ≠ tp p a' b) → u' i = u i ∧ y' i = y i) ∧ (∀ x, dg W x → d1 x p = b → (u' (tp p (d2 x p) b)).toInt = lmin (VS W (pdc mc mr mb mf mg mw N LO F) N x p) W ∧ y' (tp p (d2 x p) b) = lsum (WS W (pdc mc mr mb mf mg mw N LO F) N x p) W) := by
  have PP := PD_c (F := F) (mf := mf) (mb := mb) C hw
  obtain ⟨hm, hg, hgv, hN, hN2, hR, hW, hLO⟩ := C
  have hZ := ZZ_e
  intro n
  induction n with
  | zero =>
    intro c fu u y hc hf h1 h2
    obtain ⟨fu, rfl⟩ : ∃ f, fu = f + 1 := ⟨fu - 1, by omega⟩
    rw [Nat.add_zero] at hc
    rw [hc] at h2
    refine ⟨u, y, ?_, fun _ _ => ⟨rfl, rfl⟩, h2⟩
    rw [e_X4_sweepPlace_l21, if_pos (nI_le (by omega) (by omega))]
  | succ n ih =>
    intro c fu u y hc hf h1 h2
    obtain ⟨fu, rfl⟩ : ∃ f, fu = f + 1 := ⟨fu - 1, by omega⟩
    have hcW : c < W := by omega
    have hfr := h1 (tp (p + 1) b c) (by rw [tp_k (by omega) (by omega)]; omega)
    have htl : f_X4_tailAt u (nI p + (1 : Int32)) (nI b) (nI c) = u0 (tp (p + 1) b c) := by
      rw [← nI_succ, tl_n (by omega) (by omega) (by omega), hfr.1]
    have hwl : f_X4_waysAt y (nI p + (1 : Int32)) (nI b) (nI c) = y0 (tp (p + 1) b c) := by
      rw [← nI_succ, wy_n (by omega) (by omega) (by omega), hfr.2]
    have hPV : ∀ x, dg W x → d1 x p = b → (u0 (tp (p + 1) b c)).toInt = VT W (pdc mc mr mb mf mg mw N LO F) (N - p - 1) (p + 1) (lset x p c) ∧ y0 (tp (p + 1) b c) = WT W (pdc mc mr mb mf mg mw N LO F) (N - p - 1) (p + 1) (lset x p c) := by
      intro x hx hb1
      have h := hT (p + 1) (Nat.le_refl _) (by omega) (lset x p c) (dg_set hx hcW)
      rw [d1_n, d2_n, hb1, show N - (p + 1) = N - p - 1 by omega] at h
      exact h
    have hpd : ∀ x, pdc mc mr mb mf mg mw N LO F (lset x p c) p = pce mc mr mb mf mg mw N LO F (lset x p c) p := fun x => by rw [pdc, if_pos hp]
    by_cases hZ1 : (1000000 : Int32) ≤ u0 (tp (p + 1) b c)
    · obtain ⟨u', y', g1, g2, g3⟩ := ih (c + 1) fu u y (by omega) (by omega) h1 (fun x hx hb1 => by
        have h3 := hPV x hx hb1
        have h4 := h2 x hx hb1
        have h5 := (VT_b (W := W) PP (N - p - 1) (p + 1) (lset x p c)).2
        have h6 := PP.1 (lset x p c) p
        have h7 := lmin_z (VS W (pdc mc mr mb mf mg mw N LO F) N x p) c
        rw [t_le, tZ, h3.1] at hZ1
        have h8 : VS W (pdc mc mr mb mf mg mw N LO F) N x p c = ZZ := by rw [VS]; omega
        have h9 : WS W (pdc mc mr mb mf mg mw N LO F) N x p c = 0 := by
          rw [WS, WT_0 PP (N - p - 1) (p + 1) (lset x p c) (by omega) (by omega)]
          split <;> rfl
        rw [lmin_s, lsum_s, h4.1, h4.2, h8, h9, Int64.add_zero]
        exact ⟨by omega, rfl⟩)
      refine ⟨u', y', ?_, g2, g3⟩
      rw [e_X4_sweepPlace_l21, if_neg (nI_ge (by omega) (by omega)), htl, if_pos hZ1, e_X4_sweepPlace_j71, ← nI_succ]
      exact g1
    · obtain ⟨u1, y1, k1, k2, k3⟩ := pa_ok (W := W) (p := p) (s := p) (b := b) (c := c) (mv := mv) (wv := wv) (u := u) (y := y) (fb := (nI (mkn F 12))) (P := u0 (tp (p + 1) b c)) (Q := y0 (tp (p + 1) b c)) (by omega) (by omega) (by omega) (by omega) hW
      obtain ⟨u', y', g1, g2, g3⟩ := ih (c + 1) fu u1 y1 (by omega) (by omega) (fun i hi => by
        have h := k2 i (fun a' ha' => by rw [tp]; omega)
        rw [h.1, h.2]
        exact h1 i hi) (fun x hx hb1 => by
        have h3 := hPV x hx hb1
        have h4 := h2 x hx hb1
        have h5 := VT_b (W := W) PP (N - p - 1) (p + 1) (lset x p c)
        have h7 := lmin_z (VS W (pdc mc mr mb mf mg mw N LO F) N x p) c
        have h8 := cw_b (mc := mc) (mr := mr) (mb := mb) (mf := mf) (mg := mg) (N := N) (LO := LO) hw (lset x p c) p
        rw [t_le, tZ, h3.1] at hZ1
        have hd2 := d2_lt hx hW.1 p
        have hk := hTB (lset x p c) (dg_set hx hcW) p (by omega)
        rw [slt, if_neg (by omega), if_neg (fun h => by omega), d1_s, d2_s, hb1, lset_at] at hk
        have h9 := k3 (d2 x p) hd2
        rw [hk] at h9
        have h10 := hpd x
        cases hbd : bd mc mr mb mf mg N LO F (lset x p c) p
        · rw [pce, if_neg (by rw [hbd]; decide)] at h10
          have h11 := h9.1 (bd_mask.mpr hbd)
          have h12 : VS W (pdc mc mr mb mf mg mw N LO F) N x p c = min ZZ (cw mc mr mb mf mg mw N LO (lset x p c) p + VT W (pdc mc mr mb mf mg mw N LO F) (N - p - 1) (p + 1) (lset x p c)) := by rw [VS, h10]
          have h13 : WS W (pdc mc mr mb mf mg mw N LO F) N x p c = y0 (tp (p + 1) b c) := by rw [WS, h10, if_pos (by omega), h3.2]
          have h14 := fk_cost (mc := mc) (mr := mr) (mb := mb) (mf := mf) (mg := mg) (N := N) (LO := LO) (x := lset x p c) (p := p) hw
          have h15 : (u0 (tp (p + 1) b c) + f_X2_costOf wv (fk mc mr mb mf mg N LO (lset x p c) p)).toInt = VT W (pdc mc mr mb mf mg mw N LO F) (N - p - 1) (p + 1) (lset x p c) + cw mc mr mb mf mg mw N LO (lset x p c) p := by
            rw [t_add (by rw [h3.1, h14]; omega) (by rw [h3.1, h14]; omega), h3.1, h14]
          rw [lmin_s, lsum_s, h11.1, h11.2, imin_i, h15, h4.1, h4.2, h12, h13]
          exact ⟨by omega, rfl⟩
        · rw [pce, if_pos hbd] at h10
          have h11 := h9.2 (fun e => by rw [bd_mask.mp e] at hbd; cases hbd)
          have h12 : VS W (pdc mc mr mb mf mg mw N LO F) N x p c = ZZ := by rw [VS, h10]; omega
          have h13 : WS W (pdc mc mr mb mf mg mw N LO F) N x p c = 0 := by rw [WS, h10, if_neg (by omega)]
          rw [lmin_s, lsum_s, h11.1, h11.2, h4.1, h4.2, h12, h13, Int64.add_zero]
          exact ⟨by omega, rfl⟩)
      refine ⟨u', y', ?_, fun i hi => ?_, g3⟩
      · rw [e_X4_sweepPlace_l21, if_neg (nI_ge (by omega) (by omega)), htl, hwl, if_neg hZ1, k1, e_X4_sweepPlace_j71, ← nI_succ]
        exact g1
      · have h := g2 i hi
        rw [(k2 i hi).1, (k2 i hi).2] at h
        exact h
/-- a row of which the columns ahead of b are laid -/
def RW (W : Nat) (pd : (Nat → Nat) → Nat → Int) (N p b : Nat) (u : Nat → Int32) (y : Nat → Int64) : Prop := (∀ x, dg W x → d1 x p < b → (u (tp p (d2 x p) (d1 x p))).toInt = lmin (VS W pd N x p) W ∧ y (tp p (d2 x p) (d1 x p)) = lsum (WS W pd N x p) W) ∧ (∀ x, dg W x → b ≤ d1 x p → (u (tp p (d2 x p) (d1 x p))).toInt = ZZ ∧ y (tp p (d2 x p) (d1 x p)) = 0)
theorem RW_n {pd : (Nat → Nat) → Nat → Int} {p b : Nat} {u u' : Nat → Int32} {y y' : Nat → Int64} (hW : 1 ≤ W ∧ W ≤ 10) (hb : b < W) (h : RW W pd N p b u y) (h1 : ∀ i, (∀ a', a' < 10 → i ≠ tp p a' b) → u' i = u i ∧ y' i = y i) (h2 : ∀ x, dg W x → d1 x p = b → (u' (tp p (d2 x p) b)).toInt = lmin (VS W pd N x p) W ∧ y' (tp p (d2 x p) b) = lsum (WS W pd N x p) W) : RW W pd N p (b + 1) u' y' := by
  refine ⟨fun x hx hd => ?_, fun x hx hd => ?_⟩
  · by_cases e : d1 x p = b
    · have h3 := h2 x hx e
      rw [e]
      exact h3
    · have h4 := d1_9 (p := p) hx hW
      have h5 := d2_9 (p := p) hx hW
      have h3 := h1 (tp p (d2 x p) (d1 x p)) (fun a' ha' => by rw [tp, tp]; omega)
      rw [h3.1, h3.2]
      exact h.1 x hx (by omega)
  · have h4 := d1_9 (p := p) hx hW
    have h5 := d2_9 (p := p) hx hW
    have h3 := h1 (tp p (d2 x p) (d1 x p)) (fun a' ha' => by rw [tp, tp]; omega)
    rw [h3.1, h3.2]
    exact h.2 x hx (by omega)
theorem RW_e {pd : (Nat → Nat) → Nat → Int} {p : Nat} {u : Nat → Int32} {y : Nat → Int64} (hW : 1 ≤ W ∧ W ≤ 10) (hp : p + 2 ≤ N) (h : RW W pd N p (if 1 ≤ p then W else 1) u y) (h2 : TI pd N W (p + 1) u y) : TI pd N W p u y := by
  intro q h3 h4 x hx
  by_cases e : q = p
  · rw [e, VT_S (by omega), WT_S (by omega)]
    exact h.1 x hx (d1_lt hx hW.1 p)
  · exact h2 q (by omega) h4 x hx
theorem RW_0 {pd : (Nat → Nat) → Nat → Int} {p : Nat} {u : Nat → Int32} {y : Nat → Int64} (hW : 1 ≤ W ∧ W ≤ 10) (h : ∀ a' b', a' < W → b' < W → u (tp p a' b') = (1000000 : Int32) ∧ y (tp p a' b') = (0 : Int64)) : RW W pd N p 0 u y := by
  refine ⟨fun x hx hd => absurd hd (Nat.not_lt_zero _), fun x hx _ => ?_⟩
  have h3 := h _ _ (d2_9 (p := p) hx hW) (d1_9 (p := p) hx hW)
  rw [h3.1, h3.2]
  exact ⟨rfl, rfl⟩
theorem RW_c {pd : (Nat → Nat) → Nat → Int} {p b : Nat} {u : Nat → Int32} {y : Nat → Int64} (h : RW W pd N p b u y) : ∀ x, dg W x → d1 x p = b → (u (tp p (d2 x p) b)).toInt = lmin (VS W pd N x p) 0 ∧ y (tp p (d2 x p) b) = lsum (WS W pd N x p) 0 := by
  intro x hx e
  have h3 := h.2 x hx (by omega)
  rw [e] at h3
  exact h3
theorem TI_m {pd : (Nat → Nat) → Nat → Int} {p : Nat} {u u' : Nat → Int32} {y y' : Nat → Int64} (hW : 1 ≤ W ∧ W ≤ 10) (h : TI pd N W (p + 1) u y) (h1 : ∀ i, i / 100 ≠ p → u' i = u i ∧ y' i = y i) : TI pd N W (p + 1) u' y' := by
  intro q h3 h4 x hx
  have h5 := h1 (tp q (d2 x q) (d1 x q)) (by
    have h6 := d1_9 (p := q) hx hW
    have h7 := d2_9 (p := q) hx hW
    rw [tp_k (by omega) (by omega)]
    omega)
  rw [h5.1, h5.2]
  exact h q h3 h4 x hx
theorem sp_out (C : cx gs gv mc mr mg N W LO R) (hw : wtr wv mw) (hTB : TB mc mr mb mf mg N W LO mv) {p : Nat} (hp : p + 2 < N) : ∀ n b fu u y, b + n = (if 1 ≤ p then W else 1) → n < fu → TI (pdc mc mr mb mf mg mw N LO F) N W (p + 1) u y → RW W (pdc mc mr mb mf mg mw N LO F) N p b u y → ∃ u' y', f_X4_sweepPlace_l7 (nI W) mv wv (nI p) (nI (mkn F 12)) fu (nI b) u y = (u', y') ∧ TI (pdc mc mr mb mf mg mw N LO F) N W p u' y' := by
  have C0 := C
  obtain ⟨hm, hg, hgv, hN, hN2, hR, hW, hLO⟩ := C
  have hch : f_X4_choices (nI W) (nI p - (1 : Int32)) = nI (if 1 ≤ p then W else 1) := by
    have h := ch_n (sw := nI W) (p := p) (r := 1) (by omega) (by omega)
    rw [show nI 1 = (1 : Int32) from rfl] at h
    rw [h]
    split <;> rfl
  have hch2 : (if 1 ≤ p then W else 1) ≤ W := by split <;> omega
  intro n
  induction n with
  | zero =>
    intro b fu u y hb hf h1 h2
    obtain ⟨fu, rfl⟩ : ∃ f, fu = f + 1 := ⟨fu - 1, by omega⟩
    rw [Nat.add_zero] at hb
    rw [hb] at h2
    refine ⟨u, y, ?_, RW_e hW (by omega) h2 h1⟩
    rw [e_X4_sweepPlace_l7, hch, if_pos (nI_le (by omega) (by omega))]
  | succ n ih =>
    intro b fu u y hb hf h1 h2
    obtain ⟨fu, rfl⟩ : ∃ f, fu = f + 1 := ⟨fu - 1, by omega⟩
    obtain ⟨u1, y1, k1, k2, k3⟩ := sp_in (K := f_X4_sweepPlace_j77 (nI b) (f_X4_sweepPlace_l7 (nI W) mv wv (nI p) (nI (mkn F 12)) fu)) C0 hw hTB hp (by omega) h1 W 0 (((nI W).toInt - (0 : Int32).toInt).toNat + 1) u y (Nat.zero_add _) (by rw [t_n (by omega), t_0]; omega) (fun _ _ => ⟨rfl, rfl⟩) (RW_c h2)
    obtain ⟨u', y', g1, g2⟩ := ih (b + 1) fu u1 y1 (by omega) (by omega) (TI_m hW h1 (fun i hi => k2 i (fun a' ha' => by rw [tp]; omega))) (RW_n hW (by omega) h2 k2 k3)
    refine ⟨u', y', ?_, g2⟩
    rw [e_X4_sweepPlace_l7, hch, if_neg (nI_ge (by omega) (by omega))]
    rw [show (0 : Int32) = nI 0 from rfl] at k1 ⊢
    rw [k1, e_X4_sweepPlace_j77, ← nI_succ]
    exact g1
theorem sp_ok (C : cx gs gv mc mr mg N W LO R) (hw : wtr wv mw) (hTB : TB mc mr mb mf mg N W LO mv) {p : Nat} (hp : p + 2 < N) {u : Nat → Int32} {y : Nat → Int64} (hT : TI (pdc mc mr mb mf mg mw N LO F) N W (p + 1) u y) : ∃ u' y', f_X4_sweepPlace (nI W) mv u y wv (nI p) (nI (mkn F 12)) = (u', y') ∧ TI (pdc mc mr mb mf mg mw N LO F) N W p u' y' := by
  have C0 := C
  obtain ⟨hm, hg, hgv, hN, hN2, hR, hW, hLO⟩ := C
  have hch : f_X4_choices (nI W) (nI p - (1 : Int32)) = nI (if 1 ≤ p then W else 1) := by
    have h := ch_n (sw := nI W) (p := p) (r := 1) (by omega) (by omega)
    rw [show nI 1 = (1 : Int32) from rfl] at h
    rw [h]
    split <;> rfl
  have hch2 : (if 1 ≤ p then W else 1) ≤ W := by split <;> omega
  obtain ⟨u1, y1, k1, k2, k3⟩ := er_ok (W := W) (p := p) (by omega) hW.2 u y
  obtain ⟨u', y', g1, g2⟩ := sp_out C0 hw hTB hp (if 1 ≤ p then W else 1) 0 (((f_X4_choices (nI W) (nI p - (1 : Int32))).toInt - (0 : Int32).toInt).toNat + 1) u1 y1 (Nat.zero_add _) (by rw [hch, t_n (by omega), t_0]; omega) (TI_m hW hT k2) (RW_0 hW k3)
  refine ⟨u', y', ?_, g2⟩
  rw [e_X4_sweepPlace, k1]
  exact g1
end
