/-! ===== the class's best line ===== -/
section
variable {W N : Nat} {pd : (Nat → Nat) → Nat → Int}
theorem VT_c (P : PD N pd) : ∀ n p x y, p + n = N → (∀ j, j < p → x j = y j) → VT W pd n p x = VT W pd n p y
  | 0, p, x, y, _, _ => by rw [VT, VT]
  | n + 1, p, x, y, h, hj => by
    rw [VT, VT]
    refine lmin_congr W (fun c _ => ?_)
    have h1 : ∀ j, j < p + 1 → lset x p c j = lset y p c j := fun j h1 => by
      by_cases e : j = p
      · rw [e, lset_at, lset_at]
      · rw [lset_ne e, lset_ne e]
        exact hj j (by omega)
    rw [VT_c P n (p + 1) _ _ (by omega) h1, P.2.1 _ _ p (by omega) (fun j h2 => h1 j (by omega))]
/-- the notes ahead of p are found -/
def GP (W N : Nat) (pd : (Nat → Nat) → Nat → Int) (m : Nat) (y : Nat → Nat) : Prop := ∀ p, p < m → y p < W ∧ pd y p + VT W pd (N - p - 1) (p + 1) y = VT W pd (N - p) p y ∧ ∀ c, c < y p → pd (lset y p c) p + VT W pd (N - p - 1) (p + 1) (lset y p c) ≠ VT W pd (N - p) p y
theorem GP_n (P : PD N pd) {m c : Nat} {x : Nat → Nat} (hm : m < N) (h : GP W N pd m x) (hc : c < W) (h1 : pd (lset x m c) m + VT W pd (N - m - 1) (m + 1) (lset x m c) = VT W pd (N - m) m x) (h2 : ∀ d, d < c → pd (lset x m d) m + VT W pd (N - m - 1) (m + 1) (lset x m d) ≠ VT W pd (N - m) m x) : GP W N pd (m + 1) (lset x m c) := by
  intro p hp
  have hag : ∀ j, j < m → lset x m c j = x j := fun j hj => lset_ne (by omega)
  by_cases e : p = m
  · subst e
    have hV : VT W pd (N - p) p (lset x p c) = VT W pd (N - p) p x := VT_c P (N - p) p _ _ (by omega) hag
    rw [lset_at, hV]
    refine ⟨hc, h1, fun d hd => ?_⟩
    have e2 : lset (lset x p c) p d = lset x p d := by
      funext j
      by_cases e3 : j = p
      · rw [e3, lset_at, lset_at]
      · rw [lset_ne e3, lset_ne e3, lset_ne e3]
    rw [e2]
    exact h2 d hd
  · have hpm : p < m := by omega
    obtain ⟨a1, a2, a3⟩ := h p hpm
    have hV : VT W pd (N - p) p (lset x m c) = VT W pd (N - p) p x := VT_c P (N - p) p _ _ (by omega) (fun j hj => hag j (by omega))
    have hV2 : VT W pd (N - p - 1) (p + 1) (lset x m c) = VT W pd (N - p - 1) (p + 1) x := VT_c P (N - p - 1) (p + 1) _ _ (by omega) (fun j hj => hag j (by omega))
    have hq : pd (lset x m c) p = pd x p := P.2.1 _ _ p (by omega) (fun j hj => hag j (by omega))
    rw [hag p hpm, hV, hV2, hq]
    refine ⟨a1, a2, fun d hd => ?_⟩
    have hd2 : ∀ j, j < m → lset (lset x m c) p d j = lset x p d j := fun j hj => by
      by_cases e3 : j = p
      · rw [e3, lset_at, lset_at]
      · rw [lset_ne e3, lset_ne e3, hag j hj]
    rw [VT_c P (N - p - 1) (p + 1) (lset (lset x m c) p d) (lset x p d) (by omega) (fun j hj => hd2 j (by omega)), P.2.1 (lset (lset x m c) p d) (lset x p d) p (by omega) (fun j hj => hd2 j (by omega))]
    exact a3 d hd
/-- the first that does, if one does -/
theorem VS_at {x : Nat → Nat} {p : Nat} (hp : p < N) (hz : VT W pd (N - p) p x < ZZ) : ∃ c, c < W ∧ pd (lset x p c) p + VT W pd (N - p - 1) (p + 1) (lset x p c) = VT W pd (N - p) p x ∧ ∀ d, d < c → pd (lset x p d) p + VT W pd (N - p - 1) (p + 1) (lset x p d) ≠ VT W pd (N - p) p x := by
  rw [VT_S hp] at hz ⊢
  obtain ⟨c, h1, h2, h3⟩ := lmin_at W hz
  rw [← h2] at hz ⊢
  refine ⟨c, h1, ?_, fun d hd he => ?_⟩
  · rw [VS] at hz ⊢
    omega
  · refine h3 d hd ?_
    rw [← h2]
    rw [VS] at hz ⊢
    rw [VS] at he ⊢
    omega
end
section
variable {gs mc mr mf mb : Int32} {gv mg mv wv mw : Nat → Int32} {N W LO R : Nat} {F : Nat → Bool}
theorem bn_l (C : cx gs gv mc mr mg N W LO R) (hw : wtr wv mw) (hTB : TB mc mr mb mf mg N W LO mv) {u : Nat → Int32} {y : Nat → Int64} (hT : TI (pdc mc mr mb mf mg mw N LO F) N W 0 u y) {p : Nat} {x : Nat → Nat} (hp : p + 2 < N) (hx : dg W x) : ∀ n c fu, c + n = W → n < fu → (∀ d, d < c → pdc mc mr mb mf mg mw N LO F (lset x p d) p + VT W (pdc mc mr mb mf mg mw N LO F) (N - p - 1) (p + 1) (lset x p d) ≠ VT W (pdc mc mr mb mf mg mw N LO F) (N - p) p x) → ∃ d, d < W ∧ f_X4_bestNext_l3 (nI W) mv u wv (nI p) (nI (d2 x p)) (nI (d1 x p)) (nI (mkn F 12)) fu (nI c) = nI d ∧ (VT W (pdc mc mr mb mf mg mw N LO F) (N - p) p x < ZZ → pdc mc mr mb mf mg mw N LO F (lset x p d) p + VT W (pdc mc mr mb mf mg mw N LO F) (N - p - 1) (p + 1) (lset x p d) = VT W (pdc mc mr mb mf mg mw N LO F) (N - p) p x ∧ ∀ e, e < d → pdc mc mr mb mf mg mw N LO F (lset x p e) p + VT W (pdc mc mr mb mf mg mw N LO F) (N - p - 1) (p + 1) (lset x p e) ≠ VT W (pdc mc mr mb mf mg mw N LO F) (N - p) p x) := by
  have PP := PD_c (F := F) (mf := mf) (mb := mb) C hw
  obtain ⟨hm, hg, hgv, hN, hN2, hR, hW, hLO⟩ := C
  have hZ := ZZ_e
  have ha9 := d2_9 (p := p) hx hW
  have hb9 := d1_9 (p := p) hx hW
  intro n
  induction n with
  | zero =>
    intro c fu hc hf h
    obtain ⟨fu, rfl⟩ : ∃ f, fu = f + 1 := ⟨fu - 1, by omega⟩
    refine ⟨0, by omega, ?_, fun hz => ?_⟩
    · rw [e_X4_bestNext_l3, if_pos (nI_le (by omega) (by omega))]
      rfl
    · obtain ⟨d, h1, h2, h3⟩ := VS_at (show p < N by omega) hz
      exact absurd h2 (h d (by omega))
  | succ n ih =>
    intro c fu hc hf h
    obtain ⟨fu, rfl⟩ : ∃ f, fu = f + 1 := ⟨fu - 1, by omega⟩
    have hcW : c < W := by omega
    have hdc := dg_set hx (p := p) hcW
    have hk := hTB (lset x p c) hdc p (by omega)
    rw [slt, if_neg (by omega), if_neg (fun h => by omega), d1_s, d2_s, lset_at] at hk
    have h5 := hT p (Nat.zero_le _) (by omega) x hx
    have h6 := hT (p + 1) (Nat.zero_le _) (by omega) (lset x p c) hdc
    rw [d1_n, d2_n, show N - (p + 1) = N - p - 1 by omega] at h6
    have hpr : (f_X4_priceOf wv (mv (mpl p (d2 x p) (d1 x p) c)) (nI (mkn F 12))).toInt = pdc mc mr mb mf mg mw N LO F (lset x p c) p := by
      rw [hk, price_n hw, pdc, if_pos hp]
    have hpd := PP.1 (lset x p c) p
    have hv1 := VT_b (W := W) PP (N - p - 1) (p + 1) (lset x p c)
    have hv2 := VT_b (W := W) PP (N - p) p x
    have hpz : pdc mc mr mb mf mg mw N LO F (lset x p c) p ≤ ZZ := by
      have := PP.2.2 (lset x p c) p
      have h7 : pce mc mr mb mf mg mw N LO F (lset x p c) p ≤ ZZ := by
        have h8 := cw_b (mc := mc) (mr := mr) (mb := mb) (mf := mf) (mg := mg) (N := N) (LO := LO) hw (lset x p c) p
        rw [pce]
        split <;> omega
      rw [pdc, if_pos hp]
      exact h7
    have hiff : f_X4_priceOf wv (mv (mpl p (d2 x p) (d1 x p) c)) (nI (mkn F 12)) + u (tp (p + 1) (d1 x p) c) = u (tp p (d2 x p) (d1 x p)) ↔ pdc mc mr mb mf mg mw N LO F (lset x p c) p + VT W (pdc mc mr mb mf mg mw N LO F) (N - p - 1) (p + 1) (lset x p c) = VT W (pdc mc mr mb mf mg mw N LO F) (N - p) p x := by
      rw [← hpr, ← h6.1, ← h5.1, ← Int32.toInt_inj, t_add (by rw [hpr, h6.1]; omega) (by rw [hpr, h6.1]; omega)]
    rw [e_X4_bestNext_l3, if_neg (nI_ge (by omega) (by omega)), ma_n (by omega) (by omega) (by omega) (by omega), ← nI_succ, tl_n (by omega) (by omega) (by omega), tl_n (by omega) (by omega) (by omega)]
    by_cases c1 : f_X4_priceOf wv (mv (mpl p (d2 x p) (d1 x p) c)) (nI (mkn F 12)) + u (tp (p + 1) (d1 x p) c) = u (tp p (d2 x p) (d1 x p))
    · rw [if_pos c1]
      exact ⟨c, hcW, rfl, fun _ => ⟨hiff.mp c1, h⟩⟩
    · rw [if_neg c1, ← nI_succ]
      exact ih (c + 1) fu (by omega) (by omega) (fun d hd => by
        by_cases e : d = c
        · rw [e]
          exact fun e2 => c1 (hiff.mpr e2)
        · exact h d (by omega))
theorem bn_ok (C : cx gs gv mc mr mg N W LO R) (hw : wtr wv mw) (hTB : TB mc mr mb mf mg N W LO mv) {u : Nat → Int32} {y : Nat → Int64} (hT : TI (pdc mc mr mb mf mg mw N LO F) N W 0 u y) {p : Nat} {x : Nat → Nat} (hp : p + 2 < N) (hx : dg W x) : ∃ d, d < W ∧ f_X4_bestNext (nI W) mv u wv (nI p) (nI (d2 x p)) (nI (d1 x p)) (nI (mkn F 12)) = nI d ∧ (VT W (pdc mc mr mb mf mg mw N LO F) (N - p) p x < ZZ → pdc mc mr mb mf mg mw N LO F (lset x p d) p + VT W (pdc mc mr mb mf mg mw N LO F) (N - p - 1) (p + 1) (lset x p d) = VT W (pdc mc mr mb mf mg mw N LO F) (N - p) p x ∧ ∀ e, e < d → pdc mc mr mb mf mg mw N LO F (lset x p e) p + VT W (pdc mc mr mb mf mg mw N LO F) (N - p - 1) (p + 1) (lset x p e) ≠ VT W (pdc mc mr mb mf mg mw N LO F) (N - p) p x) := by
  have hW := C.2.2.2.2.2.2.1
  obtain ⟨d, h1, h2, h3⟩ := bn_l C hw hTB hT hp hx W 0 (((nI W).toInt - (0 : Int32).toInt).toNat + 1) (Nat.zero_add _) (by rw [t_n (by omega), t_0]; omega) (fun d hd => absurd hd (Nat.not_lt_zero _))
  exact ⟨d, h1, by rw [e_X4_bestNext]; exact h2, h3⟩
/-- a pair of last notes costs what the rest costs -/
def EQ2 (pd : (Nat → Nat) → Nat → Int) (W N : Nat) (x : Nat → Nat) (p c l : Nat) : Prop := pd (lset (lset x p c) (p + 1) l) (p + 1) = VT W pd (N - p) p x
theorem we_last (C : cx gs gv mc mr mg N W LO R) (hw : wtr wv mw) (hTB : TB mc mr mb mf mg N W LO mv) {u : Nat → Int32} {y : Nat → Int64} (hT : TI (pdc mc mr mb mf mg mw N LO F) N W 0 u y) {p c : Nat} {x : Nat → Nat} {K : (Nat → Int32) → (Nat → Int32)} (hp : p + 2 = N) (hc : c < W) (hx : dg W x) : ∀ n l fu t, l + n = W → n < fu → (∀ d, d < l → ¬ EQ2 (pdc mc mr mb mf mg mw N LO F) W N x p c d) → (f_X4_writeBestEnd_l15 (nI N) (nI W) (nI LO) mv u wv (nI (d2 x p)) (nI (d1 x p)) (nI (mkn F 12)) (nI c) K fu (nI l) t = K t ∧ ∀ d, d < W → ¬ EQ2 (pdc mc mr mb mf mg mw N LO F) W N x p c d) ∨ ∃ d, d < W ∧ f_X4_writeBestEnd_l15 (nI N) (nI W) (nI LO) mv u wv (nI (d2 x p)) (nI (d1 x p)) (nI (mkn F 12)) (nI c) K fu (nI l) t = upd (upd t p (nI (LO + c))) (p + 1) (nI (LO + d)) ∧ EQ2 (pdc mc mr mb mf mg mw N LO F) W N x p c d ∧ ∀ e, e < d → ¬ EQ2 (pdc mc mr mb mf mg mw N LO F) W N x p c e := by
  have PP := PD_c (F := F) (mf := mf) (mb := mb) C hw
  obtain ⟨hm, hg, hgv, hN, hN2, hR, hW, hLO⟩ := C
  have hZ := ZZ_e
  have ha9 := d2_9 (p := p) hx hW
  have hb9 := d1_9 (p := p) hx hW
  have e2 : nI N - (2 : Int32) = nI p := by rw [show p = N - 2 by omega]; exact nI_minus (b := 2) (by omega)
  have e1 : nI N - (1 : Int32) = nI (p + 1) := by rw [show p + 1 = N - 1 by omega]; exact nI_minus (b := 1) (by omega)
  intro n
  induction n with
  | zero =>
    intro l fu t hl hf h
    obtain ⟨fu, rfl⟩ : ∃ f, fu = f + 1 := ⟨fu - 1, by omega⟩
    refine Or.inl ⟨?_, fun d hd => h d (by omega)⟩
    rw [e_X4_writeBestEnd_l15, if_pos (nI_le (by omega) (by omega))]
  | succ n ih =>
    intro l fu t hl hf h
    obtain ⟨fu, rfl⟩ : ∃ f, fu = f + 1 := ⟨fu - 1, by omega⟩
    have hlW : l < W := by omega
    have hdz := dg_set (dg_set hx (p := p) hc) (p := p + 1) hlW
    have hb1 := hTB (lset (lset x p c) (p + 1) l) hdz (p + 1) (by omega)
    rw [slt, if_pos (by omega), d1_s, d2_s, d1_n, d2_n, lset_at] at hb1
    have ha1 : mv (mpl (if l = c + 1 then N - 1 else N - 2) (d2 x p) (d1 x p) c) = fk mc mr mb mf mg N LO (lset (lset x p c) (p + 1) l) p := by
      have h := hTB (lset (lset x p c) (p + 1) l) hdz p (by omega)
      have ea : d2 (lset (lset x p c) (p + 1) l) p = d2 x p := by
        rw [d2, d2]
        split
        · rw [lset_ne (by omega), lset_ne (by omega)]
        · rfl
      have eb : d1 (lset (lset x p c) (p + 1) l) p = d1 x p := by
        rw [d1, d1]
        split
        · rw [lset_ne (by omega), lset_ne (by omega)]
        · rfl
      have e1 : lset (lset x p c) (p + 1) l p = c := by rw [lset_ne (by omega), lset_at]
      have e2 : lset (lset x p c) (p + 1) l (N - 1) = l := by rw [show N - 1 = p + 1 by omega, lset_at]
      rw [slt, if_neg (by omega), ea, eb, e1, e2, show N - 2 = p by omega, e1] at h
      rw [← h, show N - 2 = p by omega]
      by_cases e : l = c + 1
      · rw [if_pos e, if_pos ⟨rfl, e⟩]
      · rw [if_neg e, if_neg (fun h => e h.2)]
    have h5 := (hT p (Nat.zero_le _) (by omega) x hx).1
    have hpz : ∀ q, pce mc mr mb mf mg mw N LO F (lset (lset x p c) (p + 1) l) q ≤ ZZ ∧ 0 ≤ pce mc mr mb mf mg mw N LO F (lset (lset x p c) (p + 1) l) q := fun q => by
      have h8 := cw_b (mc := mc) (mr := mr) (mb := mb) (mf := mf) (mg := mg) (N := N) (LO := LO) hw (lset (lset x p c) (p + 1) l) q
      rw [pce]
      split <;> omega
    have hz1 := hpz p
    have hz2 := hpz (p + 1)
    have hp1 : (f_X4_priceOf wv (fk mc mr mb mf mg N LO (lset (lset x p c) (p + 1) l) p) (nI (mkn F 12))).toInt = pce mc mr mb mf mg mw N LO F (lset (lset x p c) (p + 1) l) p := price_n hw
    have hp2 : (f_X4_priceOf wv (fk mc mr mb mf mg N LO (lset (lset x p c) (p + 1) l) (p + 1)) (nI (mkn F 12))).toInt = pce mc mr mb mf mg mw N LO F (lset (lset x p c) (p + 1) l) (p + 1) := price_n hw
    have hiff : f_X4_priceOf wv (fk mc mr mb mf mg N LO (lset (lset x p c) (p + 1) l) p) (nI (mkn F 12)) + f_X4_priceOf wv (fk mc mr mb mf mg N LO (lset (lset x p c) (p + 1) l) (p + 1)) (nI (mkn F 12)) = u (tp p (d2 x p) (d1 x p)) ↔ EQ2 (pdc mc mr mb mf mg mw N LO F) W N x p c l := by
      rw [EQ2, ← h5, (pd_e (mc := mc) (mr := mr) (mb := mb) (mf := mf) (mg := mg) (mw := mw) (LO := LO) (F := F) hp _).2, ← hp1, ← hp2, ← Int32.toInt_inj, t_add (by rw [hp1, hp2]; omega) (by rw [hp1, hp2]; omega)]
    rw [e_X4_writeBestEnd_l15, if_neg (nI_ge (by omega) (by omega)), sl_n hN2 (by omega) (by omega), ma_n (by split <;> omega) (by omega) (by omega) (by omega), ma_n (by omega) (by omega) (by omega) (by omega), ha1, hb1, e2, e1, tl_n (by omega) (by omega) (by omega)]
    by_cases c1 : f_X4_priceOf wv (fk mc mr mb mf mg N LO (lset (lset x p c) (p + 1) l) p) (nI (mkn F 12)) + f_X4_priceOf wv (fk mc mr mb mf mg N LO (lset (lset x p c) (p + 1) l) (p + 1)) (nI (mkn F 12)) = u (tp p (d2 x p) (d1 x p))
    · rw [if_pos c1, put_0 (by omega), put_0 (by omega), ← nI_plus, ← nI_plus]
      exact Or.inr ⟨l, hlW, rfl, hiff.mp c1, h⟩
    · rw [if_neg c1, ← nI_succ]
      exact ih (l + 1) fu t (by omega) (by omega) (fun d hd => by
        by_cases e : d = l
        · rw [e]
          exact fun e2 => c1 (hiff.mpr e2)
        · exact h d (by omega))
theorem we_out (C : cx gs gv mc mr mg N W LO R) (hw : wtr wv mw) (hTB : TB mc mr mb mf mg N W LO mv) {u : Nat → Int32} {y : Nat → Int64} (hT : TI (pdc mc mr mb mf mg mw N LO F) N W 0 u y) {p : Nat} {x : Nat → Nat} (hp : p + 2 = N) (hx : dg W x) : ∀ n c fu t, c + n = W → n < fu → (∀ e d, e < c → d < W → ¬ EQ2 (pdc mc mr mb mf mg mw N LO F) W N x p e d) → (f_X4_writeBestEnd_l3 (nI N) (nI W) (nI LO) mv u wv (nI (d2 x p)) (nI (d1 x p)) (nI (mkn F 12)) fu (nI c) t = t ∧ ∀ e d, e < W → d < W → ¬ EQ2 (pdc mc mr mb mf mg mw N LO F) W N x p e d) ∨ ∃ e d, e < W ∧ d < W ∧ f_X4_writeBestEnd_l3 (nI N) (nI W) (nI LO) mv u wv (nI (d2 x p)) (nI (d1 x p)) (nI (mkn F 12)) fu (nI c) t = upd (upd t p (nI (LO + e))) (p + 1) (nI (LO + d)) ∧ EQ2 (pdc mc mr mb mf mg mw N LO F) W N x p e d ∧ (∀ d', d' < d → ¬ EQ2 (pdc mc mr mb mf mg mw N LO F) W N x p e d') ∧ (∀ e' d', e' < e → d' < W → ¬ EQ2 (pdc mc mr mb mf mg mw N LO F) W N x p e' d') := by
  have C0 := C
  obtain ⟨hm, hg, hgv, hN, hN2, hR, hW, hLO⟩ := C
  intro n
  induction n with
  | zero =>
    intro c fu t hc hf h
    obtain ⟨fu, rfl⟩ : ∃ f, fu = f + 1 := ⟨fu - 1, by omega⟩
    refine Or.inl ⟨?_, fun e d he hd => h e d (by omega) hd⟩
    rw [e_X4_writeBestEnd_l3, if_pos (nI_le (by omega) (by omega))]
  | succ n ih =>
    intro c fu t hc hf h
    obtain ⟨fu, rfl⟩ : ∃ f, fu = f + 1 := ⟨fu - 1, by omega⟩
    have h1 := we_last (K := f_X4_writeBestEnd_j130 (nI c) (f_X4_writeBestEnd_l3 (nI N) (nI W) (nI LO) mv u wv (nI (d2 x p)) (nI (d1 x p)) (nI (mkn F 12)) fu)) C0 hw hTB hT hp (show c < W by omega) hx W 0 (((nI W).toInt - (0 : Int32).toInt).toNat + 1) t (Nat.zero_add _) (by rw [t_n (by omega), t_0]; omega) (fun d hd => absurd hd (Nat.not_lt_zero _))
    rw [e_X4_writeBestEnd_l3, if_neg (nI_ge (by omega) (by omega))]
    rw [show (0 : Int32) = nI 0 from rfl] at h1 ⊢
    rcases h1 with ⟨a1, a2⟩ | ⟨d, d1, d2, d3, d4⟩
    · rw [a1, e_X4_writeBestEnd_j130, ← nI_succ]
      exact ih (c + 1) fu t (by omega) (by omega) (fun e d he hd => by
        by_cases e2 : e = c
        · rw [e2]
          exact a2 d hd
        · exact h e d (by omega) hd)
    · exact Or.inr ⟨c, d, by omega, d1, d2, d3, d4, h⟩
end
