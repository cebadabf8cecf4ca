/-! ===== the class's sweep: what it pays, empty rows, notes put ahead ===== -/
def tp (p a b : Nat) : Nat := (p * 10 + a) * 10 + b
/-- what a note of a line costs -/
def cw (mc mr mb mf : Int32) (mg mw : Nat → Int32) (N LO : Nat) (x : Nat → Nat) (p : Nat) : Int := (wcs mc mr mb mf mg (lx LO x) mw (nI N) p).toInt
/-- whether a fault of a law of F is at a note of a line -/
def bd (mc mr mb mf : Int32) (mg : Nat → Int32) (N LO : Nat) (F : Nat → Bool) (x : Nat → Nat) (p : Nat) : Bool := anb (fun k => flb mc mr mb mf mg (lx LO x) (nI p) (nI N) k && F k) 12 0
def pce (mc mr mb mf : Int32) (mg mw : Nat → Int32) (N LO : Nat) (F : Nat → Bool) (x : Nat → Nat) (p : Nat) : Int := if bd mc mr mb mf mg N LO F x p = true then ZZ else cw mc mr mb mf mg mw N LO x p
/-- the class pays for the last two notes at once -/
def pdc (mc mr mb mf : Int32) (mg mw : Nat → Int32) (N LO : Nat) (F : Nat → Bool) (x : Nat → Nat) (q : Nat) : Int := if q + 2 < N then pce mc mr mb mf mg mw N LO F x q else if q + 1 < N then 0 else pce mc mr mb mf mg mw N LO F x (N - 2) + pce mc mr mb mf mg mw N LO F x (N - 1)
def TI (pd : (Nat → Nat) → Nat → Int) (N W p : Nat) (u : Nat → Int32) (y : Nat → Int64) : Prop := ∀ q, p ≤ q → q + 2 ≤ N → ∀ x, dg W x → (u (tp q (d2 x q) (d1 x q))).toInt = VT W pd (N - q) q x ∧ y (tp q (d2 x q) (d1 x q)) = WT W pd (N - q) q x
theorem imin_i (x y : Int32) : (imin x y).toInt = min x.toInt y.toInt := by
  rw [imin]
  by_cases h : y < x
  · rw [if_pos h]
    rw [t_lt] at h
    omega
  · rw [if_neg h]
    rw [t_lt] at h
    omega
theorem tZ : (1000000 : Int32).toInt = ZZ := rfl
theorem dg_set {W : Nat} {x : Nat → Nat} (hx : dg W x) {p c : Nat} (hc : c < W) : dg W (lset x p c) := by
  intro j
  by_cases e : j = p
  · rw [e, lset_at]
    exact hc
  · rw [lset_ne e]
    exact hx j
theorem d1_s {x : Nat → Nat} {p c : Nat} : d1 (lset x p c) p = d1 x p := by
  rw [d1, d1]
  split
  · rw [lset_ne (by omega)]
  · rfl
theorem d2_s {x : Nat → Nat} {p c : Nat} : d2 (lset x p c) p = d2 x p := by
  rw [d2, d2]
  split
  · rw [lset_ne (by omega)]
  · rfl
theorem d1_n {x : Nat → Nat} {p c : Nat} : d1 (lset x p c) (p + 1) = c := by
  rw [d1, if_pos (by omega), Nat.add_sub_cancel, lset_at]
theorem d2_n {x : Nat → Nat} {p c : Nat} : d2 (lset x p c) (p + 1) = d1 x p := by
  rw [d2, d1]
  by_cases h : 1 ≤ p
  · rw [if_pos (by omega), if_pos h, lset_ne (by omega), show p + 1 - 2 = p - 1 by omega]
  · rw [if_neg (by omega), if_neg h]
theorem tp_n {p a b : Nat} : f_X4_tailPlace (nI p) (nI a) (nI b) = nI (tp p a b) := by
  rw [e_X4_tailPlace, show (10 : Int32) = nI 10 from rfl, ← nI_times, ← nI_plus, ← nI_times, ← nI_plus, tp]
theorem tp_b {p a b : Nat} (hp : p ≤ 26) (ha : a < 10) (hb : b < 10) : tp p a b < 2700 := by
  rw [tp]
  omega
theorem tl_n {u : Nat → Int32} {p a b : Nat} (hp : p ≤ 26) (ha : a < 10) (hb : b < 10) : f_X4_tailAt u (nI p) (nI a) (nI b) = u (tp p a b) := by
  have h := tp_b hp ha hb
  rw [e_X4_tailAt, tp_n, if_neg (nI_pos (by omega)), if_neg (by rw [show (2700 : Int32) = nI 2700 from rfl]; exact nI_ge h (by omega)), nI_clamp (by omega)]
theorem wy_n {y : Nat → Int64} {p a b : Nat} (hp : p ≤ 26) (ha : a < 10) (hb : b < 10) : f_X4_waysAt y (nI p) (nI a) (nI b) = y (tp p a b) := by
  have h := tp_b hp ha hb
  rw [e_X4_waysAt, tp_n, if_neg (nI_pos (by omega)), if_neg (by rw [show (2700 : Int32) = nI 2700 from rfl]; exact nI_ge h (by omega)), nI_clamp (by omega)]
theorem ma_n {mv : Nat → Int32} {s a b c : Nat} (hs : s ≤ 27) (ha : a < 10) (hb : b < 10) (hc : c < 10) : f_X4_maskAt mv (nI s) (nI a) (nI b) (nI c) = mv (mpl s a b c) := by
  have h := mp_b hs ha hb hc
  rw [e_X4_maskAt, mp_n, if_neg (nI_pos (by omega)), if_neg (by rw [show (28000 : Int32) = nI 28000 from rfl]; exact nI_ge h (by omega)), nI_clamp (by omega)]
theorem updL_at {f : Nat → Int64} {k : Nat} {v : Int64} : vp_updL f k v k = v := if_pos rfl
theorem updL_ne {f : Nat → Int64} {k j : Nat} {v : Int64} (h : j ≠ k) : vp_updL f k v j = f j := if_neg h
section
variable {gs mc mr mf mb : Int32} {gv mg mv wv mw : Nat → Int32} {N W LO R : Nat} {F : Nat → Bool}
theorem bd_mask {x : Nat → Nat} {p : Nat} : (fk mc mr mb mf mg N LO x p &&& (nI (mkn F 12)) = 0) ↔ bd mc mr mb mf mg N LO F x p = false := by
  rw [fk, and_mk, mk_0]
  exact Iff.rfl
theorem fk_cost (hw : wtr wv mw) {x : Nat → Nat} {p : Nat} : (f_X2_costOf wv (fk mc mr mb mf mg N LO x p)).toInt = cw mc mr mb mf mg mw N LO x p := by
  rw [fk, cost_mk, cw, wcs, tls_congr (f := wsum wv (flb mc mr mb mf mg (lx LO x) (nI p) (nI N))) (g := wsum mw (flb mc mr mb mf mg (lx LO x) (nI p) (nI N))) 12 0 (fun j _ h => by rw [wsum, wsum, (hw j (by omega)).1])]
theorem cw_b (hw : wtr wv mw) (x : Nat → Nat) (p : Nat) : 0 ≤ cw mc mr mb mf mg mw N LO x p ∧ cw mc mr mb mf mg mw N LO x p ≤ 120 := wcs_b hw p
theorem pce_b (hw : wtr wv mw) (x : Nat → Nat) (p : Nat) : 0 ≤ pce mc mr mb mf mg mw N LO F x p ∧ (pce mc mr mb mf mg mw N LO F x p < ZZ → pce mc mr mb mf mg mw N LO F x p ≤ 120) := by
  have h := cw_b (mc := mc) (mr := mr) (mb := mb) (mf := mf) (mg := mg) (N := N) (LO := LO) hw x p
  have hZ := ZZ_e
  rw [pce]
  split
  · exact ⟨by omega, by omega⟩
  · exact ⟨h.1, fun _ => h.2⟩
theorem price_n (hw : wtr wv mw) {x : Nat → Nat} {p : Nat} : (f_X4_priceOf wv (fk mc mr mb mf mg N LO x p) (nI (mkn F 12))).toInt = pce mc mr mb mf mg mw N LO F x p := by
  rw [e_X4_priceOf, pce]
  by_cases h : fk mc mr mb mf mg N LO x p &&& (nI (mkn F 12)) = 0
  · rw [if_pos h, if_neg (by rw [bd_mask.mp h]; decide), fk_cost hw]
  · rw [if_neg h, if_pos (by
      cases hb : bd mc mr mb mf mg N LO F x p
      · exact absurd (bd_mask.mpr hb) h
      · rfl)]
    rfl
theorem pce_c (hw : wtr wv mw) {x z : Nat → Nat} {p : Nat} (h : ∀ k, k < 12 → flb mc mr mb mf mg (lx LO x) (nI p) (nI N) k = flb mc mr mb mf mg (lx LO z) (nI p) (nI N) k) : pce mc mr mb mf mg mw N LO F x p = pce mc mr mb mf mg mw N LO F z p := by
  have e : fk mc mr mb mf mg N LO x p = fk mc mr mb mf mg N LO z p := by rw [fk, fk, mkn_congr 12 h]
  rw [← price_n (wv := wv) hw, ← price_n (wv := wv) hw, e]
theorem PD_c (C : cx gs gv mc mr mg N W LO R) (hw : wtr wv mw) : PD N (pdc mc mr mb mf mg mw N LO F) := by
  obtain ⟨hm, hg, hgv, hN, hN2, ⟨hR, hR2⟩, hW, hLO⟩ := C
  have hZ := ZZ_e
  refine ⟨fun x q => ?_, fun x z q hq h => ?_, fun x q h => ?_⟩
  · have h1 := pce_b (mc := mc) (mr := mr) (mb := mb) (mf := mf) (mg := mg) (N := N) (LO := LO) (F := F) hw x
    rw [pdc]
    have h2 := (h1 q).1
    have h3 := (h1 (N - 2)).1
    have h4 := (h1 (N - 1)).1
    split
    · exact h2
    · split <;> omega
  · have hl : ∀ j, j ≤ q → lx LO x j = lx LO z j := fun j hj => by rw [lx, lx, h j hj]
    rw [pdc, pdc]
    by_cases c1 : q + 2 < N
    · rw [if_pos c1, if_pos c1]
      exact pce_c (wv := wv) hw (flb_lo hR hR2 hN (by omega) c1 (Or.inl rfl) (Or.inl rfl) (hl q (by omega)) (hl _ (by omega)) (hl _ (by omega)))
    · rw [if_neg c1, if_neg c1]
      by_cases c2 : q + 1 < N
      · rw [if_pos c2, if_pos c2]
      · rw [if_neg c2, if_neg c2, pce_c (wv := wv) (z := z) hw (flb_pe hR hR2 (by omega) hN2.1 (hl _ (by omega)) (hl _ (by omega)) (hl _ (by omega)) (Or.inl (hl _ (by omega)))), pce_c (wv := wv) (z := z) (p := N - 1) hw (flb_la hR hR2 (by omega) hN2.1 (hl _ (by omega)) (hl _ (by omega)) (hl _ (by omega)))]
  · have h1 := pce_b (mc := mc) (mr := mr) (mb := mb) (mf := mf) (mg := mg) (N := N) (LO := LO) (F := F) hw x
    have h2 := h1 q
    have h3 := h1 (N - 2)
    have h4 := h1 (N - 1)
    rw [pdc] at h ⊢
    by_cases c1 : q + 2 < N
    · rw [if_pos c1] at h ⊢
      have := h2.2 h
      omega
    · rw [if_neg c1] at h ⊢
      by_cases c2 : q + 1 < N
      · rw [if_pos c2]
        omega
      · rw [if_neg c2] at h ⊢
        have h5 := h3.2 (by omega)
        have h6 := h4.2 (by omega)
        omega
end
/-! empty rows -/
theorem er_in {W p a : Nat} {K : (Nat → Int32) → (Nat → Int64) → ((Nat → Int32) × (Nat → Int64))} (hp : p ≤ 26) (ha : a < 10) (hW : W ≤ 10) : ∀ n b fu u y, b + n = W → n < fu → ∃ u' y', f_X4_emptyRow_l12 (nI W) (nI p) (nI a) K fu (nI b) u y = K u' y' ∧ (∀ i, (∀ b', b' < 10 → i ≠ tp p a b') → u' i = u i ∧ y' i = y i) ∧ (∀ b', b ≤ b' → b' < W → u' (tp p a b') = (1000000 : Int32) ∧ y' (tp p a b') = (0 : Int64)) ∧ (∀ b', b' < b → u' (tp p a b') = u (tp p a b') ∧ y' (tp p a b') = y (tp p a b')) := by
  intro n
  induction n with
  | zero =>
    intro b fu u y hb hf
    obtain ⟨fu, rfl⟩ : ∃ f, fu = f + 1 := ⟨fu - 1, by omega⟩
    refine ⟨u, y, ?_, fun _ _ => ⟨rfl, rfl⟩, fun b' h1 h2 => absurd h1 (by omega), fun _ _ => ⟨rfl, rfl⟩⟩
    rw [e_X4_emptyRow_l12, if_pos (nI_le (by omega) (by omega))]
  | succ n ih =>
    intro b fu u y hb hf
    obtain ⟨fu, rfl⟩ : ∃ f, fu = f + 1 := ⟨fu - 1, by omega⟩
    have hb10 : b < 10 := by omega
    have ht := tp_b hp ha hb10
    obtain ⟨u', y', g1, g2, g3, g4⟩ := ih (b + 1) fu (upd u (tp p a b) (1000000 : Int32)) (vp_updL y (tp p a b) (0 : Int64)) (by omega) (by omega)
    have h27 : ¬ (2700 : Int32) ≤ nI (tp p a b) := by
      rw [show (2700 : Int32) = nI 2700 from rfl]
      exact nI_ge ht (by omega)
    refine ⟨u', y', ?_, fun i hi => ?_, fun b' h1 h2 => ?_, fun b' h1 => ?_⟩
    · rw [e_X4_emptyRow_l12, if_neg (nI_ge (by omega) (by omega)), tp_n, if_neg (nI_pos (by omega)), if_neg h27, if_neg h27, nI_clamp (by omega), e_X4_emptyRow_j71, ← nI_succ]
      exact g1
    · rw [(g2 i hi).1, (g2 i hi).2, upd_ne (hi b hb10), updL_ne (hi b hb10)]
      exact ⟨rfl, rfl⟩
    · by_cases e : b' = b
      · rw [e, (g4 b (by omega)).1, (g4 b (by omega)).2, upd_at, updL_at]
        exact ⟨rfl, rfl⟩
      · exact g3 b' (by omega) h2
    · have hne : tp p a b' ≠ tp p a b := by rw [tp, tp]; omega
      rw [(g4 b' (by omega)).1, (g4 b' (by omega)).2, upd_ne hne, updL_ne hne]
      exact ⟨rfl, rfl⟩
theorem er_out {W p : Nat} (hp : p ≤ 26) (hW : W ≤ 10) : ∀ n a fu u y, a + n = W → n < fu → ∃ u' y', f_X4_emptyRow_l2 (nI W) (nI p) fu (nI a) u y = (u', y') ∧ (∀ i, i / 100 ≠ p → u' i = u i ∧ y' i = y i) ∧ (∀ a' b', a ≤ a' → a' < W → b' < W → u' (tp p a' b') = (1000000 : Int32) ∧ y' (tp p a' b') = (0 : Int64)) ∧ (∀ a' b', a' < a → b' < 10 → u' (tp p a' b') = u (tp p a' b') ∧ y' (tp p a' b') = y (tp p a' b')) := by
  intro n
  induction n with
  | zero =>
    intro a fu u y ha hf
    obtain ⟨fu, rfl⟩ : ∃ f, fu = f + 1 := ⟨fu - 1, by omega⟩
    refine ⟨u, y, ?_, fun _ _ => ⟨rfl, rfl⟩, fun a' b' h1 h2 => absurd h1 (by omega), fun _ _ _ _ => ⟨rfl, rfl⟩⟩
    rw [e_X4_emptyRow_l2, if_pos (nI_le (by omega) (by omega))]
  | succ n ih =>
    intro a fu u y ha hf
    obtain ⟨fu, rfl⟩ : ∃ f, fu = f + 1 := ⟨fu - 1, by omega⟩
    have ha10 : a < 10 := by omega
    obtain ⟨u1, y1, h1, h2, h3, h4⟩ := er_in (K := f_X4_emptyRow_j77 (nI a) (f_X4_emptyRow_l2 (nI W) (nI p) fu)) hp ha10 hW W 0 (((nI W).toInt - (0 : Int32).toInt).toNat + 1) u y (Nat.zero_add _) (by rw [t_n (by omega), t_0]; omega)
    obtain ⟨u', y', g1, g2, g3, g4⟩ := ih (a + 1) fu u1 y1 (by omega) (by omega)
    refine ⟨u', y', ?_, fun i hi => ?_, fun a' b' q1 q2 q3 => ?_, fun a' b' q1 q2 => ?_⟩
    · rw [e_X4_emptyRow_l2, if_neg (nI_ge (by omega) (by omega))]
      rw [show (0 : Int32) = nI 0 from rfl] at h1 ⊢
      rw [h1, e_X4_emptyRow_j77, ← nI_succ]
      exact g1
    · have hq := h2 i (fun b' hb' => by rw [tp]; omega)
      rw [(g2 i hi).1, (g2 i hi).2, hq.1, hq.2]
      exact ⟨rfl, rfl⟩
    · by_cases e : a' = a
      · rw [e, (g4 a b' (by omega) (by omega)).1, (g4 a b' (by omega) (by omega)).2]
        exact h3 b' (Nat.zero_le _) q3
      · exact g3 a' b' (by omega) q2 q3
    · have hq := h2 (tp p a' b') (fun b'' hb'' => by rw [tp, tp]; omega)
      rw [(g4 a' b' (by omega) q2).1, (g4 a' b' (by omega) q2).2, hq.1, hq.2]
      exact ⟨rfl, rfl⟩
theorem er_ok {W p : Nat} (hp : p ≤ 26) (hW : W ≤ 10) (u : Nat → Int32) (y : Nat → Int64) : ∃ u' y', f_X4_emptyRow (nI W) u y (nI p) = (u', y') ∧ (∀ i, i / 100 ≠ p → u' i = u i ∧ y' i = y i) ∧ (∀ a' b', a' < W → b' < W → u' (tp p a' b') = (1000000 : Int32) ∧ y' (tp p a' b') = (0 : Int64)) := by
  obtain ⟨u', y', g1, g2, g3, g4⟩ := er_out hp hW W 0 (((nI W).toInt - (0 : Int32).toInt).toNat + 1) u y (Nat.zero_add _) (by rw [t_n (by omega), t_0]; omega)
  exact ⟨u', y', g1, g2, fun a' b' h1 h2 => g3 a' b' (Nat.zero_le _) h1 h2⟩
/-! notes put ahead of two -/
theorem pa_l {W p s b c : Nat} {mv wv : Nat → Int32} {fb P : Int32} {Q : Int64} (hp : p ≤ 26) (hs : s ≤ 27) (hb : b < 10) (hc : c < 10) (hW : 1 ≤ W ∧ W ≤ 10) : ∀ n a fu u y, a + n = (if 2 ≤ p then W else 1) → n < fu → ∃ u' y', f_X4_putAhead_l3 (nI W) mv wv (nI s) (nI p) (nI b) (nI c) fb P Q fu (nI a) u y = (u', y') ∧ (∀ i, (∀ a', a' < 10 → i ≠ tp p a' b) → u' i = u i ∧ y' i = y i) ∧ (∀ a', a ≤ a' → a' < (if 2 ≤ p then W else 1) → (mv (mpl s a' b c) &&& fb = 0 → u' (tp p a' b) = imin (u (tp p a' b)) (P + f_X2_costOf wv (mv (mpl s a' b c))) ∧ y' (tp p a' b) = y (tp p a' b) + Q) ∧ (¬ mv (mpl s a' b c) &&& fb = 0 → u' (tp p a' b) = u (tp p a' b) ∧ y' (tp p a' b) = y (tp p a' b))) ∧ (∀ a', a' < a → u' (tp p a' b) = u (tp p a' b) ∧ y' (tp p a' b) = y (tp p a' b)) := by
  have hch : f_X4_choices (nI W) (nI p - (2 : Int32)) = nI (if 2 ≤ p then W else 1) := by
    have h := ch_n (sw := nI W) (p := p) (r := 2) (by omega) (by omega)
    rw [show nI 2 = (2 : Int32) from rfl] at h
    rw [h]
    split <;> rfl
  have hch2 : (if 2 ≤ p then W else 1) ≤ 10 := by split <;> omega
  intro n
  induction n with
  | zero =>
    intro a fu u y ha hf
    obtain ⟨fu, rfl⟩ : ∃ f, fu = f + 1 := ⟨fu - 1, by omega⟩
    refine ⟨u, y, ?_, fun _ _ => ⟨rfl, rfl⟩, fun a' h1 h2 => absurd h1 (by omega), fun _ _ => ⟨rfl, rfl⟩⟩
    rw [e_X4_putAhead_l3, hch, if_pos (nI_le (by omega) (by omega))]
  | succ n ih =>
    intro a fu u y ha hf
    obtain ⟨fu, rfl⟩ : ∃ f, fu = f + 1 := ⟨fu - 1, by omega⟩
    have ha10 : a < 10 := by omega
    have ht := tp_b hp ha10 hb
    have h27 : ¬ (2700 : Int32) ≤ nI (tp p a b) := by
      rw [show (2700 : Int32) = nI 2700 from rfl]
      exact nI_ge ht (by omega)
    by_cases hk : mv (mpl s a b c) &&& fb = 0
    · obtain ⟨u', y', g1, g2, g3, g4⟩ := ih (a + 1) fu (upd u (tp p a b) (imin (u (tp p a b)) (P + f_X2_costOf wv (mv (mpl s a b c))))) (vp_updL y (tp p a b) (y (tp p a b) + Q)) (by omega) (by omega)
      refine ⟨u', y', ?_, fun i hi => ?_, fun a' q1 q2 => ?_, fun a' q1 => ?_⟩
      · rw [e_X4_putAhead_l3, hch, if_neg (nI_ge (by omega) (by omega)), ma_n hs ha10 hb hc, if_pos hk, tp_n, if_neg (nI_pos (by omega)), if_neg h27, if_neg h27, nI_clamp (by omega), e_X4_putAhead_j111, ← nI_succ]
        exact g1
      · rw [(g2 i hi).1, (g2 i hi).2, upd_ne (hi a ha10), updL_ne (hi a ha10)]
        exact ⟨rfl, rfl⟩
      · by_cases e : a' = a
        · rw [e, (g4 a (by omega)).1, (g4 a (by omega)).2, upd_at, updL_at]
          exact ⟨fun _ => ⟨rfl, rfl⟩, fun h => absurd hk h⟩
        · have hne : tp p a' b ≠ tp p a b := by rw [tp, tp]; omega
          have h5 := g3 a' (by omega) q2
          rw [upd_ne hne, updL_ne hne] at h5
          exact h5
      · have hne : tp p a' b ≠ tp p a b := by rw [tp, tp]; omega
        rw [(g4 a' (by omega)).1, (g4 a' (by omega)).2, upd_ne hne, updL_ne hne]
        exact ⟨rfl, rfl⟩
    · obtain ⟨u', y', g1, g2, g3, g4⟩ := ih (a + 1) fu u y (by omega) (by omega)
      refine ⟨u', y', ?_, g2, fun a' q1 q2 => ?_, fun a' q1 => g4 a' (by omega)⟩
      · rw [e_X4_putAhead_l3, hch, if_neg (nI_ge (by omega) (by omega)), ma_n hs ha10 hb hc, if_neg hk, e_X4_putAhead_j111, ← nI_succ]
        exact g1
      · by_cases e : a' = a
        · rw [e, (g4 a (by omega)).1, (g4 a (by omega)).2]
          exact ⟨fun h => absurd h hk, fun _ => ⟨rfl, rfl⟩⟩
        · exact g3 a' (by omega) q2
theorem pa_ok {W p s b c : Nat} {mv wv u : Nat → Int32} {y : Nat → Int64} {fb P : Int32} {Q : Int64} (hp : p ≤ 26) (hs : s ≤ 27) (hb : b < 10) (hc : c < 10) (hW : 1 ≤ W ∧ W ≤ 10) : ∃ u' y', f_X4_putAhead (nI W) mv u y wv (nI s) (nI p) (nI b) (nI c) fb P Q = (u', y') ∧ (∀ i, (∀ a', a' < 10 → i ≠ tp p a' b) → u' i = u i ∧ y' i = y i) ∧ (∀ a', a' < (if 2 ≤ p then W else 1) → (mv (mpl s a' b c) &&& fb = 0 → u' (tp p a' b) = imin (u (tp p a' b)) (P + f_X2_costOf wv (mv (mpl s a' b c))) ∧ y' (tp p a' b) = y (tp p a' b) + Q) ∧ (¬ mv (mpl s a' b c) &&& fb = 0 → u' (tp p a' b) = u (tp p a' b) ∧ y' (tp p a' b) = y (tp p a' b))) := by
  have hch : f_X4_choices (nI W) (nI p - (2 : Int32)) = nI (if 2 ≤ p then W else 1) := by
    have h := ch_n (sw := nI W) (p := p) (r := 2) (by omega) (by omega)
    rw [show nI 2 = (2 : Int32) from rfl] at h
    rw [h]
    split <;> rfl
  have hch2 : (if 2 ≤ p then W else 1) ≤ 10 := by split <;> omega
  obtain ⟨u', y', g1, g2, g3, g4⟩ := pa_l (mv := mv) (wv := wv) (fb := fb) (P := P) (Q := Q) hp hs hb hc hW (if 2 ≤ p then W else 1) 0 (((f_X4_choices (nI W) (nI p - (2 : Int32))).toInt - (0 : Int32).toInt).toNat + 1) u y (Nat.zero_add _) (by rw [hch, t_n (by omega), t_0]; omega)
  exact ⟨u', y', g1, g2, fun a' h => g3 a' (Nat.zero_le _) h⟩
