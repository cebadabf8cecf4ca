/-! ===== the model's rows: reckons ===== -/
/-- the model's rows from k on -/
def TM (pd : (Nat → Nat) → Nat → Int) (N W k : Nat) (u : Nat → Int32) (y : Nat → Int64) : Prop := ∀ q, k ≤ q → 1 ≤ q → q + 1 ≤ N → ∀ x, dg W x → (u (tp q (x (q - 1)) (x q))).toInt = VT W pd (N - 1 - q) (q + 1) x ∧ y (tp q (x (q - 1)) (x q)) = WT W pd (N - 1 - q) (q + 1) x
theorem at_n {k a b : Nat} : (((100 : Int32) * nI k) + ((10 : Int32) * nI a)) + nI b = nI (tp k a b) := by
  rw [show (100 : Int32) = nI 100 from rfl, show (10 : Int32) = nI 10 from rfl, ← nI_times, ← nI_times, ← nI_plus, ← nI_plus]
  exact congrArg nI (by rw [tp]; omega)
theorem dv_n {t W : Nat} (ht : t < 1000) (hW : 1 ≤ W ∧ W ≤ 10) : idiv (nI t) (nI W) = nI (t / W) := by
  rw [idiv, pk_div (by omega) (by omega) (by omega)]
theorem md_n {t W : Nat} (ht : t < 1000) (hW : 1 ≤ W ∧ W ≤ 10) : irem (nI t) (nI W) = nI (t % W) := by
  rw [irem, pk_rem (by omega) (by omega) (by omega)]
section
variable {gs mlo mhi : Int32} {gv wv : Nat → Int32} {mc mr mb mf : Int32} {mg mw : Nat → Int32} {N W LO R : Nat} {O F : Nat → Bool}
theorem pdm_b (hw : wtr wv mw) (x : Nat → Nat) (q : Nat) : 0 ≤ pdm mc mr mb mf mg mw N LO O x q ∧ pdm mc mr mb mf mg mw N LO O x q ≤ 24000000 := by
  rw [pdm_i hw]
  have h1 := cv_i (O := O) hw (flb mc mr mb mf mg (lx LO x) (nI q) (nI N)) (n := 12) (k := 0) (by omega)
  have h2 := cv_i (O := O) hw (flb mc mr mb mf mg (lx LO x) (nI q) (nI N)) (n := 1) (k := 11) (by omega)
  have h3 := cv_i (O := O) hw (flb mc mr mb mf mg (lx LO x) (nI (N - 1)) (nI N)) (n := 12) (k := 0) (by omega)
  have h4 := cv_i (O := O) hw (flb mc mr mb mf mg (lx LO x) (nI (N - 2)) (nI N)) (n := 11) (k := 0) (by omega)
  split
  · omega
  · split <;> omega
theorem rk_in (C : cx gs gv mc mr mg N W LO R) (hw : wtr wv mw) (eW : (mhi - mlo) + (1 : Int32) = nI W) (eL : mlo = nI LO) {k t : Nat} {K : (Nat → Int32) → (Nat → Int32) → (Nat → Int64) → ((Nat → Int32) × (Nat → Int32) × (Nat → Int64))} {l0 u0 : Nat → Int32} {y0 : Nat → Int64} (hk : 1 ≤ k) (hk2 : k + 2 ≤ N) (ht : t < W * W) (hT : TM (pdm mc mr mb mf mg mw N LO O) N W (k + 1) u0 y0) (ha : l0 (k - 1) = nI (LO + t / W)) (hb : l0 k = nI (LO + t % W)) : ∀ n c fu l u y, c + n = W → n < fu → (∀ j, j ≠ k + 1 → l j = l0 j) → (∀ i, i ≠ tp k (t / W) (t % W) → u i = u0 i ∧ y i = y0 i) → (∀ x, dg W x → x (k - 1) = t / W → x k = t % W → (u (tp k (t / W) (t % W))).toInt = lmin (VS W (pdm mc mr mb mf mg mw N LO O) N x (k + 1)) c ∧ y (tp k (t / W) (t % W)) = lsum (WS W (pdm mc mr mb mf mg mw N LO O) N x (k + 1)) c) → ∃ l' u' y', f_X7_reckons_l132 mc mr mb mf mlo mhi mg mw (nI (mkn O 12)) (nI k) (nI t) K fu (nI c) l u y = K l' u' y' ∧ (∀ j, j ≠ k + 1 → l' j = l0 j) ∧ (∀ i, i ≠ tp k (t / W) (t % W) → u' i = u0 i ∧ y' i = y0 i) ∧ (∀ x, dg W x → x (k - 1) = t / W → x k = t % W → (u' (tp k (t / W) (t % W))).toInt = lmin (VS W (pdm mc mr mb mf mg mw N LO O) N x (k + 1)) W ∧ y' (tp k (t / W) (t % W)) = lsum (WS W (pdm mc mr mb mf mg mw N LO O) N x (k + 1)) W) := by
  obtain ⟨hm, hg, hgv, hN, hN2, hR, hW, hLO⟩ := C
  have hZ := ZZ_e
  have hWW : W * W ≤ 100 := Nat.mul_le_mul hW.2 hW.2
  have haW : t / W < W := (Nat.div_lt_iff_lt_mul (by omega)).mpr ht
  have hbW : t % W < W := Nat.mod_lt _ (by omega)
  have e1 : nI N - (1 : Int32) = nI (N - 1) := nI_minus (b := 1) (by omega)
  obtain ⟨a, ea⟩ : ∃ a, a = t / W := ⟨_, rfl⟩
  obtain ⟨b, eb⟩ : ∃ b, b = t % W := ⟨_, rfl⟩
  have hat : ∀ z, (((100 : Int32) * nI k) + ((10 : Int32) * (idiv (nI t) (nI W)))) + z = (((100 : Int32) * nI k) + ((10 : Int32) * nI a)) + z := fun z => by rw [dv_n (by omega) hW, ea]
  have hbe : irem (nI t) (nI W) = nI b := by rw [md_n (by omega) hW, eb]
  rw [← ea] at ha haW ⊢
  rw [← eb] at hb hbW ⊢
  have htb := tp_b (p := k) (show k ≤ 26 by omega) (show a < 10 by omega) (show b < 10 by omega)
  intro n
  induction n with
  | zero =>
    intro c fu l u y hc hf h0 h1 h2
    obtain ⟨fu, rfl⟩ : ∃ f, fu = f + 1 := ⟨fu - 1, by omega⟩
    rw [Nat.add_zero] at hc
    rw [hc] at h2
    refine ⟨l, u, y, ?_, h0, h1, h2⟩
    rw [e_X7_reckons_l132, eW, if_pos (nI_le (by omega) (by omega))]
  | succ n ih =>
    intro c fu l u y hc hf h0 h1 h2
    obtain ⟨fu, rfl⟩ : ∃ f, fu = f + 1 := ⟨fu - 1, by omega⟩
    have hcW : c < W := by omega
    have htb2 := tp_b (p := k + 1) (show k + 1 ≤ 26 by omega) (show b < 10 by omega) (show c < 10 by omega)
    have hne : tp (k + 1) b c ≠ tp k a b := by rw [tp, tp]; omega
    obtain ⟨P, eP⟩ : ∃ P, P = f_X7_paid mc mr mb mf mg (upd l (k + 1) (nI (LO + c))) mw (nI (k + 1)) (nI (mkn O 12)) := ⟨_, rfl⟩
    obtain ⟨v, ev⟩ : ∃ v, v = if u (tp k a b) ≤ P + u0 (tp (k + 1) b c) then u (tp k a b) else P + u0 (tp (k + 1) b c) := ⟨_, rfl⟩
    obtain ⟨z, ez⟩ : ∃ z, z = if (1000000 : Int32) ≤ P then (0 : Int64) else y0 (tp (k + 1) b c) := ⟨_, rfl⟩
    have hstep : f_X7_reckons_l132 mc mr mb mf mlo mhi mg mw (nI (mkn O 12)) (nI k) (nI t) K (fu + 1) (nI c) l u y = f_X7_reckons_l132 mc mr mb mf mlo mhi mg mw (nI (mkn O 12)) (nI k) (nI t) K fu (nI (c + 1)) (upd l (k + 1) (nI (LO + c))) (upd u (tp k a b) v) (vp_updL y (tp k a b) (y (tp k a b) + z)) := by
      rw [e_X7_reckons_l132, eW, if_neg (nI_ge (by omega) (by omega)), hN, e1, if_neg (nI_ge (by omega) (by omega)), ← nI_succ, hat, hbe, at_n, at_n, nI_clamp (by omega), nI_clamp (by omega), nI_clamp (by omega), eL, ← nI_plus, ← eP, (h1 _ hne).1]
      have h229 : ∀ v', f_X7_reckons_j229 mc mr mb mf (nI LO) mhi mg mw (nI (mkn O 12)) (nI k) (nI t) (nI c) l u y (f_X7_reckons_l132 mc mr mb mf (nI LO) mhi mg mw (nI (mkn O 12)) (nI k) (nI t) K fu) v' = f_X7_reckons_l132 mc mr mb mf (nI LO) mhi mg mw (nI (mkn O 12)) (nI k) (nI t) K fu (nI (c + 1)) (upd l (k + 1) (nI (LO + c))) (upd u (tp k a b) v') (vp_updL y (tp k a b) (y (tp k a b) + z)) := by
        intro v'
        rw [eL] at eW
        rw [e_X7_reckons_j229, e_X7_reckons_j263, e_X7_reckons_j263, eW, ← nI_succ, hat, hbe, at_n, at_n, nI_clamp (by omega), nI_clamp (by omega), nI_clamp (by omega), ← nI_plus, ← eP, ← nI_succ, (h1 _ hne).2, ez]
        split <;> rfl
      rw [h229, h229, ev]
      split <;> rfl
    have hl1 : ∀ j, j ≠ k + 1 → upd l (k + 1) (nI (LO + c)) j = l0 j := fun j hj => by
      rw [upd_ne hj]
      exact h0 j hj
    obtain ⟨l', u', y', g1, g2, g3, g4⟩ := ih (c + 1) fu (upd l (k + 1) (nI (LO + c))) (upd u (tp k a b) v) (vp_updL y (tp k a b) (y (tp k a b) + z)) (by omega) (by omega) hl1 (fun i hi => by
      rw [upd_ne hi, updL_ne hi]
      exact h1 i hi) (fun x hx hx1 hx2 => by
      have h3 := h2 x hx hx1 hx2
      have h4 := hT (k + 1) (Nat.le_refl _) (by omega) (by omega) (lset x (k + 1) c) (dg_set hx hcW)
      rw [lset_at, show k + 1 - 1 = k by omega, lset_ne (by omega), hx2, show N - 1 - (k + 1) = N - (k + 1) - 1 by omega] at h4
      have h5 : P = pm mc mr mb mf mg mw N LO O (lset x (k + 1) c) (k + 1) := by
        rw [eP]
        refine paid_n hm hR hN hN2 hw (by omega) ?_ ?_ ?_
        · rw [upd_at, lx, lset_at]
        · rw [hl1 _ (by omega), show k + 1 - 1 = k by omega, hb, lx, lset_ne (by omega), hx2]
        · rw [hl1 _ (by omega), show k + 1 - 2 = k - 1 by omega, ha, lx, lset_ne (by omega), hx1]
      have h6 : P.toInt = pdm mc mr mb mf mg mw N LO O (lset x (k + 1) c) (k + 1) := by rw [h5]; rfl
      have h7 := pdm_b (mc := mc) (mr := mr) (mb := mb) (mf := mf) (mg := mg) (N := N) (LO := LO) (O := O) hw (lset x (k + 1) c) (k + 1)
      have h8 := VT_b (W := W) (PD_m (mb := mb) (mf := mf) (mg := mg) (LO := LO) (O := O) hm hR hN hN2 hw) (N - (k + 1) - 1) (k + 1 + 1) (lset x (k + 1) c)
      have h9 := lmin_z (VS W (pdm mc mr mb mf mg mw N LO O) N x (k + 1)) c
      have h10 : (P + u0 (tp (k + 1) b c)).toInt = pdm mc mr mb mf mg mw N LO O (lset x (k + 1) c) (k + 1) + VT W (pdm mc mr mb mf mg mw N LO O) (N - (k + 1) - 1) (k + 1 + 1) (lset x (k + 1) c) := by
        rw [t_add (by rw [h6, h4.1]; omega) (by rw [h6, h4.1]; omega), h6, h4.1]
      have h11 : v.toInt = min (lmin (VS W (pdm mc mr mb mf mg mw N LO O) N x (k + 1)) c) (pdm mc mr mb mf mg mw N LO O (lset x (k + 1) c) (k + 1) + VT W (pdm mc mr mb mf mg mw N LO O) (N - (k + 1) - 1) (k + 1 + 1) (lset x (k + 1) c)) := by
        rw [ev]
        split
        · rename_i hq
          rw [t_le, h10, h3.1] at hq
          rw [h3.1]
          omega
        · rename_i hq
          rw [t_le, h10, h3.1] at hq
          rw [h10]
          omega
      have h12 : z = WS W (pdm mc mr mb mf mg mw N LO O) N x (k + 1) c := by
        rw [ez, WS]
        by_cases hq : (1000000 : Int32) ≤ P
        · rw [if_pos hq]
          rw [t_le, tZ, h6] at hq
          rw [if_neg (by omega)]
        · rw [if_neg hq]
          rw [t_le, tZ, h6] at hq
          rw [if_pos (by omega), h4.2]
      rw [upd_at, updL_at, lmin_s, lsum_s, h11, h12, h3.2, VS]
      exact ⟨by omega, rfl⟩)
    exact ⟨l', u', y', hstep.trans g1, g2, g3, g4⟩
theorem rk_two (C : cx gs gv mc mr mg N W LO R) (hw : wtr wv mw) (eW : (mhi - mlo) + (1 : Int32) = nI W) (eL : mlo = nI LO) {k : Nat} {K : (Nat → Int32) → (Nat → Int32) → (Nat → Int64) → ((Nat → Int32) × (Nat → Int32) × (Nat → Int64))} (hk : 1 ≤ k) (hk2 : k + 1 ≤ N) : ∀ n t fu l u y, t + n = W * W → n < fu → TM (pdm mc mr mb mf mg mw N LO O) N W (k + 1) u y → (∀ x, dg W x → x (k - 1) * W + x k < t → (u (tp k (x (k - 1)) (x k))).toInt = VT W (pdm mc mr mb mf mg mw N LO O) (N - 1 - k) (k + 1) x ∧ y (tp k (x (k - 1)) (x k)) = WT W (pdm mc mr mb mf mg mw N LO O) (N - 1 - k) (k + 1) x) → ∃ l' u' y', f_X7_reckons_l30 mc mr mb mf mlo mhi mg mw (nI (mkn O 12)) (nI k) K fu (nI t) l u y = K l' u' y' ∧ (∀ j, N ≤ j → l' j = l j) ∧ TM (pdm mc mr mb mf mg mw N LO O) N W k u' y' := by
  have C0 := C
  obtain ⟨hm, hg, hgv, hN, hN2, hR, hW, hLO⟩ := C
  have hWW : W * W ≤ 100 := Nat.mul_le_mul hW.2 hW.2
  have e1 : nI N - (1 : Int32) = nI (N - 1) := nI_minus (b := 1) (by omega)
  have ek : nI k - (1 : Int32) = nI (k - 1) := nI_minus (b := 1) (by omega)
  intro n
  induction n with
  | zero =>
    intro t fu l u y ht hf h1 h2
    obtain ⟨fu, rfl⟩ : ∃ f, fu = f + 1 := ⟨fu - 1, by omega⟩
    rw [Nat.add_zero] at ht
    rw [ht] at h2
    refine ⟨l, u, y, ?_, fun _ _ => rfl, fun q h3 h4 h5 x hx => ?_⟩
    · rw [e_X7_reckons_l30, eW, ← nI_times, if_pos (nI_le (by omega) (by omega))]
    · by_cases e : q = k
      · rw [e]
        exact h2 x hx (sq_lt (hx _) (hx _))
      · exact h1 q (by omega) h4 h5 x hx
  | succ n ih =>
    intro t fu l u y ht hf h1 h2
    obtain ⟨fu, rfl⟩ : ∃ f, fu = f + 1 := ⟨fu - 1, by omega⟩
    have htW : t < W * W := by omega
    have haW : t / W < W := (Nat.div_lt_iff_lt_mul (by omega)).mpr htW
    have hbW : t % W < W := Nat.mod_lt _ (by omega)
    have hdm : t / W * W + t % W = t := Nat.div_add_mod' t W
    have htb := tp_b (p := k) (show k ≤ 26 by omega) (show t / W < 10 by omega) (show t % W < 10 by omega)
    obtain ⟨l1, el1⟩ : ∃ l1, l1 = upd (upd l (k - 1) (nI (LO + t / W))) k (nI (LO + t % W)) := ⟨_, rfl⟩
    have hl1a : l1 (k - 1) = nI (LO + t / W) := by rw [el1, upd_ne (by omega), upd_at]
    have hl1b : l1 k = nI (LO + t % W) := by rw [el1, upd_at]
    have hl1c : ∀ j, N ≤ j → l1 j = l j := fun j hj => by rw [el1, upd_ne (by omega), upd_ne (by omega)]
    have hstep : f_X7_reckons_l30 mc mr mb mf mlo mhi mg mw (nI (mkn O 12)) (nI k) K (fu + 1) (nI t) l u y = f_X7_reckons_l132 mc mr mb mf mlo mhi mg mw (nI (mkn O 12)) (nI k) (nI t) (f_X7_reckons_j271 (nI t) (f_X7_reckons_l30 mc mr mb mf mlo mhi mg mw (nI (mkn O 12)) (nI k) K fu)) (((nI W).toInt - (0 : Int32).toInt).toNat + 1) (nI 0) l1 (upd u (tp k (t / W) (t % W)) (if k = N - 1 then (0 : Int32) else (1000000 : Int32))) (vp_updL y (tp k (t / W) (t % W)) (if k = N - 1 then (1 : Int64) else (0 : Int64))) := by
      have h94 : ∀ (v : Int32) (z : Int64), f_X7_reckons_j94 mc mr mb mf mlo mhi mg mw (nI (mkn O 12)) (nI k) (nI t) l u y v (f_X7_reckons_l30 mc mr mb mf mlo mhi mg mw (nI (mkn O 12)) (nI k) K fu) z = f_X7_reckons_l132 mc mr mb mf mlo mhi mg mw (nI (mkn O 12)) (nI k) (nI t) (f_X7_reckons_j271 (nI t) (f_X7_reckons_l30 mc mr mb mf mlo mhi mg mw (nI (mkn O 12)) (nI k) K fu)) (((nI W).toInt - (0 : Int32).toInt).toNat + 1) (nI 0) l1 (upd u (tp k (t / W) (t % W)) v) (vp_updL y (tp k (t / W) (t % W)) z) := by
        intro v z
        rw [e_X7_reckons_j94, eW, dv_n (by omega) hW, md_n (by omega) hW, at_n, ek, nI_clamp (by omega), nI_clamp (by omega), nI_clamp (by omega), el1, eL, ← nI_plus, ← nI_plus]
        rfl
      rw [e_X7_reckons_l30, e_X7_reckons_j76, e_X7_reckons_j76, eW, ← nI_times, if_neg (nI_ge (by omega) (by omega)), hN, e1, h94, h94, h94, h94]
      by_cases e : k = N - 1
      · rw [if_pos (by rw [e]), if_pos (by rw [e]), if_pos e, if_pos e]
      · have e2 : ¬ nI k = nI (N - 1) := by rw [nI_eq (by omega) (by omega)]; exact e
        rw [if_neg e2, if_neg e2, if_neg e, if_neg e]
    have hin : ∃ l' u' y', f_X7_reckons_l132 mc mr mb mf mlo mhi mg mw (nI (mkn O 12)) (nI k) (nI t) (f_X7_reckons_j271 (nI t) (f_X7_reckons_l30 mc mr mb mf mlo mhi mg mw (nI (mkn O 12)) (nI k) K fu)) (((nI W).toInt - (0 : Int32).toInt).toNat + 1) (nI 0) l1 (upd u (tp k (t / W) (t % W)) (if k = N - 1 then (0 : Int32) else (1000000 : Int32))) (vp_updL y (tp k (t / W) (t % W)) (if k = N - 1 then (1 : Int64) else (0 : Int64))) = f_X7_reckons_j271 (nI t) (f_X7_reckons_l30 mc mr mb mf mlo mhi mg mw (nI (mkn O 12)) (nI k) K fu) l' u' y' ∧ (∀ j, N ≤ j → l' j = l1 j) ∧ (∀ i, i ≠ tp k (t / W) (t % W) → u' i = u i ∧ y' i = y i) ∧ (∀ x, dg W x → x (k - 1) = t / W → x k = t % W → (u' (tp k (t / W) (t % W))).toInt = VT W (pdm mc mr mb mf mg mw N LO O) (N - 1 - k) (k + 1) x ∧ y' (tp k (t / W) (t % W)) = WT W (pdm mc mr mb mf mg mw N LO O) (N - 1 - k) (k + 1) x) := by
      by_cases e : k = N - 1
      · refine ⟨l1, upd u (tp k (t / W) (t % W)) (0 : Int32), vp_updL y (tp k (t / W) (t % W)) (1 : Int64), ?_, fun _ _ => rfl, fun i hi => ?_, fun x hx _ _ => ?_⟩
        · rw [e_X7_reckons_l132, eW, if_neg (nI_ge (by omega) (by omega)), hN, e1, if_pos (nI_le (by omega) (by omega)), if_pos e, if_pos e]
        · rw [upd_ne hi, updL_ne hi]
          exact ⟨rfl, rfl⟩
        · rw [upd_at, updL_at, show N - 1 - k = 0 by omega, VT, WT]
          exact ⟨rfl, rfl⟩
      · rw [if_neg e, if_neg e]
        have hfr : ∀ i, i ≠ tp k (t / W) (t % W) → upd u (tp k (t / W) (t % W)) (1000000 : Int32) i = u i ∧ vp_updL y (tp k (t / W) (t % W)) (0 : Int64) i = y i := fun i hi => by
          rw [upd_ne hi, updL_ne hi]
          exact ⟨rfl, rfl⟩
        obtain ⟨l', u', y', g1, g2, g3, g4⟩ := rk_in (mb := mb) (mf := mf) (O := O) (K := f_X7_reckons_j271 (nI t) (f_X7_reckons_l30 mc mr mb mf mlo mhi mg mw (nI (mkn O 12)) (nI k) K fu)) C0 hw eW eL hk (by omega) htW h1 hl1a hl1b W 0 (((nI W).toInt - (0 : Int32).toInt).toNat + 1) l1 (upd u (tp k (t / W) (t % W)) (1000000 : Int32)) (vp_updL y (tp k (t / W) (t % W)) (0 : Int64)) (Nat.zero_add _) (by rw [t_n (by omega), t_0]; omega) (fun _ _ => rfl) hfr (fun x hx _ _ => by rw [upd_at, updL_at]; exact ⟨rfl, rfl⟩)
        refine ⟨l', u', y', g1, fun j hj => g2 j (by omega), g3, fun x hx h3 h4 => ?_⟩
        have h5 := g4 x hx h3 h4
        rw [h5.1, h5.2, show N - 1 - k = N - (k + 1) by omega, VT_S (by omega), WT_S (by omega)]
        exact ⟨rfl, rfl⟩
    obtain ⟨l2, u2, y2, k1, k2, k3, k4⟩ := hin
    obtain ⟨l', u', y', g1, g2, g3⟩ := ih (t + 1) fu l2 u2 y2 (by omega) (by omega) (fun q h3 h4 h5 x hx => by
      have h6 := k3 (tp q (x (q - 1)) (x q)) (by
        have h7 := hx (q - 1)
        have h8 := hx q
        rw [tp, tp]
        omega)
      rw [h6.1, h6.2]
      exact h1 q h3 h4 h5 x hx) (fun x hx h3 => by
      have h7 := hx (k - 1)
      have h8 := hx k
      by_cases e : x (k - 1) * W + x k = t
      · have h9 := sq_div (c := x (k - 1)) h8
        rw [e] at h9
        have h10 := k4 x hx h9.1.symm h9.2.symm
        rw [h9.1, h9.2] at h10
        exact h10
      · have h6 := k3 (tp k (x (k - 1)) (x k)) (fun e2 => by
          have e3 : x (k - 1) = t / W := by
            rw [tp, tp] at e2
            omega
          have e4 : x k = t % W := by
            rw [tp, tp] at e2
            omega
          rw [e3, e4] at e
          exact e hdm)
        rw [h6.1, h6.2]
        exact h2 x hx (by omega))
    refine ⟨l', u', y', ?_, fun j hj => ?_, g3⟩
    · rw [hstep, k1, e_X7_reckons_j271, ← nI_succ]
      exact g1
    · rw [g2 j hj, k2 j hj, hl1c j hj]
theorem rk_all (C : cx gs gv mc mr mg N W LO R) (hw : wtr wv mw) (eW : (mhi - mlo) + (1 : Int32) = nI W) (eL : mlo = nI LO) : ∀ n fu l u y, n + 1 ≤ N → n < fu → TM (pdm mc mr mb mf mg mw N LO O) N W (n + 1) u y → ∃ l' u' y', f_X7_reckons_l22 mc mr mb mf mlo mhi mg mw (nI (mkn O 12)) fu (nI n) l u y = (l', u', y') ∧ (∀ j, N ≤ j → l' j = l j) ∧ TM (pdm mc mr mb mf mg mw N LO O) N W 1 u' y' := by
  have C0 := C
  obtain ⟨hm, hg, hgv, hN, hN2, hR, hW, hLO⟩ := C
  have hWW : W * W ≤ 100 := Nat.mul_le_mul hW.2 hW.2
  intro n
  induction n with
  | zero =>
    intro fu l u y hn hf h1
    obtain ⟨fu, rfl⟩ : ∃ f, fu = f + 1 := ⟨fu - 1, by omega⟩
    refine ⟨l, u, y, ?_, fun _ _ => rfl, h1⟩
    rw [e_X7_reckons_l22, if_pos (by decide)]
  | succ n ih =>
    intro fu l u y hn hf h1
    obtain ⟨fu, rfl⟩ : ∃ f, fu = f + 1 := ⟨fu - 1, by omega⟩
    obtain ⟨l1, u1, y1, k1, k2, k3⟩ := rk_two (mb := mb) (mf := mf) (O := O) (k := n + 1) (K := f_X7_reckons_j277 (nI (n + 1)) (f_X7_reckons_l22 mc mr mb mf mlo mhi mg mw (nI (mkn O 12)) fu)) C0 hw eW eL (by omega) (by omega) (W * W) 0 (((nI W * nI W).toInt - (0 : Int32).toInt).toNat + 1) l u y (Nat.zero_add _) (by rw [← nI_times, t_n (by omega), t_0]; omega) h1 (fun x hx h => absurd h (Nat.not_lt_zero _))
    obtain ⟨l', u', y', g1, g2, g3⟩ := ih fu l1 u1 y1 (by omega) (by omega) k3
    refine ⟨l', u', y', ?_, fun j hj => ?_, g3⟩
    · rw [e_X7_reckons_l22, if_neg (nI_nle (by omega) (by omega)), eW]
      rw [show (0 : Int32) = nI 0 from rfl] at k1 ⊢
      rw [k1, e_X7_reckons_j277, nI_dn]
      exact g1
    · rw [g2 j hj, k2 j hj]
theorem rk_ok (C : cx gs gv mc mr mg N W LO R) (hw : wtr wv mw) (eW : (mhi - mlo) + (1 : Int32) = nI W) (eL : mlo = nI LO) (ml me : Nat → Int32) (mo : Nat → Int64) : ∃ l' u' y', f_X7_reckons mc mr mb mf mlo mhi mg ml mw me mo (nI (mkn O 12)) = (l', u', y') ∧ (∀ j, N ≤ j → l' j = ml j) ∧ TM (pdm mc mr mb mf mg mw N LO O) N W 1 u' y' := by
  have C0 := C
  obtain ⟨hm, hg, hgv, hN, hN2, hR, hW, hLO⟩ := C
  have e1 : nI N - (1 : Int32) = nI (N - 1) := nI_minus (b := 1) (by omega)
  obtain ⟨l', u', y', g1, g2, g3⟩ := rk_all (mb := mb) (mf := mf) (O := O) C0 hw eW eL (N - 1) (N - 1 + 1) ml me mo (by omega) (by omega) (fun q h1 h2 h3 => absurd h1 (by omega))
  refine ⟨l', u', y', ?_, g2, g3⟩
  rw [e_X7_reckons, hN, e1, t_n (by omega), show ((N - 1 : Nat) : Int).toNat = N - 1 from rfl]
  exact g1
end
