/-! ===== the model's least cost and its count ===== -/
/-- the first two notes of a line at once -/
def y2 (x : Nat → Nat) (a b : Nat) : Nat → Nat := lset (lset x 0 a) 1 b
section
variable {W N : Nat} {pd : (Nat → Nat) → Nat → Int}
theorem two_0 (P : PD N pd) (hN : 2 ≤ N) (x : Nat → Nat) (a b : Nat) : pd (lset x 0 a) 0 = pd (y2 x a b) 0 := P.2.1 _ _ 0 (by omega) (fun j hj => by rw [y2, lset_ne (show j ≠ 1 by omega)])
theorem two_V (P : PD N pd) (hN : 2 ≤ N) (x : Nat → Nat) : VT W pd N 0 x = lmin (fun t => pd (y2 x (t / W) (t % W)) 0 + pd (y2 x (t / W) (t % W)) 1 + VT W pd (N - 2) 2 (y2 x (t / W) (t % W))) (W * W) := by
  obtain ⟨M, rfl⟩ : ∃ M, N = M + 2 := ⟨N - 2, by omega⟩
  rw [lmin_sq (fun a b => pd (y2 x a b) 0 + pd (y2 x a b) 1 + VT W pd (M + 2 - 2) 2 (y2 x a b)) W W, show M + 2 - 2 = M by omega, VT]
  refine lmin_congr W (fun c _ => ?_)
  rw [VT, ← lmin_plus (P.1 _ _)]
  rw [← lmin_cap (h := fun b => pd (y2 x c b) 0 + pd (y2 x c b) 1 + VT W pd M 2 (y2 x c b))]
  refine lmin_congr W (fun d _ => ?_)
  have h1 := two_0 P hN x c d
  have h2 := P.1 (y2 x c d) 0
  rw [h1, show lset (lset x 0 c) (0 + 1) d = y2 x c d from rfl]
  rw [show (0 + 1 : Nat) = 1 from rfl, show (1 + 1 : Nat) = 2 from rfl]
  omega
theorem two_W (P : PD N pd) (hN : 2 ≤ N) (x : Nat → Nat) : WT W pd N 0 x = lsum (fun t => if pd (y2 x (t / W) (t % W)) 0 + pd (y2 x (t / W) (t % W)) 1 < ZZ then WT W pd (N - 2) 2 (y2 x (t / W) (t % W)) else 0) (W * W) := by
  obtain ⟨M, rfl⟩ : ∃ M, N = M + 2 := ⟨N - 2, by omega⟩
  have hZ := ZZ_e
  rw [lsum_sq (fun a b => if pd (y2 x a b) 0 + pd (y2 x a b) 1 < ZZ then WT W pd (M + 2 - 2) 2 (y2 x a b) else 0) W W, show M + 2 - 2 = M by omega, WT]
  refine lsum_congr W (fun c _ => ?_)
  by_cases h : pd (lset x 0 c) 0 < ZZ
  · rw [if_pos h, WT]
    refine lsum_congr W (fun d _ => ?_)
    have h1 := two_0 P hN x c d
    have h2 := P.1 (y2 x c d) 0
    have h3 := P.1 (y2 x c d) 1
    have h4 := P.2.2 (y2 x c d) 0
    have h5 := P.2.2 (y2 x c d) 1
    rw [h1] at h
    have h6 := h4 h
    rw [show lset (lset x 0 c) (0 + 1) d = y2 x c d from rfl, show (0 + 1 : Nat) = 1 from rfl, show (1 + 1 : Nat) = 2 from rfl]
    by_cases h7 : pd (y2 x c d) 1 < ZZ
    · have h8 := h5 h7
      rw [if_pos h7, if_pos (by omega)]
    · rw [if_neg h7, if_neg (by omega)]
  · rw [if_neg h]
    refine (lsum_0 W (fun d _ => ?_)).symm
    have h1 := two_0 P hN x c d
    have h3 := P.1 (y2 x c d) 1
    rw [h1] at h
    rw [if_neg (by omega)]
end
section
variable {gs mlo mhi : Int32} {gv wv : Nat → Int32} {mc mr mb mf : Int32} {mg mw : Nat → Int32} {N W LO R : Nat} {O F : Nat → Bool}
/-- what the first two notes cost, and what stands behind them -/
theorem pf_n (C : cx gs gv mc mr mg N W LO R) (hw : wtr wv mw) {u : Nat → Int32} {x : Nat → Nat} {a b : Nat} (h0 : u 0 = nI (LO + a)) (h1 : u 1 = nI (LO + b)) : (f_X7_paidFirst mc mr mb mf mg u mw (nI (mkn O 12))).toInt = pdm mc mr mb mf mg mw N LO O (y2 x a b) 0 + pdm mc mr mb mf mg mw N LO O (y2 x a b) 1 := by
  obtain ⟨hm, hg, hgv, hN, hN2, hR, hW, hLO⟩ := C
  have c0 : u 0 = lx LO (y2 x a b) 0 := by rw [h0, lx, y2, lset_ne (by omega), lset_at]
  have c1 : u 1 = lx LO (y2 x a b) 1 := by rw [h1, lx, y2, lset_at]
  have p0 : f_X7_paid mc mr mb mf mg u mw (nI 0) (nI (mkn O 12)) = pm mc mr mb mf mg mw N LO O (y2 x a b) 0 := paid_n hm hR hN hN2 hw (by omega) c0 c0 c0
  have p1 : f_X7_paid mc mr mb mf mg u mw (nI 1) (nI (mkn O 12)) = pm mc mr mb mf mg mw N LO O (y2 x a b) 1 := paid_n hm hR hN hN2 hw (by omega) c1 c0 c0
  have b0 := pdm_b (mc := mc) (mr := mr) (mb := mb) (mf := mf) (mg := mg) (N := N) (LO := LO) (O := O) hw (y2 x a b) 0
  have b1 := pdm_b (mc := mc) (mr := mr) (mb := mb) (mf := mf) (mg := mg) (N := N) (LO := LO) (O := O) hw (y2 x a b) 1
  rw [pdm] at b0 b1
  rw [e_X7_paidFirst, show (0 : Int32) = nI 0 from rfl, show (1 : Int32) = nI 1 from rfl, p0, p1, t_add (by omega) (by omega), pdm, pdm]
theorem dg_y {x : Nat → Nat} (hx : dg W x) {a b : Nat} (ha : a < W) (hb : b < W) : dg W (y2 x a b) := dg_set (dg_set hx ha) hb
theorem tm_1 {u' : Nat → Int32} {y' : Nat → Int64} (hN : 2 ≤ N) (hT : TM (pdm mc mr mb mf mg mw N LO O) N W 1 u' y') {x : Nat → Nat} {a b : Nat} (hx : dg W x) (ha : a < W) (hb : b < W) : (u' (tp 1 a b)).toInt = VT W (pdm mc mr mb mf mg mw N LO O) (N - 2) 2 (y2 x a b) ∧ y' (tp 1 a b) = WT W (pdm mc mr mb mf mg mw N LO O) (N - 2) 2 (y2 x a b) := by
  have h := hT 1 (Nat.le_refl _) (Nat.le_refl _) (by omega) (y2 x a b) (dg_y hx ha hb)
  rw [show N - 1 - 1 = N - 2 by omega, show (1 - 1 : Nat) = 0 from rfl, show y2 x a b 0 = a by rw [y2, lset_ne (by omega), lset_at], show y2 x a b 1 = b by rw [y2, lset_at]] at h
  exact h
theorem i1_n {a b : Nat} : ((100 : Int32) + ((10 : Int32) * nI a)) + nI b = nI (tp 1 a b) := by
  rw [show (100 : Int32) = nI 100 from rfl, show (10 : Int32) = nI 10 from rfl, ← nI_times, ← nI_plus, ← nI_plus]
  exact congrArg nI (by rw [tp]; omega)
theorem lc_ok (C : cx gs gv mc mr mg N W LO R) (hw : wtr wv mw) (eW : (mhi - mlo) + (1 : Int32) = nI W) (eL : mlo = nI LO) (ml me : Nat → Int32) (mo : Nat → Int64) : ∃ V l' u' y', f_X7_leastCost mc mr mb mf mlo mhi mg ml mw me mo (nI (mkn O 12)) = (V, l', u', y') ∧ (∀ x, dg W x → V.toInt = VT W (pdm mc mr mb mf mg mw N LO O) N 0 x) ∧ (∀ j, N ≤ j → l' j = ml j) ∧ TM (pdm mc mr mb mf mg mw N LO O) N W 1 u' y' := by
  have C0 := C
  obtain ⟨hm, hg, hgv, hN, hN2, hR, hW, hLO⟩ := C
  have hZ := ZZ_e
  have PP := PD_m (mb := mb) (mf := mf) (mg := mg) (LO := LO) (O := O) hm hR hN hN2 hw
  have hWW : W * W ≤ 100 := Nat.mul_le_mul hW.2 hW.2
  obtain ⟨l0, u', y', g1, g2, g3⟩ := rk_ok (mb := mb) (mf := mf) (O := O) C0 hw eW eL ml me mo
  have key : ∀ n t fu v l, t + n = W * W → n < fu → (∀ j, N ≤ j → l j = ml j) → (∀ x, dg W x → v.toInt = lmin (fun t => pdm mc mr mb mf mg mw N LO O (y2 x (t / W) (t % W)) 0 + pdm mc mr mb mf mg mw N LO O (y2 x (t / W) (t % W)) 1 + VT W (pdm mc mr mb mf mg mw N LO O) (N - 2) 2 (y2 x (t / W) (t % W))) t) → ∃ V l', f_X7_leastCost_l23 mc mr mb mf mlo mhi mg ml mw me mo (nI (mkn O 12)) fu v (nI t) l = (V, l', u', y') ∧ (∀ x, dg W x → V.toInt = VT W (pdm mc mr mb mf mg mw N LO O) N 0 x) ∧ (∀ j, N ≤ j → l' j = ml j) := by
    intro n
    induction n with
    | zero =>
      intro t fu v l ht hf h0 h1
      obtain ⟨fu, rfl⟩ : ∃ f, fu = f + 1 := ⟨fu - 1, by omega⟩
      rw [Nat.add_zero] at ht
      rw [ht] at h1
      refine ⟨v, l, ?_, fun x hx => by rw [h1 x hx, two_V PP hN2.1], h0⟩
      rw [e_X7_leastCost_l23, eW, ← nI_times, if_pos (nI_le (by omega) (by omega)), g1]
    | succ n ih =>
      intro t fu v l ht hf h0 h1
      obtain ⟨fu, rfl⟩ : ∃ f, fu = f + 1 := ⟨fu - 1, by omega⟩
      have htW : t < W * W := by omega
      have haW : t / W < W := (Nat.div_lt_iff_lt_mul (by omega)).mpr htW
      have hbW : t % W < W := Nat.mod_lt _ (by omega)
      have htb := tp_b (p := 1) (show 1 ≤ 26 by omega) (show t / W < 10 by omega) (show t % W < 10 by omega)
      obtain ⟨l1, el1⟩ : ∃ l1, l1 = upd (upd l 0 (nI (LO + t / W))) 1 (nI (LO + t % W)) := ⟨_, rfl⟩
      have hl1a : l1 0 = nI (LO + t / W) := by rw [el1, upd_ne (by omega), upd_at]
      have hl1b : l1 1 = nI (LO + t % W) := by rw [el1, upd_at]
      have hl1c : ∀ j, N ≤ j → l1 j = ml j := fun j hj => by rw [el1, upd_ne (by omega), upd_ne (by omega), h0 j hj]
      obtain ⟨v', ev⟩ : ∃ v', v' = if v ≤ f_X7_paidFirst mc mr mb mf mg l1 mw (nI (mkn O 12)) + u' (tp 1 (t / W) (t % W)) then v else f_X7_paidFirst mc mr mb mf mg l1 mw (nI (mkn O 12)) + u' (tp 1 (t / W) (t % W)) := ⟨_, rfl⟩
      have hstep : f_X7_leastCost_l23 mc mr mb mf mlo mhi mg ml mw me mo (nI (mkn O 12)) (fu + 1) v (nI t) l = f_X7_leastCost_l23 mc mr mb mf mlo mhi mg ml mw me mo (nI (mkn O 12)) fu v' (nI (t + 1)) l1 := by
        rw [e_X7_leastCost_l23, e_X7_leastCost_j101, e_X7_leastCost_j101, g1, eW, ← nI_times, if_neg (nI_ge (by omega) (by omega)), dv_n (by omega) hW, md_n (by omega) hW, i1_n, nI_clamp (by omega), show (0 : Int32).toNatClampNeg = 0 from rfl, show (1 : Int32).toNatClampNeg = 1 from rfl, eL, ← nI_plus, ← nI_plus, ← el1, ← nI_succ, ev]
        split <;> rfl
      obtain ⟨V, l', k1, k2, k3⟩ := ih (t + 1) fu v' l1 (by omega) (by omega) hl1c (fun x hx => by
        have h3 := h1 x hx
        have h4 := tm_1 hN2.1 g3 hx haW hbW
        have h5 := pf_n (O := O) (mb := mb) (mf := mf) (x := x) C0 hw hl1a hl1b
        have h7 := pdm_b (mc := mc) (mr := mr) (mb := mb) (mf := mf) (mg := mg) (N := N) (LO := LO) (O := O) hw (y2 x (t / W) (t % W)) 0
        have h8 := pdm_b (mc := mc) (mr := mr) (mb := mb) (mf := mf) (mg := mg) (N := N) (LO := LO) (O := O) hw (y2 x (t / W) (t % W)) 1
        have h9 := VT_b (W := W) PP (N - 2) 2 (y2 x (t / W) (t % W))
        have h10 : (f_X7_paidFirst mc mr mb mf mg l1 mw (nI (mkn O 12)) + u' (tp 1 (t / W) (t % W))).toInt = pdm mc mr mb mf mg mw N LO O (y2 x (t / W) (t % W)) 0 + pdm mc mr mb mf mg mw N LO O (y2 x (t / W) (t % W)) 1 + VT W (pdm mc mr mb mf mg mw N LO O) (N - 2) 2 (y2 x (t / W) (t % W)) := by
          rw [t_add (by rw [h5, h4.1]; omega) (by rw [h5, h4.1]; omega), h5, h4.1]
        rw [lmin_s, ← h3, ← h10, ev]
        split
        · rename_i hq
          rw [t_le] at hq
          omega
        · rename_i hq
          rw [t_le] at hq
          omega)
      exact ⟨V, l', hstep.trans k1, k2, k3⟩
  obtain ⟨V, l', k1, k2, k3⟩ := key (W * W) 0 (((nI W * nI W).toInt - (0 : Int32).toInt).toNat + 1) (1000000 : Int32) l0 (Nat.zero_add _) (by rw [← nI_times, t_n (by omega), t_0]; omega) g2 (fun x hx => rfl)
  refine ⟨V, l', u', y', ?_, k2, k3, g3⟩
  rw [e_X7_leastCost, g1, eW]
  exact k1
theorem gw_ok (C : cx gs gv mc mr mg N W LO R) (hw : wtr wv mw) (eW : (mhi - mlo) + (1 : Int32) = nI W) (eL : mlo = nI LO) (ml me : Nat → Int32) (mo : Nat → Int64) : ∃ V l' u' y', f_X7_goodWith mc mr mb mf mlo mhi mg ml mw me mo (nI (mkn O 12)) = (V, l', u', y') ∧ (∀ x, dg W x → V = WT W (pdm mc mr mb mf mg mw N LO O) N 0 x) := by
  have C0 := C
  obtain ⟨hm, hg, hgv, hN, hN2, hR, hW, hLO⟩ := C
  have hZ := ZZ_e
  have PP := PD_m (mb := mb) (mf := mf) (mg := mg) (LO := LO) (O := O) hm hR hN hN2 hw
  have hWW : W * W ≤ 100 := Nat.mul_le_mul hW.2 hW.2
  obtain ⟨l0, u', y', g1, g2, g3⟩ := rk_ok (mb := mb) (mf := mf) (O := O) C0 hw eW eL ml me mo
  have key : ∀ n t fu v l, t + n = W * W → n < fu → (∀ x, dg W x → v = lsum (fun t => if pdm mc mr mb mf mg mw N LO O (y2 x (t / W) (t % W)) 0 + pdm mc mr mb mf mg mw N LO O (y2 x (t / W) (t % W)) 1 < ZZ then WT W (pdm mc mr mb mf mg mw N LO O) (N - 2) 2 (y2 x (t / W) (t % W)) else 0) t) → ∃ V l', f_X7_goodWith_l22 mc mr mb mf mlo mhi mg ml mw me mo (nI (mkn O 12)) fu v (nI t) l = (V, l', u', y') ∧ (∀ x, dg W x → V = WT W (pdm mc mr mb mf mg mw N LO O) N 0 x) := by
    intro n
    induction n with
    | zero =>
      intro t fu v l ht hf h1
      obtain ⟨fu, rfl⟩ : ∃ f, fu = f + 1 := ⟨fu - 1, by omega⟩
      rw [Nat.add_zero] at ht
      rw [ht] at h1
      refine ⟨v, l, ?_, fun x hx => by rw [h1 x hx, two_W PP hN2.1]⟩
      rw [e_X7_goodWith_l22, eW, ← nI_times, if_pos (nI_le (by omega) (by omega)), g1]
    | succ n ih =>
      intro t fu v l ht hf h1
      obtain ⟨fu, rfl⟩ : ∃ f, fu = f + 1 := ⟨fu - 1, by omega⟩
      have htW : t < W * W := by omega
      have haW : t / W < W := (Nat.div_lt_iff_lt_mul (by omega)).mpr htW
      have hbW : t % W < W := Nat.mod_lt _ (by omega)
      have htb := tp_b (p := 1) (show 1 ≤ 26 by omega) (show t / W < 10 by omega) (show t % W < 10 by omega)
      obtain ⟨l1, el1⟩ : ∃ l1, l1 = upd (upd l 0 (nI (LO + t / W))) 1 (nI (LO + t % W)) := ⟨_, rfl⟩
      have hl1a : l1 0 = nI (LO + t / W) := by rw [el1, upd_ne (by omega), upd_at]
      have hl1b : l1 1 = nI (LO + t % W) := by rw [el1, upd_at]
      obtain ⟨v', ev⟩ : ∃ v', v' = if (1000000 : Int32) ≤ f_X7_paidFirst mc mr mb mf mg l1 mw (nI (mkn O 12)) then v + 0 else v + y' (tp 1 (t / W) (t % W)) := ⟨_, rfl⟩
      have hstep : f_X7_goodWith_l22 mc mr mb mf mlo mhi mg ml mw me mo (nI (mkn O 12)) (fu + 1) v (nI t) l = f_X7_goodWith_l22 mc mr mb mf mlo mhi mg ml mw me mo (nI (mkn O 12)) fu v' (nI (t + 1)) l1 := by
        rw [e_X7_goodWith_l22, e_X7_goodWith_j95, e_X7_goodWith_j95, g1, eW, ← nI_times, if_neg (nI_ge (by omega) (by omega)), dv_n (by omega) hW, md_n (by omega) hW, i1_n, nI_clamp (by omega), show (0 : Int32).toNatClampNeg = 0 from rfl, show (1 : Int32).toNatClampNeg = 1 from rfl, eL, ← nI_plus, ← nI_plus, ← el1, ← nI_succ, ev]
        split <;> rfl
      obtain ⟨V, l', k1, k2⟩ := ih (t + 1) fu v' l1 (by omega) (by omega) (fun x hx => by
        have h3 := h1 x hx
        have h4 := tm_1 hN2.1 g3 hx haW hbW
        have h5 := pf_n (O := O) (mb := mb) (mf := mf) (x := x) C0 hw hl1a hl1b
        rw [lsum_s, ← h3, ← h5, ← h4.2, ev]
        by_cases hq : (1000000 : Int32) ≤ f_X7_paidFirst mc mr mb mf mg l1 mw (nI (mkn O 12))
        · rw [if_pos hq]
          rw [t_le, tZ] at hq
          rw [if_neg (by omega)]
        · rw [if_neg hq]
          rw [t_le, tZ] at hq
          rw [if_pos (by omega)])
      exact ⟨V, l', hstep.trans k1, k2⟩
  obtain ⟨V, l', k1, k2⟩ := key (W * W) 0 (((nI W * nI W).toInt - (0 : Int32).toInt).toNat + 1) (0 : Int64) l0 (Nat.zero_add _) (by rw [← nI_times, t_n (by omega), t_0]; omega) (fun x hx => rfl)
  refine ⟨V, l', u', y', ?_, k2⟩
  rw [e_X7_goodWith, g1, eW]
  exact k1
/-- the least cost of all lines -/
theorem VT_MT {pd : (Nat → Nat) → Nat → Int} (P : PD N pd) (x : Nat → Nat) : VT W pd N 0 x = MT W (tot pd N) N 0 x := by
  have h := VT_b (W := W) P N 0 x
  have hZ := ZZ_e
  rw [MT_VT P N 0 x (Nat.zero_add _), pre]
  omega
theorem WT_CT {pd : (Nat → Nat) → Nat → Int} (P : PD N pd) (hN : N ≤ 27) (x : Nat → Nat) : WT W pd N 0 x = CT W (tot pd N) N 0 x := by
  rw [CT_WT P (by omega) N 0 x (Nat.zero_add _), if_pos (by rw [pre]; decide)]
end
