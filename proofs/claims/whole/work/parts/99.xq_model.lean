/-! ===== the model's best line ===== -/
section
variable {gs mlo mhi v1 v5 : Int32} {gv wv u3 : Nat → Int32} {u4 : Nat → Int64} {mc mr mb mf : Int32} {mg mw : Nat → Int32} {N W LO R : Nat} 
/-- a note of the model's line, the first that does -/
theorem fm_in (C : cx gs gv mc mr mg N W LO R) (hw : wtr wv mw) (eW : (mhi - mlo) + (1 : Int32) = nI W) (eL : mlo = nI LO) (hT : TM (pdm mc mr mb mf mg mw N LO (fun _ => false)) N W 1 u3 u4) {p : Nat} {x : Nat → Nat} {L : Int32} {K : Int32 → (Nat → Int32) → (Int32 × Int32 × (Nat → Int32) × Int32 × (Nat → Int32) × (Nat → Int64))} (h2 : 2 ≤ p) (hp : p < N) (hx : dg W x) (hL : L.toInt = VT W (pdm mc mr mb mf mg mw N LO (fun _ => false)) (N - p) p x) (hz : VT W (pdm mc mr mb mf mg mw N LO (fun _ => false)) (N - p) p x < ZZ) : ∀ n c fu l, c + n = W → n < fu → l (p - 1) = nI (LO + x (p - 1)) → l (p - 2) = nI (LO + x (p - 2)) → (∀ d, d < c → pdm mc mr mb mf mg mw N LO (fun _ => false) (lset x p d) p + VT W (pdm mc mr mb mf mg mw N LO (fun _ => false)) (N - p - 1) (p + 1) (lset x p d) ≠ VT W (pdm mc mr mb mf mg mw N LO (fun _ => false)) (N - p) p x) → ∃ d L' l', d < W ∧ f_X7_find_l229 mc mr mb mf mlo mhi mg mw u3 (nI p) K fu L (0 : Int32) (nI c) l = K L' l' ∧ L'.toInt = VT W (pdm mc mr mb mf mg mw N LO (fun _ => false)) (N - p - 1) (p + 1) (lset x p d) ∧ l' p = nI (LO + d) ∧ (∀ j, j ≠ p → l' j = l j) ∧ pdm mc mr mb mf mg mw N LO (fun _ => false) (lset x p d) p + VT W (pdm mc mr mb mf mg mw N LO (fun _ => false)) (N - p - 1) (p + 1) (lset x p d) = VT W (pdm mc mr mb mf mg mw N LO (fun _ => false)) (N - p) p x ∧ ∀ e, e < d → pdm mc mr mb mf mg mw N LO (fun _ => false) (lset x p e) p + VT W (pdm mc mr mb mf mg mw N LO (fun _ => false)) (N - p - 1) (p + 1) (lset x p e) ≠ VT W (pdm mc mr mb mf mg mw N LO (fun _ => false)) (N - p) p x := by
  obtain ⟨hm, hg, hgv, hN, hN2, hR, hW, hLO⟩ := C
  have hZ := ZZ_e
  have PP := PD_m (mb := mb) (mf := mf) (mg := mg) (LO := LO) (O := fun _ => false) hm hR hN hN2 hw
  have ep : nI p - (1 : Int32) = nI (p - 1) := nI_minus (b := 1) (by omega)
  intro n
  induction n with
  | zero =>
    intro c fu l hc hf h0 h1 h
    obtain ⟨d, a1, a2, a3⟩ := VS_at (W := W) (pd := (pdm mc mr mb mf mg mw N LO (fun _ => false))) hp hz
    exact absurd a2 (h d (by omega))
  | succ n ih =>
    intro c fu l hc hf h0 h1 h
    obtain ⟨fu, rfl⟩ : ∃ f, fu = f + 1 := ⟨fu - 1, by omega⟩
    have hcW : c < W := by omega
    have hx9 := hx (p - 1)
    have htb := tp_b (p := p) (show p ≤ 26 by omega) (show x (p - 1) < 10 by omega) (show c < 10 by omega)
    have hlp : upd l p (nI (LO + c)) (p - 1) = nI (LO + x (p - 1)) := by rw [upd_ne (by omega)]; exact h0
    have hsub : nI (LO + x (p - 1)) - mlo = nI (x (p - 1)) := by rw [eL, nI_minus (by omega), show LO + x (p - 1) - LO = x (p - 1) by omega]
    have hpaid : f_X7_paid mc mr mb mf mg (upd l p (nI (LO + c))) mw (nI p) (0 : Int32) = pm mc mr mb mf mg mw N LO (fun _ => false) (lset x p c) p := by
      rw [← mk0]
      refine paid_n hm hR hN hN2 hw hp ?_ ?_ ?_
      · rw [upd_at, lx, lset_at]
      · rw [hlp, lx, lset_ne (by omega)]
      · rw [upd_ne (by omega), h1, lx, lset_ne (by omega)]
    have h4 := (hT p (by omega) (by omega) (by omega) (lset x p c) (dg_set hx hcW)).1
    rw [lset_at, lset_ne (by omega), show N - 1 - p = N - p - 1 by omega] at h4
    have h6 : (pm mc mr mb mf mg mw N LO (fun _ => false) (lset x p c) p).toInt = pdm mc mr mb mf mg mw N LO (fun _ => false) (lset x p c) p := rfl
    have h7 := pdm_b (mc := mc) (mr := mr) (mb := mb) (mf := mf) (mg := mg) (N := N) (LO := LO) (O := fun _ => false) hw (lset x p c) p
    have h8 := VT_b (W := W) (PD_m (mb := mb) (mf := mf) (mg := mg) (LO := LO) (O := fun _ => false) hm hR hN hN2 hw) (N - p - 1) (p + 1) (lset x p c)
    have hiff : pm mc mr mb mf mg mw N LO (fun _ => false) (lset x p c) p + u3 (tp p (x (p - 1)) c) = L ↔ pdm mc mr mb mf mg mw N LO (fun _ => false) (lset x p c) p + VT W (pdm mc mr mb mf mg mw N LO (fun _ => false)) (N - p - 1) (p + 1) (lset x p c) = VT W (pdm mc mr mb mf mg mw N LO (fun _ => false)) (N - p) p x := by
      rw [← hL, ← h6, ← h4, ← Int32.toInt_inj, t_add (by rw [h6, h4]; omega) (by rw [h6, h4]; omega)]
    rw [e_X7_find_l229, eW, if_neg (nI_ge (by omega) (by omega)), if_pos rfl, ep, nI_clamp (by omega), nI_clamp (by omega), show mlo + nI c = nI (LO + c) by rw [eL, ← nI_plus], hlp, hsub, at_n, nI_clamp (by omega), hpaid]
    by_cases c1 : pm mc mr mb mf mg mw N LO (fun _ => false) (lset x p c) p + u3 (tp p (x (p - 1)) c) = L
    · obtain ⟨fu, rfl⟩ : ∃ f, fu = f + 1 := ⟨fu - 1, by omega⟩
      refine ⟨c, u3 (tp p (x (p - 1)) c), upd l p (nI (LO + c)), hcW, ?_, h4, upd_at, fun j hj => upd_ne hj, hiff.mp c1, h⟩
      rw [if_pos c1, e_X7_find_j308, if_neg (by decide), e_X7_find_j322, ep, nI_clamp (by omega), nI_clamp (by omega), show mlo + nI c = nI (LO + c) by rw [eL, ← nI_plus], hlp, hsub, at_n, nI_clamp (by omega), e_X7_find_l229, if_neg (show ¬ (1 : Int32) = 0 by decide)]
      split <;> rfl
    · obtain ⟨d, L', l', k1, k2, k3, k4, k5, k6, k7⟩ := ih (c + 1) fu (upd l p (nI (LO + c))) (by omega) (by omega) hlp (by rw [upd_ne (by omega)]; exact h1) (fun d hd => by
        by_cases e : d = c
        · rw [e]
          exact fun e2 => c1 (hiff.mpr e2)
        · exact h d (by omega))
      refine ⟨d, L', l', k1, ?_, k3, k4, fun j hj => by rw [k5 j hj, upd_ne hj], k6, k7⟩
      rw [if_neg c1, e_X7_find_j308, if_pos rfl, e_X7_find_j322, nI_clamp (by omega), show mlo + nI c = nI (LO + c) by rw [eL, ← nI_plus], ← nI_succ]
      exact k2
/-- the notes from the third one on -/
theorem fm_out (C : cx gs gv mc mr mg N W LO R) (hw : wtr wv mw) (eW : (mhi - mlo) + (1 : Int32) = nI W) (eL : mlo = nI LO) (hT : TM (pdm mc mr mb mf mg mw N LO (fun _ => false)) N W 1 u3 u4) {l0 : Nat → Int32} : ∀ n p fu L l x, p + n = N → 2 ≤ p → n < fu → dg W x → GP W N (pdm mc mr mb mf mg mw N LO (fun _ => false)) p x → L.toInt = VT W (pdm mc mr mb mf mg mw N LO (fun _ => false)) (N - p) p x → VT W (pdm mc mr mb mf mg mw N LO (fun _ => false)) (N - p) p x < ZZ → (∀ j, j < p → l j = nI (LO + x j)) → (∀ j, N ≤ j → l j = l0 j) → ∃ l' g, f_X7_find_l214 mc mr mb mf mlo mhi mg mw v1 u3 u4 v5 fu L (nI p) l = (v1, ((f_X7_goesOn v5).2), l', nI N, u3, u4) ∧ GV W N (pdm mc mr mb mf mg mw N LO (fun _ => false)) g ∧ (∀ j, j < N → l' j = nI (LO + g j)) ∧ (∀ j, N ≤ j → l' j = l0 j) := by
  have C0 := C
  obtain ⟨hm, hg, hgv, hN, hN2, hR, hW, hLO⟩ := C
  have PP := PD_m (mb := mb) (mf := mf) (mg := mg) (LO := LO) (O := fun _ => false) hm hR hN hN2 hw
  intro n
  induction n with
  | zero =>
    intro p fu L l x hp h2 hf hx hG hL hz h0 h1
    obtain ⟨fu, rfl⟩ : ∃ f, fu = f + 1 := ⟨fu - 1, by omega⟩
    rw [Nat.add_zero] at hp
    rw [hp] at hG h0
    refine ⟨l, x, ?_, hG, h0, h1⟩
    rw [e_X7_find_l214, hN, if_pos (nI_le (by omega) (by omega))]
  | succ n ih =>
    intro p fu L l x hp h2 hf hx hG hL hz h0 h1
    obtain ⟨fu, rfl⟩ : ∃ f, fu = f + 1 := ⟨fu - 1, by omega⟩
    obtain ⟨d, L', l', k1, k2, k3, k4, k5, k6, k7⟩ := fm_in (mb := mb) (mf := mf) (K := f_X7_find_j330 (nI p) (f_X7_find_l214 mc mr mb mf mlo mhi mg mw v1 u3 u4 v5 fu)) C0 hw eW eL hT h2 (show p < N by omega) hx hL hz W 0 (((nI W).toInt - (0 : Int32).toInt).toNat + 1) l (Nat.zero_add _) (by rw [t_n (by omega), t_0]; omega) (h0 _ (by omega)) (h0 _ (by omega)) (fun d hd => absurd hd (Nat.not_lt_zero _))
    have h5 := PP.1 (lset x p d) p
    obtain ⟨l2, g, g1, g2, g3, g4⟩ := ih (p + 1) fu L' l' (lset x p d) (by omega) (by omega) (by omega) (dg_set hx k1) (GP_n PP (by omega) hG k1 k6 k7) (by rw [k3, show N - (p + 1) = N - p - 1 by omega]) (by rw [show N - (p + 1) = N - p - 1 by omega]; omega) (fun j hj => by
      by_cases e : j = p
      · rw [e, k4, lset_at]
      · rw [k5 j e, lset_ne e]
        exact h0 j (by omega)) (fun j hj => by rw [k5 j (by omega)]; exact h1 j hj)
    refine ⟨l2, g, ?_, g2, g3, g4⟩
    rw [e_X7_find_l214, hN, if_neg (nI_ge (by omega) (by omega)), eW]
    rw [show nI 0 = (0 : Int32) from rfl] at k2
    rw [k2, e_X7_find_j330, ← nI_succ]
    exact g1
/-- two first notes do, if they pay the least -/
def EQ1 (pd : (Nat → Nat) → Nat → Int) (W N : Nat) (a b : Nat) : Prop := pd (y2 (fun _ => 0) a b) 0 + pd (y2 (fun _ => 0) a b) 1 + VT W pd (N - 2) 2 (y2 (fun _ => 0) a b) = VT W pd N 0 (fun _ => 0)
theorem GP_1 {pd : (Nat → Nat) → Nat → Int} (P : PD N pd) (hN : 2 ≤ N) {t : Nat} (ht : t < W * W) (hz : VT W pd N 0 (fun _ => 0) < ZZ) (h1 : EQ1 pd W N (t / W) (t % W)) (h2 : ∀ s, s < t → ¬ EQ1 pd W N (s / W) (s % W)) : GP W N pd 2 (y2 (fun _ => 0) (t / W) (t % W)) := by
  have hW : 0 < W := by
    rcases Nat.eq_zero_or_pos W with e | e
    · rw [e, Nat.mul_zero] at ht
      omega
    · exact e
  have haW : t / W < W := (Nat.div_lt_iff_lt_mul hW).mpr ht
  have hbW : t % W < W := Nat.mod_lt _ hW
  have hdm : t / W * W + t % W = t := Nat.div_add_mod' t W
  have hsub : N - 0 - 1 = N - 1 := by omega
  have hsub2 : N - 1 - 1 = N - 2 := by omega
  have e1 : ∀ a b, pd (lset (fun _ => 0) 0 a) 0 = pd (y2 (fun _ => 0) a b) 0 := fun a b => two_0 P hN _ a b
  have hV1 : ∀ a, VT W pd (N - 1) 1 (lset (fun _ => 0) 0 a) = lmin (VS W pd N (lset (fun _ => 0) 0 a) 1) W := fun a => VT_S (by omega)
  have hS1 : ∀ a b, VS W pd N (lset (fun _ => 0) 0 a) 1 b = min ZZ (pd (y2 (fun _ => 0) a b) 1 + VT W pd (N - 2) 2 (y2 (fun _ => 0) a b)) := fun a b => by
    rw [VS, hsub2]
    rfl
  have hV0 : VT W pd N 0 (fun _ => 0) = lmin (VS W pd N (fun _ => 0) 0) W := by
    have h := VT_S (W := W) (pd := pd) (x := fun _ => 0) (show 0 < N by omega)
    rw [Nat.sub_zero] at h
    exact h
  have hS0 : ∀ a, VS W pd N (fun _ => 0) 0 a = min ZZ (pd (lset (fun _ => 0) 0 a) 0 + VT W pd (N - 1) 1 (lset (fun _ => 0) 0 a)) := fun a => by rw [VS, hsub]
  have q1 := h1
  rw [EQ1] at q1
  have p0 := P.1 (y2 (fun _ => 0) (t / W) (t % W)) 0
  have p1 := P.1 (y2 (fun _ => 0) (t / W) (t % W)) 1
  have p2 := VT_b (W := W) P (N - 2) 2 (y2 (fun _ => 0) (t / W) (t % W))
  have a1 := lmin_le (VS W pd N (lset (fun _ => 0) 0 (t / W)) 1) W (t % W) hbW
  rw [hS1, ← hV1] at a1
  have a2 := lmin_le (VS W pd N (fun _ => 0) 0) W (t / W) haW
  rw [hS0, ← hV0, e1 (t / W) (t % W)] at a2
  have a3 : VT W pd (N - 1) 1 (lset (fun _ => 0) 0 (t / W)) = pd (y2 (fun _ => 0) (t / W) (t % W)) 1 + VT W pd (N - 2) 2 (y2 (fun _ => 0) (t / W) (t % W)) := by omega
  have g1 : GP W N pd 1 (lset (fun _ => 0) 0 (t / W)) := by
    refine GP_n P (by omega) (fun p hp => absurd hp (Nat.not_lt_zero _)) haW ?_ (fun a ha hq => ?_)
    · rw [hsub, Nat.sub_zero, e1 (t / W) (t % W), show (0 + 1 : Nat) = 1 from rfl, a3]
      omega
    · rw [hsub, Nat.sub_zero, show (0 + 1 : Nat) = 1 from rfl] at hq
      have p3 := P.1 (lset (fun _ => 0) 0 a) 0
      have hz2 : lmin (VS W pd N (lset (fun _ => 0) 0 a) 1) W < ZZ := by rw [← hV1]; omega
      obtain ⟨b, b1, b2, b3⟩ := lmin_at W hz2
      rw [← hV1] at b2
      rw [hS1] at b2
      have hlt : a * W + b < t := by
        have := Nat.mul_le_mul_right W (show a + 1 ≤ t / W by omega)
        rw [Nat.succ_mul] at this
        omega
      refine h2 (a * W + b) hlt ?_
      rw [(sq_div b1).1, (sq_div b1).2, EQ1, ← e1 a b]
      omega
  refine GP_n P (by omega) g1 hbW ?_ (fun b hb hq => ?_)
  · rw [hsub2, a3]
    rfl
  · rw [hsub2, a3] at hq
    have hlt : t / W * W + b < t := by omega
    have hbW2 : b < W := by omega
    refine h2 (t / W * W + b) hlt ?_
    rw [(sq_div hbW2).1, (sq_div hbW2).2, EQ1, ← e1 (t / W) b, e1 (t / W) (t % W)]
    have hq2 : pd (y2 (fun _ => 0) (t / W) b) 1 + VT W pd (N - 2) 2 (y2 (fun _ => 0) (t / W) b) = pd (y2 (fun _ => 0) (t / W) (t % W)) 1 + VT W pd (N - 2) 2 (y2 (fun _ => 0) (t / W) (t % W)) := hq
    omega
theorem EQ1_x {pd : (Nat → Nat) → Nat → Int} (P : PD N pd) (hN : 2 ≤ N) (hz : VT W pd N 0 (fun _ => 0) < ZZ) : ∃ t, t < W * W ∧ EQ1 pd W N (t / W) (t % W) := by
  have h := two_V (W := W) P hN (fun _ => 0)
  rw [h] at hz
  obtain ⟨t, h1, h2, h3⟩ := lmin_at _ hz
  exact ⟨t, h1, by rw [EQ1, h, ← h2]⟩
/-- the first two notes -/
theorem fm_two (C : cx gs gv mc mr mg N W LO R) (hw : wtr wv mw) (eW : (mhi - mlo) + (1 : Int32) = nI W) (eL : mlo = nI LO) (hT : TM (pdm mc mr mb mf mg mw N LO (fun _ => false)) N W 1 u3 u4) (hv : v1.toInt = VT W (pdm mc mr mb mf mg mw N LO (fun _ => false)) N 0 (fun _ => 0)) (hz : VT W (pdm mc mr mb mf mg mw N LO (fun _ => false)) N 0 (fun _ => 0) < ZZ) {l0 : Nat → Int32} : ∀ n t fu l, t + n = W * W → n < fu → (∀ j, N ≤ j → l j = l0 j) → (∀ s, s < t → ¬ EQ1 (pdm mc mr mb mf mg mw N LO (fun _ => false)) W N (s / W) (s % W)) → ∃ l' g, f_X7_find_l92 mc mr mb mf mlo mhi mg mw v1 u3 u4 v5 fu v1 (0 : Int32) (nI t) l = (v1, ((f_X7_goesOn v5).2), l', nI N, u3, u4) ∧ GV W N (pdm mc mr mb mf mg mw N LO (fun _ => false)) g ∧ (∀ j, j < N → l' j = nI (LO + g j)) ∧ (∀ j, N ≤ j → l' j = l0 j) := by
  have C0 := C
  obtain ⟨hm, hg, hgv, hN, hN2, hR, hW, hLO⟩ := C
  have PP := PD_m (mb := mb) (mf := mf) (mg := mg) (LO := LO) (O := fun _ => false) hm hR hN hN2 hw
  have hZ := ZZ_e
  have hWW : W * W ≤ 100 := Nat.mul_le_mul hW.2 hW.2
  intro n
  induction n with
  | zero =>
    intro t fu l ht hf h0 h1
    obtain ⟨s, s1, s2⟩ := EQ1_x PP hN2.1 hz
    exact absurd s2 (h1 s (by omega))
  | succ n ih =>
    intro t fu l ht hf h0 h1
    obtain ⟨fu, rfl⟩ : ∃ f, fu = f + 1 := ⟨fu - 1, by omega⟩
    have htW : t < W * W := by omega
    have haW : t / W < W := (Nat.div_lt_iff_lt_mul (by omega)).mpr htW
    have hbW : t % W < W := Nat.mod_lt _ (by omega)
    have htb := tp_b (p := 1) (show 1 ≤ 26 by omega) (show t / W < 10 by omega) (show t % W < 10 by omega)
    obtain ⟨l1, el1⟩ : ∃ l1, l1 = upd (upd l 0 (nI (LO + t / W))) 1 (nI (LO + t % W)) := ⟨_, rfl⟩
    have hl1a : l1 0 = nI (LO + t / W) := by rw [el1, upd_ne (by omega), upd_at]
    have hl1b : l1 1 = nI (LO + t % W) := by rw [el1, upd_at]
    have hl1c : ∀ j, N ≤ j → l1 j = l0 j := fun j hj => by rw [el1, upd_ne (by omega), upd_ne (by omega), h0 j hj]
    have h4 := tm_1 hN2.1 hT (dg_0 hW.1) haW hbW
    have h5 := pf_n (O := fun _ => false) (mb := mb) (mf := mf) (x := fun _ => 0) C0 hw hl1a hl1b
    rw [mk0] at h5
    have h7 := pdm_b (mc := mc) (mr := mr) (mb := mb) (mf := mf) (mg := mg) (N := N) (LO := LO) (O := fun _ => false) hw (y2 (fun _ => 0) (t / W) (t % W)) 0
    have h8 := pdm_b (mc := mc) (mr := mr) (mb := mb) (mf := mf) (mg := mg) (N := N) (LO := LO) (O := fun _ => false) hw (y2 (fun _ => 0) (t / W) (t % W)) 1
    have h9 := VT_b (W := W) PP (N - 2) 2 (y2 (fun _ => 0) (t / W) (t % W))
    have hiff : f_X7_paidFirst mc mr mb mf mg l1 mw (0 : Int32) + u3 (tp 1 (t / W) (t % W)) = v1 ↔ EQ1 (pdm mc mr mb mf mg mw N LO (fun _ => false)) W N (t / W) (t % W) := by
      rw [EQ1, ← hv, ← h5, ← h4.1, ← Int32.toInt_inj, t_add (by rw [h5, h4.1]; omega) (by rw [h5, h4.1]; omega)]
    rw [e_X7_find_l92, eW, ← nI_times, if_neg (nI_ge (by omega) (by omega)), if_pos rfl, dv_n (by omega) hW, md_n (by omega) hW, i1_n, nI_clamp (by omega), show (0 : Int32).toNatClampNeg = 0 from rfl, show (1 : Int32).toNatClampNeg = 1 from rfl, show mlo + nI (t / W) = nI (LO + t / W) by rw [eL, ← nI_plus], show mlo + nI (t % W) = nI (LO + t % W) by rw [eL, ← nI_plus], ← el1]
    by_cases c1 : f_X7_paidFirst mc mr mb mf mg l1 mw (0 : Int32) + u3 (tp 1 (t / W) (t % W)) = v1
    · obtain ⟨fu, rfl⟩ : ∃ f, fu = f + 1 := ⟨fu - 1, by omega⟩
      have hE := hiff.mp c1
      have hG := GP_1 PP hN2.1 htW hz hE h1
      have hlt : VT W (pdm mc mr mb mf mg mw N LO (fun _ => false)) (N - 2) 2 (y2 (fun _ => 0) (t / W) (t % W)) < ZZ := by
        rw [EQ1] at hE
        omega
      obtain ⟨l', g, g1, g2, g3, g4⟩ := fm_out (v1 := v1) (v5 := v5) (mb := mb) (mf := mf) (l0 := l0) C0 hw eW eL hT (N - 2) 2 (N - 2 + 1) (u3 (tp 1 (t / W) (t % W))) l1 (y2 (fun _ => 0) (t / W) (t % W)) (by omega) (by omega) (by omega) (dg_y (dg_0 hW.1) haW hbW) hG h4.1 hlt (fun j hj => by
        by_cases e : j = 1
        · rw [e, hl1b, y2, lset_at]
        · have e0 : j = 0 := by omega
          rw [e0, hl1a, y2, lset_ne (by omega), lset_at]) hl1c
      refine ⟨l', g, ?_, g2, g3, g4⟩
      have h203 : f_X7_find_j203 mc mr mb mf mlo mhi mg mw v1 u3 u4 v5 (u3 (tp 1 (t / W) (t % W))) l1 = (v1, ((f_X7_goesOn v5).2), l', nI N, u3, u4) := by
        rw [e_X7_find_j203, hN, t_n (by omega), t_2, show (((N : Nat) : Int) - 2).toNat + 1 = N - 2 + 1 by omega]
        exact g1
      rw [if_pos c1, e_X7_find_j181, if_neg (by decide), e_X7_find_j195, eW, dv_n (by omega) hW, md_n (by omega) hW, i1_n, nI_clamp (by omega), show (0 : Int32).toNatClampNeg = 0 from rfl, show (1 : Int32).toNatClampNeg = 1 from rfl, show mlo + nI (t / W) = nI (LO + t / W) by rw [eL, ← nI_plus], show mlo + nI (t % W) = nI (LO + t % W) by rw [eL, ← nI_plus], ← el1, e_X7_find_l92, if_neg (show ¬ (1 : Int32) = 0 by decide), h203]
      split <;> rfl
    · obtain ⟨l', g, g1, g2, g3, g4⟩ := ih (t + 1) fu l1 (by omega) (by omega) hl1c (fun s hs => by
        by_cases e : s = t
        · rw [e]
          exact fun e2 => c1 (hiff.mpr e2)
        · exact h1 s (by omega))
      refine ⟨l', g, ?_, g2, g3, g4⟩
      rw [if_neg c1, e_X7_find_j181, if_pos rfl, e_X7_find_j195, eW, dv_n (by omega) hW, md_n (by omega) hW, show (0 : Int32).toNatClampNeg = 0 from rfl, show (1 : Int32).toNatClampNeg = 1 from rfl, show mlo + nI (t / W) = nI (LO + t / W) by rw [eL, ← nI_plus], show mlo + nI (t % W) = nI (LO + t % W) by rw [eL, ← nI_plus], ← el1, ← nI_succ]
      exact g1
end
