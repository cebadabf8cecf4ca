/-! ===== the table of faults: all of prepare ===== -/
section
variable {gs mc mr mf mb tc gl gh gn : Int32} {gv mg : Nat → Int32} {N W LO R : Nat}
theorem mm_mid (C : cx gs gv mc mr mg N W LO R) {s p b t : Nat} {K : (Nat → Int32) → (Nat → Int32) → ((Nat → Int32) × (Nat → Int32))} (hp : p < N) (hs : s ≤ 27) (hb : b < 10) (ht : t ≤ 1) : ∀ n c fu mv u, c + n = W → n < fu → (∀ j, j < 53 → j ≠ N - 1 → rg (u j)) → (p + 2 < N → rg (u (N - 1))) → (1 ≤ p → u (p - 1) = nI (LO + b)) → ∃ mv' u', f_X4_makeMasks_l35 (nI N) (nI W) (nI LO) (nI N) mc gs mb mf gv (nI s) (nI p) (nI t) (nI b) K fu (nI c) mv u = K mv' u' ∧ (∀ i, (∀ a' c', a' < 10 → c ≤ c' → c' < 10 → i ≠ mpl s a' b c') → mv' i = mv i) ∧ (∀ x, dg W x → d1 x p = b → ec N p t x → c ≤ x p → mv' (mpl s (d2 x p) b (x p)) = fk mc mr mb mf mg N LO x p) ∧ (∀ j, j < 53 → j ≠ N - 1 → rg (u' j)) ∧ (p + 2 < N → rg (u' (N - 1))) ∧ (p = N - 1 → (0 < n ∨ rg (u (N - 1))) → rg (u' (N - 1))) := by
  have C0 := C
  obtain ⟨hm, hg, hgv, hN, hN2, ⟨hR, hR2⟩, hW, hLO⟩ := C
  have hch : f_X4_choices (nI W) (nI p - (2 : Int32)) = nI (if 2 ≤ p then W else 1) := by
    have h := ch_n (sw := nI W) (p := p) (r := 2) (by omega) (by omega)
    rw [show nI 2 = (2 : Int32) from rfl] at h
    rw [h]
    split <;> rfl
  have hch2 : (if 2 ≤ p then W else 1) ≤ 10 := by split <;> omega
  have hfu : (if 2 ≤ p then W else 1) < ((f_X4_choices (nI W) (nI p - (2 : Int32))).toInt - (0 : Int32).toInt).toNat + 1 := by
    rw [hch, t_n (by omega), t_0]
    omega
  intro n
  induction n with
  | zero =>
    intro c fu mv u hc hf hr hr2 h1
    obtain ⟨fu, rfl⟩ : ∃ f, fu = f + 1 := ⟨fu - 1, by omega⟩
    refine ⟨mv, u, ?_, fun _ _ => rfl, fun x hx _ _ h => ?_, hr, hr2, fun _ h => h.elim (fun h => absurd h (by omega)) id⟩
    · rw [e_X4_makeMasks_l35, if_pos (nI_le (by omega) (by omega))]
    · have := hx p
      omega
  | succ n ih =>
    intro c fu mv u hc hf hr hr2 h1
    obtain ⟨fu, rfl⟩ : ∃ f, fu = f + 1 := ⟨fu - 1, by omega⟩
    obtain ⟨u1, hu1⟩ : ∃ u1, u1 = (if p = N - 2 then upd (upd u p (nI (LO + c))) (N - 1) (nI (LO + c + t)) else upd u p (nI (LO + c))) := ⟨_, rfl⟩
    have hl : f_X4_makeMasks_l35 (nI N) (nI W) (nI LO) (nI N) mc gs mb mf gv (nI s) (nI p) (nI t) (nI b) K (fu + 1) (nI c) mv u = f_X4_makeMasks_j88 (nI W) (nI LO) (nI N) mc gs mb mf gv (nI s) (nI p) (nI b) (nI c) mv (f_X4_makeMasks_l35 (nI N) (nI W) (nI LO) (nI N) mc gs mb mf gv (nI s) (nI p) (nI t) (nI b) K fu) u1 := by
      rw [e_X4_makeMasks_l35, if_neg (nI_ge (by omega) (by omega)), ← nI_plus, ← nI_plus, put_0 (by omega), show nI p + (1 : Int32) = nI (p + 1) from (nI_succ p).symm, put_0 (by omega), show nI N - (2 : Int32) = nI (N - 2) from nI_minus (b := 2) (by omega), hu1]
      by_cases e : p = N - 2
      · rw [if_pos e, if_pos (by rw [e]), show p + 1 = N - 1 by omega]
      · rw [if_neg e, if_neg (by rw [nI_eq (by omega) (by omega)]; exact e)]
    have v0 : u1 p = nI (LO + c) := by
      rw [hu1]
      split
      · rw [upd_ne (by omega), upd_at]
      · rw [upd_at]
    have v1 : ∀ j, j ≠ p → j ≠ N - 1 → u1 j = u j := by
      intro j h2 h3
      rw [hu1]
      split
      · rw [upd_ne h3, upd_ne h2]
      · rw [upd_ne h2]
    have v2 : p + 2 < N → u1 (N - 1) = u (N - 1) := by
      intro h
      rw [hu1, if_neg (by omega), upd_ne (by omega)]
    have v3 : p = N - 2 → u1 (N - 1) = nI (LO + c + t) := by
      intro h
      rw [hu1, if_pos h, upd_at]
    have r1 : ∀ j, j < 53 → j ≠ N - 1 → rg (u1 j) := by
      intro j hj h2
      by_cases e : j = p
      · rw [e, v0]
        exact rg_n (by omega)
      · rw [v1 j e h2]
        exact hr j hj h2
    obtain ⟨mv1, u2, g1, g2, g3, g4, g5, g6⟩ := mm_in (K := f_X4_makeMasks_j182 (nI c) (f_X4_makeMasks_l35 (nI N) (nI W) (nI LO) (nI N) mc gs mb mf gv (nI s) (nI p) (nI t) (nI b) K fu)) C0 hp hs hb (show c < W by omega) ht r1 (fun h => by rw [v2 h]; exact hr2 h) v0 (fun h => by rw [v1 (p - 1) (by omega) (by omega)]; exact h1 h) v3 _ 0 _ mv u1 (Nat.zero_add _) hfu r1 (fun _ _ => rfl)
    obtain ⟨mv', u', k1, k2, k3, k4, k5, k6⟩ := ih (c + 1) fu mv1 u2 (by omega) (by omega) g5 (fun h => by rw [g6 (N - 1) (by omega), v2 h]; exact hr2 h) (fun h => by rw [g6 (p - 1) (by omega), v1 (p - 1) (by omega) (by omega)]; exact h1 h)
    refine ⟨mv', u', ?_, ?_, ?_, k4, k5, ?_⟩
    · rw [hl, e_X4_makeMasks_j88, show (0 : Int32) = nI 0 from rfl]
      rw [show (0 : Int32) = nI 0 from rfl] at g1
      rw [g1, e_X4_makeMasks_j182, ← nI_succ]
      exact k1
    · intro i hi
      rw [k2 i (fun a' c' h1 h2 h3 => hi a' c' h1 (by omega) h3), g2 i (fun a' h => hi a' c h (Nat.le_refl _) (by omega))]
    · intro x hx hx1 he hx3
      have hb2 := d2_lt hx hW.1 p
      have hb3 := hx p
      by_cases e : x p = c
      · rw [k2 _ (fun a' c' _ _ _ => by rw [mpl, mpl]; omega)]
        have h5 := g3 x hx hx1 e he (Nat.zero_le _)
        rw [e]
        exact h5
      · exact k3 x hx hx1 he (by omega)
    · intro h _
      refine k6 h (Or.inr ?_)
      rw [g6 (N - 1) (by omega), ← h, v0]
      exact rg_n (by omega)
theorem mm_out (C : cx gs gv mc mr mg N W LO R) {s p t : Nat} (hp : p < N) (hs : s ≤ 27) (ht : t ≤ 1) : ∀ n b fu mv u, b + n = (if 1 ≤ p then W else 1) → n < fu → (∀ j, j < 53 → j ≠ N - 1 → rg (u j)) → (p + 2 < N → rg (u (N - 1))) → ∃ mv' u', f_X4_makeMasks_l3 (nI N) (nI W) (nI LO) (nI N) mc gs mb mf gv (nI s) (nI p) (nI t) fu (nI b) mv u = (mv', u') ∧ (∀ i, (∀ a' b' c', a' < 10 → b ≤ b' → b' < 10 → c' < 10 → i ≠ mpl s a' b' c') → mv' i = mv i) ∧ (∀ x, dg W x → ec N p t x → b ≤ d1 x p → mv' (mpl s (d2 x p) (d1 x p) (x p)) = fk mc mr mb mf mg N LO x p) ∧ (∀ j, j < 53 → j ≠ N - 1 → rg (u' j)) ∧ (p + 2 < N → rg (u' (N - 1))) ∧ (p = N - 1 → (0 < n ∨ rg (u (N - 1))) → rg (u' (N - 1))) := by
  have C0 := C
  obtain ⟨hm, hg, hgv, hN, hN2, ⟨hR, hR2⟩, hW, hLO⟩ := C
  have hch : f_X4_choices (nI W) (nI p - (1 : Int32)) = nI (if 1 ≤ p then W else 1) := by
    have h := ch_n (sw := nI W) (p := p) (r := 1) (by omega) (by omega)
    rw [show nI 1 = (1 : Int32) from rfl] at h
    rw [h]
    split <;> rfl
  have hch2 : (if 1 ≤ p then W else 1) ≤ 10 := by split <;> omega
  have hfu : W < ((nI W).toInt - (0 : Int32).toInt).toNat + 1 := by
    rw [t_n (by omega), t_0]
    omega
  intro n
  induction n with
  | zero =>
    intro b fu mv u hb hf hr hr2
    obtain ⟨fu, rfl⟩ : ∃ f, fu = f + 1 := ⟨fu - 1, by omega⟩
    refine ⟨mv, u, ?_, fun _ _ => rfl, fun x hx _ h => ?_, hr, hr2, fun _ h => h.elim (fun h => absurd h (by omega)) id⟩
    · rw [e_X4_makeMasks_l3, hch, if_pos (nI_le (by omega) (by omega))]
    · have := d1_lt hx hW.1 p
      omega
  | succ n ih =>
    intro b fu mv u hb hf hr hr2
    obtain ⟨fu, rfl⟩ : ∃ f, fu = f + 1 := ⟨fu - 1, by omega⟩
    have hput : f_X3_put u (nI p - (1 : Int32)) (nI LO + nI b) = if 1 ≤ p then upd u (p - 1) (nI (LO + b)) else u := by
      rw [← nI_plus]
      exact put_n (r := 1) (by omega) (by omega)
    obtain ⟨u1, hu1⟩ : ∃ u1, u1 = (if 1 ≤ p then upd u (p - 1) (nI (LO + b)) else u) := ⟨_, rfl⟩
    rw [← hu1] at hput
    have v1 : ∀ j, j + 1 ≠ p → u1 j = u j := by
      intro j h2
      rw [hu1]
      split
      · rw [upd_ne (by omega)]
      · rfl
    have v0 : 1 ≤ p → u1 (p - 1) = nI (LO + b) := by
      intro h
      rw [hu1, if_pos h, upd_at]
    have r1 : ∀ j, j < 53 → j ≠ N - 1 → rg (u1 j) := by
      intro j hj h2
      by_cases e : j + 1 = p
      · rw [if_pos (by omega)] at hb
        rw [show j = p - 1 by omega, v0 (by omega)]
        exact rg_n (by omega)
      · rw [v1 j e]
        exact hr j hj h2
    obtain ⟨mv1, u2, g1, g2, g3, g4, g5, g6⟩ := mm_mid (mb := mb) (mf := mf) (s := s) (p := p) (b := b) (t := t) (K := f_X4_makeMasks_j188 (nI b) (f_X4_makeMasks_l3 (nI N) (nI W) (nI LO) (nI N) mc gs mb mf gv (nI s) (nI p) (nI t) fu)) C0 hp hs (by omega) ht W 0 _ mv u1 (Nat.zero_add _) hfu r1 (fun h => by rw [v1 (N - 1) (by omega)]; exact hr2 h) v0
    obtain ⟨mv', u', k1, k2, k3, k4, k5, k6⟩ := ih (b + 1) fu mv1 u2 (by omega) (by omega) g4 g5
    refine ⟨mv', u', ?_, ?_, ?_, k4, k5, ?_⟩
    · rw [e_X4_makeMasks_l3, hch, if_neg (nI_ge (by omega) (by omega)), hput]
      rw [show (0 : Int32) = nI 0 from rfl] at g1 ⊢
      rw [g1, e_X4_makeMasks_j188, ← nI_succ]
      exact k1
    · intro i hi
      rw [k2 i (fun a' b' c' h1 h2 h3 h4 => hi a' b' c' h1 (by omega) h3 h4), g2 i (fun a' c' h1 _ h3 => hi a' b c' h1 (Nat.le_refl _) (by omega) h3)]
    · intro x hx he hx3
      have hb2 := d2_lt hx hW.1 p
      have hb3 := d1_lt hx hW.1 p
      have hb4 := hx p
      by_cases e : d1 x p = b
      · have hb5 : d2 x p < 10 := by
          have : (if 2 ≤ p then W else 1) ≤ 10 := by split <;> omega
          omega
        rw [k2 _ (fun a' b' c' _ _ _ _ => by rw [mpl, mpl]; omega)]
        have h5 := g3 x hx e he (Nat.zero_le _)
        rw [e]
        exact h5
      · exact k3 x hx he (by omega)
    · intro h _
      exact k6 h (Or.inr (g6 h (Or.inl (by omega))))
/-- all of one place -/
theorem mm_all (C : cx gs gv mc mr mg N W LO R) {s p t : Nat} {mv u : Nat → Int32} (hp : p < N) (hs : s ≤ 27) (ht : t ≤ 1) (hr : ∀ j, j < 53 → j ≠ N - 1 → rg (u j)) (hr2 : p + 2 < N → rg (u (N - 1))) : ∃ mv' u', f_X4_makeMasks (nI N) (nI W) (nI LO) mv (nI N) u mc gs mb mf gv (nI s) (nI p) (nI t) = (mv', u') ∧ (∀ i, i / 1000 ≠ s → mv' i = mv i) ∧ (∀ x, dg W x → ec N p t x → mv' (mpl s (d2 x p) (d1 x p) (x p)) = fk mc mr mb mf mg N LO x p) ∧ (∀ j, j < 53 → j ≠ N - 1 → rg (u' j)) ∧ (p + 2 < N → rg (u' (N - 1))) ∧ (p = N - 1 → rg (u' (N - 1))) := by
  have C0 := C
  obtain ⟨hm, hg, hgv, hN, hN2, ⟨hR, hR2⟩, hW, hLO⟩ := C
  have hch : f_X4_choices (nI W) (nI p - (1 : Int32)) = nI (if 1 ≤ p then W else 1) := by
    have h := ch_n (sw := nI W) (p := p) (r := 1) (by omega) (by omega)
    rw [show nI 1 = (1 : Int32) from rfl] at h
    rw [h]
    split <;> rfl
  have hch2 : 1 ≤ (if 1 ≤ p then W else 1) ∧ (if 1 ≤ p then W else 1) ≤ 10 := by split <;> omega
  obtain ⟨mv', u', g1, g2, g3, g4, g5, g6⟩ := mm_out (mb := mb) (mf := mf) C0 hp hs ht (if 1 ≤ p then W else 1) 0 (((f_X4_choices (nI W) (nI p - (1 : Int32))).toInt - (0 : Int32).toInt).toNat + 1) mv u (Nat.zero_add _) (by rw [hch, t_n (by omega), t_0]; omega) hr hr2
  refine ⟨mv', u', g1, fun i hi => g2 i (fun a' b' c' h1 _ h3 h4 => by rw [mpl]; omega), fun x hx he => g3 x hx he (Nat.zero_le _), g4, g5, fun h => g6 h (Or.inl (by omega))⟩
/-- where the table has a note of a line -/
def slt (N : Nat) (x : Nat → Nat) (p : Nat) : Nat := if p = N - 1 then N else if p = N - 2 ∧ x (N - 1) = x (N - 2) + 1 then N - 1 else p
def TB (mc mr mb mf : Int32) (mg : Nat → Int32) (N W LO : Nat) (mv : Nat → Int32) : Prop := ∀ x, dg W x → ∀ p, p < N → mv (mpl (slt N x p) (d2 x p) (d1 x p) (x p)) = fk mc mr mb mf mg N LO x p
theorem mpl_k {W : Nat} {s p : Nat} {x : Nat → Nat} (hx : dg W x) (hW : 1 ≤ W ∧ W ≤ 10) : mpl s (d2 x p) (d1 x p) (x p) / 1000 = s := by
  have h1 := d2_lt hx hW.1 p
  have h2 := d1_lt hx hW.1 p
  have h3 := hx p
  have h4 : (if 2 ≤ p then W else 1) ≤ 10 := by split <;> omega
  have h5 : (if 1 ≤ p then W else 1) ≤ 10 := by split <;> omega
  rw [mpl]
  omega
theorem pr_l (C : cx gs gv mc mr mg N W LO R) (e1 : imin (f_X1_room mc gs) (27 : Int32) = nI N) (e2 : imin (f_X1_width gl gh) (10 : Int32) = nI W) (e3 : f_X1_lowest gl = nI LO) (e4 : f_X3_stretch (nI N) = nI N) : ∀ n p fu mv u, p + n = N - 1 → n < fu → (∀ j, j < 53 → j ≠ N - 1 → rg (u j)) → (p + 2 < N → rg (u (N - 1))) → ∃ mv1 u1, f_X4_prepare_l82 mc gs mb mf gl gh gn gv fu (nI p) mv u = f_X4_prepare_j105 mc gs mb mf gl gh gn gv mv1 u1 ∧ (∀ i, i / 1000 < p → mv1 i = mv i) ∧ (∀ x q, dg W x → p ≤ q → q < N - 1 → ec N q 0 x → mv1 (mpl q (d2 x q) (d1 x q) (x q)) = fk mc mr mb mf mg N LO x q) ∧ (∀ j, j < 53 → j ≠ N - 1 → rg (u1 j)) := by
  have C0 := C
  obtain ⟨hm, hg, hgv, hN, hN2, ⟨hR, hR2⟩, hW, hLO⟩ := C
  have eN : nI N - (1 : Int32) = nI (N - 1) := nI_minus (b := 1) (by omega)
  intro n
  induction n with
  | zero =>
    intro p fu mv u hp hf hr hr2
    obtain ⟨fu, rfl⟩ : ∃ f, fu = f + 1 := ⟨fu - 1, by omega⟩
    refine ⟨mv, u, ?_, fun _ _ => rfl, fun x q _ h1 h2 => absurd h1 (by omega), hr⟩
    rw [e_X4_prepare_l82, e1, eN, if_pos (nI_le (by omega) (by omega))]
  | succ n ih =>
    intro p fu mv u hp hf hr hr2
    obtain ⟨fu, rfl⟩ : ∃ f, fu = f + 1 := ⟨fu - 1, by omega⟩
    obtain ⟨mv1, u1, g1, g2, g3, g4, g5, g6⟩ := mm_all (mb := mb) (mf := mf) (s := p) (p := p) (t := 0) (mv := mv) (u := u) C0 (by omega) (by omega) (by omega) hr hr2
    obtain ⟨mv', u', k1, k2, k3, k4⟩ := ih (p + 1) fu mv1 u1 (by omega) (by omega) g4 (fun h => g5 (by omega))
    refine ⟨mv', u', ?_, ?_, ?_, k4⟩
    · rw [e_X4_prepare_l82, e1, e2, e3, e4, eN, if_neg (nI_ge (by omega) (by omega)), show (0 : Int32) = nI 0 from rfl, g1, ← nI_succ]
      exact k1
    · intro i hi
      rw [k2 i (by omega), g2 i (by omega)]
    · intro x q hx h1 h2 he
      by_cases e : q = p
      · subst e
        rw [k2 _ (by rw [mpl_k hx hW]; omega)]
        exact g3 x hx he
      · exact k3 x q hx (by omega) h2 he
theorem pr_ok (C : cx gs gv mc mr mg N W LO R) (e1 : imin (f_X1_room mc gs) (27 : Int32) = nI N) (e2 : imin (f_X1_width gl gh) (10 : Int32) = nI W) (e3 : f_X1_lowest gl = nI LO) (e4 : f_X3_stretch (nI N) = nI N) {fu : Nat} {mv u : Nat → Int32} (hf : N - 1 < fu) (hr : ∀ j, j < 53 → rg (u j)) : ∃ mv' u', f_X4_prepare_l82 mc gs mb mf gl gh gn gv fu (0 : Int32) mv u = (nI N, nI W, nI LO, gn, mv', u', nI N) ∧ TB mc mr mb mf mg N W LO mv' ∧ (∀ j, j < 53 → rg (u' j)) := by
  have C0 := C
  obtain ⟨hm, hg, hgv, hN, hN2, ⟨hR, hR2⟩, hW, hLO⟩ := C
  have eN : nI N - (1 : Int32) = nI (N - 1) := nI_minus (b := 1) (by omega)
  have eN2 : nI N - (2 : Int32) = nI (N - 2) := nI_minus (b := 2) (by omega)
  obtain ⟨mv1, u1, g1, g2, g3, g4⟩ := pr_l (gn := gn) (mb := mb) (mf := mf) C0 e1 e2 e3 e4 (N - 1) 0 fu mv u (by omega) hf (fun j hj _ => hr j hj) (fun _ => hr _ (by omega))
  obtain ⟨mv2, u2, h1, h2, h3, h4, h5, h6⟩ := mm_all (mb := mb) (mf := mf) (s := N - 1) (p := N - 2) (t := 1) (mv := mv1) (u := u1) C0 (by omega) (by omega) (by omega) g4 (fun h => absurd h (by omega))
  obtain ⟨mv3, u3, k1, k2, k3, k4, k5, k6⟩ := mm_all (mb := mb) (mf := mf) (s := N) (p := N - 1) (t := 0) (mv := mv2) (u := u2) C0 (by omega) (by omega) (by omega) h4 (fun h => absurd h (by omega))
  refine ⟨mv3, u3, ?_, ?_, ?_⟩
  · rw [show (0 : Int32) = nI 0 from rfl, g1, e_X4_prepare_j105, e1, e2, e3, e4, eN, eN2, show (1 : Int32) = nI 1 from rfl, h1, show (0 : Int32) = nI 0 from rfl, k1]
    rfl
  · intro x hx p hp
    rw [slt]
    by_cases c1 : p = N - 1
    · rw [if_pos c1, c1]
      exact k3 x hx (fun h => absurd h (by omega))
    · rw [if_neg c1]
      by_cases c2 : p = N - 2 ∧ x (N - 1) = x (N - 2) + 1
      · rw [if_pos c2, k2 _ (by rw [mpl_k hx hW]; omega), c2.1]
        exact h3 x hx (fun _ => Or.inl ⟨rfl, c2.2⟩)
      · rw [if_neg c2, k2 _ (by rw [mpl_k hx hW]; omega), h2 _ (by rw [mpl_k hx hW]; omega)]
        exact g3 x p hx (Nat.zero_le _) (by omega) (fun h => Or.inr ⟨rfl, fun h7 => c2 ⟨h, by rw [h7, h]⟩⟩)
  · intro j hj
    by_cases e : j = N - 1
    · rw [e]
      exact k6 rfl
    · exact k4 j hj e
end
