/-! ===== the table of faults: what one place's loops lay ===== -/
def lx (LO : Nat) (x : Nat → Nat) : Nat → Int32 := fun j => nI (LO + x j)
def dg (W : Nat) (x : Nat → Nat) : Prop := ∀ j, x j < W
def d1 (x : Nat → Nat) (p : Nat) : Nat := if 1 ≤ p then x (p - 1) else 0
def d2 (x : Nat → Nat) (p : Nat) : Nat := if 2 ≤ p then x (p - 2) else 0
def mpl (s a b c : Nat) : Nat := ((s * 10 + a) * 10 + b) * 10 + c
def rg (v : Int32) : Prop := 0 ≤ v.toInt ∧ v.toInt ≤ 27
/-- the search's surroundings: the ground in both, N notes, W notes to choose from, the lowest one, the ratio -/
def cx (gs : Int32) (gv : Nat → Int32) (mc mr : Int32) (mg : Nat → Int32) (N W LO R : Nat) : Prop := mok mc mr ∧ gsr gs mr ∧ (∀ j, j < 14 → gv j = mg j ∧ 0 ≤ (mg j).toInt ∧ (mg j).toInt ≤ 27) ∧ f_X7_most mc mr = nI N ∧ (2 ≤ N ∧ N ≤ 27) ∧ (mr = nI R ∧ (R = 1 ∨ R = 2)) ∧ (1 ≤ W ∧ W ≤ 10) ∧ LO + W ≤ 28
theorem upd_at {f : Nat → Int32} {k : Nat} {v : Int32} : upd f k v k = v := if_pos rfl
theorem upd_ne {f : Nat → Int32} {k j : Nat} {v : Int32} (h : j ≠ k) : upd f k v j = f j := if_neg h
theorem put_n {u : Nat → Int32} {p r : Nat} {v : Int32} (hp : p < 53) (hr : r < 5) : f_X3_put u (nI p - nI r) v = if r ≤ p then upd u (p - r) v else u := by
  rw [e_X3_put]
  by_cases h : r ≤ p
  · rw [nI_minus h, if_neg (nI_pos (by omega)), if_neg (by rw [show (53 : Int32) = nI 53 from rfl]; exact nI_ge (by omega) (by omega)), nI_clamp (by omega), if_pos h]
  · rw [if_pos (by rw [t_lt, t_sub (by rw [t_n (by omega), t_n (by omega)]; omega) (by rw [t_n (by omega), t_n (by omega)]; omega), t_n (by omega), t_n (by omega), t_0]; omega), if_neg h]
theorem put_0 {u : Nat → Int32} {p : Nat} {v : Int32} (hp : p < 53) : f_X3_put u (nI p) v = upd u p v := by
  have h := put_n (u := u) (v := v) (r := 0) hp (by omega)
  rw [show nI p - nI 0 = nI p from Int32.sub_zero _] at h
  rw [h, if_pos (by omega), Nat.sub_zero]
theorem ch_n {sw : Int32} {p r : Nat} (hp : p < 53) (hr : r < 5) : f_X4_choices sw (nI p - nI r) = if r ≤ p then sw else nI 1 := by
  rw [e_X4_choices]
  have e : (nI p - nI r).toInt = (p : Int) - r := by
    rw [t_sub (by rw [t_n (by omega), t_n (by omega)]; omega) (by rw [t_n (by omega), t_n (by omega)]; omega), t_n (by omega), t_n (by omega)]
  by_cases h : r ≤ p
  · rw [if_pos (by rw [t_le, e, t_0]; omega), if_pos h]
  · rw [if_neg (by rw [t_le, e, t_0]; omega), if_neg h]
    rfl
theorem mp_n {s a b c : Nat} : f_X4_maskPlace (nI s) (nI a) (nI b) (nI c) = nI (mpl s a b c) := by
  rw [e_X4_maskPlace, show (10 : Int32) = nI 10 from rfl, ← nI_times, ← nI_plus, ← nI_times, ← nI_plus, ← nI_times, ← nI_plus, mpl]
theorem mp_b {s a b c : Nat} (hs : s ≤ 27) (ha : a < 10) (hb : b < 10) (hc : c < 10) : mpl s a b c < 28000 := by
  rw [mpl]
  omega
section
variable {gs mc mr mf mb tc : Int32} {gv mg u u' mv : Nat → Int32} {N W LO R : Nat}
theorem cx_lnr (C : cx gs gv mc mr mg N W LO R) (h : ∀ j, j < 53 → rg (u j)) : lnr gs mf mb gv u mc mr mf mb mg u := ⟨C.1, C.2.1, rfl, rfl, C.2.2.1, fun j hj => ⟨rfl, h j hj⟩⟩
theorem near_c (hl : lnr gs mf mb gv u mc mr mf mb mg u) (hl' : lnr gs mf mb gv u' mc mr mf mb mg u') {j : Nat} (hN : f_X7_most mc mr = nI N) (hN2 : N ≤ 27) (hj : j < N) (c0 : u j = u' j) (c1 : u (j - 1) = u' (j - 1)) (c3 : u (j + 1) = u' (j + 1)) : f_X3_nearFaults tc u mc gs mb mf gv (nI j) = f_X3_nearFaults tc u' mc gs mb mf gv (nI j) := by
  have hi0 : 0 ≤ (nI j).toInt := by rw [t_n (by omega)]; omega
  have hi1 : (nI j).toInt < (f_X7_most mc mr).toInt := by rw [hN, t_n (by omega), t_n (by omega)]; omega
  have h0 : sc u u' (nI j) := sc_0 (by omega) c0
  have hm : sc u u' (nI j - (1 : Int32)) := sc_n (r := 1) (by omega) (by omega) c1
  have q0 : f_X7_pitchAt mc mr mf u (nI j) tc = f_X7_pitchAt mc mr mf u' (nI j) tc := pitch_c h0 (by rw [← nI_succ]; exact sc_0 (by omega) c3)
  have q1 : f_X7_pitchAt mc mr mf u (nI j - (1 : Int32)) tc = f_X7_pitchAt mc mr mf u' (nI j - (1 : Int32)) tc := pitch_c hm (by rw [Int32.sub_add_cancel]; exact h0)
  rw [near_ob hl hi0 hi1, near_ob hl' hi0 hi1, ftd_0 h0 q0, ftd_4 h0 hm q0 q1, ftd_6 h0 hm q0, ftd_9 (n' := tc) h0 hm, ftd_10 h0 hm q0 q1, ftd_1 h0 hm q0, ftd_2 h0 q0, ftd_7 (n' := tc) h0, ftd_8 (n' := tc) h0]
theorem mk_val (hl : lnr gs mf mb gv u mc mr mf mb mg u) (hl' : lnr gs mf mb gv u' mc mr mf mb mg u') {j : Nat} (hN : f_X7_most mc mr = nI N) (hN2 : N ≤ 27) (hj : j < N) (c0 : u j = u' j) (c1 : u (j - 1) = u' (j - 1)) (c3 : u (j + 1) = u' (j + 1)) : f_X3_nearFaults tc u mc gs mb mf gv (nI j) ||| f_X3_farFaults tc u' mc gs mf gv (nI j) = nI (mkn (flb mc mr mb mf mg u' (nI j) tc) 12) := by
  rw [near_c hl hl' hN hN2 hj c0 c1 c3, ← at_mk hl' (by rw [t_n (by omega)]; omega) (by rw [hN, t_n (by omega), t_n (by omega)]; omega), e_X3_faultsAt]
/-- the end of the line as the table knows it -/
def ec (N p t : Nat) (x : Nat → Nat) : Prop := p = N - 2 → (t = 1 ∧ x (N - 1) = x p + 1) ∨ (t = 0 ∧ x (N - 1) ≠ x p + 1)
/-- the set of faults at a note of a line -/
abbrev fk (mc mr mb mf : Int32) (mg : Nat → Int32) (N LO : Nat) (x : Nat → Nat) (p : Nat) : Int32 := nI (mkn (flb mc mr mb mf mg (lx LO x) (nI p) (nI N)) 12)
/-- a sketch that has a line's notes around a place has its faults there -/
theorem fk_of (C : cx gs gv mc mr mg N W LO R) {p t : Nat} {x : Nat → Nat} (hp : p < N) (ht : t ≤ 1) (hx : dg W x) (h0 : u p = nI (LO + x p)) (h1 : 1 ≤ p → u (p - 1) = nI (LO + d1 x p)) (h2 : 2 ≤ p → u (p - 2) = nI (LO + d2 x p)) (h3 : p = N - 2 → u (N - 1) = nI (LO + x p + t)) (he : ec N p t x) : nI (mkn (flb mc mr mb mf mg u (nI p) (nI N)) 12) = fk mc mr mb mf mg N LO x p := by
  obtain ⟨hm, hg, hgv, hN, hN2, ⟨hR, hR2⟩, hW, hLO⟩ := C
  have a0 : u p = lx LO x p := h0
  have a1 : u (p - 1) = lx LO x (p - 1) := by
    by_cases e : 1 ≤ p
    · rw [h1 e, d1, if_pos e]
      rfl
    · rw [show p - 1 = p by omega]
      exact a0
  have a2 : u (p - 2) = lx LO x (p - 2) := by
    by_cases e : 2 ≤ p
    · rw [h2 e, d2, if_pos e]
      rfl
    · rw [show p - 2 = p - 1 by omega]
      exact a1
  have key : ∀ k, k < 12 → flb mc mr mb mf mg u (nI p) (nI N) k = flb mc mr mb mf mg (lx LO x) (nI p) (nI N) k := by
    by_cases e1 : p + 2 < N
    · exact flb_lo hR hR2 hN (by omega) e1 (Or.inl rfl) (Or.inl rfl) a0 a1 a2
    · by_cases e2 : p = N - 1
      · rw [e2] at a0 a1 a2 ⊢
        exact flb_la hR hR2 (by omega) (by omega) a0 (by rw [show N - 2 = N - 1 - 1 by omega]; exact a1) (by rw [show N - 3 = N - 1 - 2 by omega]; exact a2)
      · have e3 : p = N - 2 := by omega
        have h4 := h3 e3
        have h5 := he e3
        have h6 := hx p
        rw [e3] at a0 a1 a2 h4 h5 h6 ⊢
        refine flb_pe hR hR2 (by omega) (by omega) a0 (by rw [show N - 3 = N - 2 - 1 by omega]; exact a1) (by rw [show N - 4 = N - 2 - 2 by omega]; exact a2) ?_
        rcases h5 with ⟨h5, h7⟩ | ⟨h5, h7⟩
        · refine Or.inl ?_
          rw [h4, h5, lx, h7, Nat.add_assoc]
        · refine Or.inr ⟨?_, ?_⟩
          · rw [a0, h4, h5, Nat.add_zero, lx]
            intro e
            have e5 := congrArg Int32.toInt e
            rw [t_sub (by rw [t_n (by omega), t_1]; omega) (by rw [t_n (by omega), t_1]; omega), t_n (by omega), t_1] at e5
            omega
          · have h8 := hx (N - 1)
            rw [lx, lx]
            intro e
            have e5 := congrArg Int32.toInt e
            rw [t_sub (by rw [t_n (by omega), t_1]; omega) (by rw [t_n (by omega), t_1]; omega), t_n (by omega), t_n (by omega), t_1] at e5
            omega
  rw [fk, mkn_congr 12 key]
theorem d2_lt {x : Nat → Nat} (hx : dg W x) (hW : 1 ≤ W) (p : Nat) : d2 x p < (if 2 ≤ p then W else 1) := by
  rw [d2]
  split
  · exact hx _
  · omega
theorem d1_lt {x : Nat → Nat} (hx : dg W x) (hW : 1 ≤ W) (p : Nat) : d1 x p < (if 1 ≤ p then W else 1) := by
  rw [d1]
  split
  · exact hx _
  · omega
theorem rg_n {v : Nat} (h : v < 28) : rg (nI v) := by
  rw [rg, t_n (by omega)]
  omega
/-- the inner loop: the note two ahead -/
theorem mm_in (C : cx gs gv mc mr mg N W LO R) {s p b c t : Nat} {u7 : Nat → Int32} {K : (Nat → Int32) → (Nat → Int32) → ((Nat → Int32) × (Nat → Int32))} (hp : p < N) (hs : s ≤ 27) (hb : b < 10) (hc : c < W) (ht : t ≤ 1) (r7 : ∀ j, j < 53 → j ≠ N - 1 → rg (u7 j)) (r8 : p + 2 < N → rg (u7 (N - 1))) (h0 : u7 p = nI (LO + c)) (h1 : 1 ≤ p → u7 (p - 1) = nI (LO + b)) (h3 : p = N - 2 → u7 (N - 1) = nI (LO + c + t)) : ∀ n a fu mv u, a + n = (if 2 ≤ p then W else 1) → n < fu → (∀ j, j < 53 → j ≠ N - 1 → rg (u j)) → (∀ j, j + 2 ≠ p → u j = u7 j) → ∃ mv' u', f_X4_makeMasks_l101 (nI W) (nI LO) (nI N) mc gs mb mf gv (nI s) (nI p) (nI b) (nI c) u7 K fu (nI a) mv u = K mv' u' ∧ (∀ i, (∀ a', a' < 10 → i ≠ mpl s a' b c) → mv' i = mv i) ∧ (∀ x, dg W x → d1 x p = b → x p = c → ec N p t x → a ≤ d2 x p → mv' (mpl s (d2 x p) b c) = fk mc mr mb mf mg N LO x p) ∧ (∀ a', a' < a → mv' (mpl s a' b c) = mv (mpl s a' b c)) ∧ (∀ j, j < 53 → j ≠ N - 1 → rg (u' j)) ∧ (∀ j, j + 2 ≠ p → u' j = u7 j) := by
  have C0 := C
  obtain ⟨hm, hg, hgv, hN, hN2, ⟨hR, hR2⟩, hW, hLO⟩ := C
  have hch : f_X4_choices (nI W) (nI p - (2 : Int32)) = nI (if 2 ≤ p then W else 1) := by
    have h := ch_n (sw := nI W) (p := p) (r := 2) (by omega) (by omega)
    rw [show nI 2 = (2 : Int32) from rfl] at h
    rw [h]
    split <;> rfl
  have hch2 : (if 2 ≤ p then W else 1) ≤ 10 := by split <;> omega
  intro n
  induction n with
  | zero =>
    intro a fu mv u ha hf hr hu
    obtain ⟨fu, rfl⟩ : ∃ f, fu = f + 1 := ⟨fu - 1, by omega⟩
    refine ⟨mv, u, ?_, fun _ _ => rfl, fun x hx _ _ _ h => ?_, fun _ _ => rfl, hr, hu⟩
    · rw [e_X4_makeMasks_l101, hch, if_pos (nI_le (by omega) (by omega))]
    · have := d2_lt hx hW.1 p
      omega
  | succ n ih =>
    intro a fu mv u ha hf hr hu
    obtain ⟨fu, rfl⟩ : ∃ f, fu = f + 1 := ⟨fu - 1, by omega⟩
    have ha10 : a < 10 := by omega
    have hpl := mp_b (s := s) hs ha10 hb (show c < 10 by omega)
    have hput : f_X3_put u (nI p - (2 : Int32)) (nI LO + nI a) = if 2 ≤ p then upd u (p - 2) (nI (LO + a)) else u := by
      rw [← nI_plus]
      exact put_n (r := 2) (by omega) (by omega)
    have hu1 : ∀ j, j + 2 ≠ p → (if 2 ≤ p then upd u (p - 2) (nI (LO + a)) else u) j = u7 j := by
      intro j hj
      split
      · rw [upd_ne (by omega)]
        exact hu j hj
      · exact hu j hj
    have hr1 : ∀ j, j < 53 → j ≠ N - 1 → rg ((if 2 ≤ p then upd u (p - 2) (nI (LO + a)) else u) j) := by
      intro j hj hj2
      split
      · rename_i h2
        rw [if_pos h2] at ha
        by_cases e : j = p - 2
        · rw [e, upd_at]
          exact rg_n (by omega)
        · rw [upd_ne e]
          exact hr j hj hj2
      · exact hr j hj hj2
    obtain ⟨mv', u', g1, g2, g3, g4, g5, g6⟩ := ih (a + 1) fu (upd mv (mpl s a b c) (f_X3_nearFaults (nI N) u7 mc gs mb mf gv (nI p) ||| f_X3_farFaults (nI N) (if 2 ≤ p then upd u (p - 2) (nI (LO + a)) else u) mc gs mf gv (nI p))) (if 2 ≤ p then upd u (p - 2) (nI (LO + a)) else u) (by omega) (by omega) hr1 hu1
    refine ⟨mv', u', ?_, ?_, ?_, ?_, g5, g6⟩
    · rw [e_X4_makeMasks_l101, hch, if_neg (nI_ge (by omega) (by omega)), mp_n, if_neg (nI_pos (by omega)), if_neg (by rw [show (28000 : Int32) = nI 28000 from rfl]; exact nI_ge hpl (by omega)), e_X4_makeMasks_j176, hput, nI_clamp (by omega), ← nI_succ]
      exact g1
    · intro i hi
      rw [g2 i hi, upd_ne (hi a ha10)]
    · intro x hx hx1 hx2 he hx3
      by_cases e : d2 x p = a
      · have hrN : rg (u7 (N - 1)) := by
          by_cases e1 : p + 2 < N
          · exact r8 e1
          · by_cases e2 : p = N - 1
            · rw [← e2, h0]
              exact rg_n (by omega)
            · have e3 : p = N - 2 := by omega
              rw [h3 e3]
              refine rg_n ?_
              have h8 := hx (N - 1)
              rcases he e3 with ⟨h9, h10⟩ | ⟨h9, h10⟩ <;> omega
        have ra : ∀ j, j < 53 → rg (u7 j) := fun j hj => by
          by_cases ej : j = N - 1
          · rw [ej]; exact hrN
          · exact r7 j hj ej
        have rb : ∀ j, j < 53 → rg ((if 2 ≤ p then upd u (p - 2) (nI (LO + a)) else u) j) := fun j hj => by
          by_cases ej : j = N - 1
          · rw [ej, hu1 (N - 1) (by omega)]; exact hrN
          · exact hr1 j hj ej
        rw [e, g4 a (by omega), upd_at, mk_val (cx_lnr C0 ra) (cx_lnr C0 rb) hN hN2.2 hp (hu1 p (by omega)).symm (hu1 (p - 1) (by omega)).symm (hu1 (p + 1) (by omega)).symm]
        refine fk_of C0 hp ht hx ?_ ?_ ?_ ?_ he
        · rw [hu1 p (by omega), h0, hx2]
        · intro h
          rw [hu1 (p - 1) (by omega), h1 h, hx1]
        · intro h
          rw [if_pos h, upd_at, e]
        · intro h
          rw [hu1 (N - 1) (by omega), h3 h, hx2]
      · exact g3 x hx hx1 hx2 he (by omega)
    · intro a' h'
      rw [g4 a' (by omega), upd_ne (by rw [mpl, mpl]; omega)]
end
