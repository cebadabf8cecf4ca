/-! mend: the tones tried at one note -/
def mV (N : Nat) (vn vt wt : Int32) : Prop := vn = (-1 : Int32) ∨ ∃ q t : Nat, q < N ∧ t < 28 ∧ vn = nI q ∧ vt = nI t ∧ wt = nI t
theorem mend_in {gs gf gb mc mr mf mb : Int32} {gv tv mg ml mw wv : Nat → Int32} {N p : Nat} (hl : lnr gs gf gb gv tv mc mr mf mb mg ml) (hw : wtr wv mw) (hN : N ≤ (f_X7_most mc mr).toInt.toNat) (hp : p < N) (K : Int32 → Int32 → Int32 → (Nat → Int32) → ((String ⊕ Int32) × (Nat → Int32))) (K' : Int32 → Int32 → Int32 → (Nat → Int32) → (Int32 × Int32 × (Nat → Int32))) : ∀ (n fu fu' b : Nat) (vn vt G M wt : Int32) (u u' : Nat → Int32), b ≤ 28 → 28 - b = n → n < fu → n < fu' → lnr gs gf gb gv u mc mr mf mb mg u' → (∀ c, c ≠ p → ml c = u' c) → M.toInt = (f_X7_costNow mc (nI N) mr mb mf mg ml mw).toInt - G.toInt → mV N vn vt wt → ∃ (vn2 vt2 G2 M2 wt2 : Int32) (u2 u2' : Nat → Int32), f_X6_mend_l54 (nI N) mc gs gb gf gv wv (nI p) tv K fu vn vt G (nI b) u = K vn2 vt2 G2 u2 ∧ f_X7_mend_l43 mc (nI N) mr mb mf mg mw (nI p) K' fu' M vn wt (nI b) u' = K' M2 vn2 wt2 u2' ∧ lnr gs gf gb gv u2 mc mr mf mb mg u2' ∧ (∀ c, c ≠ p → ml c = u2' c) ∧ M2.toInt = (f_X7_costNow mc (nI N) mr mb mf mg ml mw).toInt - G2.toInt ∧ mV N vn2 vt2 wt2 := by
  have h53 := most_53 hl.1
  have e28 : (28 : Int32).toInt = 28 := rfl
  intro n
  induction n with
  | zero =>
    intro fu fu' b vn vt G M wt u u' h1 h2 h3 h4 h5 h6 h7 h8
    obtain ⟨f, rfl⟩ : ∃ f, fu = f + 1 := ⟨fu - 1, by omega⟩
    obtain ⟨f', rfl⟩ : ∃ f, fu' = f + 1 := ⟨fu' - 1, by omega⟩
    have hb : (28 : Int32) ≤ nI b := by
      rw [t_le, e28, t_n (by omega)]
      omega
    refine ⟨vn, vt, G, M, wt, u, u', ?_, ?_, h5, h6, h7, h8⟩
    · rw [e_X6_mend_l54, if_pos hb]
    · rw [e_X7_mend_l43, if_pos hb]
  | succ n ih =>
    intro fu fu' b vn vt G M wt u u' h1 h2 h3 h4 h5 h6 h7 h8
    obtain ⟨f, rfl⟩ : ∃ f, fu = f + 1 := ⟨fu - 1, by omega⟩
    obtain ⟨f', rfl⟩ : ∃ f, fu' = f + 1 := ⟨fu' - 1, by omega⟩
    have hb : ¬ (28 : Int32) ≤ nI b := by
      rw [t_le, e28, t_n (by omega)]
      omega
    have hpc : (nI p).toNatClampNeg = p := nI_clamp (by omega)
    have hpt : (nI p).toInt = (p : Int) := t_n (by omega)
    have hbt : (nI b).toInt = (b : Int) := t_n (by omega)
    have hnb : nI b + (1 : Int32) = nI (b + 1) := (nI_plus b 1).symm
    have hput : f_X3_put u (nI p) (nI b) = upd u p (nI b) := by
      rw [put_v (by omega) (by omega), hpc]
    have hl2 : lnr gs gf gb gv (upd u p (nI b)) mc mr mf mb mg (upd u' p (nI b)) := by
      obtain ⟨q1, q2, q3, q4, q5, q6⟩ := h5
      exact ⟨q1, q2, q3, q4, q5, upd_r q6 ⟨by omega, by omega⟩⟩
    have h62 : ∀ c, c ≠ p → ml c = (upd u' p (nI b)) c := fun c hc => (h6 c hc).trans (if_neg hc).symm
    have hg := gain_eq hl hl2 hw hN hp h62
    rw [e_X6_mend_l54, if_neg hb, hput, e_X7_mend_l43, if_neg hb, hpc]
    generalize hgd : f_X3_costAround (nI N) tv mc gs gb gf gv wv (nI p) - f_X3_costAround (nI N) (upd u p (nI b)) mc gs gb gf gv wv (nI p) = d at hg ⊢
    by_cases k : d ≤ G
    · have k2 : M ≤ f_X7_costNow mc (nI N) mr mb mf mg (upd u' p (nI b)) mw := by
        rw [t_le] at k ⊢
        omega
      rw [if_pos k, if_pos k2, e_X6_mend_j105, e_X7_mend_j81, hput, hpc, hnb]
      exact ih f f' (b + 1) vn vt G M wt _ _ (by omega) (by omega) (by omega) (by omega) hl2 h62 h7 h8
    · have k2 : ¬ M ≤ f_X7_costNow mc (nI N) mr mb mf mg (upd u' p (nI b)) mw := by
        rw [t_le] at k ⊢
        omega
      rw [if_neg k, if_neg k2, e_X6_mend_j105, e_X7_mend_j81, hput, hpc, hnb]
      exact ih f f' (b + 1) (nI p) (nI b) d _ (nI b) _ _ (by omega) (by omega) (by omega) (by omega) hl2 h62 hg (Or.inr ⟨p, b, hp, by omega, rfl, rfl, rfl⟩)
