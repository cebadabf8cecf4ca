/-! ===== the cost around a note, changed by one note (for mend) ===== -/
section
variable {gs gf gb mc mr mf mb : Int32} {gv tv tv' mg ml ml' mw wv : Nat → Int32} {N p : Nat}
theorem around_sum (hl : lnr gs gf gb gv tv mc mr mf mb mg ml) (hw : ∀ j, j < 12 → wv j = mw j) (hN : N ≤ (f_X7_most mc mr).toInt.toNat) (hp : p < N) : ∃ B, p + 2 ≤ B ∧ p + mr.toInt.toNat ≤ B ∧ f_X3_costAround (nI N) tv mc gs gb gf gv wv (nI p) = tls (wcs mc mr mb mf mg ml mw (nI N)) (min N (B + 1) - (p - 1)) (p - 1) ∧ (∀ tv' ml', lnr gs gf gb gv tv' mc mr mf mb mg ml' → f_X3_costAround (nI N) tv' mc gs gb gf gv wv (nI p) = tls (wcs mc mr mb mf mg ml' mw (nI N)) (min N (B + 1) - (p - 1)) (p - 1)) := by
  have h53 := most_53 hl.1
  have h1 : ∀ p, p < 53 → imax (0 : Int32) (nI p - (1 : Int32)) = nI (p - 1) := by decide +kernel
  obtain ⟨R, hR, hm2, hr⟩ : ∃ R : Nat, R < 5 ∧ imax (2 : Int32) mr = nI (max 2 R) ∧ mr = nI R := by
    rcases hl.1.1 with e | e | e
    · exact ⟨1, by omega, by rw [e]; decide, by rw [e]; rfl⟩
    · exact ⟨2, by omega, by rw [e]; decide, by rw [e]; rfl⟩
    · exact ⟨4, by omega, by rw [e]; decide, by rw [e]; rfl⟩
  have hrt : mr.toInt.toNat = R := by
    rw [hr, nI_toInt (by omega)]
    rfl
  have all : ∀ tv' ml', lnr gs gf gb gv tv' mc mr mf mb mg ml' → f_X3_costAround (nI N) tv' mc gs gb gf gv wv (nI p) = tls (wcs mc mr mb mf mg ml' mw (nI N)) (min N (p + max 2 R + 1) - (p - 1)) (p - 1) := by
    intro tv' ml' hl'
    rw [e_X3_costAround, ma_per hl'.2.1, hm2, ← nI_plus, between_sum hl' hw hN (by omega) (h1 p (by omega)) (by omega)]
  exact ⟨p + max 2 R, by omega, by omega, all tv ml hl, all⟩
/-- class: cost around, model: cost of all; the differences are the same -/
theorem around_eq (hl : lnr gs gf gb gv tv mc mr mf mb mg ml) (hl' : lnr gs gf gb gv tv' mc mr mf mb mg ml') (hw : ∀ j, j < 12 → wv j = mw j) (hN : N ≤ (f_X7_most mc mr).toInt.toNat) (hp : p < N) (ha : ∀ c, c ≠ p → ml c = ml' c) : f_X7_costNow mc (nI N) mr mb mf mg ml mw + f_X3_costAround (nI N) tv' mc gs gb gf gv wv (nI p) = f_X7_costNow mc (nI N) mr mb mf mg ml' mw + f_X3_costAround (nI N) tv mc gs gb gf gv wv (nI p) := by
  have h53 := most_53 hl.1
  obtain ⟨B, hB1, hB2, e1, e2⟩ := around_sum hl hw hN hp
  rw [e1, e2 tv' ml' hl', now_sum (by omega), now_sum (by omega)]
  exact sum_loc ha hl.1 (by omega) (by omega) (by omega) (by omega)
end
