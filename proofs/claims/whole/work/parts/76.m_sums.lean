/-! ===== costs as sums over the notes (for mend) ===== -/
/-- what note j costs -/
def wcs (mc mr mb mf : Int32) (mg ml mw : Nat → Int32) (n : Int32) (j : Nat) : Int32 := tls (wsum mw (flb mc mr mb mf mg ml (nI j) n)) 12 0
theorem tls_add (f : Nat → Int32) : ∀ a b k, tls f (a + b) k = tls f a k + tls f b (k + a)
  | 0, b, k => by rw [Nat.zero_add, tls, Int32.zero_add, Nat.add_zero]
  | a + 1, b, k => by
    rw [show a + 1 + b = (a + b) + 1 by omega, tls, tls, tls_add f a b (k + 1), Int32.add_assoc, show k + 1 + a = k + (a + 1) by omega]
section
variable {gs gf gb gc mc mr mf mb : Int32} {gv tv mg ml mw wv : Nat → Int32} {N : Nat}
theorem now_sum (hN : N ≤ 53) : f_X7_costNow mc (nI N) mr mb mf mg ml mw = tls (wcs mc mr mb mf mg ml mw (nI N)) N 0 := by
  have key : ∀ n k fu v, k + n = N → n < fu → f_X7_costNow_l4 mc (nI N) mr mb mf mg ml mw fu v (nI k) = v + tls (wcs mc mr mb mf mg ml mw (nI N)) n k := by
    intro n
    induction n with
    | zero =>
      intro k fu v hk hf
      obtain ⟨fu, rfl⟩ : ∃ f, fu = f + 1 := ⟨fu - 1, by omega⟩
      rw [e_X7_costNow_l4, if_pos (nI_le (by omega) (by omega)), tls, Int32.add_zero]
    | succ n ih =>
      intro k fu v hk hf
      obtain ⟨fu, rfl⟩ : ∃ f, fu = f + 1 := ⟨fu - 1, by omega⟩
      have hi := cn_in (mc := mc) (tc := nI N) (mr := mr) (mb := mb) (mf := mf) (mg := mg) (ml := ml) (mw := mw) (v2 := nI k) (K := f_X7_costNow_j52 (nI k) (f_X7_costNow_l4 mc (nI N) mr mb mf mg ml mw fu)) 12 0 13 v rfl (by omega)
      rw [show nI 0 = (0 : Int32) from rfl] at hi
      rw [e_X7_costNow_l4, if_neg (nI_ge (by omega) (by omega)), hi, e_X7_costNow_j52, ← nI_succ, ih (k + 1) fu _ (by omega) (by omega), tls, Int32.add_assoc]
      rfl
  have h := key N 0 (N + 1) 0 (by omega) (by omega)
  rw [e_X7_costNow, nI_toInt (by omega), t_0, show ((N : Int) - 0).toNat + 1 = N + 1 by omega]
  rw [show nI 0 = (0 : Int32) from rfl, Int32.zero_add] at h
  exact h
theorem between_sum {B A : Nat} {a : Int32} (hl : lnr gs gf gb gv tv mc mr mf mb mg ml) (hw : ∀ j, j < 12 → wv j = mw j) (hN : N ≤ (f_X7_most mc mr).toInt.toNat) (hB : B < 2 ^ 31) (ha : imax (0 : Int32) a = nI A) (hA : A < 2 ^ 31) : f_X3_costBetween (nI N) tv mc gs gb gf gv wv a (nI B) = tls (wcs mc mr mb mf mg ml mw (nI N)) (min N (B + 1) - A) A := by
  have h53 := most_53 hl.1
  have key : ∀ n k fu v, min N (B + 1) - k = n → k < 2 ^ 31 → n < fu → f_X3_costBetween_l10 (nI N) tv mc gs gb gf gv wv (nI B) fu v (nI k) = v + tls (wcs mc mr mb mf mg ml mw (nI N)) n k := by
    intro n
    induction n with
    | zero =>
      intro k fu v hk hk2 hf
      obtain ⟨fu, rfl⟩ : ∃ f, fu = f + 1 := ⟨fu - 1, by omega⟩
      rw [e_X3_costBetween_l10, tls, Int32.add_zero]
      by_cases c : B < k
      · rw [if_pos (nI_lt c hk2)]
      · rw [if_neg (nI_nlt (by omega) hB), if_pos (nI_le (by omega) hk2)]
    | succ n ih =>
      intro k fu v hk hk2 hf
      obtain ⟨fu, rfl⟩ : ∃ f, fu = f + 1 := ⟨fu - 1, by omega⟩
      rw [e_X3_costBetween_l10, if_neg (nI_nlt (by omega) hB), if_neg (nI_ge (by omega) (by omega)), at_mk hl (by rw [nI_toInt (by omega)]; omega) (by rw [nI_toInt (by omega)]; omega), cost_mk, tls_congr (f := wsum wv (flb mc mr mb mf mg ml (nI k) (nI N))) (g := wsum mw (flb mc mr mb mf mg ml (nI k) (nI N))) 12 0 (fun j _ h => by rw [wsum, wsum, hw j (by omega)]), ← nI_succ, ih (k + 1) fu _ (by omega) (by omega) (by omega), tls, Int32.add_assoc]
      rfl
  rw [e_X3_costBetween, ha, nI_toInt (by omega), nI_toInt hA, key _ A _ 0 rfl hA (by omega), Int32.zero_add]
end
