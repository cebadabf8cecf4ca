/-! ===== a note changed: which costs stay (for mend) ===== -/
section
variable {mc mr mf mb n : Int32} {mg ml ml' mw : Nat → Int32} {p j : Nat}
theorem cl_ne {x : Int32} (h : x.toInt.toNat ≠ p) (ha : ∀ c, c ≠ p → ml c = ml' c) : sc ml ml' x := ha _ h
theorem flb_loc (ha : ∀ c, c ≠ p → ml c = ml' c) (hm : mok mc mr) (hj : j < 53) (h : j + 1 < p ∨ p + 2 < j ∧ p + mr.toInt.toNat < j) (k : Nat) : flb mc mr mb mf mg ml (nI j) n k = flb mc mr mb mf mg ml' (nI j) n k := by
  have hr : 1 ≤ mr.toInt ∧ mr.toInt ≤ 4 := by
    rcases hm.1 with e | e | e <;> rw [e] <;> decide
  have t0 : (nI j).toInt = (j : Int) := nI_toInt (by omega)
  have t1 : (nI j + (1 : Int32)).toInt = j + 1 := by
    rw [t_add] <;> rw [t0, t_1] <;> omega
  have t2 : (nI j - (1 : Int32)).toInt = j - 1 := by
    rw [t_sub] <;> rw [t0, t_1] <;> omega
  have t3 : (nI j - (1 : Int32) - (1 : Int32)).toInt = j - 2 := by
    rw [t_sub] <;> rw [t2, t_1] <;> omega
  have t4 : (nI j - mr).toInt = j - mr.toInt := by
    rw [t_sub] <;> rw [t0] <;> omega
  have t5 : (nI j - mr + (1 : Int32)).toInt = j - mr.toInt + 1 := by
    rw [t_add] <;> rw [t4, t_1] <;> omega
  rw [flb, flb, ft_c (ml := ml) (ml' := ml') (cl_ne (p := p) (by rw [t0]; omega) ha) (cl_ne (p := p) (by rw [t1]; omega) ha) (cl_ne (p := p) (by rw [t2]; omega) ha) (cl_ne (p := p) (by rw [t3]; omega) ha) (cl_ne (p := p) (by rw [t4]; omega) ha) (cl_ne (p := p) (by rw [t5]; omega) ha)]
theorem wcs_loc (ha : ∀ c, c ≠ p → ml c = ml' c) (hm : mok mc mr) (hj : j < 53) (h : j + 1 < p ∨ p + 2 < j ∧ p + mr.toInt.toNat < j) : wcs mc mr mb mf mg ml mw n j = wcs mc mr mb mf mg ml' mw n j := by
  rw [wcs, wcs]
  exact tls_congr 12 0 (fun k _ _ => by rw [wsum, wsum, flb_loc ha hm hj h k])
/-- outside of the stretch around p the sums are the same -/
theorem sum_loc {N A M : Nat} (ha : ∀ c, c ≠ p → ml c = ml' c) (hm : mok mc mr) (hN : N ≤ 53) (hA : A + 1 ≤ p ∨ A = 0) (hAM : A + M ≤ N) (hM : A + M = N ∨ p + 2 < A + M ∧ p + mr.toInt.toNat < A + M) : tls (wcs mc mr mb mf mg ml mw n) N 0 + tls (wcs mc mr mb mf mg ml' mw n) M A = tls (wcs mc mr mb mf mg ml' mw n) N 0 + tls (wcs mc mr mb mf mg ml mw n) M A := by
  obtain ⟨R, rfl⟩ : ∃ R, N = A + (M + R) := ⟨N - A - M, by omega⟩
  have l1 : tls (wcs mc mr mb mf mg ml mw n) A 0 = tls (wcs mc mr mb mf mg ml' mw n) A 0 := tls_congr A 0 (fun j _ h => wcs_loc ha hm (by omega) (by omega))
  have l2 : tls (wcs mc mr mb mf mg ml mw n) R (0 + A + M) = tls (wcs mc mr mb mf mg ml' mw n) R (0 + A + M) := tls_congr R (0 + A + M) (fun j h1 h2 => wcs_loc ha hm (by omega) (by omega))
  rw [tls_add, tls_add _ A, tls_add _ M, tls_add _ M, l1, l2, Nat.zero_add]
  ac_rfl
end
