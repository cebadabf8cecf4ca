/-! costs are small -/
theorem tls_b {f : Nat → Int32} {B : Nat} : ∀ n k : Nat, (∀ j, k ≤ j → j < k + n → 0 ≤ (f j).toInt ∧ (f j).toInt ≤ (B : Int)) → n * B ≤ 1000000 → 0 ≤ (tls f n k).toInt ∧ (tls f n k).toInt ≤ ((n * B : Nat) : Int) := by
  intro n
  induction n with
  | zero =>
    intro k h1 h2
    have e : tls f 0 k = 0 := rfl
    rw [e, e0i]
    exact ⟨Int.le_refl _, by omega⟩
  | succ n ih =>
    intro k h1 h2
    have e : tls f (n + 1) k = f k + tls f n (k + 1) := rfl
    rw [Nat.succ_mul] at h2
    obtain ⟨a1, a2⟩ := h1 k (by omega) (by omega)
    obtain ⟨b1, b2⟩ := ih (k + 1) (fun j h3 h4 => h1 j (by omega) (by omega)) (by omega)
    rw [e, t_add (by omega) (by omega), Nat.succ_mul]
    exact ⟨by omega, by omega⟩
theorem wcs_b {mc mr mb mf n : Int32} {mg ml mw wv : Nat → Int32} (hw : wtr wv mw) (j : Nat) : 0 ≤ (wcs mc mr mb mf mg ml mw n j).toInt ∧ (wcs mc mr mb mf mg ml mw n j).toInt ≤ ((120 : Nat) : Int) := by
  have h := tls_b (f := wsum mw (flb mc mr mb mf mg ml (nI j) n)) (B := 10) 12 0 (fun i _ hi => by
    have hq := (hw i (by omega)).2
    have e : wsum mw (flb mc mr mb mf mg ml (nI j) n) i = if flb mc mr mb mf mg ml (nI j) n i = true then mw i else 0 := rfl
    rw [e]
    split
    · exact ⟨hq.1, by omega⟩
    · rw [e0i]
      exact ⟨by omega, by omega⟩) (by omega)
  exact h
theorem now_b {mc mr mb mf : Int32} {mg ml mw wv : Nat → Int32} {N : Nat} (hw : wtr wv mw) (hN : N ≤ 53) : 0 ≤ (f_X7_costNow mc (nI N) mr mb mf mg ml mw).toInt ∧ (f_X7_costNow mc (nI N) mr mb mf mg ml mw).toInt ≤ 6360 := by
  rw [now_sum hN]
  have h := tls_b (f := wcs mc mr mb mf mg ml mw (nI N)) (B := 120) N 0 (fun j _ _ => wcs_b hw j) (by omega)
  exact ⟨h.1, by omega⟩
