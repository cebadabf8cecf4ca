/-! ===== sets of laws as numbers ===== -/
def mkn (b : Nat → Bool) : Nat → Nat
  | 0 => 0
  | n + 1 => mkn b n + (if b n = true then 2 ^ n else 0)
theorem mkn_lt (b : Nat → Bool) : ∀ n, mkn b n < 2 ^ n
  | 0 => Nat.one_pos
  | n + 1 => by
    have h := mkn_lt b n
    rw [mkn, Nat.pow_succ]
    split <;> omega
theorem mkn_bit (b : Nat → Bool) : ∀ n k, k < n → mkn b n / 2 ^ k % 2 = if b k = true then 1 else 0
  | 0, k, h => absurd h (Nat.not_lt_zero k)
  | n + 1, k, h => by
    have hl := mkn_lt b n
    rw [mkn]
    by_cases e : k = n
    · subst e
      by_cases hb : b k = true
      · rw [if_pos hb, if_pos hb, Nat.add_div_right _ (Nat.pow_pos (by omega)), Nat.div_eq_of_lt hl]
      · rw [if_neg hb, if_neg hb, Nat.add_zero, Nat.div_eq_of_lt hl]
    · have hk : k < n := by omega
      have ih := mkn_bit b n k hk
      by_cases hb : b n = true
      · obtain ⟨d, rfl⟩ : ∃ d, n = k + d + 1 := ⟨n - k - 1, by omega⟩
        rw [if_pos hb, show (2 : Nat) ^ (k + d + 1) = (2 * 2 ^ d) * 2 ^ k by rw [Nat.pow_succ, Nat.pow_add]; rw [Nat.mul_comm (2 ^ k * 2 ^ d) 2, Nat.mul_comm (2 ^ k) (2 ^ d), Nat.mul_assoc], Nat.add_mul_div_right _ _ (Nat.pow_pos (by omega)), Nat.add_mul_mod_self_left]
        exact ih
      · rw [if_neg hb, Nat.add_zero]
        exact ih
theorem or_mk (b : Nat → Bool) (n : Nat) (hn : n < 12) : nI (mkn b (n + 1)) = nI (mkn b n) ||| nI (if b n = true then 2 ^ n else 0) := by
  have key : ∀ n, n < 12 → ∀ a, a < 2 ^ n → nI (a + 2 ^ n) = nI a ||| nI (2 ^ n) := by decide +kernel
  rw [mkn]
  split
  · exact key n hn _ (mkn_lt b n)
  · rw [Nat.add_zero]
    exact (Int32.or_zero).symm
theorem ishr_nI {n k : Nat} (hn : n < 4096) (hk : k < 32) : ishr (nI n) (nI k) = nI (n / 2 ^ k) := by
  have key : ∀ k, k < 32 → ((nI k &&& 31).toBitVec.smod 32).toNat = k := by decide +kernel
  exact pk_shrN (by omega) _ k (key k hk)
theorem and1_nI {n : Nat} (hn : n < 4096) : nI n &&& (1 : Int32) = nI (n % 2) := pk_andN (by omega) (m := (1 : Int32)) 1 rfl
/-- bit k of a set of laws -/
theorem bit_mk (b : Nat → Bool) {k : Nat} (hk : k < 12) : (ishr (nI (mkn b 12)) (nI k)) &&& (1 : Int32) = 0 ↔ b k = false := by
  have hl := mkn_lt b 12
  rw [ishr_nI (by omega) (by omega), and1_nI (Nat.lt_of_le_of_lt (Nat.div_le_self _ _) (by omega)), mkn_bit b 12 k hk]
  cases b k
  · exact ⟨fun _ => rfl, fun _ => rfl⟩
  · exact ⟨fun e => absurd e (by decide), fun e => by cases e⟩
/-- the sum over n laws from k on -/
def tls (f : Nat → Int32) : Nat → Nat → Int32
  | 0, _ => 0
  | n + 1, k => f k + tls f n (k + 1)
theorem tls_0 {f : Nat → Int32} : ∀ n k, (∀ j, k ≤ j → j < k + n → f j = 0) → tls f n k = 0
  | 0, _, _ => rfl
  | n + 1, k, h => by
    rw [tls, h k (Nat.le_refl _) (by omega), tls_0 n (k + 1) (fun j h1 h2 => h j (by omega) (by omega))]
    rfl
theorem tls_congr {f g : Nat → Int32} : ∀ n k, (∀ j, k ≤ j → j < k + n → f j = g j) → tls f n k = tls g n k
  | 0, _, _ => rfl
  | n + 1, k, h => by
    rw [tls, tls, h k (Nat.le_refl _) (by omega), tls_congr n (k + 1) (fun j h1 h2 => h j (by omega) (by omega))]
def wsum (wv : Nat → Int32) (b : Nat → Bool) (j : Nat) : Int32 := if b j = true then wv j else 0
theorem wt_nI {wv : Nat → Int32} {k : Nat} (hk : k < 12) : f_X2_weightOf wv (nI k) = wv k := by
  rw [e_X2_weightOf, if_neg (nI_pos (by omega)), if_neg (by rw [show (12 : Int32) = nI 12 from rfl]; exact nI_ge hk (by omega)), nI_clamp (by omega)]
/-- the cost of a set of laws -/
theorem cost_mk (wv : Nat → Int32) (b : Nat → Bool) : f_X2_costOf wv (nI (mkn b 12)) = tls (wsum wv b) 12 0 := by
  have hl := mkn_lt b 12
  have key : ∀ n k fu v, k + n = 12 → n < fu → f_X2_costOf_l4 wv (nI (mkn b 12)) fu v (nI k) = v + tls (wsum wv b) n k := by
    intro n
    induction n with
    | zero =>
      intro k fu v hk hf
      obtain ⟨fu, rfl⟩ : ∃ f, fu = f + 1 := ⟨fu - 1, by omega⟩
      have e : k = 12 := by omega
      subst e
      rw [e_X2_costOf_l4, if_pos (by decide), tls, Int32.add_zero]
    | succ n ih =>
      intro k fu v hk hf
      obtain ⟨fu, rfl⟩ : ∃ f, fu = f + 1 := ⟨fu - 1, by omega⟩
      rw [e_X2_costOf_l4, if_neg (by rw [show (12 : Int32) = nI 12 from rfl]; exact nI_ge (by omega) (by omega))]
      by_cases c0 : ishr (nI (mkn b 12)) (nI k) = 0
      · rw [if_pos c0, tls_0 (n + 1) k, Int32.add_zero]
        intro j h1 h2
        have hz : mkn b 12 / 2 ^ k = 0 := by
          rw [ishr_nI (by omega) (by omega), show (0 : Int32) = nI 0 from rfl, nI_eq (Nat.lt_of_le_of_lt (Nat.div_le_self _ _) (by omega)) (by omega)] at c0
          exact c0
        have hj : mkn b 12 / 2 ^ j = 0 := by
          rw [Nat.div_eq_zero_iff_lt (Nat.pow_pos (by omega))] at hz ⊢
          exact Nat.lt_of_lt_of_le hz (Nat.pow_le_pow_right (by omega) h1)
        have hb := mkn_bit b 12 j (by omega)
        rw [hj] at hb
        rw [wsum]
        split
        · rename_i hbj
          rw [if_pos hbj] at hb
          exact absurd hb (by decide)
        · rfl
      · rw [if_neg c0, e_X2_costOf_j32, e_X2_costOf_j32, nI_1]
        have hb := bit_mk b (k := k) (by omega)
        rw [tls, wsum]
        cases hbk : b k
        · rw [if_pos (hb.mpr hbk), if_neg (by decide), Int32.zero_add, ih (k + 1) fu v (by omega) (by omega)]
        · rw [if_neg (fun e => by rw [hb.mp e] at hbk; cases hbk), if_pos rfl, wt_nI (by omega), ih (k + 1) fu _ (by omega) (by omega), Int32.add_assoc]
  have k0 := key 12 0 13 0 (by omega) (by omega)
  rw [e_X2_costOf, show (0 : Int32) = nI 0 from rfl]
  rw [show (0 : Int32) = nI 0 from rfl] at k0
  rw [k0, show (nI 0) = (0 : Int32) from rfl, Int32.zero_add]
