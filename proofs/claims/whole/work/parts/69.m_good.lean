/-! ===== sets of laws: cut, weighed, empty ===== -/
theorem mkn_tb (b : Nat → Bool) (n k : Nat) : (mkn b n).testBit k = (decide (k < n) && b k) := by
  by_cases h : k < n
  · rw [Nat.testBit_eq_decide_div_mod_eq, mkn_bit b n k h, decide_eq_true h, Bool.true_and]
    cases b k <;> rfl
  · rw [decide_eq_false h, Bool.false_and]
    exact Nat.testBit_lt_two_pow (Nat.lt_of_lt_of_le (mkn_lt b n) (Nat.pow_le_pow_right (by omega) (by omega)))
theorem mkn_and (a b : Nat → Bool) (n : Nat) : mkn a n &&& mkn b n = mkn (fun k => a k && b k) n := by
  refine Nat.eq_of_testBit_eq (fun k => ?_)
  rw [Nat.testBit_and, mkn_tb, mkn_tb, mkn_tb]
  cases decide (k < n) <;> simp
theorem nI_and (a b : Nat) : nI a &&& nI b = nI (a &&& b) := by
  apply Int32.toBitVec_inj.mp
  rw [Int32.toBitVec_and]
  show BitVec.ofNat 32 a &&& BitVec.ofNat 32 b = BitVec.ofNat 32 (a &&& b)
  apply BitVec.eq_of_toNat_eq
  rw [BitVec.toNat_and, BitVec.toNat_ofNat, BitVec.toNat_ofNat, BitVec.toNat_ofNat, Nat.and_mod_two_pow]
theorem and_mk (a b : Nat → Bool) : nI (mkn a 12) &&& nI (mkn b 12) = nI (mkn (fun k => a k && b k) 12) := by
  rw [nI_and, mkn_and]
/-- some bit from k on, n of them -/
def anb (b : Nat → Bool) : Nat → Nat → Bool
  | 0, _ => false
  | n + 1, k => b k || anb b n (k + 1)
theorem anb_f (b : Nat → Bool) : ∀ n k, anb b n k = false ↔ ∀ j, k ≤ j → j < k + n → b j = false
  | 0, k => ⟨fun _ j h1 h2 => absurd h2 (by omega), fun _ => rfl⟩
  | n + 1, k => by
    rw [anb, Bool.or_eq_false_iff, anb_f b n (k + 1)]
    constructor
    · rintro ⟨h1, h2⟩ j h3 h4
      by_cases e : j = k
      · rw [e]; exact h1
      · exact h2 j (by omega) (by omega)
    · exact fun h => ⟨h k (by omega) (by omega), fun j h1 h2 => h j (by omega) (by omega)⟩
theorem mkn_0 (b : Nat → Bool) : ∀ n, mkn b n = 0 ↔ ∀ j, j < n → b j = false
  | 0 => ⟨fun _ j h => absurd h (Nat.not_lt_zero j), fun _ => rfl⟩
  | n + 1 => by
    have ih := mkn_0 b n
    have hp : 0 < 2 ^ n := Nat.pow_pos (by omega)
    rw [mkn]
    constructor
    · intro h j hj
      by_cases hb : b n = true
      · rw [if_pos hb] at h
        omega
      · rw [if_neg hb] at h
        by_cases e : j = n
        · rw [e]
          exact Bool.eq_false_iff.mpr hb
        · exact ih.mp (by omega) j (by omega)
    · intro h
      rw [if_neg (by rw [h n (by omega)]; decide), ih.mpr (fun j hj => h j (by omega))]
theorem mk_0 (b : Nat → Bool) : nI (mkn b 12) = 0 ↔ anb b 12 0 = false := by
  have hl := mkn_lt b 12
  rw [show (0 : Int32) = nI 0 from rfl, nI_eq (by omega) (by omega), mkn_0, anb_f]
  exact ⟨fun h j _ h2 => h j (by omega), fun h j hj => h j (by omega) (by omega)⟩
theorem weigh_mk (wv : Nat → Int32) (p : Int32) : f_X2_weighing wv p = nI (mkn (fun k => decide (¬ wv k < p)) 12) := by
  have hs : ∀ k, k < 12 → ishl (1 : Int32) (nI k) = nI (2 ^ k) := by decide +kernel
  have key : ∀ n k fu, k + n = 12 → n < fu → f_X2_weighing_l4 wv p fu (nI (mkn (fun k => decide (¬ wv k < p)) k)) (nI k) = nI (mkn (fun k => decide (¬ wv k < p)) 12) := by
    intro n
    induction n with
    | zero =>
      intro k fu hk hf
      obtain ⟨fu, rfl⟩ : ∃ f, fu = f + 1 := ⟨fu - 1, by omega⟩
      have e : k = 12 := by omega
      subst e
      rw [e_X2_weighing_l4, if_pos (by decide)]
    | succ n ih =>
      intro k fu hk hf
      obtain ⟨fu, rfl⟩ : ∃ f, fu = f + 1 := ⟨fu - 1, by omega⟩
      have ho := or_mk (fun k => decide (¬ wv k < p)) k (by omega)
      rw [e_X2_weighing_l4, if_neg (by rw [show (12 : Int32) = nI 12 from rfl]; exact nI_ge (by omega) (by omega)), wt_nI (by omega), e_X2_weighing_j25, e_X2_weighing_j25, hs k (by omega), ← nI_succ]
      by_cases h : wv k < p
      · rw [if_neg (by rw [decide_eq_true_eq]; exact fun e => e h), show nI 0 = (0 : Int32) from rfl, Int32.or_zero] at ho
        rw [if_pos h, ← ho]
        exact ih (k + 1) fu (by omega) (by omega)
      · rw [if_pos (by rw [decide_eq_true_eq]; exact h)] at ho
        rw [if_neg h, ← ho]
        exact ih (k + 1) fu (by omega) (by omega)
  exact key 12 0 13 rfl (by omega)
