/-! ===== faults counted and told ===== -/
/-- how many bits from k on, n of them looked at -/
def cnt (b : Nat → Bool) : Nat → Nat → Nat
  | 0, _ => 0
  | n + 1, k => (if b k = true then 1 else 0) + cnt b n (k + 1)
theorem cnt_le (b : Nat → Bool) : ∀ n k, cnt b n k ≤ n
  | 0, _ => Nat.le_refl _
  | n + 1, k => by
    have := cnt_le b n (k + 1)
    rw [cnt]
    split <;> omega
/-- the v-th bit from k on -/
def nth (b : Nat → Bool) : Nat → Nat → Nat → Int32
  | 0, _, _ => (-1 : Int32)
  | n + 1, k, v => if b k = true then (if v = 0 then nI k else nth b n (k + 1) (v - 1)) else nth b n (k + 1) v
theorem nth_in (b : Nat → Bool) : ∀ n k v, v < cnt b n k → ∃ j, k ≤ j ∧ j < k + n ∧ b j = true ∧ nth b n k v = nI j
  | 0, _, v => fun h => absurd h (Nat.not_lt_zero v)
  | n + 1, k, v => by
    intro h
    rw [cnt] at h
    rw [nth]
    by_cases hb : b k = true
    · rw [if_pos hb] at h ⊢
      by_cases hv : v = 0
      · rw [if_pos hv]
        exact ⟨k, Nat.le_refl _, by omega, hb, rfl⟩
      · rw [if_neg hv]
        obtain ⟨j, h1, h2, h3, h4⟩ := nth_in b n (k + 1) (v - 1) (by omega)
        exact ⟨j, by omega, by omega, h3, h4⟩
    · rw [if_neg hb] at h ⊢
      obtain ⟨j, h1, h2, h3, h4⟩ := nth_in b n (k + 1) v (by omega)
      exact ⟨j, by omega, by omega, h3, h4⟩
theorem bc_mk (b : Nat → Bool) : f_J6_bitCount_0f7a4 (nI (mkn b 12)) = nI (cnt b 12 0) := by
  have key0 : ∀ h, h < 64 → ∀ l, l < 64 → f_J6_bitCount_0f7a4 (nI (64 * h + l)) = nI ((64 * h + l) / 2 ^ 0 % 2 + ((64 * h + l) / 2 ^ 1 % 2 + ((64 * h + l) / 2 ^ 2 % 2 + ((64 * h + l) / 2 ^ 3 % 2 + ((64 * h + l) / 2 ^ 4 % 2 + ((64 * h + l) / 2 ^ 5 % 2 + ((64 * h + l) / 2 ^ 6 % 2 + ((64 * h + l) / 2 ^ 7 % 2 + ((64 * h + l) / 2 ^ 8 % 2 + ((64 * h + l) / 2 ^ 9 % 2 + ((64 * h + l) / 2 ^ 10 % 2 + ((64 * h + l) / 2 ^ 11 % 2 + 0)))))))))))) := by decide +kernel
  have key : ∀ n, n < 4096 → f_J6_bitCount_0f7a4 (nI n) = nI (n / 2 ^ 0 % 2 + (n / 2 ^ 1 % 2 + (n / 2 ^ 2 % 2 + (n / 2 ^ 3 % 2 + (n / 2 ^ 4 % 2 + (n / 2 ^ 5 % 2 + (n / 2 ^ 6 % 2 + (n / 2 ^ 7 % 2 + (n / 2 ^ 8 % 2 + (n / 2 ^ 9 % 2 + (n / 2 ^ 10 % 2 + (n / 2 ^ 11 % 2 + 0)))))))))))) := by
    intro n hn
    have k := key0 (n / 64) (by omega) (n % 64) (by omega)
    rw [show 64 * (n / 64) + n % 64 = n by omega] at k
    exact k
  have hl := mkn_lt b 12
  rw [key _ (by omega), mkn_bit b 12 0 (by omega), mkn_bit b 12 1 (by omega), mkn_bit b 12 2 (by omega), mkn_bit b 12 3 (by omega), mkn_bit b 12 4 (by omega), mkn_bit b 12 5 (by omega), mkn_bit b 12 6 (by omega), mkn_bit b 12 7 (by omega), mkn_bit b 12 8 (by omega), mkn_bit b 12 9 (by omega), mkn_bit b 12 10 (by omega), mkn_bit b 12 11 (by omega)]
  rfl
theorem nI_dn (v : Nat) : nI (v + 1) + (-1 : Int32) = nI v := by
  rw [nI_succ, Int32.add_assoc, show (1 : Int32) + (-1 : Int32) = 0 from by decide, Int32.add_zero]
theorem nth_mk (b : Nat → Bool) {v : Nat} (hv : v < 2 ^ 31) : f_X2_nthOf (nI (mkn b 12)) (nI v) = nth b 12 0 v := by
  have key : ∀ n k fu v, k + n = 12 → n < fu → v < 2 ^ 31 → f_X2_nthOf_l4 (nI (mkn b 12)) fu (nI v) (nI k) = nth b n k v := by
    intro n
    induction n with
    | zero =>
      intro k fu v hk hf _
      obtain ⟨fu, rfl⟩ : ∃ f, fu = f + 1 := ⟨fu - 1, by omega⟩
      have e : k = 12 := by omega
      subst e
      rw [e_X2_nthOf_l4, if_pos (by decide), nth]
    | succ n ih =>
      intro k fu v hk hf hv
      obtain ⟨fu, rfl⟩ : ∃ f, fu = f + 1 := ⟨fu - 1, by omega⟩
      have hb := bit_mk b (k := k) (by omega)
      rw [e_X2_nthOf_l4, if_neg (by rw [show (12 : Int32) = nI 12 from rfl]; exact nI_ge (by omega) (by omega)), e_X2_nthOf_j27, e_X2_nthOf_j27, ← nI_succ, nth]
      cases hbk : b k
      · rw [if_pos (hb.mpr hbk), if_neg (by decide)]
        exact ih (k + 1) fu v (by omega) (by omega) hv
      · rw [if_neg (fun e => by rw [hb.mp e] at hbk; cases hbk), if_pos rfl]
        cases v with
        | zero => rw [if_pos nI_0, if_pos rfl]
        | succ v =>
          rw [if_neg (nI_ne0 (by omega) hv), if_neg (by omega), nI_dn]
          exact ih (k + 1) fu v (by omega) (by omega) (by omega)
  rw [e_X2_nthOf, show (0 : Int32) = nI 0 from rfl]
  exact key 12 0 13 v rfl (by omega) hv
theorem nI_plus (a b : Nat) : nI (a + b) = nI a + nI b := Int32.ofNat_add a b
section
variable {gs gf gb gc tc mc mr mf mb i : Int32} {gv tv mg ml mw wv : Nat → Int32}
/-- the laws that a note breaks and that weigh at all -/
def pvb (mc mr mb mf : Int32) (mg ml mw : Nat → Int32) (i n : Int32) (k : Nat) : Bool := flb mc mr mb mf mg ml i n k && decide (¬ mw k < (1 : Int32))
theorem w_1 {x : Int32} : x ≤ 0 ↔ x < (1 : Int32) := by
  rw [t_le, t_lt, t_0, t_1]
  omega
theorem m1_nI {v : Nat} (hv : v < 2 ^ 31) : ¬ nI v = (-1 : Int32) := fun e => nI_pos hv (by rw [e]; decide)
theorem fu_inm {v2 : Int32} {K : Int32 → Int32} : ∀ n k fu v, k + n = 12 → n < fu → v + n < 2 ^ 31 → f_X7_faultsUpTo_l15 mc tc mr mb mf mg ml mw (-1 : Int32) v2 K fu (nI v) (nI k) = K (nI (v + cnt (pvb mc mr mb mf mg ml mw v2 tc) n k)) := by
  intro n
  induction n with
  | zero =>
    intro k fu v hk hf hv
    obtain ⟨fu, rfl⟩ : ∃ f, fu = f + 1 := ⟨fu - 1, by omega⟩
    have e : k = 12 := by omega
    subst e
    rw [e_X7_faultsUpTo_l15, if_pos (by decide), cnt, Nat.add_zero]
  | succ n ih =>
    intro k fu v hk hf hv
    obtain ⟨fu, rfl⟩ : ∃ f, fu = f + 1 := ⟨fu - 1, by omega⟩
    have hb := flb_f (mc := mc) (mr := mr) (mb := mb) (mf := mf) (mg := mg) (ml := ml) (i := v2) (n := tc) (k := k)
    rw [e_X7_faultsUpTo_l15, if_neg (by rw [show (12 : Int32) = nI 12 from rfl]; exact nI_ge (by omega) (by omega)), nI_clamp (by omega), e_X7_faultsUpTo_j62, e_X7_faultsUpTo_j62, ← nI_succ, ← nI_succ, cnt, pvb]
    by_cases hm : mw k ≤ 0
    · have hd : decide (¬ mw k < (1 : Int32)) = false := decide_eq_false (fun h => h (w_1.mp hm))
      rw [if_pos hm, hd, Bool.and_false, if_neg Bool.false_ne_true, Nat.zero_add]
      exact ih (k + 1) fu v (by omega) (by omega) (by omega)
    · have hd : decide (¬ mw k < (1 : Int32)) = true := decide_eq_true (fun h => hm (w_1.mpr h))
      rw [if_neg hm, hd, Bool.and_true]
      cases hbk : flb mc mr mb mf mg ml v2 tc k
      · rw [if_pos (hb.mpr hbk), if_neg Bool.false_ne_true, Nat.zero_add]
        exact ih (k + 1) fu v (by omega) (by omega) (by omega)
      · rw [if_neg (fun e => by rw [hb.mp e] at hbk; cases hbk), if_neg (m1_nI (by omega)), if_pos rfl, ← Nat.add_assoc]
        exact ih (k + 1) fu (v + 1) (by omega) (by omega) (by omega)
theorem fu_in {v2 : Int32} {K : Int32 → Int32} {P : Nat} (hP : P < 2 ^ 31) : ∀ n k fu v, k + n = 12 → n < fu → v ≤ P → f_X7_faultsUpTo_l15 mc tc mr mb mf mg ml mw (nI P) v2 K fu (nI v) (nI k) = if P - v < cnt (pvb mc mr mb mf mg ml mw v2 tc) n k then (100 : Int32) * v2 + nth (pvb mc mr mb mf mg ml mw v2 tc) n k (P - v) else K (nI (v + cnt (pvb mc mr mb mf mg ml mw v2 tc) n k)) := by
  intro n
  induction n with
  | zero =>
    intro k fu v hk hf hv
    obtain ⟨fu, rfl⟩ : ∃ f, fu = f + 1 := ⟨fu - 1, by omega⟩
    have e : k = 12 := by omega
    subst e
    rw [e_X7_faultsUpTo_l15, if_pos (by decide), cnt, if_neg (Nat.not_lt_zero _), Nat.add_zero]
  | succ n ih =>
    intro k fu v hk hf hv
    obtain ⟨fu, rfl⟩ : ∃ f, fu = f + 1 := ⟨fu - 1, by omega⟩
    have hb := flb_f (mc := mc) (mr := mr) (mb := mb) (mf := mf) (mg := mg) (ml := ml) (i := v2) (n := tc) (k := k)
    rw [e_X7_faultsUpTo_l15, if_neg (by rw [show (12 : Int32) = nI 12 from rfl]; exact nI_ge (by omega) (by omega)), nI_clamp (by omega), e_X7_faultsUpTo_j62, e_X7_faultsUpTo_j62, ← nI_succ, ← nI_succ, cnt, nth, show pvb mc mr mb mf mg ml mw v2 tc k = (flb mc mr mb mf mg ml v2 tc k && decide (¬ mw k < (1 : Int32))) from rfl]
    by_cases hm : mw k ≤ 0
    · have hd : decide (¬ mw k < (1 : Int32)) = false := decide_eq_false (fun h => h (w_1.mp hm))
      rw [if_pos hm, hd, Bool.and_false, if_neg Bool.false_ne_true, if_neg Bool.false_ne_true, Nat.zero_add]
      exact ih (k + 1) fu v (by omega) (by omega) (by omega)
    · have hd : decide (¬ mw k < (1 : Int32)) = true := decide_eq_true (fun h => hm (w_1.mpr h))
      rw [if_neg hm, hd, Bool.and_true]
      cases hbk : flb mc mr mb mf mg ml v2 tc k
      · rw [if_pos (hb.mpr hbk), if_neg Bool.false_ne_true, if_neg Bool.false_ne_true, Nat.zero_add]
        exact ih (k + 1) fu v (by omega) (by omega) (by omega)
      · rw [if_neg (fun e => by rw [hb.mp e] at hbk; cases hbk), if_pos rfl, if_pos rfl]
        by_cases hvP : v = P
        · rw [if_pos (by rw [hvP]), if_pos (by omega), if_pos (by omega)]
        · rw [if_neg (by rw [nI_eq (by omega) hP]; exact hvP), if_neg (by omega : ¬ P - v = 0), ih (k + 1) fu (v + 1) (by omega) (by omega) (by omega), show P - (v + 1) = P - v - 1 by omega, ← Nat.add_assoc]
          by_cases hc : P - v - 1 < cnt (pvb mc mr mb mf mg ml mw v2 tc) n (k + 1)
          · rw [if_pos hc, if_pos (by omega)]
          · rw [if_neg hc, if_neg (by omega)]
end
