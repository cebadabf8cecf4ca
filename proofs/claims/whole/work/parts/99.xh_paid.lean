/-! ===== what the model pays ===== -/
/-- what law k adds, if it is broken and not left out -/
def cv (mw : Nat → Int32) (O b : Nat → Bool) (k : Nat) : Int32 := if (b k && !O k) = true then (if mw k = (10 : Int32) then (1000000 : Int32) else mw k) else 0
theorem cv_c {mw : Nat → Int32} {O b b' : Nat → Bool} {k : Nat} (h : b k = b' k) : cv mw O b k = cv mw O b' k := by rw [cv, cv, h]
theorem cv_b {mw wv : Nat → Int32} {O b : Nat → Bool} {k : Nat} (hw : wtr wv mw) (hk : k < 12) : 0 ≤ (cv mw O b k).toInt ∧ (cv mw O b k).toInt ≤ 1000000 ∧ ((cv mw O b k).toInt < ZZ → (cv mw O b k).toInt ≤ 10) := by
  have h := (hw k hk).2
  have hZ := ZZ_e
  have e : (1000000 : Int32).toInt = 1000000 := rfl
  rw [cv]
  split
  · split
    · rw [e]
      omega
    · omega
  · rw [t_0]
    omega
def isum (f : Nat → Int32) : Nat → Nat → Int
  | 0, _ => 0
  | n + 1, k => (f k).toInt + isum f n (k + 1)
theorem isum_add (f : Nat → Int32) : ∀ a b k, isum f (a + b) k = isum f a k + isum f b (k + a)
  | 0, b, k => by rw [Nat.zero_add, isum, Int.zero_add, Nat.add_zero]
  | a + 1, b, k => by
    rw [show a + 1 + b = (a + b) + 1 by omega, isum, isum, isum_add f a b (k + 1), show k + 1 + a = k + (a + 1) by omega]
    omega
theorem isum_c {f g : Nat → Int32} : ∀ n k, (∀ j, k ≤ j → j < k + n → f j = g j) → isum f n k = isum g n k
  | 0, _, _ => rfl
  | n + 1, k, h => by
    rw [isum, isum, h k (Nat.le_refl _) (by omega), isum_c n (k + 1) (fun j h1 h2 => h j (by omega) (by omega))]
theorem isum_p {f : Nat → Int32} : ∀ n k, (∀ j, k ≤ j → j < k + n → 0 ≤ (f j).toInt) → 0 ≤ isum f n k ∧ ∀ j, k ≤ j → j < k + n → (f j).toInt ≤ isum f n k
  | 0, k, _ => ⟨Int.le_refl _, fun j h1 h2 => absurd h1 (by omega)⟩
  | n + 1, k, h => by
    have h1 := h k (Nat.le_refl _) (by omega)
    have h2 := isum_p n (k + 1) (fun j h3 h4 => h j (by omega) (by omega))
    rw [isum]
    refine ⟨by omega, fun j h3 h4 => ?_⟩
    by_cases e : j = k
    · rw [e]
      omega
    · have := h2.2 j (by omega) (by omega)
      omega
theorem tls_i {f : Nat → Int32} : ∀ n k, n ≤ 24 → (∀ j, k ≤ j → j < k + n → 0 ≤ (f j).toInt ∧ (f j).toInt ≤ 1000000) → (tls f n k).toInt = isum f n k ∧ isum f n k ≤ ((n * 1000000 : Nat) : Int)
  | 0, _, _, _ => ⟨rfl, Int.le_refl _⟩
  | n + 1, k, hn, h => by
    have h1 := h k (Nat.le_refl _) (by omega)
    have h2 := tls_i n (k + 1) (by omega) (fun j h3 h4 => h j (by omega) (by omega))
    have h3 := (isum_p n (k + 1) (fun j h3 h4 => (h j (by omega) (by omega)).1)).1
    rw [isum, tls, Nat.succ_mul]
    rw [t_add (by omega) (by omega), h2.1]
    exact ⟨rfl, by omega⟩
theorem isum_s {f : Nat → Int32} : ∀ n k, (∀ j, k ≤ j → j < k + n → 0 ≤ (f j).toInt ∧ ((f j).toInt < ZZ → (f j).toInt ≤ 10)) → isum f n k < ZZ → isum f n k ≤ ((n * 10 : Nat) : Int)
  | 0, _, _, _ => Int.le_refl _
  | n + 1, k, h, hz => by
    have h1 := h k (Nat.le_refl _) (by omega)
    have h3 := (isum_p n (k + 1) (fun j h3 h4 => (h j (by omega) (by omega)).1)).1
    rw [isum] at hz ⊢
    have h2 := isum_s n (k + 1) (fun j h3 h4 => h j (by omega) (by omega)) (by omega)
    have h4 := h1.2 (by omega)
    rw [Nat.succ_mul]
    omega
section
variable {p0 p1 : Int32} {ml wv : Nat → Int32} {mc mr mb mf : Int32} {mg mw : Nat → Int32} {N W LO R : Nat} {O F : Nat → Bool}
theorem ca_n (hw : wtr wv mw) {A B : Nat} (hB : B ≤ 12) (hA : A ≤ B) : f_X7_costAt mc mr mb mf mg ml mw p0 p1 (nI (mkn O 12)) (nI A) (nI B) = tls (cv mw O (flb mc mr mb mf mg ml p0 p1)) (B - A) A := by
  have key : ∀ n k fu v, k + n = B → n < fu → f_X7_costAt_l7 mc mr mb mf mg ml mw p0 p1 (nI (mkn O 12)) (nI B) fu v (nI k) = v + tls (cv mw O (flb mc mr mb mf mg ml p0 p1)) n k := by
    intro n
    induction n with
    | zero =>
      intro k fu v hk hf
      obtain ⟨fu, rfl⟩ : ∃ f, fu = f + 1 := ⟨fu - 1, by omega⟩
      rw [e_X7_costAt_l7, if_pos (nI_le (by omega) (by omega)), tls, Int32.add_zero]
    | succ n ih =>
      intro k fu v hk hf
      obtain ⟨fu, rfl⟩ : ∃ f, fu = f + 1 := ⟨fu - 1, by omega⟩
      have hw2 := (hw k (by omega)).2
      have hfl := flb_f (mc := mc) (mr := mr) (mb := mb) (mf := mf) (mg := mg) (ml := ml) (i := p0) (n := p1) (k := k)
      have hbt := bit_mk O (k := k) (by omega)
      have h0 : ∀ v', f_X7_costAt_j73 (nI k) (f_X7_costAt_l7 mc mr mb mf mg ml mw p0 p1 (nI (mkn O 12)) (nI B) fu) v' = v' + tls (cv mw O (flb mc mr mb mf mg ml p0 p1)) n (k + 1) := fun v' => by
        rw [e_X7_costAt_j73, ← nI_succ, ih (k + 1) fu v' (by omega) (by omega)]
      rw [e_X7_costAt_l7, if_neg (nI_ge (by omega) (by omega)), nI_clamp (by omega), tls, cv]
      rw [e_X7_costAt_j70, e_X7_costAt_j70, h0, h0, h0]
      by_cases c1 : mw k ≤ 0
      · have e0 : mw k = 0 := by
          apply ma_inj
          rw [t_le, t_0] at c1
          rw [t_0]
          omega
        rw [if_pos c1, e0, if_neg (show ¬ (0 : Int32) = (10 : Int32) by decide)]
        split <;> rw [Int32.zero_add]
      · rw [if_neg c1]
        cases hO : O k
        · rw [if_pos (hbt.mpr hO)]
          cases hb : flb mc mr mb mf mg ml p0 p1 k
          · rw [if_pos (hfl.mpr hb), if_neg (by decide), Int32.zero_add]
          · rw [if_neg (fun e => by rw [hfl.mp e] at hb; cases hb), if_pos (show (true && !false) = true by rfl)]
            split <;> rw [Int32.add_assoc]
        · rw [if_neg (fun e => by rw [hbt.mp e] at hO; cases hO), if_neg (by cases flb mc mr mb mf mg ml p0 p1 k <;> decide), Int32.zero_add]
  rw [e_X7_costAt, key (B - A) A _ 0 (by omega) (by rw [t_n (by omega), t_n (by omega)]; omega), Int32.zero_add]
/-- what is paid at note q of a line -/
def pm (mc mr mb mf : Int32) (mg mw : Nat → Int32) (N LO : Nat) (O : Nat → Bool) (x : Nat → Nat) (q : Nat) : Int32 := if q + 2 < N then tls (cv mw O (flb mc mr mb mf mg (lx LO x) (nI q) (nI N))) 12 0 else if q + 1 < N then tls (cv mw O (flb mc mr mb mf mg (lx LO x) (nI q) (nI N))) 1 11 else tls (cv mw O (flb mc mr mb mf mg (lx LO x) (nI (N - 1)) (nI N))) 12 0 + tls (cv mw O (flb mc mr mb mf mg (lx LO x) (nI (N - 2)) (nI N))) 11 0
def pdm (mc mr mb mf : Int32) (mg mw : Nat → Int32) (N LO : Nat) (O : Nat → Bool) (x : Nat → Nat) (q : Nat) : Int := (pm mc mr mb mf mg mw N LO O x q).toInt
theorem tls_cv {b b' : Nat → Bool} {n k : Nat} (h : ∀ j, k ≤ j → j < k + n → b j = b' j) : tls (cv mw O b) n k = tls (cv mw O b') n k := tls_congr n k (fun j h1 h2 => cv_c (h j h1 h2))
theorem paid_n (hm : mok mc mr) (hR : mr = nI R ∧ (R = 1 ∨ R = 2)) (hN : f_X7_most mc mr = nI N) (hN2 : 2 ≤ N ∧ N ≤ 27) (hw : wtr wv mw) {u : Nat → Int32} {x : Nat → Nat} {q : Nat} (hq : q < N) (h0 : u q = lx LO x q) (h1 : u (q - 1) = lx LO x (q - 1)) (h2 : u (q - 2) = lx LO x (q - 2)) : f_X7_paid mc mr mb mf mg u mw (nI q) (nI (mkn O 12)) = pm mc mr mb mf mg mw N LO O x q := by
  have e1 : nI N - (1 : Int32) = nI (N - 1) := nI_minus (b := 1) (by omega)
  have e2 : nI (N - 1) - (1 : Int32) = nI (N - 2) := nI_minus (b := 1) (by omega)
  have z0 : (0 : Int32) = nI 0 := rfl
  have z11 : (11 : Int32) = nI 11 := rfl
  have z12 : (12 : Int32) = nI 12 := rfl
  rw [e_X7_paid, hN, e1, e2, e_X7_paid_j61, e_X7_paid_j61, ← nI_succ, z0, z11, z12, pm]
  by_cases c1 : q + 2 < N
  · rw [if_pos c1, if_neg (by rw [nI_eq (by omega) (by omega)]; omega), if_neg (by rw [nI_eq (by omega) (by omega)]; omega), ca_n hw (by omega) (by omega)]
    exact tls_cv (fun j _ h => flb_lo hR.1 hR.2 hN (by omega) c1 (Or.inr rfl) (Or.inl rfl) h0 h1 h2 j (by omega))
  · rw [if_neg c1]
    by_cases c2 : q + 1 < N
    · rw [if_pos c2, if_neg (by rw [nI_eq (by omega) (by omega)]; omega), if_pos (by rw [nI_eq (by omega) (by omega)]; omega), ca_n hw (by omega) (by omega)]
      refine tls_cv (fun j h3 h4 => ?_)
      have e3 : j = 11 := by omega
      rw [e3]
      exact flb_11 (by omega) h0 h1 h2
    · have e3 : q = N - 1 := by omega
      rw [if_neg c2, if_pos (by rw [e3]), ca_n hw (by omega) (by omega), ca_n hw (by omega) (by omega), show q + 1 = N by omega]
      rw [e3] at h0 h1 h2
      rw [show N - 1 - 1 = N - 2 by omega] at h1
      rw [show N - 1 - 2 = N - 3 by omega] at h2
      rw [tls_cv (fun j _ h => flb_la (ml' := lx LO x) hR.1 hR.2 (by omega) hN2.1 h0 h1 h2 j (by omega)), tls_cv (b := flb mc mr mb mf mg u (nI (N - 2)) (nI N)) (fun j _ h => flb_p3 (ml' := lx LO x) hm hR.1 hR.2 hN (by omega) hN2.1 h1 h2 h0 j (by omega))]
theorem cv_i (hw : wtr wv mw) (b : Nat → Bool) {n k : Nat} (h : k + n ≤ 12) : (tls (cv mw O b) n k).toInt = isum (cv mw O b) n k ∧ 0 ≤ isum (cv mw O b) n k ∧ isum (cv mw O b) n k ≤ ((n * 1000000 : Nat) : Int) ∧ (isum (cv mw O b) n k < ZZ → isum (cv mw O b) n k ≤ ((n * 10 : Nat) : Int)) := by
  have h1 := tls_i n k (by omega) (f := cv mw O b) (fun j h1 h2 => ⟨(cv_b hw (by omega)).1, (cv_b hw (by omega)).2.1⟩)
  have h2 := isum_p n k (f := cv mw O b) (fun j h1 h2 => (cv_b hw (by omega)).1)
  exact ⟨h1.1, h2.1, h1.2, isum_s n k (fun j h1 h2 => ⟨(cv_b hw (by omega)).1, (cv_b hw (by omega)).2.2⟩)⟩
/-- the same as numbers -/
theorem pdm_i (hw : wtr wv mw) (x : Nat → Nat) (q : Nat) : pdm mc mr mb mf mg mw N LO O x q = (if q + 2 < N then isum (cv mw O (flb mc mr mb mf mg (lx LO x) (nI q) (nI N))) 12 0 else if q + 1 < N then isum (cv mw O (flb mc mr mb mf mg (lx LO x) (nI q) (nI N))) 1 11 else isum (cv mw O (flb mc mr mb mf mg (lx LO x) (nI (N - 1)) (nI N))) 12 0 + isum (cv mw O (flb mc mr mb mf mg (lx LO x) (nI (N - 2)) (nI N))) 11 0) := by
  rw [pdm, pm]
  split
  · exact (cv_i hw _ (by omega)).1
  · split
    · exact (cv_i hw _ (by omega)).1
    · have h1 := cv_i (O := O) hw (flb mc mr mb mf mg (lx LO x) (nI (N - 1)) (nI N)) (n := 12) (k := 0) (by omega)
      have h2 := cv_i (O := O) hw (flb mc mr mb mf mg (lx LO x) (nI (N - 2)) (nI N)) (n := 11) (k := 0) (by omega)
      rw [t_add (by omega) (by omega), h1.1, h2.1]
theorem PD_m (hm : mok mc mr) (hR : mr = nI R ∧ (R = 1 ∨ R = 2)) (hN : f_X7_most mc mr = nI N) (hN2 : 2 ≤ N ∧ N ≤ 27) (hw : wtr wv mw) : PD N (pdm mc mr mb mf mg mw N LO O) := by
  have hZ := ZZ_e
  refine ⟨fun x q => ?_, fun x z q hq h => ?_, fun x q h => ?_⟩
  · rw [pdm_i hw]
    have h1 := (cv_i (O := O) hw (flb mc mr mb mf mg (lx LO x) (nI q) (nI N)) (n := 12) (k := 0) (by omega)).2.1
    have h2 := (cv_i (O := O) hw (flb mc mr mb mf mg (lx LO x) (nI q) (nI N)) (n := 1) (k := 11) (by omega)).2.1
    have h3 := (cv_i (O := O) hw (flb mc mr mb mf mg (lx LO x) (nI (N - 1)) (nI N)) (n := 12) (k := 0) (by omega)).2.1
    have h4 := (cv_i (O := O) hw (flb mc mr mb mf mg (lx LO x) (nI (N - 2)) (nI N)) (n := 11) (k := 0) (by omega)).2.1
    split
    · exact h1
    · split <;> omega
  · have hl : ∀ j, j ≤ q → lx LO x j = lx LO z j := fun j hj => by rw [lx, lx, h j hj]
    rw [pdm, pdm, ← paid_n hm hR hN hN2 hw hq (hl q (by omega)) (hl _ (by omega)) (hl _ (by omega)), ← paid_n hm hR hN hN2 hw hq rfl rfl rfl]
  · rw [pdm_i hw] at h ⊢
    have h1 := cv_i (O := O) hw (flb mc mr mb mf mg (lx LO x) (nI q) (nI N)) (n := 12) (k := 0) (by omega)
    have h2 := cv_i (O := O) hw (flb mc mr mb mf mg (lx LO x) (nI q) (nI N)) (n := 1) (k := 11) (by omega)
    have h3 := cv_i (O := O) hw (flb mc mr mb mf mg (lx LO x) (nI (N - 1)) (nI N)) (n := 12) (k := 0) (by omega)
    have h4 := cv_i (O := O) hw (flb mc mr mb mf mg (lx LO x) (nI (N - 2)) (nI N)) (n := 11) (k := 0) (by omega)
    by_cases c1 : q + 2 < N
    · rw [if_pos c1] at h ⊢
      have := h1.2.2.2 h
      omega
    · rw [if_neg c1] at h ⊢
      by_cases c2 : q + 1 < N
      · rw [if_pos c2] at h ⊢
        have := h2.2.2.2 h
        omega
      · rw [if_neg c2] at h ⊢
        have h5 := h3.2.2.2 (by omega)
        have h6 := h4.2.2.2 (by omega)
        omega
end
