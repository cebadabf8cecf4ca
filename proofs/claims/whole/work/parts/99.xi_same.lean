/-! ===== class and model: lines cost the same ===== -/
def qs (f : Nat → Int) : Nat → Int
  | 0 => 0
  | n + 1 => qs f n + f n
theorem pre_q {pd : (Nat → Nat) → Nat → Int} {x : Nat → Nat} {f : Nat → Int} : ∀ m, (∀ q, q < m → pd x q = f q) → pre pd x m = qs f m
  | 0, _ => rfl
  | m + 1, h => by rw [pre, qs, pre_q m (fun q hq => h q (by omega)), h m (by omega)]
/-- two ways to price notes that agree in what is forbidden -/
def AG (f g : Nat → Int) (m : Nat) : Prop := ∀ q, q < m → 0 ≤ f q ∧ 0 ≤ g q ∧ (f q < ZZ ↔ g q < ZZ) ∧ (f q < ZZ → f q ≤ 120) ∧ (g q < ZZ → g q ≤ 120)
theorem ag_s {f g : Nat → Int} : ∀ m, m ≤ 300 → AG f g m → 0 ≤ qs f m ∧ 0 ≤ qs g m ∧ (qs f m < ZZ ↔ qs g m < ZZ) ∧ (qs f m < ZZ → qs f m ≤ ((m * 120 : Nat) : Int)) ∧ (qs g m < ZZ → qs g m ≤ ((m * 120 : Nat) : Int)) ∧ ((∀ q, q < m → f q < ZZ → f q = g q) → qs f m < ZZ → qs f m = qs g m)
  | 0, _, _ => ⟨Int.le_refl _, Int.le_refl _, Iff.rfl, fun _ => Int.le_refl _, fun _ => Int.le_refl _, fun _ _ => rfl⟩
  | m + 1, hm, h => by
    obtain ⟨a1, a2, a3, a4, a5, a6⟩ := ag_s m (by omega) (fun q hq => h q (by omega))
    obtain ⟨b1, b2, b3, b4, b5⟩ := h m (by omega)
    have hZ := ZZ_e
    rw [qs, qs, Nat.succ_mul]
    refine ⟨by omega, by omega, ⟨fun e => ?_, fun e => ?_⟩, fun e => ?_, fun e => ?_, fun he e => ?_⟩
    · have c1 := a3.mp (by omega)
      have c2 := b3.mp (by omega)
      have c3 := a5 c1
      have c4 := b5 c2
      omega
    · have c1 := a3.mpr (by omega)
      have c2 := b3.mpr (by omega)
      have c3 := a4 c1
      have c4 := b4 c2
      omega
    · have c3 := a4 (by omega)
      have c4 := b4 (by omega)
      omega
    · have c3 := a5 (by omega)
      have c4 := b5 (by omega)
      omega
    · rw [a6 (fun q hq => he q (by omega)) (by omega), he m (by omega) (by omega)]
theorem MT_iff {W : Nat} {T T' : (Nat → Nat) → Int} (h : ∀ x, T x < ZZ ↔ T' x < ZZ) : ∀ n p x, MT W T n p x < ZZ ↔ MT W T' n p x < ZZ
  | 0, _, x => h x
  | n + 1, p, x => by
    rw [MT, MT]
    constructor
    · intro e
      obtain ⟨c, h1, h2, h3⟩ := lmin_at W e
      rw [← h2] at e
      exact Int.lt_of_le_of_lt (lmin_le _ W c h1) ((MT_iff h n (p + 1) _).mp e)
    · intro e
      obtain ⟨c, h1, h2, h3⟩ := lmin_at W e
      rw [← h2] at e
      exact Int.lt_of_le_of_lt (lmin_le _ W c h1) ((MT_iff h n (p + 1) _).mpr e)
section
variable {wv : Nat → Int32} {mc mr mb mf : Int32} {mg mw : Nat → Int32} {N W LO R : Nat} {O F : Nat → Bool}
/-- the model's price of a note, all laws -/
def pme (mc mr mb mf : Int32) (mg mw : Nat → Int32) (N LO : Nat) (O : Nat → Bool) (x : Nat → Nat) (q : Nat) : Int := isum (cv mw O (flb mc mr mb mf mg (lx LO x) (nI q) (nI N))) 12 0
theorem pre_m (hw : wtr wv mw) (h2 : 2 ≤ N) (x : Nat → Nat) : pre (pdm mc mr mb mf mg mw N LO O) x N = qs (pme mc mr mb mf mg mw N LO O x) N := by
  obtain ⟨M, rfl⟩ : ∃ M, N = M + 2 := ⟨N - 2, by omega⟩
  have h1 : pre (pdm mc mr mb mf mg mw (M + 2) LO O) x M = qs (pme mc mr mb mf mg mw (M + 2) LO O x) M := pre_q M (fun q hq => by
    rw [pdm_i hw, if_pos (by omega), pme])
  rw [pre, pre, qs, qs, h1, pdm_i hw, pdm_i hw, if_neg (by omega), if_pos (by omega), if_neg (by omega), if_neg (by omega), pme, pme, show M + 2 - 1 = M + 1 by omega, show M + 2 - 2 = M by omega]
  have h3 := isum_add (cv mw O (flb mc mr mb mf mg (lx LO x) (nI M) (nI (M + 2)))) 11 1 0
  rw [show 11 + 1 = 12 from rfl, Nat.zero_add] at h3
  omega
theorem pre_k (h2 : 2 ≤ N) (x : Nat → Nat) : pre (pdc mc mr mb mf mg mw N LO F) x N = qs (pce mc mr mb mf mg mw N LO F x) N := by
  obtain ⟨M, rfl⟩ : ∃ M, N = M + 2 := ⟨N - 2, by omega⟩
  have h1 : pre (pdc mc mr mb mf mg mw (M + 2) LO F) x M = qs (pce mc mr mb mf mg mw (M + 2) LO F x) M := pre_q M (fun q hq => by
    rw [pdc, if_pos (by omega)])
  rw [pre, pre, qs, qs, h1, pdc, pdc, if_neg (by omega), if_pos (by omega), if_neg (by omega), if_neg (by omega), show M + 2 - 1 = M + 1 by omega, show M + 2 - 2 = M by omega]
  omega
theorem ag_cm (hw : wtr wv mw) (hF : ∀ k, k < 12 → F k = (decide (mw k = (10 : Int32)) && !O k)) (x : Nat → Nat) (m : Nat) : AG (pme mc mr mb mf mg mw N LO O x) (pce mc mr mb mf mg mw N LO F x) m := by
  intro q _
  have hZ := ZZ_e
  have h1 := cv_i (O := O) hw (flb mc mr mb mf mg (lx LO x) (nI q) (nI N)) (n := 12) (k := 0) (by omega)
  have h2 := pce_b (mc := mc) (mr := mr) (mb := mb) (mf := mf) (mg := mg) (N := N) (LO := LO) (F := F) hw x q
  have h3 : pme mc mr mb mf mg mw N LO O x q < ZZ ↔ pce mc mr mb mf mg mw N LO F x q < ZZ := by
    rw [pme, pce]
    cases hb : bd mc mr mb mf mg N LO F x q
    · rw [if_neg (by decide)]
      have h4 := cw_b (mc := mc) (mr := mr) (mb := mb) (mf := mf) (mg := mg) (N := N) (LO := LO) hw x q
      refine ⟨fun _ => by omega, fun _ => ?_⟩
      have h5 := (anb_f _ 12 0).mp hb
      have h6 : ∀ k, k < 12 → 0 ≤ (cv mw O (flb mc mr mb mf mg (lx LO x) (nI q) (nI N)) k).toInt ∧ (cv mw O (flb mc mr mb mf mg (lx LO x) (nI q) (nI N)) k).toInt ≤ 10 := by
        intro k hk
        refine ⟨(cv_b hw hk).1, ?_⟩
        have h7 := h5 k (by omega) (by omega)
        rw [hF k hk] at h7
        rw [cv]
        split
        · rename_i h8
          by_cases h9 : mw k = (10 : Int32)
          · rw [Bool.and_eq_true] at h8
            rw [h8.1, h8.2, h9] at h7
            exact absurd h7 (by decide)
          · rw [if_neg h9]
            exact (hw k hk).2.2
        · rw [t_0]
          omega
      have h7 := tls_b (f := cv mw O (flb mc mr mb mf mg (lx LO x) (nI q) (nI N))) (B := 10) 12 0 (fun j _ hj => h6 j (by omega)) (by omega)
      rw [h1.1] at h7
      omega
    · rw [if_pos rfl]
      refine ⟨fun e => ?_, fun e => absurd e (Int.lt_irrefl _)⟩
      exfalso
      have h5 : bd mc mr mb mf mg N LO F x q = false := by
        refine (anb_f _ 12 0).mpr (fun k _ hk => ?_)
        have hk2 : k < 12 := by omega
        rw [hF k hk2]
        cases h8 : (flb mc mr mb mf mg (lx LO x) (nI q) (nI N) k && (decide (mw k = (10 : Int32)) && !O k))
        · rfl
        · exfalso
          rw [Bool.and_eq_true, Bool.and_eq_true, decide_eq_true_eq] at h8
          have h9 := (isum_p 12 0 (f := cv mw O (flb mc mr mb mf mg (lx LO x) (nI q) (nI N))) (fun j _ hj => (cv_b hw (by omega)).1)).2 k (by omega) (by omega)
          rw [cv, if_pos (by rw [Bool.and_eq_true]; exact ⟨h8.1, h8.2.2⟩), if_pos h8.2.1, tZ] at h9
          omega
      rw [h5] at hb
      cases hb
  refine ⟨h1.2.1, h2.1, h3, fun e => ?_, fun e => ?_⟩
  · have h4 := h1.2.2.2 e
    rw [pme]
    omega
  · have h4 := h2.2 e
    omega
/-- what is forbidden is the same -/
theorem tot_iff (hw : wtr wv mw) (h2 : 2 ≤ N ∧ N ≤ 27) (hF : ∀ k, k < 12 → F k = (decide (mw k = (10 : Int32)) && !O k)) (x : Nat → Nat) : tot (pdm mc mr mb mf mg mw N LO O) N x < ZZ ↔ tot (pdc mc mr mb mf mg mw N LO F) N x < ZZ := by
  have h := (ag_s N (by omega) (ag_cm (mc := mc) (mr := mr) (mb := mb) (mf := mf) (mg := mg) (N := N) (LO := LO) hw hF x N)).2.2.1
  rw [tot, tot, pre_m hw h2.1, pre_k h2.1]
  omega
/-- with nothing left out the costs are the same -/
theorem tot_eq (hw : wtr wv mw) (h2 : 2 ≤ N ∧ N ≤ 27) (hO : ∀ k, O k = false) (hF : ∀ k, k < 12 → F k = decide (mw k = (10 : Int32))) (x : Nat → Nat) : tot (pdm mc mr mb mf mg mw N LO O) N x = tot (pdc mc mr mb mf mg mw N LO F) N x := by
  have hF2 : ∀ k, k < 12 → F k = (decide (mw k = (10 : Int32)) && !O k) := fun k hk => by
    rw [hF k hk, hO k]
    cases decide (mw k = (10 : Int32)) <;> rfl
  have h := ag_s N (by omega) (ag_cm (mc := mc) (mr := mr) (mb := mb) (mf := mf) (mg := mg) (N := N) (LO := LO) hw hF2 x N)
  have he : ∀ q, q < N → pme mc mr mb mf mg mw N LO O x q < ZZ → pme mc mr mb mf mg mw N LO O x q = pce mc mr mb mf mg mw N LO F x q := by
    intro q hq hz
    have h3 := ((ag_cm (mc := mc) (mr := mr) (mb := mb) (mf := mf) (mg := mg) (N := N) (LO := LO) hw hF2 x N) q hq).2.2.1.mp hz
    rw [pce] at h3 ⊢
    cases hb : bd mc mr mb mf mg N LO F x q
    · rw [if_neg (by decide), pme, ← (cv_i (O := O) hw (flb mc mr mb mf mg (lx LO x) (nI q) (nI N)) (n := 12) (k := 0) (by omega)).1, cw, wcs]
      have h5 := (anb_f _ 12 0).mp hb
      rw [tls_congr (f := cv mw O (flb mc mr mb mf mg (lx LO x) (nI q) (nI N))) (g := wsum mw (flb mc mr mb mf mg (lx LO x) (nI q) (nI N))) 12 0 (fun k _ hk => by
        have h7 := h5 k (by omega) (by omega)
        rw [hF k (by omega)] at h7
        rw [cv, wsum, hO k]
        cases hbk : flb mc mr mb mf mg (lx LO x) (nI q) (nI N) k
        · rw [if_neg (by decide), if_neg (by decide)]
        · rw [if_pos (by rfl), if_pos rfl]
          rw [hbk] at h7
          by_cases h9 : mw k = (10 : Int32)
          · rw [h9] at h7
            exact absurd h7 (by decide)
          · rw [if_neg h9])]
    · rw [hb, if_pos rfl] at h3
      exact absurd h3 (Int.lt_irrefl _)
  have h4 := h.2.2.2.2.2 he
  rw [tot, tot, pre_m hw h2.1, pre_k h2.1]
  have h5 := h.2.2.1
  by_cases hz : qs (pme mc mr mb mf mg mw N LO O x) N < ZZ
  · rw [h4 hz]
  · have := mt h5.mpr hz
    omega
end
