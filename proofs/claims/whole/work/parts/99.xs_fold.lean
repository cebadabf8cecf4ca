/-! ===== trying all lines: the fold over the tree, one line tried ===== -/
def lfold {S : Type} (f : Nat → S → S) : Nat → S → S
  | 0, s => s
  | w + 1, s => f w (lfold f w s)
/-- all lines are tried in their order: how many are good, the least cost, whether it is the sketch's line -/
def TF (W : Nat) (T : (Nat → Nat) → Int) (sk : (Nat → Nat) → Int32) : Nat → Nat → (Nat → Nat) → (Int64 × Int × Int32) → (Int64 × Int × Int32)
  | 0, _, x, s => if T x < ZZ then (s.1 + 1, if s.2.1 ≤ T x then s.2 else (T x, sk x)) else s
  | n + 1, p, x, s => lfold (fun c s => TF W T sk n (p + 1) (lset x p c) s) W s
section
variable {W N : Nat} {T : (Nat → Nat) → Int} {sk : (Nat → Nat) → Int32}
theorem TF_1 : ∀ n p x s, (TF W T sk n p x s).1 = s.1 + CT W T n p x
  | 0, p, x, s => by
    rw [TF, CT]
    split
    · rfl
    · exact (Int64.add_zero _).symm
  | n + 1, p, x, s => by
    rw [TF, CT]
    have key : ∀ w, (lfold (fun c s => TF W T sk n (p + 1) (lset x p c) s) w s).1 = s.1 + lsum (fun c => CT W T n (p + 1) (lset x p c)) w := by
      intro w
      induction w with
      | zero => exact (Int64.add_zero _).symm
      | succ w ih => rw [lfold, TF_1 n (p + 1), ih, lsum, Int64.add_assoc]
    exact key W
theorem TF_2 (hT : ∀ x, T x ≤ ZZ) : ∀ n p x s, s.2.1 ≤ ZZ → (TF W T sk n p x s).2.1 = min s.2.1 (MT W T n p x)
  | 0, p, x, s, hs => by
    have h := hT x
    rw [TF, MT]
    split
    · show (if s.2.1 ≤ T x then s.2 else (T x, sk x)).1 = _
      split
      · omega
      · show T x = _
        omega
    · omega
  | n + 1, p, x, s, hs => by
    rw [TF, MT]
    have key : ∀ w, (lfold (fun c s => TF W T sk n (p + 1) (lset x p c) s) w s).2.1 = min s.2.1 (lmin (fun c => MT W T n (p + 1) (lset x p c)) w) := by
      intro w
      induction w with
      | zero =>
        rw [lfold, lmin]
        omega
      | succ w ih =>
        rw [lfold, TF_2 hT n (p + 1) _ _ (by rw [ih]; omega), ih, lmin]
        omega
    exact key W
theorem TF_3 (hT : ∀ x, T x ≤ ZZ) : ∀ n p x s, s.2.1 ≤ MT W T n p x → (TF W T sk n p x s).2 = s.2
  | 0, p, x, s, hs => by
    rw [MT] at hs
    rw [TF]
    by_cases c : T x < ZZ
    · rw [if_pos c]
      show (if s.2.1 ≤ T x then s.2 else (T x, sk x)) = s.2
      exact if_pos hs
    · rw [if_neg c]
  | n + 1, p, x, s, hs => by
    rw [MT] at hs
    rw [TF]
    have key : ∀ w, w ≤ W → (lfold (fun c s => TF W T sk n (p + 1) (lset x p c) s) w s).2 = s.2 := by
      intro w
      induction w with
      | zero => exact fun _ => rfl
      | succ w ih =>
        intro hw
        have h1 := ih (by omega)
        have h2 := lmin_le (fun c => MT W T n (p + 1) (lset x p c)) W w (by omega)
        rw [lfold, TF_3 hT n (p + 1) _ _ (by rw [h1]; exact Int.le_trans hs h2), h1]
    exact key W (Nat.le_refl _)
theorem TF_4 (hT : ∀ x, T x ≤ ZZ) (hTL : TL N T) {y : Nat → Nat} (hy : GR W N T y) (hk : ∀ x, (∀ j, j < N → x j = y j) → sk x = 1) : ∀ n p x s, p + n = N → (∀ j, j < p → x j = y j) → s.2.1 ≤ ZZ → MT W T n p x < s.2.1 → (TF W T sk n p x s).2 = (MT W T n p x, (1 : Int32))
  | 0, p, x, s, hp, hx, hz, hs => by
    rw [MT] at hs ⊢
    rw [TF, if_pos (by omega)]
    show (if s.2.1 ≤ T x then s.2 else (T x, sk x)) = _
    rw [if_neg (by omega), hk x (fun j hj => hx j (by omega))]
  | n + 1, p, x, s, hp, hx, hz, hs => by
    obtain ⟨y1, y2, y3⟩ := hy p (by omega)
    have hMx : MT W T (n + 1) p x = MT W T (N - p) p y := by
      rw [show N - p = n + 1 by omega]
      exact MT_c hTL (n + 1) p x y (by omega) hx
    have hag : ∀ c, ∀ j, j < p + 1 → lset x p c j = lset y p c j := fun c j hj => by
      by_cases e : j = p
      · rw [e, lset_at, lset_at]
      · rw [lset_ne e, lset_ne e]
        exact hx j (by omega)
    have hch : ∀ c, MT W T n (p + 1) (lset x p c) = MT W T (N - p - 1) (p + 1) (lset y p c) := fun c => by
      rw [show N - p - 1 = n by omega]
      exact MT_c hTL n (p + 1) _ _ (by omega) (hag c)
    have hyp : MT W T n (p + 1) (lset x p (y p)) = MT W T (n + 1) p x := by
      rw [hch, lset_id, y2, hMx]
    have hge : ∀ c, c < W → MT W T (n + 1) p x ≤ MT W T n (p + 1) (lset x p c) := fun c hc => by
      rw [MT]
      exact lmin_le (fun c => MT W T n (p + 1) (lset x p c)) W c hc
    rw [TF]
    have key : ∀ w, w ≤ W → (w ≤ y p → MT W T (n + 1) p x < (lfold (fun c s => TF W T sk n (p + 1) (lset x p c) s) w s).2.1 ∧ (lfold (fun c s => TF W T sk n (p + 1) (lset x p c) s) w s).2.1 ≤ ZZ) ∧ (y p < w → (lfold (fun c s => TF W T sk n (p + 1) (lset x p c) s) w s).2 = (MT W T (n + 1) p x, (1 : Int32))) := by
      intro w
      induction w with
      | zero => exact fun _ => ⟨fun _ => ⟨hs, hz⟩, fun h => absurd h (Nat.not_lt_zero _)⟩
      | succ w ih =>
        intro hw
        obtain ⟨i1, i2⟩ := ih (by omega)
        refine ⟨fun h => ?_, fun h => ?_⟩
        · obtain ⟨j1, j2⟩ := i1 (by omega)
          have h3 := y3 w (by omega)
          rw [← hch, ← hMx] at h3
          have h4 := hge w (by omega)
          rw [lfold, TF_2 hT n (p + 1) _ _ j2]
          omega
        · by_cases e : w = y p
          · obtain ⟨j1, j2⟩ := i1 (by omega)
            rw [lfold, e]
            rw [e] at j1 j2
            rw [TF_4 hT hTL hy hk n (p + 1) _ _ (by omega) (fun j hj => by
              rw [hag (y p) j hj, lset_id]) j2 (by rw [hyp]; exact j1), hyp]
          · have h5 := i2 (by omega)
            rw [lfold, TF_3 hT n (p + 1) _ _ (by rw [h5]; exact hge w (by omega)), h5]
    exact (key W (Nat.le_refl _)).2 y1
end
section
variable {u : Nat → Int32} {gs mc mr mf mb : Int32} {gv mg mv wv mw : Nat → Int32} {N W LO R : Nat} {F : Nat → Bool}
/-- a line that is laid in a row of cells -/
def LD (N LO : Nat) (x : Nat → Nat) (u : Nat → Int32) : Prop := (∀ j, j < N → u j = nI (LO + x j)) ∧ (∀ j, j < 53 → rg (u j))
theorem flb_u (C : cx gs gv mc mr mg N W LO R) {x : Nat → Nat} (h : ∀ j, j < N → u j = nI (LO + x j)) {p : Nat} (hp : p < N) : ∀ k, k < 12 → flb mc mr mb mf mg u (nI p) (nI N) k = flb mc mr mb mf mg (lx LO x) (nI p) (nI N) k := by
  obtain ⟨hm, hg, hgv, hN, hN2, ⟨hR, hR2⟩, hW, hLO⟩ := C
  by_cases e1 : p + 2 < N
  · exact flb_lo hR hR2 hN (by omega) e1 (Or.inl rfl) (Or.inl rfl) (h p hp) (h _ (by omega)) (h _ (by omega))
  · by_cases e2 : p = N - 1
    · rw [e2]
      exact flb_la hR hR2 (by omega) (by omega) (h _ (by omega)) (h _ (by omega)) (h _ (by omega))
    · rw [show p = N - 2 by omega]
      exact flb_pe hR hR2 (by omega) (by omega) (h _ (by omega)) (h _ (by omega)) (h _ (by omega)) (Or.inl (h _ (by omega)))
theorem qs_ge {f : Nat → Int} : ∀ m q, (∀ j, j < m → 0 ≤ f j) → q < m → f q ≤ qs f m ∧ 0 ≤ qs f m
  | 0, q, _, h => absurd h (Nat.not_lt_zero q)
  | m + 1, q, hp, h => by
    have h0 := hp m (by omega)
    rw [qs]
    by_cases e : q = m
    · rw [e]
      by_cases e0 : m = 0
      · rw [e0, qs]
        rw [e0] at h0
        omega
      · have := qs_ge m 0 (fun j hj => hp j (by omega)) (by omega)
        omega
    · have := qs_ge m q (fun j hj => hp j (by omega)) (by omega)
      omega
theorem qs_le {f : Nat → Int} : ∀ m, (∀ j, j < m → 0 ≤ f j ∧ f j ≤ 120) → 0 ≤ qs f m ∧ qs f m ≤ ((m * 120 : Nat) : Int)
  | 0, _ => ⟨Int.le_refl _, Int.le_refl _⟩
  | m + 1, h => by
    have h1 := qs_le m (fun j hj => h j (by omega))
    have h2 := h m (by omega)
    rw [qs, Nat.succ_mul]
    omega
theorem qs_c {f g : Nat → Int} : ∀ m, (∀ q, q < m → f q = g q) → qs f m = qs g m
  | 0, _ => by rw [qs, qs]
  | m + 1, h => by rw [qs, qs, qs_c m (fun q hq => h q (by omega)), h m (by omega)]
theorem isum_qs (f : Nat → Int32) : ∀ n, isum f n 0 = qs (fun q => (f q).toInt) n
  | 0 => rfl
  | n + 1 => by
    rw [isum_add f n 1 0, isum_qs f n, qs, isum, isum, Nat.zero_add, Int.add_zero]
/-- a line has no fault of a law of F, and what it costs then -/
theorem tot_free (hw : wtr wv mw) (h2 : 2 ≤ N ∧ N ≤ 27) (x : Nat → Nat) : (anb (bd mc mr mb mf mg N LO F x) N 0 = false → tot (pdc mc mr mb mf mg mw N LO F) N x = qs (cw mc mr mb mf mg mw N LO x) N ∧ tot (pdc mc mr mb mf mg mw N LO F) N x < ZZ) ∧ (anb (bd mc mr mb mf mg N LO F x) N 0 = true → tot (pdc mc mr mb mf mg mw N LO F) N x = ZZ) := by
  have hZ := ZZ_e
  refine ⟨fun h => ?_, fun h => ?_⟩
  · have h5 := (anb_f _ N 0).mp h
    have h6 : ∀ q, q < N → pce mc mr mb mf mg mw N LO F x q = cw mc mr mb mf mg mw N LO x q := fun q hq => by rw [pce, if_neg (by rw [h5 q (by omega) (by omega)]; decide)]
    have h7 : qs (pce mc mr mb mf mg mw N LO F x) N = qs (cw mc mr mb mf mg mw N LO x) N := qs_c N h6
    have h8 := qs_le (f := cw mc mr mb mf mg mw N LO x) N (fun j _ => cw_b hw x j)
    rw [tot, pre_k h2.1, h7]
    omega
  · have h5 : ∃ q, q < N ∧ bd mc mr mb mf mg N LO F x q = true := by
      refine Classical.byContradiction (fun hn => ?_)
      have h6 : anb (bd mc mr mb mf mg N LO F x) N 0 = false := (anb_f _ N 0).mpr (fun q _ hq => by
        cases hb : bd mc mr mb mf mg N LO F x q
        · rfl
        · exact absurd ⟨q, by omega, hb⟩ hn)
      rw [h6] at h
      cases h
    obtain ⟨q, q1, q2⟩ := h5
    have h7 := (qs_ge (f := pce mc mr mb mf mg mw N LO F x) N q (fun j _ => (pce_b hw x j).1) q1).1
    have h8 : pce mc mr mb mf mg mw N LO F x q = ZZ := by rw [pce, if_pos q2]
    rw [h8] at h7
    rw [tot, pre_k h2.1]
    omega
theorem free_n (C : cx gs gv mc mr mg N W LO R) (hw : wtr wv mw) {x : Nat → Nat} (hL : LD N LO x u) : f_X3_isFree (nI N) u mc gs mb mf gv (nI (mkn F 12)) = if anb (bd mc mr mb mf mg N LO F x) N 0 = true then (0 : Int32) else (1 : Int32) := by
  have hl := cx_lnr (mb := mb) (mf := mf) C hL.2
  have hfl := fun p (hp : p < N) => flb_u (mb := mb) (mf := mf) C hL.1 hp
  obtain ⟨hm, hg, hgv, hN, hN2, hR, hW, hLO⟩ := C
  have key : ∀ n p fu, p + n = N → n < fu → f_X3_isFree_l2 (nI N) u mc gs mb mf gv (nI (mkn F 12)) fu (nI p) = if anb (bd mc mr mb mf mg N LO F x) n p = true then (0 : Int32) else (1 : Int32) := by
    intro n
    induction n with
    | zero =>
      intro p fu hp hf
      obtain ⟨fu, rfl⟩ : ∃ f, fu = f + 1 := ⟨fu - 1, by omega⟩
      rw [e_X3_isFree_l2, if_pos (nI_le (by omega) (by omega)), anb, if_neg (by decide)]
    | succ n ih =>
      intro p fu hp hf
      obtain ⟨fu, rfl⟩ : ∃ f, fu = f + 1 := ⟨fu - 1, by omega⟩
      have hat : f_X3_faultsAt (nI N) u mc gs mb mf gv (nI p) = fk mc mr mb mf mg N LO x p := by
        rw [at_mk hl (by rw [t_n (by omega)]; omega) (by rw [hN, t_n (by omega), t_n (by omega)]; omega), fk, mkn_congr 12 (hfl p (by omega))]
      rw [e_X3_isFree_l2, if_neg (nI_ge (by omega) (by omega)), hat, anb]
      cases hb : bd mc mr mb mf mg N LO F x p
      · rw [if_pos (bd_mask.mpr hb), Bool.false_or, ← nI_succ]
        exact ih (p + 1) fu (by omega) (by omega)
      · rw [if_neg (fun e => by rw [bd_mask.mp e] at hb; cases hb), Bool.true_or, if_pos rfl]
  rw [e_X3_isFree]
  exact key N 0 _ (by omega) (by rw [t_n (by omega), t_0]; omega)
theorem cost_n (C : cx gs gv mc mr mg N W LO R) (hw : wtr wv mw) (hN4 : N ≤ 24) {x : Nat → Nat} (hL : LD N LO x u) : (f_X3_costBetween (nI N) u mc gs mb mf gv wv (0 : Int32) (nI N - (1 : Int32))).toInt = qs (cw mc mr mb mf mg mw N LO x) N := by
  have hl := cx_lnr (mb := mb) (mf := mf) C hL.2
  have hfl := fun p (hp : p < N) => flb_u (mb := mb) (mf := mf) C hL.1 hp
  obtain ⟨hm, hg, hgv, hN, hN2, hR, hW, hLO⟩ := C
  have e1 : nI N - (1 : Int32) = nI (N - 1) := nI_minus (b := 1) (by omega)
  have h1 := tls_i N 0 hN4 (f := wcs mc mr mb mf mg u mw (nI N)) (fun j _ _ => by
    have := wcs_b (mc := mc) (mr := mr) (mb := mb) (mf := mf) (n := nI N) (mg := mg) (ml := u) hw j
    omega)
  rw [e1, between_sum (A := 0) (B := N - 1) hl (fun j hj => (hw j hj).1) (by rw [hN, t_n (by omega)]; omega) (by omega) (by decide) (by omega), show min N (N - 1 + 1) - 0 = N by omega, h1.1, isum_qs]
  exact qs_c N (fun m hm => by rw [cw, wcs, wcs, tls_congr (f := wsum mw (flb mc mr mb mf mg u (nI m) (nI N))) (g := wsum mw (flb mc mr mb mf mg (lx LO x) (nI m) (nI N))) 12 0 (fun k _ hk => by rw [wsum, wsum, hfl m hm k (by omega)])])
end
