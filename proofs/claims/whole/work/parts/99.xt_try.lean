/-! ===== trying all lines: the class's loops ===== -/
/-- the next line, from the note ahead of p on backwards -/
def NX (W LO p : Nat) (u : Nat → Int32) : Nat → Int32 := f_X4_tryNext_l7 (nI W) (nI LO) (p + 1) (nI p - nI 1) u
theorem nx_0 {W LO : Nat} {u : Nat → Int32} : NX W LO 0 u = u := by
  rw [NX, e_X4_tryNext_l7, if_pos (by decide)]
theorem nx_n {W LO p d : Nat} {u : Nat → Int32} (hp : p < 28) (hd : d < W) (hW : LO + W ≤ 28) (hu : u p = nI (LO + d)) : NX W LO (p + 1) u = if d + 1 < W then upd u p (nI (LO + (d + 1))) else NX W LO p (upd u p (nI LO)) := by
  have key : ∀ n, n < 30 → nI n + (-1 : Int32) = nI n - nI 1 := by decide +kernel
  have ht : f_X3_toneAt u (nI p) = nI (LO + d) := by
    rw [e_X3_toneAt, if_neg (nI_pos (by omega)), if_neg (by rw [show (53 : Int32) = nI 53 from rfl]; exact nI_ge (by omega) (by omega)), nI_clamp (by omega), hu]
  rw [NX, nI_minus (by omega), show p + 1 - 1 = p by omega, e_X4_tryNext_l7, if_neg (nI_pos (by omega)), ht, put_0 (by omega), put_0 (by omega), ← nI_plus, ← nI_succ, key p (by omega)]
  by_cases c : d + 1 < W
  · rw [if_pos c, if_neg (nI_ge (by omega) (by omega))]
    rfl
  · rw [if_neg c, if_pos (nI_le (by omega) (by omega))]
    rfl
theorem upd_upd {u : Nat → Int32} {p : Nat} {a b : Int32} : upd (upd u p a) p b = upd u p b := by
  funext j
  by_cases e : j = p
  · rw [e, upd_at, upd_at]
  · rw [upd_ne e, upd_ne e, upd_ne e]
theorem upd_id {u : Nat → Int32} {p : Nat} {a : Int32} (h : u p = a) : upd u p a = u := by
  funext j
  by_cases e : j = p
  · rw [e, upd_at, h]
  · rw [upd_ne e]
theorem is_c {N : Nat} {kv u u' : Nat → Int32} (hN : N ≤ 27) (h : ∀ j, j < N → u j = u' j) : f_X4_isSketched (nI N) kv u = f_X4_isSketched (nI N) kv u' := by
  have ht : ∀ (u : Nat → Int32) p, p < N → f_X3_toneAt u (nI p) = u p := fun u p hp => by
    rw [e_X3_toneAt, if_neg (nI_pos (by omega)), if_neg (by rw [show (53 : Int32) = nI 53 from rfl]; exact nI_ge (by omega) (by omega)), nI_clamp (by omega)]
  have key : ∀ n p fu, p + n = N → n < fu → f_X4_isSketched_l2 (nI N) kv u fu (nI p) = f_X4_isSketched_l2 (nI N) kv u' fu (nI p) := by
    intro n
    induction n with
    | zero =>
      intro p fu hp hf
      obtain ⟨fu, rfl⟩ : ∃ f, fu = f + 1 := ⟨fu - 1, by omega⟩
      rw [e_X4_isSketched_l2, e_X4_isSketched_l2, if_pos (nI_le (by omega) (by omega)), if_pos (nI_le (by omega) (by omega))]
    | succ n ih =>
      intro p fu hp hf
      obtain ⟨fu, rfl⟩ : ∃ f, fu = f + 1 := ⟨fu - 1, by omega⟩
      rw [e_X4_isSketched_l2, e_X4_isSketched_l2, if_neg (nI_ge (by omega) (by omega)), if_neg (nI_ge (by omega) (by omega)), ht u p (by omega), ht u' p (by omega), h p (by omega), ← nI_succ, ih (p + 1) fu (by omega) (by omega)]
  rw [e_X4_isSketched, e_X4_isSketched]
  exact key N 0 _ (by omega) (by rw [t_n (by omega), t_0]; omega)
theorem is_1 {N : Nat} {kv : Nat → Int32} (hN : N ≤ 27) : f_X4_isSketched (nI N) kv kv = 1 := by
  have key : ∀ n p fu, p + n = N → n < fu → f_X4_isSketched_l2 (nI N) kv kv fu (nI p) = 1 := by
    intro n
    induction n with
    | zero =>
      intro p fu hp hf
      obtain ⟨fu, rfl⟩ : ∃ f, fu = f + 1 := ⟨fu - 1, by omega⟩
      rw [e_X4_isSketched_l2, if_pos (nI_le (by omega) (by omega))]
    | succ n ih =>
      intro p fu hp hf
      obtain ⟨fu, rfl⟩ : ∃ f, fu = f + 1 := ⟨fu - 1, by omega⟩
      rw [e_X4_isSketched_l2, if_neg (nI_ge (by omega) (by omega)), if_pos rfl, ← nI_succ]
      exact ih (p + 1) fu (by omega) (by omega)
  rw [e_X4_isSketched]
  exact key N 0 _ (by omega) (by rw [t_n (by omega), t_0]; omega)
theorem st_ok {N W LO : Nat} {rv : Nat → Int32} (hN : N ≤ 27) (hLO : LO < 28) (hr : ∀ j, j < 53 → rg (rv j)) : ∃ r0, f_X4_startTrying (nI N) (nI W) (nI LO) rv = (nI (W ^ N), r0, nI N) ∧ LD N LO (fun _ => 0) r0 := by
  have key : ∀ n i fu u, i + n = N → n < fu → (∀ j, j < i → u j = nI LO) → (∀ j, j < 53 → rg (u j)) → ∃ r0, f_X4_startTrying_l15 (nI N) (nI W) (nI LO) fu (nI (W ^ i)) (nI i) (nI N) u = (nI (W ^ N), r0, nI N) ∧ LD N LO (fun _ => 0) r0 := by
    intro n
    induction n with
    | zero =>
      intro i fu u hi hf h1 h2
      obtain ⟨fu, rfl⟩ : ∃ f, fu = f + 1 := ⟨fu - 1, by omega⟩
      rw [Nat.add_zero] at hi
      rw [hi] at h1
      refine ⟨u, ?_, h1, h2⟩
      rw [e_X4_startTrying_l15, if_pos (nI_le (by omega) (by omega)), hi]
    | succ n ih =>
      intro i fu u hi hf h1 h2
      obtain ⟨fu, rfl⟩ : ∃ f, fu = f + 1 := ⟨fu - 1, by omega⟩
      obtain ⟨r0, g1, g2⟩ := ih (i + 1) fu (upd u i (nI LO)) (by omega) (by omega) (fun j hj => by
        by_cases e : j = i
        · rw [e, upd_at]
        · rw [upd_ne e]
          exact h1 j (by omega)) (fun j hj => by
        by_cases e : j = i
        · rw [e, upd_at]
          exact rg_n hLO
        · rw [upd_ne e]
          exact h2 j hj)
      refine ⟨r0, ?_, g2⟩
      rw [e_X4_startTrying_l15, if_neg (nI_ge (by omega) (by omega)), put_0 (by omega), ← nI_times, ← Nat.pow_succ, ← nI_succ]
      exact g1
  obtain ⟨r0, g1, g2⟩ := key N 0 (((nI N).toInt - (0 : Int32).toInt).toNat + 1) rv (by omega) (by rw [t_n (by omega), t_0]; omega) (fun j hj => absurd hj (Nat.not_lt_zero _)) hr
  refine ⟨r0, ?_, g2⟩
  rw [e_X4_startTrying, str_n N (by omega)]
  exact g1
section
variable {uv kv rv k2 r0 : Nat → Int32} {yv : Nat → Int64} {TOT : Nat} {gs mc mr mf mb : Int32} {gv mg mv wv mw : Nat → Int32} {N W LO R : Nat} {F : Nat → Bool}
/-- what is found of one line -/
abbrev skf (N LO : Nat) (k2 : Nat → Int32) (x : Nat → Nat) : Int32 := f_X4_isSketched (nI N) k2 (lx LO x)
theorem lp_1 (C : cx gs gv mc mr mg N W LO R) (hw : wtr wv mw) (hN4 : N ≤ 4) (eS : f_X4_startTrying (nI N) (nI W) (nI LO) rv = (nI TOT, r0, nI N)) (eK : (f_X4_writeBest (nI N) (nI W) (nI LO) mv ((f_X4_sweep (nI N) (nI W) mv uv yv wv (f_X2_weighing wv (10 : Int32))).2.1) wv kv (f_X2_weighing wv (10 : Int32))).1 = k2) (eF : f_X2_weighing wv (10 : Int32) = (nI (mkn F 12))) {x : Nat → Nat} {u : Nat → Int32} {tried fu : Nat} {v2 : Int64} {v3 v4 : Int32} (hL : LD N LO x u) (ht : tried < TOT) (hT : TOT < 10000) : ∃ v2' v3' v4', (v2', v3'.toInt, v4') = TF W (tot (pdc mc mr mb mf mg mw N LO F) N) (skf N LO k2) 0 N x (v2, v3.toInt, v4) ∧ f_X4_agreesWithTryingAll_l53 (nI N) (nI W) (nI LO) mv uv yv wv kv rv mc gs mb mf gv (fu + 1) v2 v3 v4 (nI tried) u = f_X4_agreesWithTryingAll_l53 (nI N) (nI W) (nI LO) mv uv yv wv kv rv mc gs mb mf gv fu v2' v3' v4' (nI (tried + 1)) (NX W LO N u) := by
  have hN2 := C.2.2.2.2.1
  have hfr := free_n (F := F) (mb := mb) (mf := mf) C hw hL
  have hco := cost_n (mb := mb) (mf := mf) C hw (by omega) hL
  obtain ⟨t1, t2⟩ := tot_free (mc := mc) (mr := mr) (mb := mb) (mf := mf) (mg := mg) (LO := LO) (F := F) hw hN2 x
  have hnx : f_X4_tryNext (nI N) (nI W) (nI LO) u = NX W LO N u := by
    have key : ∀ n, n < 28 → ((nI n - (1 : Int32)).toInt + 1).toNat + 1 = n + 1 := by decide +kernel
    rw [e_X4_tryNext, key N (by omega), NX]
    rfl
  have hne : ¬ nI TOT ≤ nI tried := nI_ge ht (by omega)
  have hs : f_X4_isSketched (nI N) k2 u = skf N LO k2 x := is_c hN2.2 (fun j hj => hL.1 j hj)
  rw [TF]
  cases hb : anb (bd mc mr mb mf mg N LO F x) N 0
  · obtain ⟨a1, a2⟩ := t1 hb
    rw [hb, if_neg (by decide)] at hfr
    rw [← a1] at hco
    rw [if_pos a2]
    by_cases c : v3 ≤ f_X3_costBetween (nI N) u mc gs mb mf gv wv (0 : Int32) (nI N - (1 : Int32))
    · refine ⟨v2 + (1 : Int64), v3, v4, ?_, ?_⟩
      · rw [t_le, hco] at c
        rw [if_pos c]
      · rw [e_X4_agreesWithTryingAll_l53, eS, if_neg hne, eF, hfr, if_neg (by decide), if_pos c, e_X4_agreesWithTryingAll_j112, hnx, ← nI_succ]
    · refine ⟨v2 + (1 : Int64), f_X3_costBetween (nI N) u mc gs mb mf gv wv (0 : Int32) (nI N - (1 : Int32)), skf N LO k2 x, ?_, ?_⟩
      · rw [t_le, hco] at c
        rw [if_neg c, hco]
      · rw [e_X4_agreesWithTryingAll_l53, eS, if_neg hne, eK, eF, hfr, if_neg (by decide), if_neg c, e_X4_agreesWithTryingAll_j112, hnx, ← nI_succ, hs]
  · rw [hb, if_pos rfl] at hfr
    refine ⟨v2, v3, v4, ?_, ?_⟩
    · rw [t2 hb, if_neg (Int.lt_irrefl _)]
    · rw [e_X4_agreesWithTryingAll_l53, eS, if_neg hne, eF, hfr, if_pos rfl, e_X4_agreesWithTryingAll_j112, hnx, ← nI_succ]
theorem lp_n (C : cx gs gv mc mr mg N W LO R) (hw : wtr wv mw) (hN4 : N ≤ 4) (eS : f_X4_startTrying (nI N) (nI W) (nI LO) rv = (nI TOT, r0, nI N)) (eK : (f_X4_writeBest (nI N) (nI W) (nI LO) mv ((f_X4_sweep (nI N) (nI W) mv uv yv wv (f_X2_weighing wv (10 : Int32))).2.1) wv kv (f_X2_weighing wv (10 : Int32))).1 = k2) (eF : f_X2_weighing wv (10 : Int32) = (nI (mkn F 12))) (hT : TOT < 10000) : ∀ (n p : Nat) (x : Nat → Nat) (u : Nat → Int32) (tried fu : Nat) (v2 : Int64) (v3 v4 : Int32), p + n = N → LD N LO x u → dg W x → (∀ j, p ≤ j → j < N → x j = 0) → tried + W ^ n ≤ TOT → TOT < fu + tried → ∃ fu' v2' v3' v4', TOT < fu' + (tried + W ^ n) ∧ (v2', v3'.toInt, v4') = TF W (tot (pdc mc mr mb mf mg mw N LO F) N) (skf N LO k2) n p x (v2, v3.toInt, v4) ∧ f_X4_agreesWithTryingAll_l53 (nI N) (nI W) (nI LO) mv uv yv wv kv rv mc gs mb mf gv fu v2 v3 v4 (nI tried) u = f_X4_agreesWithTryingAll_l53 (nI N) (nI W) (nI LO) mv uv yv wv kv rv mc gs mb mf gv fu' v2' v3' v4' (nI (tried + W ^ n)) (NX W LO p u) := by
  have C0 := C
  obtain ⟨hm, hg, hgv, hN, hN2, hR, hW, hLO⟩ := C
  intro n
  induction n with
  | zero =>
    intro p x u tried fu v2 v3 v4 hp hL hx h0 ht hf
    rw [Nat.pow_zero] at ht ⊢
    obtain ⟨fu, rfl⟩ : ∃ f, fu = f + 1 := ⟨fu - 1, by omega⟩
    have e : p = N := by omega
    rw [e]
    obtain ⟨v2', v3', v4', g1, g2⟩ := lp_1 (fu := fu) (v2 := v2) (v3 := v3) (v4 := v4) C0 hw hN4 eS eK eF hL (show tried < TOT by omega) hT
    exact ⟨fu, v2', v3', v4', by omega, g1, g2⟩
  | succ n ih =>
    intro p x u tried fu v2 v3 v4 hp hL hx h0 ht hf
    have hup : u p = nI (LO + 0) := by rw [hL.1 p (by omega), h0 p (Nat.le_refl _) (by omega)]
    have key : ∀ (m c : Nat) (tried fu : Nat) (w2 : Int64) (w3 w4 : Int32), c + m = W → 0 < m → (w2, w3.toInt, w4) = lfold (fun c s => TF W (tot (pdc mc mr mb mf mg mw N LO F) N) (skf N LO k2) n (p + 1) (lset x p c) s) c (v2, v3.toInt, v4) → tried + m * W ^ n ≤ TOT → TOT < fu + tried → ∃ fu' v2' v3' v4', TOT < fu' + (tried + m * W ^ n) ∧ (v2', v3'.toInt, v4') = lfold (fun c s => TF W (tot (pdc mc mr mb mf mg mw N LO F) N) (skf N LO k2) n (p + 1) (lset x p c) s) W (v2, v3.toInt, v4) ∧ f_X4_agreesWithTryingAll_l53 (nI N) (nI W) (nI LO) mv uv yv wv kv rv mc gs mb mf gv fu w2 w3 w4 (nI tried) (upd u p (nI (LO + c))) = f_X4_agreesWithTryingAll_l53 (nI N) (nI W) (nI LO) mv uv yv wv kv rv mc gs mb mf gv fu' v2' v3' v4' (nI (tried + m * W ^ n)) (NX W LO p u) := by
      intro m
      induction m with
      | zero => exact fun c tried fu w2 w3 w4 _ h => absurd h (Nat.lt_irrefl _)
      | succ m ihm =>
        intro c tried fu w2 w3 w4 hc _ hw2 ht hf
        have hcW : c < W := by omega
        rw [Nat.succ_mul] at ht ⊢
        have hL2 : LD N LO (lset x p c) (upd u p (nI (LO + c))) := by
          refine ⟨fun j hj => ?_, fun j hj => ?_⟩
          · by_cases e : j = p
            · rw [e, upd_at, lset_at]
            · rw [upd_ne e, lset_ne e]
              exact hL.1 j hj
          · by_cases e : j = p
            · rw [e, upd_at]
              exact rg_n (by omega)
            · rw [upd_ne e]
              exact hL.2 j hj
        obtain ⟨fu1, x2, x3, x4, a1, a2, a3⟩ := ih (p + 1) (lset x p c) (upd u p (nI (LO + c))) tried fu w2 w3 w4 (by omega) hL2 (dg_set hx hcW) (fun j h1 h2 => by
          rw [lset_ne (by omega)]
          exact h0 j (by omega) h2) (by omega) hf
        rw [hw2] at a2
        have hs1 : (x2, x3.toInt, x4) = lfold (fun c s => TF W (tot (pdc mc mr mb mf mg mw N LO F) N) (skf N LO k2) n (p + 1) (lset x p c) s) (c + 1) (v2, v3.toInt, v4) := a2
        have hnx := nx_n (W := W) (LO := LO) (p := p) (d := c) (u := upd u p (nI (LO + c))) (by omega) hcW hLO upd_at
        rw [upd_upd, upd_upd] at hnx
        rw [a3, hnx]
        by_cases e : c + 1 < W
        · rw [if_pos e]
          obtain ⟨fu', z2, z3, z4, b1, b2, b3⟩ := ihm (c + 1) (tried + W ^ n) fu1 x2 x3 x4 (by omega) (by omega) hs1 (by omega) (by omega)
          refine ⟨fu', z2, z3, z4, by omega, b2, ?_⟩
          rw [b3, show tried + W ^ n + m * W ^ n = tried + (m * W ^ n + W ^ n) by omega]
        · have em : m = 0 := by omega
          rw [if_neg e, em, Nat.zero_mul, Nat.zero_add, upd_id (show u p = nI LO from hup)]
          rw [show c + 1 = W by omega] at hs1
          exact ⟨fu1, x2, x3, x4, a1, hs1, rfl⟩
    rw [Nat.pow_succ, Nat.mul_comm] at ht ⊢
    obtain ⟨fu', z2, z3, z4, b1, b2, b3⟩ := key W 0 tried fu v2 v3 v4 (Nat.zero_add _) hW.1 rfl ht hf
    rw [upd_id hup] at b3
    rw [TF]
    exact ⟨fu', z2, z3, z4, b1, b2, b3⟩
end
