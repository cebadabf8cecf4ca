/-! ===== the laws that bar ===== -/
theorem tb_n {n i : Nat} (hi : i < 32) : (nI n).toBitVec.getLsbD i = n.testBit i := by
  show (BitVec.ofNat 32 n).getLsbD i = _
  rw [BitVec.getLsbD_ofNat, decide_eq_true hi, Bool.true_and]
theorem and_not (A O : Nat → Bool) : nI (mkn A 12) &&& (nI (mkn O 12) ^^^ (-1 : Int32)) = nI (mkn (fun j => A j && !O j) 12) := by
  apply Int32.toBitVec_inj.mp
  apply BitVec.eq_of_getLsbD_eq
  intro i hi
  have h1 : (-1 : Int32).toBitVec.getLsbD i = true := by
    have e : (-1 : Int32).toBitVec = BitVec.allOnes 32 := by decide
    rw [e, BitVec.getLsbD_allOnes, decide_eq_true hi]
  rw [Int32.toBitVec_and, BitVec.getLsbD_and, Int32.toBitVec_xor, BitVec.getLsbD_xor, h1, tb_n hi, tb_n hi, tb_n hi, mkn_tb, mkn_tb, mkn_tb]
  cases decide (i < 12) <;> cases A i <;> cases O i <;> rfl
theorem or_bits (A O : Nat → Bool) : nI (mkn A 12) ||| nI (mkn O 12) = nI (mkn (fun j => A j || O j) 12) := by
  apply Int32.toBitVec_inj.mp
  apply BitVec.eq_of_getLsbD_eq
  intro i hi
  rw [Int32.toBitVec_or, BitVec.getLsbD_or, tb_n hi, tb_n hi, tb_n hi, mkn_tb, mkn_tb, mkn_tb]
  cases decide (i < 12) <;> cases A i <;> cases O i <;> rfl
theorem one_bit : ∀ k, k < 12 → ishl (1 : Int32) (nI k) = nI (mkn (fun j => decide (j = k)) 12) := by decide +kernel
theorem cut_mk (F : Nat → Bool) {k : Nat} (hk : k < 12) : nI (mkn F 12) &&& (ishl (1 : Int32) (nI k) ^^^ (-1 : Int32)) = nI (mkn (cut F k) 12) := by
  rw [one_bit k hk, and_not]
  rfl
theorem cut_eq (F : Nat → Bool) {k : Nat} (hk : k < 12) : nI (mkn (cut F k) 12) = nI (mkn F 12) ↔ F k = false := by
  have h1 := mkn_lt F 12
  have h2 := mkn_lt (cut F k) 12
  rw [nI_eq (by omega) (by omega)]
  constructor
  · intro e
    have h3 := congrArg (fun n => n.testBit k) e
    simp only [mkn_tb, decide_eq_true hk, Bool.true_and] at h3
    rw [← h3, cut, decide_eq_true (rfl : k = k)]
    cases F k <;> rfl
  · intro e
    refine mkn_congr 12 (fun j _ => ?_)
    rw [cut]
    by_cases h : j = k
    · rw [h, e]
      rfl
    · rw [decide_eq_false h]
      cases F j <;> rfl
section
variable {gs gc mlo mhi wn sm : Int32} {gv mv wv : Nat → Int32} {mc mr mb mf : Int32} {mg mw : Nat → Int32} {N W LO R : Nat} {O F : Nat → Bool}
theorem fea_V {pd : (Nat → Nat) → Nat → Int} {V : Int32} (P : PD N pd) (h : V.toInt = VT W pd N 0 (fun _ => 0)) : V < (1000000 : Int32) ↔ MT W (tot pd N) N 0 (fun _ => 0) < ZZ := by
  rw [t_lt, tZ, h, VT_MT P]
theorem sw_f (C : cx gs gv mc mr mg N W LO R) (hw : wtr wv mw) (hTB : TB mc mr mb mf mg N W LO mv) (u : Nat → Int32) (y : Nat → Int64) : ∃ V u' y', f_X4_sweep (nI N) (nI W) mv u y wv (nI (mkn F 12)) = (V, u', y') ∧ (V < (1000000 : Int32) ↔ fea mc mr mb mf mg mw N W LO F = true) := by
  obtain ⟨u', y', g1, g2⟩ := sw_ok (F := F) C hw hTB u y
  have PC := PD_c (F := F) (mf := mf) (mb := mb) C hw
  have hW := C.2.2.2.2.2.2.1
  have hN2 := C.2.2.2.2.1
  have h5 := (g2 0 (Nat.le_refl _) (by omega) (fun _ => 0) (dg_0 hW.1)).1
  rw [show d2 (fun _ => 0) 0 = 0 from rfl, show d1 (fun _ => 0) 0 = 0 from rfl, Nat.sub_zero] at h5
  refine ⟨_, u', y', g1, ?_⟩
  rw [fea_V PC h5, fea, decide_eq_true_eq]
theorem lc_f (C : cx gs gv mc mr mg N W LO R) (hw : wtr wv mw) (eW : (mhi - mlo) + (1 : Int32) = nI W) (eL : mlo = nI LO) (hF : ∀ k, k < 12 → F k = (decide (mw k = (10 : Int32)) && !O k)) (ml me : Nat → Int32) (mo : Nat → Int64) : ∃ V l' u' y', f_X7_leastCost mc mr mb mf mlo mhi mg ml mw me mo (nI (mkn O 12)) = (V, l', u', y') ∧ (V < (1000000 : Int32) ↔ fea mc mr mb mf mg mw N W LO F = true) := by
  obtain ⟨V, l', u', y', m1, m2, m3, m4⟩ := lc_ok (mb := mb) (mf := mf) (O := O) C hw eW eL ml me mo
  obtain ⟨hm, hg, hgv, hN, hN2, hR, hW, hLO⟩ := C
  have PM := PD_m (mb := mb) (mf := mf) (mg := mg) (LO := LO) (O := O) hm hR hN hN2 hw
  refine ⟨V, l', u', y', m1, ?_⟩
  rw [fea_V PM (m2 _ (dg_0 hW.1)), MT_iff (fun x => tot_iff (mc := mc) (mr := mr) (mb := mb) (mf := mf) (mg := mg) (LO := LO) hw hN2 hF x), fea, decide_eq_true_eq]
/-- the class's loop over the laws -/
theorem bl_c (C : cx gs gv mc mr mg N W LO R) (hw : wtr wv mw) (hTB : TB mc mr mb mf mg N W LO mv) (B : Nat → Bool) : ∀ n k fu u y, k + n = 12 → n < fu → ∃ u' y', f_X4_barring_l82 (nI N) (nI W) sm mv wn wv fu (nI k) (nI (mkn (brs mc mr mb mf mg mw N W LO B k) 12)) u y = (nI (mkn (brs mc mr mb mf mg mw N W LO B 12) 12), u', y', nI (mkn (brs mc mr mb mf mg mw N W LO B 12) 12), sm, wn) := by
  intro n
  induction n with
  | zero =>
    intro k fu u y hk hf
    obtain ⟨fu, rfl⟩ : ∃ f, fu = f + 1 := ⟨fu - 1, by omega⟩
    have e : k = 12 := by omega
    rw [e]
    exact ⟨u, y, by rw [e_X4_barring_l82, if_pos (by decide)]; rfl⟩
  | succ n ih =>
    intro k fu u y hk hf
    obtain ⟨fu, rfl⟩ : ∃ f, fu = f + 1 := ⟨fu - 1, by omega⟩
    have h12 : ¬ (12 : Int32) ≤ nI k := by
      rw [show (12 : Int32) = nI 12 from rfl]
      exact nI_ge (by omega) (by omega)
    obtain ⟨V, u1, y1, g1, g2⟩ := sw_f (mb := mb) (mf := mf) (F := cut (brs mc mr mb mf mg mw N W LO B k) k) C hw hTB u y
    by_cases c1 : brs mc mr mb mf mg mw N W LO B k k = false
    · have hb : brs mc mr mb mf mg mw N W LO B (k + 1) = brs mc mr mb mf mg mw N W LO B k := by rw [brs, if_neg (fun h => by rw [c1] at h; exact absurd h.1 (by decide))]
      obtain ⟨u', y', k1⟩ := ih (k + 1) fu u y (by omega) (by omega)
      refine ⟨u', y', ?_⟩
      rw [e_X4_barring_l82, if_neg h12, cut_mk _ (by omega), if_pos ((cut_eq _ (by omega)).mpr c1), e_X4_barring_j122, ← nI_succ]
      rw [hb] at k1
      exact k1
    · have c1' : brs mc mr mb mf mg mw N W LO B k k = true := by
        cases h : brs mc mr mb mf mg mw N W LO B k k
        · exact absurd h c1
        · rfl
      by_cases c2 : V < (1000000 : Int32)
      · have hb : brs mc mr mb mf mg mw N W LO B (k + 1) = brs mc mr mb mf mg mw N W LO B k := by rw [brs, if_neg (fun h => by rw [g2.mp c2] at h; exact absurd h.2 (by decide))]
        obtain ⟨u', y', k1⟩ := ih (k + 1) fu u1 y1 (by omega) (by omega)
        refine ⟨u', y', ?_⟩
        rw [e_X4_barring_l82, if_neg h12, cut_mk _ (by omega), if_neg (fun e => c1 ((cut_eq _ (by omega)).mp e)), g1, if_pos c2, e_X4_barring_j122, ← nI_succ]
        rw [hb] at k1
        exact k1
      · have c3 : fea mc mr mb mf mg mw N W LO (cut (brs mc mr mb mf mg mw N W LO B k) k) = false := by
          cases h : fea mc mr mb mf mg mw N W LO (cut (brs mc mr mb mf mg mw N W LO B k) k)
          · rfl
          · exact absurd (g2.mpr h) c2
        have hb : brs mc mr mb mf mg mw N W LO B (k + 1) = cut (brs mc mr mb mf mg mw N W LO B k) k := by rw [brs, if_pos ⟨c1', c3⟩]
        obtain ⟨u', y', k1⟩ := ih (k + 1) fu u1 y1 (by omega) (by omega)
        refine ⟨u', y', ?_⟩
        rw [e_X4_barring_l82, if_neg h12, cut_mk _ (by omega), if_neg (fun e => c1 ((cut_eq _ (by omega)).mp e)), g1, if_neg c2, e_X4_barring_j122, ← nI_succ]
        rw [hb] at k1
        exact k1
theorem bg_n (C : cx gs gv mc mr mg N W LO R) (hw : wtr wv mw) (hTB : TB mc mr mb mf mg N W LO mv) (u : Nat → Int32) (y : Nat → Int64) : ∃ u' y', f_X4_barring_j30 (nI N) (nI W) sm mv u y wn wv = (nI (mkn (BR mc mr mb mf mg mw N W LO) 12), u', y', nI (mkn (BR mc mr mb mf mg mw N W LO) 12), sm, wn) := by
  obtain ⟨V, u1, y1, g1, g2⟩ := sw_f (mb := mb) (mf := mf) (F := F10 mw) C hw hTB u y
  rw [e_X4_barring_j30, w10 hw, g1]
  by_cases c : V < (1000000 : Int32)
  · have hf := g2.mp c
    obtain ⟨u', y', k1⟩ := bl_c (mb := mb) (mf := mf) (wn := wn) (sm := sm) C hw hTB (fun _ => false) 12 0 13 u1 y1 rfl (by omega)
    refine ⟨u', y', ?_⟩
    rw [if_neg (show ¬ (1000000 : Int32) ≤ (V, u1, y1).1 from fun h => by rw [t_le] at h; rw [t_lt] at c; exact absurd h (Int.not_le.mpr c)), e_X4_barring_j80, w10 hw, g1, BR, if_pos hf]
    rw [brs, mk0] at k1
    exact k1
  · have hf : ¬ fea mc mr mb mf mg mw N W LO (F10 mw) = true := fun h => c (g2.mpr h)
    obtain ⟨u', y', k1⟩ := bl_c (mb := mb) (mf := mf) (wn := wn) (sm := sm) C hw hTB (F10 mw) 12 0 13 u1 y1 rfl (by omega)
    refine ⟨u', y', ?_⟩
    rw [if_pos (show (1000000 : Int32) ≤ (V, u1, y1).1 from by rw [t_le]; rw [t_lt] at c; exact Int.not_lt.mp c), e_X4_barring_j80, w10 hw, g1, BR, if_neg hf]
    rw [brs] at k1
    exact k1
theorem brs_0 : ∀ k, brs mc mr mb mf mg mw N W LO (fun _ => false) k = (fun _ => false)
  | 0 => rfl
  | k + 1 => by rw [brs, brs_0 k, if_neg (fun h => absurd (show false = true from h.1) Bool.false_ne_true)]
/-- the model's loop over the laws -/
theorem bl_m (C : cx gs gv mc mr mg N W LO R) (hw : wtr wv mw) (eW : (mhi - mlo) + (1 : Int32) = nI W) (eL : mlo = nI LO) (ml : Nat → Int32) : ∀ n k fu (A O : Nat → Bool) l u y, k + n = 12 → n < fu → (∀ j, j < 12 → A j = (F10 mw j && decide (j < k))) → (∀ j, O j = true → j < k) → (∀ j, j < 12 → brs mc mr mb mf mg mw N W LO (F10 mw) k j = (F10 mw j && !O j)) → ∃ l' u' y', f_X7_bar_l39 mc mr mb mf mlo mhi mg ml mw fu (nI (mkn O 12)) (nI (mkn A 12)) (nI k) l u y = (nI (mkn (brs mc mr mb mf mg mw N W LO (F10 mw) 12) 12), ((f_X7_keepsLine l' ((f_X7_keepsLine ml zI (0 : Int32)).2.2) (1 : Int32)).2.1), u', y') := by
  intro n
  induction n with
  | zero =>
    intro k fu A O l u y hk hf hA hO hb
    obtain ⟨fu, rfl⟩ : ∃ f, fu = f + 1 := ⟨fu - 1, by omega⟩
    have e : k = 12 := by omega
    subst e
    refine ⟨l, u, y, ?_⟩
    rw [e_X7_bar_l39, if_pos (by decide), e_X7_bar_j99, and_not, mkn_congr 12 (fun j hj => by rw [hA j hj, decide_eq_true hj, Bool.and_true, ← hb j hj])]
  | succ n ih =>
    intro k fu A O l u y hk hf hA hO hb
    obtain ⟨fu, rfl⟩ : ∃ f, fu = f + 1 := ⟨fu - 1, by omega⟩
    have h12 : ¬ (12 : Int32) ≤ nI k := by
      rw [show (12 : Int32) = nI 12 from rfl]
      exact nI_ge (by omega) (by omega)
    have hOk : O k = false := by
      cases h : O k
      · rfl
      · exact absurd (hO k h) (Nat.lt_irrefl k)
    have hbk := hb k (by omega)
    rw [hOk, Bool.not_false, Bool.and_true] at hbk
    by_cases c1 : mw k = (10 : Int32)
    · have hF : F10 mw k = true := by rw [F10, c1]; decide
      have hbk1 : brs mc mr mb mf mg mw N W LO (F10 mw) k k = true := hbk.trans hF
      have hor : nI (mkn O 12) ||| ishl (1 : Int32) (nI k) = nI (mkn (fun j => O j || decide (j = k)) 12) := by rw [one_bit k (by omega), or_bits]
      have hAo : nI (mkn A 12) ||| ishl (1 : Int32) (nI k) = nI (mkn (fun j => A j || decide (j = k)) 12) := by rw [one_bit k (by omega), or_bits]
      have hA1 : ∀ j, j < 12 → (A j || decide (j = k)) = (F10 mw j && decide (j < k + 1)) := by
        intro j hj
        rw [hA j hj]
        by_cases e : j = k
        · rw [e, hF, decide_eq_true (rfl : k = k), decide_eq_true (show k < k + 1 by omega), Bool.or_true]
          rfl
        · rw [decide_eq_false e, Bool.or_false]
          by_cases e2 : j < k
          · rw [decide_eq_true e2, decide_eq_true (show j < k + 1 by omega)]
          · rw [decide_eq_false e2, decide_eq_false (show ¬ j < k + 1 by omega)]
      have hcut : ∀ j, j < 12 → cut (brs mc mr mb mf mg mw N W LO (F10 mw) k) k j = (decide (mw j = (10 : Int32)) && !(O j || decide (j = k))) := by
        intro j hj
        rw [cut, hb j hj, F10]
        cases decide (mw j = (10 : Int32)) <;> cases O j <;> cases decide (j = k) <;> rfl
      obtain ⟨V, l1, u1, y1, m1, m2⟩ := lc_f (mb := mb) (mf := mf) (O := fun j => O j || decide (j = k)) (F := cut (brs mc mr mb mf mg mw N W LO (F10 mw) k) k) C hw eW eL hcut l u y
      by_cases c2 : V < (1000000 : Int32)
      · have hb1 : brs mc mr mb mf mg mw N W LO (F10 mw) (k + 1) = brs mc mr mb mf mg mw N W LO (F10 mw) k := by rw [brs, if_neg (fun h => by rw [m2.mp c2] at h; exact absurd h.2 (by decide))]
        obtain ⟨l', u', y', k1⟩ := ih (k + 1) fu (fun j => A j || decide (j = k)) O l1 u1 y1 (by omega) (by omega) hA1 (fun j h => by have := hO j h; omega) (by rw [hb1]; exact hb)
        refine ⟨l', u', y', ?_⟩
        rw [e_X7_bar_l39, if_neg h12, nI_clamp (by omega), if_pos c1, hor, m1, if_pos c2, e_X7_bar_j82, e_X7_bar_j93, hor, hAo, m1, ← nI_succ, Int32.or_zero]
        exact k1
      · have c3 : fea mc mr mb mf mg mw N W LO (cut (brs mc mr mb mf mg mw N W LO (F10 mw) k) k) = false := by
          cases h : fea mc mr mb mf mg mw N W LO (cut (brs mc mr mb mf mg mw N W LO (F10 mw) k) k)
          · rfl
          · exact absurd (m2.mpr h) c2
        have hb1 : brs mc mr mb mf mg mw N W LO (F10 mw) (k + 1) = cut (brs mc mr mb mf mg mw N W LO (F10 mw) k) k := by rw [brs, if_pos ⟨hbk1, c3⟩]
        obtain ⟨l', u', y', k1⟩ := ih (k + 1) fu (fun j => A j || decide (j = k)) (fun j => O j || decide (j = k)) l1 u1 y1 (by omega) (by omega) hA1 (fun j h => by
          rw [Bool.or_eq_true, decide_eq_true_eq] at h
          rcases h with h | h
          · have := hO j h
            omega
          · omega) (fun j hj => by rw [hb1, hcut j hj]; rfl)
        refine ⟨l', u', y', ?_⟩
        rw [e_X7_bar_l39, if_neg h12, nI_clamp (by omega), if_pos c1, hor, m1, if_neg c2, e_X7_bar_j82, e_X7_bar_j93, hor, hAo, m1, ← nI_succ]
        exact k1
    · have hF : F10 mw k = false := by rw [F10, decide_eq_false c1]
      have hb1 : brs mc mr mb mf mg mw N W LO (F10 mw) (k + 1) = brs mc mr mb mf mg mw N W LO (F10 mw) k := by rw [brs, if_neg (fun h => by rw [hbk, hF] at h; exact absurd h.1 (by decide))]
      obtain ⟨l', u', y', k1⟩ := ih (k + 1) fu A O l u y (by omega) (by omega) (fun j hj => by
        rw [hA j hj]
        by_cases e : j = k
        · rw [e, hF]
          rfl
        · by_cases e2 : j < k
          · rw [decide_eq_true e2, decide_eq_true (show j < k + 1 by omega)]
          · rw [decide_eq_false e2, decide_eq_false (show ¬ j < k + 1 by omega)]) (fun j h => by have := hO j h; omega) (by rw [hb1]; exact hb)
      refine ⟨l', u', y', ?_⟩
      rw [e_X7_bar_l39, if_neg h12, nI_clamp (by omega), if_neg c1, e_X7_bar_j93, ← nI_succ]
      exact k1
theorem bar_ok (C : cx gs gv mc mr mg N W LO R) (hw : wtr wv mw) (eW : (mhi - mlo) + (1 : Int32) = nI W) (eL : mlo = nI LO) (ml me : Nat → Int32) (mo : Nat → Int64) : ∃ l' u' y', f_X7_bar mc mr mb mf mlo mhi mg ml mw me mo = (nI (mkn (BR mc mr mb mf mg mw N W LO) 12), l', u', y') ∧ ∀ j, j < 53 → l' j = ml j := by
  obtain ⟨pv', b1, b2⟩ := kp_0 (ml := ml) (pv := zI)
  obtain ⟨V, l1, u1, y1, m1, m2⟩ := lc_f (mb := mb) (mf := mf) (O := fun _ => false) (F := F10 mw) C hw eW eL (fun j _ => by
    rw [F10]
    cases decide (mw j = (10 : Int32)) <;> rfl) ml me mo
  rw [mk0] at m1
  by_cases c : V < (1000000 : Int32)
  · obtain ⟨ml', b3, b4⟩ := kp_1 (ml := l1) (pv := pv')
    refine ⟨ml', u1, y1, ?_, fun j hj => (b4 j hj).trans (b2 j hj)⟩
    rw [e_X7_bar, b1, m1, if_neg (show ¬ (1000000 : Int32) ≤ (V, l1, u1, y1).1 from fun h => by rw [t_le] at h; rw [t_lt] at c; exact absurd h (Int.not_le.mpr c)), b3, BR, if_pos (m2.mp c), brs_0, mk0]
  · have hf : ¬ fea mc mr mb mf mg mw N W LO (F10 mw) = true := fun h => c (m2.mpr h)
    obtain ⟨l2, u2, y2, k1⟩ := bl_m (mb := mb) (mf := mf) C hw eW eL ml 12 0 13 (fun _ => false) (fun _ => false) l1 u1 y1 rfl (by omega) (fun j _ => by rw [decide_eq_false (Nat.not_lt_zero j), Bool.and_false]) (fun j h => by cases h) (fun j _ => by
      rw [brs]
      cases F10 mw j <;> rfl)
    obtain ⟨ml', b3, b4⟩ := kp_1 (ml := l2) (pv := pv')
    refine ⟨ml', u2, y2, ?_, fun j hj => (b4 j hj).trans (b2 j hj)⟩
    rw [mk0, b1, b3] at k1
    rw [e_X7_bar, b1, m1, if_pos (show (1000000 : Int32) ≤ (V, l1, u1, y1).1 from by rw [t_le]; rw [t_lt] at c; exact Int.not_lt.mp c), BR, if_neg hf]
    exact k1
end
