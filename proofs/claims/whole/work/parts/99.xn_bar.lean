/-! ===== bars, barAt ===== -/
section
variable {mc mr v1 : Int32} {u2 u3 : Nat → Int32} {u4 : Nat → Int64} {b : Nat → Bool}
theorem bit_v {k : Nat} (hk : k < 12) : (ishr (nI (mkn b 12)) (nI k)) &&& (1 : Int32) = nI (if b k = true then 1 else 0) := by
  have hl := mkn_lt b 12
  rw [ishr_nI (by omega) (by omega), and1_nI (Nat.lt_of_le_of_lt (Nat.div_le_self _ _) (by omega)), mkn_bit b 12 k hk]
/-- the model's count of bars -/
theorem bm_l {mb mf mlo mhi : Int32} {mg ml mw me l : Nat → Int32} {mo : Nat → Int64} {u y} (hb : f_X7_bar mc mr mb mf mlo mhi mg ml mw me mo = (nI (mkn b 12), l, u, y)) : ∀ n k fu v, k + n = 12 → n < fu → f_X7_bars_l27 mc mr mb mf mlo mhi mg ml mw me mo fu (nI v) (nI k) = (nI (v + cnt b n k), ((f_X7_goesOn (f_X7_searchFault mc mr)).2), l, u, y, nI (mkn b 12)) := by
  intro n
  induction n with
  | zero =>
    intro k fu v hk hf
    obtain ⟨fu, rfl⟩ : ∃ f, fu = f + 1 := ⟨fu - 1, by omega⟩
    have e : k = 12 := by omega
    subst e
    rw [e_X7_bars_l27, if_pos (by decide), hb, cnt, Nat.add_zero]
  | succ n ih =>
    intro k fu v hk hf
    obtain ⟨fu, rfl⟩ : ∃ f, fu = f + 1 := ⟨fu - 1, by omega⟩
    rw [e_X7_bars_l27, if_neg (by rw [show (12 : Int32) = nI 12 from rfl]; exact nI_ge (by omega) (by omega)), hb, bit_v (by omega), ← nI_plus, ← nI_succ, ih (k + 1) fu _ (by omega) (by omega), cnt, Nat.add_assoc]
/-- nothing is found any more -/
theorem ba_no : ∀ (n k fu : Nat) (v5 v6 : Int32), k + n = 12 → n < fu → (v5.toInt ≤ -1 ∨ (n : Int) < v5.toInt) → f_X7_barAt_l29 mc mr (nI (mkn b 12)) u2 u3 u4 fu v5 v6 (nI k) = f_X7_barAt_j71 mc mr (nI (mkn b 12)) u2 u3 u4 v6 := by
  intro n
  induction n with
  | zero =>
    intro k fu v5 v6 hk hf _
    obtain ⟨fu, rfl⟩ : ∃ f, fu = f + 1 := ⟨fu - 1, by omega⟩
    have e : k = 12 := by omega
    subst e
    rw [e_X7_barAt_l29, if_pos (by decide)]
  | succ n ih =>
    intro k fu v5 v6 hk hf hv
    obtain ⟨fu, rfl⟩ : ∃ f, fu = f + 1 := ⟨fu - 1, by omega⟩
    have h0 : ¬ v5 = 0 := by
      intro e
      rw [e, t_0] at hv
      omega
    have hu := t_up v5
    have hd : (v5 + (-1 : Int32)).toInt ≤ -1 ∨ (n : Int) < (v5 + (-1 : Int32)).toInt := by
      by_cases e : v5.toInt = -2147483648
      · have e2 : v5 = (-2147483648 : Int32) := ma_inj e
        refine Or.inr ?_
        rw [e2, show ((-2147483648 : Int32) + (-1 : Int32)).toInt = 2147483647 from by decide]
        omega
      · rw [t_add (by rw [t_m1]; omega) (by rw [t_m1]; omega), t_m1]
        omega
    rw [e_X7_barAt_l29, if_neg (by rw [show (12 : Int32) = nI 12 from rfl]; exact nI_ge (by omega) (by omega)), bit_v (by omega), if_neg h0, e_X7_barAt_j60, e_X7_barAt_j65, e_X7_barAt_j65, ← nI_succ]
    split
    · exact ih (k + 1) fu _ _ (by omega) (by omega) hd
    · exact ih (k + 1) fu _ _ (by omega) (by omega) (by omega)
/-- the v-th bit is found -/
theorem ba_yes : ∀ n k fu v, k + n = 12 → n < fu → v < 2 ^ 31 → f_X7_barAt_l29 mc mr (nI (mkn b 12)) u2 u3 u4 fu (nI v) (-1 : Int32) (nI k) = f_X7_barAt_j71 mc mr (nI (mkn b 12)) u2 u3 u4 (nth b n k v) := by
  intro n
  induction n with
  | zero =>
    intro k fu v hk hf _
    obtain ⟨fu, rfl⟩ : ∃ f, fu = f + 1 := ⟨fu - 1, by omega⟩
    have e : k = 12 := by omega
    subst e
    rw [e_X7_barAt_l29, if_pos (by decide), nth]
  | succ n ih =>
    intro k fu v hk hf hv
    obtain ⟨fu, rfl⟩ : ∃ f, fu = f + 1 := ⟨fu - 1, by omega⟩
    rw [e_X7_barAt_l29, if_neg (by rw [show (12 : Int32) = nI 12 from rfl]; exact nI_ge (by omega) (by omega)), bit_v (by omega), nth, e_X7_barAt_j60, e_X7_barAt_j60, e_X7_barAt_j65, e_X7_barAt_j65, e_X7_barAt_j65, ← nI_succ]
    by_cases hb : b k = true
    · rw [if_pos hb, if_pos hb, if_pos (show nI 1 = (1 : Int32) from rfl)]
      cases v with
      | zero =>
        rw [if_pos nI_0, if_pos rfl]
        exact ba_no n (k + 1) fu _ _ (by omega) (by omega) (Or.inl (by decide))
      | succ v =>
        rw [if_neg (nI_ne0 (by omega) hv), if_neg (by omega), nI_dn]
        exact ih (k + 1) fu v (by omega) (by omega) (by omega)
    · rw [if_neg hb, if_neg hb, if_neg (show ¬ nI 0 = (1 : Int32) by decide)]
      exact ih (k + 1) fu v (by omega) (by omega) hv
theorem nth_no (b : Nat → Bool) : ∀ n k v, cnt b n k ≤ v → nth b n k v = (-1 : Int32)
  | 0, _, _, _ => rfl
  | n + 1, k, v, h => by
    rw [cnt] at h
    rw [nth]
    by_cases hb : b k = true
    · rw [if_pos hb] at h ⊢
      rw [if_neg (by omega)]
      exact nth_no b n (k + 1) (v - 1) (by omega)
    · rw [if_neg hb] at h ⊢
      exact nth_no b n (k + 1) v (by omega)
end
/-- the laws that bar, in the class: kept or found -/
theorem bg_ok {gs gc gb gf gl gh gn wn sbs sg sx mr : Int32} {gv mv wv mg mw : Nat → Int32} {N W LO R : Nat} (C : cx gs gv gc mr mg N W LO R) (eW : (gh - gl) + (1 : Int32) = nI W) (eL : gl = nI LO) (hw : wtr wv mw) (hT : TBU gc gs gb gf gl gh gv (nI N) (nI W) (nI LO) mv) (hB : sg = gn → sx = wn → BRU gc gs gb gf gl gh gv wv sbs) (u : Nat → Int32) (y : Nat → Int64) : ∃ u' y', f_X4_barring (nI N) (nI W) gn sbs sg sx mv u y wn wv = (nI (mkn (BR gc mr gb gf mg mw N W LO) 12), u', y', nI (mkn (BR gc mr gb gf mg mw N W LO) 12), gn, wn) ∧ BRU gc gs gb gf gl gh gv wv (nI (mkn (BR gc mr gb gf mg mw N W LO) 12)) := by
  have hall : ∀ mr' mg' N' W' LO' R' mw', cx gs gv gc mr' mg' N' W' LO' R' → (gh - gl) + (1 : Int32) = nI W' → gl = nI LO' → wtr wv mw' → ∃ u' y', f_X4_barring_j30 (nI N) (nI W) gn mv u y wn wv = (nI (mkn (BR gc mr' gb gf mg' mw' N' W' LO') 12), u', y', nI (mkn (BR gc mr' gb gf mg' mw' N' W' LO') 12), gn, wn) := by
    intro mr' mg' N' W' LO' R' mw' C' eW' eL' hw'
    obtain ⟨a1, a2, a3, a4⟩ := hT mr' mg' N' W' LO' R' C' eW' eL'
    rw [a1, a2]
    exact bg_n C' hw' a4 u y
  by_cases c1 : sg = gn
  · by_cases c2 : sx = wn
    · have hb := hB c1 c2
      have e := hb mr mg N W LO R mw C eW eL hw
      refine ⟨u, y, ?_, by rw [← e]; exact hb⟩
      rw [e_X4_barring, if_pos c1, if_pos (show sx = f_X2_changes wn from c2), ← e, c1, c2]
    · obtain ⟨u', y', k1⟩ := hall mr mg N W LO R mw C eW eL hw
      refine ⟨u', y', ?_, ?_⟩
      · rw [e_X4_barring, if_pos c1, if_neg (show ¬ sx = f_X2_changes wn from c2), k1]
      · intro mr' mg' N' W' LO' R' mw' C' eW' eL' hw'
        obtain ⟨u2, y2, k2⟩ := hall mr' mg' N' W' LO' R' mw' C' eW' eL' hw'
        rw [k1] at k2
        exact congrArg Prod.fst k2
  · obtain ⟨u', y', k1⟩ := hall mr mg N W LO R mw C eW eL hw
    refine ⟨u', y', ?_, ?_⟩
    · rw [e_X4_barring, if_neg c1, k1]
    · intro mr' mg' N' W' LO' R' mw' C' eW' eL' hw'
      obtain ⟨u2, y2, k2⟩ := hall mr' mg' N' W' LO' R' mw' C' eW' eL' hw'
      rw [k1] at k2
      exact congrArg Prod.fst k2
theorem s_barsB : St_barsB (RelB Rst) := by
  intro k tc tv gc gs gb gf gl gh gn gv wn wv mt mc mn mr mb mf mlo mhi mx mg ml mw me mo sl sw so sm sbs sg sx mv uv yv kc kv rc rv hk h hq
  obtain ⟨hl, hc, ht, hn, hw, hr, hz, hgn, hwn, hs⟩ := h
  subst hc
  obtain ⟨r1, r2, r3⟩ := hr
  subst r1 r2
  obtain ⟨hsf, N, W, LO, R, C, eW, eL⟩ := ctx_of hl r3 hq
  obtain ⟨q1, q2, q3, q4, q5, q6, q7⟩ := hs
  have hgf : gf = mf := hl.2.2.1
  have hgb : gb = mb := hl.2.2.2.1
  obtain ⟨mv', kv', kc', k1, k2, k3, k4⟩ := ready_ok (kc := kc) (gb := gb) (gf := gf) C eW eL q1 q6
  obtain ⟨u', y', g1, g2⟩ := bg_ok (sbs := sbs) (sg := sg) (sx := sx) C eW eL hw k4 q7 uv yv
  obtain ⟨ml', u2, yy2, m1, m2⟩ := bar_ok (gs := gs) (gv := gv) (mb := gb) (mf := gf) C hw eW eL ml me mo
  have e6 : f_X6_bars gc gs gb gf gl gh gn gv wn wv sl sw so sm sbs sg sx mv uv yv kc kv = (Sum.inr (nI (cnt (BR gc mr gb gf mg mw N W LO) 12 0)), nI N, nI W, nI LO, gn, mv', kv', kc', u', y', nI (mkn (BR gc mr gb gf mg mw N W LO) 12), gn, wn) := by
    rw [e_X6_bars, hq, k1]
    show f_X6_bars_j8 wn wv sbs sg sx uv yv (nI N) (nI W) (nI LO) gn mv' kc' kv' = _
    rw [e_X6_bars_j8, g1, bc_mk]
  have e7 : f_X7_bars gc mr mb mf gl gh mx mg ml mw me mo = (nI (cnt (BR gc mr gb gf mg mw N W LO) 12 0), (0 : Int32), ml', u2, yy2, nI (mkn (BR gc mr gb gf mg mw N W LO) 12)) := by
    rw [← hgf, ← hgb, e_X7_bars, hsf, go0]
    refine (if_neg (by decide)).trans ?_
    have h := bm_l m1 12 0 13 0 rfl (by omega)
    rw [hsf, go0, Nat.zero_add] at h
    exact h
  rw [e6, e7]
  obtain ⟨ag, ha, ea⟩ := hgn
  obtain ⟨aw, hb, eb⟩ := hwn
  refine ⟨fun E e => inr_ne e, rfl, fun _ => rfl, lnr_ml hl m2, rfl, ht, hn, hw, ⟨rfl, rfl, r3⟩, hz, e_up ⟨ag, ha, ea⟩, e_up ⟨aw, hb, eb⟩, k3, q2, ?_, ?_, ?_, fun _ => k4, fun _ _ => g2⟩
  · rw [ea]
    exact old_r (by omega)
  · rw [ea]
    exact old_r (by omega)
  · rw [eb]
    exact old_r (by omega)
theorem s_barsA : St_barsA (RelB Rst) := by
  intro k tc tv gc gs gb gf gl gh gn gv wn wv mt mc mn mr mb mf mlo mhi mx mg ml mw me mo hk h hq
  obtain ⟨hl, hc, ht, hn, hw, hr, hz, ⟨ag, ha, ea⟩, ⟨aw, hb, eb⟩, -⟩ := h
  exact s_barsB k tc tv gc gs gb gf gl gh gn gv wn wv mt mc mn mr mb mf mlo mhi mx mg ml mw me mo _ _ _ _ _ _ _ _ _ _ _ _ (0 : Int32) zI hk ⟨hl, hc, ht, hn, hw, hr, hz, ⟨ag, ha, ea⟩, ⟨aw, hb, eb⟩, rs_fr ⟨ag, by omega, ea⟩ ⟨aw, by omega, eb⟩⟩ hq
theorem th3 : f_X7_thrown (3 : Int32) = kcd ["java/lang/IllegalStateException", "java/lang/UnsupportedOperationException", "java/lang/IndexOutOfBoundsException"] (Sum.inl "java/lang/IndexOutOfBoundsException" : String ⊕ Int32) := by decide
theorem s_barAtB : St_barAtB (RelB Rst) := by
  intro k tc tv gc gs gb gf gl gh gn gv wn wv mt mc mn mr mb mf mlo mhi mx mg ml mw me mo p0 sl sw so sm sbs sg sx mv uv yv kc kv rc rv hk h hq
  obtain ⟨hl, hc, ht, hn, hw, hr, hz, hgn, hwn, hs⟩ := h
  subst hc
  obtain ⟨r1, r2, r3⟩ := hr
  subst r1 r2
  obtain ⟨hsf, N, W, LO, R, C, eW, eL⟩ := ctx_of hl r3 hq
  obtain ⟨q1, q2, q3, q4, q5, q6, q7⟩ := hs
  have hgf : gf = mf := hl.2.2.1
  have hgb : gb = mb := hl.2.2.2.1
  obtain ⟨mv', kv', kc', k1, k2, k3, k4⟩ := ready_ok (kc := kc) (gb := gb) (gf := gf) C eW eL q1 q6
  obtain ⟨u', y', g1, g2⟩ := bg_ok (sbs := sbs) (sg := sg) (sx := sx) C eW eL hw k4 q7 uv yv
  obtain ⟨ml', u2, yy2, m1, m2⟩ := bar_ok (gs := gs) (gv := gv) (mb := gb) (mf := gf) C hw eW eL ml me mo
  obtain ⟨b, eb⟩ : ∃ b, b = BR gc mr gb gf mg mw N W LO := ⟨_, rfl⟩
  rw [← eb] at g1 g2 m1
  have hle := cnt_le b 12 0
  have e6 : f_X6_barAt gc gs gb gf gl gh gn gv wn wv sl sw so sm sbs sg sx mv uv yv kc kv p0 = f_X6_barAt_j8 wn wv sbs sg sx uv yv p0 (nI N) (nI W) (nI LO) gn mv' kc' kv' := by
    rw [e_X6_barAt, hq, k1]
    rfl
  have hrel : RelB Rst (k + 1) tc tv gc gs gb gf gl gh gn gv wn wv (0 : Int32) gc mn mr mb mf gl gh mx mg ml' mw u2 yy2 (some (nI N, nI W, nI LO, gn, nI (mkn b 12), gn, wn, mv', u', y', kc', kv', rc, rv)) := by
    obtain ⟨ag, ha, ea⟩ := hgn
    obtain ⟨aw, hb, ew⟩ := hwn
    refine ⟨lnr_ml hl m2, rfl, ht, hn, hw, ⟨rfl, rfl, r3⟩, hz, e_up ⟨ag, ha, ea⟩, e_up ⟨aw, hb, ew⟩, k3, q2, ?_, ?_, ?_, fun _ => k4, fun _ _ => g2⟩
    · rw [ea]
      exact old_r (by omega)
    · rw [ea]
      exact old_r (by omega)
    · rw [ew]
      exact old_r (by omega)
  by_cases c0 : 0 ≤ p0.toInt
  · obtain ⟨v, ev⟩ : ∃ v : Nat, v = p0.toInt.toNat := ⟨_, rfl⟩
    have ep : p0 = nI v := by rw [ev, nI_back c0]
    have hv : v < 2 ^ 31 := by
      have := t_up p0
      omega
    rw [ep] at e6 ⊢
    by_cases c1 : v < cnt b 12 0
    · obtain ⟨j, j1, j2, j3, j4⟩ := nth_in b 12 0 v c1
      have e6' : f_X6_barAt gc gs gb gf gl gh gn gv wn wv sl sw so sm sbs sg sx mv uv yv kc kv (nI v) = (Sum.inr (f_X7_letterOf (nI j)), nI N, nI W, nI LO, gn, mv', kv', kc', u', y', nI (mkn b 12), gn, wn) := by
        rw [e6, e_X6_barAt_j8, g1, bc_mk, if_neg (nI_pos hv), if_pos (nI_lt c1 (by omega)), nth_mk b hv, j4, sign_law j (by omega)]
      have e7 : f_X7_barAt gc mr mb mf gl gh mg ml mw me mo (nI v) = (f_X7_letterOf (nI j), (0 : Int32), ml', u2, yy2, nI (mkn b 12)) := by
        rw [← hgf, ← hgb, e_X7_barAt, if_pos hsf, m1, e_X7_barAt_j18]
        have h := ba_yes (mc := gc) (mr := mr) (u2 := ml') (u3 := u2) (u4 := yy2) (b := b) 12 0 13 v rfl (by omega) hv
        refine h.trans ?_
        rw [j4, e_X7_barAt_j71, if_pos hsf, if_neg (by
          intro e
          have e2 := congrArg Int32.toInt e
          rw [t_n (by omega), t_m1] at e2
          omega), e_X7_barAt_j91, go0]
        exact if_neg (by decide)
      rw [e6', e7]
      exact ⟨fun E e => inr_ne e, rfl, fun _ => rfl, hrel⟩
    · have e6' : f_X6_barAt gc gs gb gf gl gh gn gv wn wv sl sw so sm sbs sg sx mv uv yv kc kv (nI v) = (Sum.inl "java/lang/IndexOutOfBoundsException", nI N, nI W, nI LO, gn, mv', kv', kc', u', y', nI (mkn b 12), gn, wn) := by
        rw [e6, e_X6_barAt_j8, g1, bc_mk, if_neg (nI_pos hv), if_neg (nI_nlt (by omega) hv), e_X6_barAt_j24, g1]
      have e7 : f_X7_barAt gc mr mb mf gl gh mg ml mw me mo (nI v) = ((0 : Int32), (3 : Int32), ml', u2, yy2, nI (mkn b 12)) := by
        rw [← hgf, ← hgb, e_X7_barAt, if_pos hsf, m1, e_X7_barAt_j18]
        have h := ba_yes (mc := gc) (mr := mr) (u2 := ml') (u3 := u2) (u4 := yy2) (b := b) 12 0 13 v rfl (by omega) hv
        refine h.trans ?_
        rw [nth_no b 12 0 v (by omega), e_X7_barAt_j71, if_pos hsf, if_pos rfl, e_X7_barAt_j91]
        exact if_pos (by decide)
      rw [e6', e7]
      exact ⟨fun E e => Or.inr (Or.inr (Sum.inl.inj e).symm), th3, fun e => absurd e kc_ne, hrel⟩
  · have hneg : p0 < 0 := by
      rw [t_lt, t_0]
      omega
    have e6' : f_X6_barAt gc gs gb gf gl gh gn gv wn wv sl sw so sm sbs sg sx mv uv yv kc kv p0 = (Sum.inl "java/lang/IndexOutOfBoundsException", nI N, nI W, nI LO, gn, mv', kv', kc', u', y', nI (mkn b 12), gn, wn) := by
      rw [e6, e_X6_barAt_j8, if_pos hneg, e_X6_barAt_j24, g1]
    have e7 : f_X7_barAt gc mr mb mf gl gh mg ml mw me mo p0 = ((0 : Int32), (3 : Int32), ml', u2, yy2, nI (mkn b 12)) := by
      rw [← hgf, ← hgb, e_X7_barAt, if_pos hsf, m1, e_X7_barAt_j18]
      have h := ba_no (mc := gc) (mr := mr) (u2 := ml') (u3 := u2) (u4 := yy2) (b := b) 12 0 13 p0 (-1 : Int32) rfl (by omega) (Or.inl (by omega))
      refine h.trans ?_
      rw [e_X7_barAt_j71, if_pos hsf, if_pos rfl, e_X7_barAt_j91]
      exact if_pos (by decide)
    rw [e6', e7]
    exact ⟨fun E e => Or.inr (Or.inr (Sum.inl.inj e).symm), th3, fun e => absurd e kc_ne, hrel⟩
theorem s_barAtA : St_barAtA (RelB Rst) := by
  intro k tc tv gc gs gb gf gl gh gn gv wn wv mt mc mn mr mb mf mlo mhi mx mg ml mw me mo p0 hk h hq
  obtain ⟨hl, hc, ht, hn, hw, hr, hz, ⟨ag, ha, ea⟩, ⟨aw, hb, eb⟩, -⟩ := h
  have h1 := s_barAtB k tc tv gc gs gb gf gl gh gn gv wn wv mt mc mn mr mb mf mlo mhi mx mg ml mw me mo p0 _ _ _ _ _ _ _ _ _ _ _ _ (0 : Int32) zI hk ⟨hl, hc, ht, hn, hw, hr, hz, ⟨ag, ha, ea⟩, ⟨aw, hb, eb⟩, rs_fr ⟨ag, by omega, ea⟩ ⟨aw, by omega, eb⟩⟩ hq
  exact h1
