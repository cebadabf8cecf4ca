/-! ===== a good line ===== -/
/-- the weights of the class are the model's -/
def wtr (wv mw : Nat → Int32) : Prop := ∀ j, j < 12 → wv j = mw j ∧ 0 ≤ (mw j).toInt ∧ (mw j).toInt ≤ 10
section
variable {gs gf gb gc tc mc mr mf mb i : Int32} {gv tv mg ml mw wv : Nat → Int32}
theorem cost_w (hw : wtr wv mw) (b : Nat → Bool) : f_X2_costOf wv (nI (mkn b 12)) = f_X2_costOf mw (nI (mkn b 12)) := by
  rw [cost_mk, cost_mk]
  exact tls_congr 12 0 (fun j _ h => by rw [wsum, wsum, (hw j (by omega)).1])
theorem weigh_w (hw : wtr wv mw) (p : Int32) : f_X2_weighing wv p = nI (mkn (fun k => decide (¬ mw k < p)) 12) := by
  have hc : ∀ (a b : Nat → Bool) n, (∀ j, j < n → a j = b j) → mkn a n = mkn b n := by
    intro a b n
    induction n with
    | zero => exact fun _ => rfl
    | succ n ih => exact fun h => by rw [mkn, mkn, ih (fun j hj => h j (by omega)), h n (by omega)]
  rw [weigh_mk, hc _ (fun k => decide (¬ mw k < p)) 12 (fun j hj => by rw [(hw j hj).1])]
/-- the laws of weight 10 that a note breaks -/
def hvb (mc mr mb mf : Int32) (mg ml mw : Nat → Int32) (i n : Int32) (k : Nat) : Bool := flb mc mr mb mf mg ml i n k && decide (¬ mw k < (10 : Int32))
theorem gd_in0 {v2 : Int32} {K : Int32 → Int32 × Int32} : ∀ n k fu, k + n = 12 → n < fu → f_X7_isGood_l26 mc tc mr mb mf mg ml mw v2 K fu (0 : Int32) (nI k) = K (0 : Int32) := by
  intro n
  induction n with
  | zero =>
    intro k fu hk hf
    obtain ⟨fu, rfl⟩ : ∃ f, fu = f + 1 := ⟨fu - 1, by omega⟩
    have e : k = 12 := by omega
    subst e
    rw [e_X7_isGood_l26, if_pos (by decide)]
  | succ n ih =>
    intro k fu hk hf
    obtain ⟨fu, rfl⟩ : ∃ f, fu = f + 1 := ⟨fu - 1, by omega⟩
    rw [e_X7_isGood_l26, if_neg (by rw [show (12 : Int32) = nI 12 from rfl]; exact nI_ge (by omega) (by omega)), if_pos rfl, e_X7_isGood_j64, e_X7_isGood_j65, ← nI_succ]
    exact ih (k + 1) fu (by omega) (by omega)
theorem w_10 (hw : wtr wv mw) {k : Nat} (hk : k < 12) : (mw k = (10 : Int32)) ↔ ¬ mw k < (10 : Int32) := by
  obtain ⟨_, h0, h1⟩ := hw k hk
  have h10 : (10 : Int32).toInt = 10 := rfl
  rw [t_lt, h10]
  constructor
  · intro e
    rw [e, h10]
    omega
  · intro h
    apply ma_inj
    rw [h10]
    omega
theorem gd_in {v2 : Int32} {K : Int32 → Int32 × Int32} (hw : wtr wv mw) : ∀ n k fu, k + n = 12 → n < fu → f_X7_isGood_l26 mc tc mr mb mf mg ml mw v2 K fu (1 : Int32) (nI k) = K (if anb (hvb mc mr mb mf mg ml mw v2 tc) n k = true then (0 : Int32) else (1 : Int32)) := by
  intro n
  induction n with
  | zero =>
    intro k fu hk hf
    obtain ⟨fu, rfl⟩ : ∃ f, fu = f + 1 := ⟨fu - 1, by omega⟩
    have e : k = 12 := by omega
    subst e
    rw [e_X7_isGood_l26, if_pos (by decide), anb, if_neg (by decide)]
  | succ n ih =>
    intro k fu hk hf
    obtain ⟨fu, rfl⟩ : ∃ f, fu = f + 1 := ⟨fu - 1, by omega⟩
    have h10 := w_10 (k := k) hw (by omega)
    have hb := flb_f (mc := mc) (mr := mr) (mb := mb) (mf := mf) (mg := mg) (ml := ml) (i := v2) (n := tc) (k := k)
    rw [e_X7_isGood_l26, if_neg (by rw [show (12 : Int32) = nI 12 from rfl]; exact nI_ge (by omega) (by omega)), if_neg (by decide), nI_clamp (by omega), e_X7_isGood_j64, e_X7_isGood_j60, e_X7_isGood_j65, e_X7_isGood_j65, ← nI_succ, anb, hvb]
    by_cases hm : mw k = (10 : Int32)
    · rw [if_pos hm, decide_eq_true (h10.mp hm), Bool.and_true]
      cases hbk : flb mc mr mb mf mg ml v2 tc k
      · rw [if_pos (hb.mpr hbk), Bool.false_or]
        exact ih (k + 1) fu (by omega) (by omega)
      · rw [if_neg (fun e => by rw [hb.mp e] at hbk; cases hbk), Bool.true_or, if_pos rfl]
        exact gd_in0 n (k + 1) fu (by omega) (by omega)
    · rw [if_neg hm, decide_eq_false (fun e => hm (h10.mpr e)), Bool.and_false, Bool.false_or]
      exact ih (k + 1) fu (by omega) (by omega)
theorem whole_eq (h : mok mc mr) (hg : gsr gs mr) : f_X3_isWhole tc mc gs = f_X7_isWhole mc tc mr := by
  rw [e_X3_isWhole, e_X7_isWhole, ma_room h hg, e_X1_size]
  have h2 : mc < (2 : Int32) ↔ mc ≤ (1 : Int32) := by
    rw [t_lt, t_le, t_1, t_2]
    omega
  by_cases c : mc ≤ (1 : Int32)
  · rw [if_pos c, if_pos (h2.mpr c)]
  · rw [if_neg c, if_neg (fun e => c (h2.mp e))]
theorem good_eq (hl : lnr gs gf gb gv tv mc mr mf mb mg ml) (hw : wtr wv mw) (hn : mnb mc mr tc) : f_X7_isGood mc tc mr mb mf mg ml mw = (f_X6_isGood tc tv mc gs gb gf gv wv, (0 : Int32)) := by
  have h53 := most_53 hl.1
  have out : ∀ fu v2, 0 < fu → f_X7_isGood_l12 mc tc mr mb mf mg ml mw fu (0 : Int32) v2 = ((0 : Int32), (0 : Int32)) := by
    intro fu v2 hf
    obtain ⟨fu, rfl⟩ : ∃ f, fu = f + 1 := ⟨fu - 1, by omega⟩
    rw [e_X7_isGood_l12, if_pos (rfl : (0 : Int32) = 0)]
    split <;> rfl
  have key : ∀ n fu fu' (v2 : Int32), 0 ≤ v2.toInt → v2.toInt ≤ tc.toInt → (tc.toInt - v2.toInt).toNat = n → n < fu → n < fu' → f_X7_isGood_l12 mc tc mr mb mf mg ml mw fu' (1 : Int32) v2 = (f_X3_isFree_l2 tc tv mc gs gb gf gv (f_X2_weighing wv (10 : Int32)) fu v2, (0 : Int32)) := by
    intro n
    induction n with
    | zero =>
      intro fu fu' v2 h0 h1 hk hf hf'
      obtain ⟨fu, rfl⟩ : ∃ f, fu = f + 1 := ⟨fu - 1, by omega⟩
      obtain ⟨fu', rfl⟩ : ∃ f, fu' = f + 1 := ⟨fu' - 1, by omega⟩
      have hle : tc ≤ v2 := by rw [t_le]; omega
      rw [e_X3_isFree_l2, e_X7_isGood_l12, if_pos hle, if_pos hle]
    | succ n ih =>
      intro fu fu' v2 h0 h1 hk hf hf'
      obtain ⟨fu, rfl⟩ : ∃ f, fu = f + 1 := ⟨fu - 1, by omega⟩
      obtain ⟨fu', rfl⟩ : ∃ f, fu' = f + 1 := ⟨fu' - 1, by omega⟩
      have hu := t_up tc
      have hle : ¬ tc ≤ v2 := by rw [t_le]; omega
      have ha : (v2 + (1 : Int32)).toInt = v2.toInt + 1 := t_add (b := (1 : Int32)) (by rw [t_1]; omega) (by rw [t_1]; omega)
      have hi := gd_in (mc := mc) (tc := tc) (mr := mr) (mb := mb) (mf := mf) (mg := mg) (ml := ml) (v2 := v2) (K := f_X7_isGood_j72 v2 (f_X7_isGood_l12 mc tc mr mb mf mg ml mw fu')) hw 12 0 13 rfl (by omega)
      rw [show nI 0 = (0 : Int32) from rfl] at hi
      rw [e_X3_isFree_l2, e_X7_isGood_l12, if_neg hle, if_neg hle, if_neg (by decide), hi, e_X7_isGood_j72, at_mk hl h0 (by have := hn.2; omega), weigh_w hw, and_mk]
      have h0' := mk_0 (fun k => flb mc mr mb mf mg ml v2 tc k && decide (¬ mw k < (10 : Int32)))
      have he : anb (hvb mc mr mb mf mg ml mw v2 tc) 12 0 = anb (fun k => flb mc mr mb mf mg ml v2 tc k && decide (¬ mw k < (10 : Int32))) 12 0 := rfl
      rw [he]
      cases hb : anb (fun k => flb mc mr mb mf mg ml v2 tc k && decide (¬ mw k < (10 : Int32))) 12 0
      · rw [if_neg (by decide), if_pos (h0'.mpr hb), ih fu fu' _ (by omega) (by omega) (by omega) (by omega) (by omega), weigh_w hw]
      · rw [if_pos rfl, if_neg (fun e => by rw [h0'.mp e] at hb; cases hb)]
        exact out fu' _ (by omega)
  rw [e_X7_isGood, e_X6_isGood, whole_eq hl.1 hl.2.1, e_X7_isWhole]
  have go := key _ ((tc.toInt - (0 : Int32).toInt).toNat + 1) ((tc.toInt - (0 : Int32).toInt).toNat + 1) (0 : Int32) (by rw [t_0]; omega) (by rw [t_0]; exact hn.1) rfl (by omega) (by omega)
  have hz : ∀ fu v, f_X3_isFree_l2 tc tv mc gs gb gf gv (f_X2_weighing wv (10 : Int32)) (fu + 1) v = 0 ∨ f_X3_isFree_l2 tc tv mc gs gb gf gv (f_X2_weighing wv (10 : Int32)) (fu + 1) v = 1 ∨ ∃ v', f_X3_isFree_l2 tc tv mc gs gb gf gv (f_X2_weighing wv (10 : Int32)) (fu + 1) v = f_X3_isFree_l2 tc tv mc gs gb gf gv (f_X2_weighing wv (10 : Int32)) fu v' := by
    intro fu v
    rw [e_X3_isFree_l2]
    split
    · exact Or.inr (Or.inl rfl)
    · split
      · exact Or.inr (Or.inr ⟨_, rfl⟩)
      · exact Or.inl rfl
  have hz2 : ∀ fu v, f_X3_isFree_l2 tc tv mc gs gb gf gv (f_X2_weighing wv (10 : Int32)) fu v = 0 ∨ f_X3_isFree_l2 tc tv mc gs gb gf gv (f_X2_weighing wv (10 : Int32)) fu v = 1 := by
    intro fu
    induction fu with
    | zero => exact fun v => Or.inl rfl
    | succ fu ih =>
      intro v
      rcases hz fu v with h | h | ⟨v', h⟩
      · exact Or.inl h
      · exact Or.inr h
      · rw [h]
        exact ih v'
  by_cases c1 : mc ≤ (1 : Int32)
  · rw [if_pos c1, if_pos rfl]
    exact out _ _ (by omega)
  · rw [if_neg c1]
    by_cases c2 : tc = f_X7_most mc mr
    · rw [if_pos c2, if_neg (by decide), go, e_X3_isFree]
      rcases hz2 ((tc.toInt - (0 : Int32).toInt).toNat + 1) (0 : Int32) with h | h
      · rw [h, if_pos rfl]
      · rw [h, if_neg (by decide)]
    · rw [if_neg c2, if_pos rfl]
      exact out _ _ (by omega)
end
