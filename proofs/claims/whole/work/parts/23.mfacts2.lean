theorem goes_0 {v : Int32} (h : ¬ (f_X7_goesOn v).1 = 0) : v = 0 := by
  by_cases e : v = 0
  · exact e
  · exfalso
    apply h
    rw [e_X7_goesOn, if_neg e]
/-- how many notes the other line can have -/
theorem most_nI : ∀ r ∈ [1, 2, 4], ∀ g, g ≤ 14 → f_X7_most (nI g) (nI r) = nI (if g = 0 then 0 else r * (g - 1) + 1) := by decide +kernel
theorem most_i {mc mr : Int32} (h : mok mc mr) : (f_X7_most mc mr).toInt = if mc.toInt = 0 then 0 else mr.toInt * (mc.toInt - 1) + 1 := by
  obtain ⟨hr, h0, h14⟩ := h
  obtain ⟨g, hg, rfl⟩ := t_nI (n := 15) h0 (by omega) (by omega)
  rw [t_n (by omega)]
  have key : ∀ r ∈ [1, 2, 4], (f_X7_most (nI g) (nI r)).toInt = if (g : Int) = 0 then 0 else (r : Int) * ((g : Int) - 1) + 1 := by
    intro r hr
    rw [most_nI r hr g (by omega)]
    have hr4 : r ≤ 4 := by
      simp at hr
      omega
    by_cases e : g = 0
    · subst e
      rfl
    · rw [if_neg e, if_neg (by omega)]
      have : r * (g - 1) ≤ 4 * 13 := Nat.mul_le_mul hr4 (by omega)
      rw [t_n (by omega)]
      obtain ⟨q, rfl⟩ : ∃ q, g = q + 1 := ⟨g - 1, by omega⟩
      simp
  rcases hr with e | e | e <;> subst e
  · exact key 1 (by simp)
  · exact key 2 (by simp)
  · exact key 4 (by simp)
theorem most_b {mc mr : Int32} (h : mok mc mr) : 0 ≤ (f_X7_most mc mr).toInt ∧ (f_X7_most mc mr).toInt ≤ 13 * mr.toInt + 1 := by
  have h1 := most_i h
  have hr := mok_r h
  obtain ⟨-, h0, h14⟩ := h
  rw [h1]
  split
  · omega
  · rcases hr with e | e | e <;> rw [e] <;> omega
def mnb (mc mr mn : Int32) : Prop := 0 ≤ mn.toInt ∧ mn.toInt ≤ (f_X7_most mc mr).toInt
theorem mx_k {mc mr mn k : Int32} (h : mok mc mr) (hn : mnb mc mr mn) (hk : 0 ≤ k.toInt) (hg : ¬ mn ≤ k) : mix mr k := by
  rw [t_le] at hg
  have := most_b h
  have := hn.2
  exact ⟨hk, by omega⟩
theorem mx_kin {mc mr mn k : Int32} (h : mok mc mr) (hn : mnb mc mr mn) (hk : 0 ≤ k.toInt) (hg : ¬ mn ≤ k) : vp_in k 53 := mx_in h (mx_k h hn hk hg)
theorem mx_nx {mc mr many i : Int32} (h : mok mc mr) (hi : mix mr i) (hm : many = f_X7_most mc mr ∧ i = many - (2 : Int32)) : vp_in (i + (1 : Int32)) 53 := by
  obtain ⟨e1, e2⟩ := hm
  have hb := most_b h
  have hr := mok_r h
  have h1 : i.toInt = many.toInt - 2 := by
    rw [e2, t_sub] <;> rw [t_2] <;> rw [e1] <;> omega
  have hi1 := hi.1
  rw [vp_in_iff, t_add] <;> rw [t_1] <;> rw [e1] at h1 <;> omega
theorem mx_str {mc mr i : Int32} (h : mok mc mr) (hi : mix mr i) (h0 : ¬ i = 0) (hs : ¬ f_X7_isStrong mr i = 0) : mix mr (i - mr) := by
  have h53 := vp_in_iff.mp (mx_in h hi)
  have hr := mok_r h
  obtain ⟨j, hj, rfl⟩ := t_nI h53.1 h53.2 (by omega)
  have key : ∀ r ∈ [1, 2, 4], ∀ j, j < 53 → ¬ nI j = 0 → ¬ f_X7_isStrong (nI r) (nI j) = 0 → 0 ≤ (nI j - nI r).toInt ∧ (nI j - nI r).toInt ≤ (nI j).toInt := by decide +kernel
  have h2 := hi.2
  rcases h.1 with e | e | e <;> subst e
  · have := key 1 (by simp) j hj h0 hs
    exact ⟨this.1, Int.le_trans this.2 h2⟩
  · have := key 2 (by simp) j hj h0 hs
    exact ⟨this.1, Int.le_trans this.2 h2⟩
  · have := key 4 (by simp) j hj h0 hs
    exact ⟨this.1, Int.le_trans this.2 h2⟩
theorem mx_gv {mc mr : Int32} (h : mok mc mr) (hv : ¬ mc = (14 : Int32)) : vp_in mc 14 := by
  have := ti_ne hv
  rw [show (14 : Int32).toInt = 14 from rfl] at this
  obtain ⟨-, h0, h14⟩ := h
  rw [vp_in_iff]
  omega
theorem mx_ot {mc mr mn : Int32} (h : mok mc mr) (hn : mnb mc mr mn) (hv : ¬ mn = f_X7_most mc mr) : vp_in mn 53 := by
  have := ti_ne hv
  have := most_b h
  have := mok_r h
  obtain ⟨h0, h1⟩ := hn
  rw [vp_in_iff]
  omega
theorem has_i {mn i : Int32} (h : ¬ f_X7_has mn i = 0) (hn : 0 ≤ mn.toInt) : 0 ≤ i.toInt ∧ i.toInt < mn.toInt := by
  have := t_up mn
  rw [e_X7_has, e_X7_in] at h
  split at h
  · exact absurd rfl h
  · rename_i h1
    split at h
    · exact absurd rfl h
    · rename_i h2
      rw [t_lt, t_0] at h1
      rw [t_lt, t_sub] at h2 <;> rw [t_1] at * <;> omega
theorem mx_hasx {mc mr mn i : Int32} (h : mok mc mr) (hn : mnb mc mr mn) (hh : ¬ f_X7_has mn i = 0) : mix mr i := by
  have h1 := has_i hh hn.1
  have := most_b h
  have := hn.2
  exact ⟨h1.1, by omega⟩
theorem mx_has {mc mr mn i : Int32} (h : mok mc mr) (hn : mnb mc mr mn) (hh : ¬ f_X7_has mn i = 0) : vp_in i 53 := mx_in h (mx_hasx h hn hh)
theorem mx_at {mc mr mn i : Int32} (h : mok mc mr) (hn : mnb mc mr mn) (ha : i = (-1 : Int32) ∨ (0 ≤ i.toInt ∧ i.toInt < mn.toInt)) (hv : ¬ i = (-1 : Int32)) : vp_in i 53 := by
  rcases ha with e | ⟨h1, h2⟩
  · exact absurd e hv
  · have := most_b h
    have := mok_r h
    have := hn.2
    rw [vp_in_iff]
    omega
theorem mx_last {mc mr : Int32} (h : mok mc mr) (h2 : 2 ≤ mc.toInt) : mix mr ((f_X7_most mc mr) - (1 : Int32)) := by
  have hb := most_b h
  have hi := most_i h
  have hr := mok_r h
  rw [if_neg (by omega)] at hi
  have : 1 ≤ (f_X7_most mc mr).toInt := by
    rw [hi]
    rcases hr with e | e | e <;> rw [e] <;> omega
  refine ⟨?_, ?_⟩ <;> rw [mx_sub1 this] <;> omega
theorem mx_most2 {mc mr : Int32} (h : mok mc mr) (h2 : 2 ≤ mc.toInt) : 2 ≤ (f_X7_most mc mr).toInt := by
  have hi := most_i h
  have hr := mok_r h
  rw [if_neg (by omega)] at hi
  rw [hi]
  rcases hr with e | e | e <;> rw [e] <;> omega
theorem mx_last1 {mc mr : Int32} (h : mok mc mr) (h2 : 2 ≤ mc.toInt) : mix mr (((f_X7_most mc mr) - (1 : Int32)) - (1 : Int32)) := by
  have hb := most_b h
  have h3 := mx_most2 h h2
  have e := mx_sub1 (i := f_X7_most mc mr) (by omega)
  refine ⟨?_, ?_⟩ <;> rw [mx_sub1 (by omega)] <;> omega
theorem mx_law {x : Int32} (h : ¬ f_X7_lawOf x = (-1 : Int32)) : vp_in (f_X7_lawOf x) 12 := by
  have key : ∀ (fu : Nat) (v1 v2 : Int32), (v1 = (-1 : Int32) ∨ vp_in v1 12) → 0 ≤ v2.toInt → (f_X7_lawOf_l4 x fu v1 v2 = (-1 : Int32) ∨ vp_in (f_X7_lawOf_l4 x fu v1 v2) 12) := by
    intro fu
    induction fu with
    | zero => intro v1 v2 _ _; exact Or.inr (show vp_in (default : Int32) 12 by unfold vp_in; decide)
    | succ n ih =>
      intro v1 v2 h1 h2
      rw [e_X7_lawOf_l4]
      split
      · exact h1
      · rename_i hg
        split
        · exact ih _ _ (Or.inr (vi_d h2 hg rfl)) (mx_s h2 hg)
        · exact ih _ _ h1 (mx_s h2 hg)
  have k := key 13 (-1 : Int32) (0 : Int32) (Or.inl rfl) (by decide)
  rw [← e_X7_lawOf] at k
  rcases k with e | e
  · exact absurd e h
  · exact e
theorem rk_w {lo hi : Int32} (hg : mrg lo hi) : ∃ w : Nat, 1 ≤ w ∧ w ≤ 10 ∧ (hi - lo) + (1 : Int32) = nI w := by
  obtain ⟨h1, h2, h3, h4⟩ := hg
  have e1 : (hi - lo).toInt = hi.toInt - lo.toInt := t_sub (by omega) (by omega)
  have e2 : ((hi - lo) + (1 : Int32)).toInt = hi.toInt - lo.toInt + 1 := by
    rw [t_add] <;> rw [t_1] <;> omega
  obtain ⟨w, hw, e⟩ := t_nI (i := (hi - lo) + (1 : Int32)) (n := 11) (by omega) (by omega) (by omega)
  rw [e, t_n (by omega)] at e2
  exact ⟨w, by omega, by omega, e⟩
theorem rk_nz {lo hi : Int32} (hg : mrg lo hi) : ¬ (hi - lo) + (1 : Int32) = 0 := by
  obtain ⟨w, h1, h2, e⟩ := rk_w hg
  rw [e]
  exact nI_ne0 (by omega) (by omega)
theorem rk_l {mc mr : Int32} (h : mok mc mr) (hr : mr = 1 ∨ mr = 2) : (f_X7_most mc mr).toInt ≤ 27 := by
  have := most_b h
  rcases hr with e | e <;> subst e
  · rw [t_1] at this; omega
  · rw [t_2] at this; omega
theorem rk_idx {k t w n : Nat} (hk : k ≤ 26) (hw : 1 ≤ w) (hw2 : w ≤ 10) (ht : t < w * w) : 100 * k + 10 * (t / w) + t % w < 2700 := by
  have h1 : t / w < w := Nat.div_lt_of_lt_mul ht
  have h2 : t % w < w := Nat.mod_lt _ (by omega)
  omega
theorem rk_t {t : Int32} {w : Nat} (hw2 : w ≤ 10) (h5 : 0 ≤ t.toInt) (hg : ¬ nI w * nI w ≤ t) : ∃ j : Nat, j < w * w ∧ t = nI j := by
  have hww : w * w ≤ 10 * 10 := Nat.mul_le_mul hw2 hw2
  rw [t_le, pk_mul, t_n (by omega)] at hg
  exact t_nI h5 (by omega) (by omega)
theorem irem_nI {a d : Nat} (ha : a < 2147483648) (h0 : 0 < d) (hd : d < 2147483648) : irem (nI a) (nI d) = nI (a % d) := pk_rem (by omega) h0 (by omega)
theorem idiv_nI {a d : Nat} (ha : a < 2147483648) (h0 : 0 < d) (hd : d < 2147483648) : idiv (nI a) (nI d) = nI (a / d) := pk_div (by omega) h0 (by omega)
theorem rk_at {mc mr lo hi k t : Int32} (h : mok mc mr) (hr : mr = 1 ∨ mr = 2) (hg : mrg lo hi) (hk : 0 ≤ k.toInt ∧ k.toInt ≤ (f_X7_most mc mr).toInt - 1) (_ : ¬ k ≤ 0) (h5 : 0 ≤ t.toInt) (hc : ¬ ((hi - lo) + (1 : Int32)) * ((hi - lo) + (1 : Int32)) ≤ t) : vp_in ((((100 : Int32) * k) + ((10 : Int32) * (idiv t ((hi - lo) + (1 : Int32))))) + (irem t ((hi - lo) + (1 : Int32)))) 2700 := by
  obtain ⟨w, h1, h2, e⟩ := rk_w hg
  rw [e] at hc ⊢
  have hl := rk_l h hr
  obtain ⟨kk, hkk, rfl⟩ := t_nI (i := k) (n := 27) hk.1 (by omega) (by omega)
  obtain ⟨tt, htt, rfl⟩ := rk_t h2 h5 hc
  have hww : w * w ≤ 10 * 10 := Nat.mul_le_mul h2 h2
  rw [idiv_nI (by omega) (by omega) (by omega), irem_nI (by omega) (by omega) (by omega), show (100 : Int32) = nI 100 from rfl, show (10 : Int32) = nI 10 from rfl, pk_mul, pk_mul, nI_add, nI_add]
  exact vp_in_nI (rk_idx (n := 0) (by omega) h1 h2 htt) (by omega)
theorem rk_f {lo hi t : Int32} (hg : mrg lo hi) (h5 : 0 ≤ t.toInt) (hc : ¬ ((hi - lo) + (1 : Int32)) * ((hi - lo) + (1 : Int32)) ≤ t) : vp_in (((100 : Int32) + ((10 : Int32) * (idiv t ((hi - lo) + (1 : Int32))))) + (irem t ((hi - lo) + (1 : Int32)))) 2700 := by
  obtain ⟨w, h1, h2, e⟩ := rk_w hg
  rw [e] at hc ⊢
  obtain ⟨tt, htt, rfl⟩ := rk_t h2 h5 hc
  have hww : w * w ≤ 10 * 10 := Nat.mul_le_mul h2 h2
  rw [idiv_nI (by omega) (by omega) (by omega), irem_nI (by omega) (by omega) (by omega), show (100 : Int32) = nI 100 from rfl, show (10 : Int32) = nI 10 from rfl, pk_mul, nI_add, nI_add]
  have := rk_idx (n := 0) (k := 1) (by omega) h1 h2 htt
  exact vp_in_nI (by omega) (by omega)
theorem rk_k {mc mr k : Int32} (h : mok mc mr) (hk : 0 ≤ k.toInt ∧ k.toInt ≤ (f_X7_most mc mr).toInt - 1) (hl : ¬ ((f_X7_most mc mr) - (1 : Int32)) ≤ k) : k.toInt + 1 ≤ (f_X7_most mc mr).toInt - 1 := by
  have hb := most_b h
  have hr := mok_r h
  rw [t_le, mx_sub1 (by omega)] at hl
  omega
theorem rk_bh {mc mr lo hi k t v : Int32} (h : mok mc mr) (hr : mr = 1 ∨ mr = 2) (hg : mrg lo hi) (hk : 0 ≤ k.toInt ∧ k.toInt ≤ (f_X7_most mc mr).toInt - 1) (hl : ¬ ((f_X7_most mc mr) - (1 : Int32)) ≤ k) (hc : ¬ ((hi - lo) + (1 : Int32)) * ((hi - lo) + (1 : Int32)) ≤ t) (h5 : 0 ≤ t.toInt) (h7 : 0 ≤ v.toInt) (hv : ¬ ((hi - lo) + (1 : Int32)) ≤ v) : vp_in ((((100 : Int32) * (k + (1 : Int32))) + ((10 : Int32) * (irem t ((hi - lo) + (1 : Int32))))) + v) 2700 := by
  obtain ⟨w, h1, h2, e⟩ := rk_w hg
  rw [e] at hc hv ⊢
  have hl2 := rk_l h hr
  have hk1 := rk_k h hk hl
  obtain ⟨kk, hkk, rfl⟩ := t_nI (i := k) (n := 27) hk.1 (by omega) (by omega)
  rw [t_n (by omega)] at hk1
  obtain ⟨tt, htt, rfl⟩ := rk_t h2 h5 hc
  rw [t_le, t_n (by omega)] at hv
  obtain ⟨vv, hvv, rfl⟩ := t_nI (i := v) (n := w) h7 (by omega) (by omega)
  have hww : w * w ≤ 10 * 10 := Nat.mul_le_mul h2 h2
  rw [irem_nI (by omega) (by omega) (by omega), show (100 : Int32) = nI 100 from rfl, show (10 : Int32) = nI 10 from rfl, nI_1, pk_mul, pk_mul, nI_add, nI_add]
  have := Nat.mod_lt tt (show w > 0 by omega)
  exact vp_in_nI (by omega) (by omega)
theorem rk_i {mc mr : Int32} (h : mok mc mr) (h2 : 2 ≤ mc.toInt) : 0 ≤ ((f_X7_most mc mr) - (1 : Int32)).toInt ∧ ((f_X7_most mc mr) - (1 : Int32)).toInt ≤ (f_X7_most mc mr).toInt - 1 := by
  have := mx_most2 h h2
  rw [mx_sub1 (by omega)]
  omega
theorem rk_d {mc mr k : Int32} (hk : 0 ≤ k.toInt ∧ k.toInt ≤ (f_X7_most mc mr).toInt - 1) (h0 : ¬ k ≤ 0) : 0 ≤ (k + (-1 : Int32)).toInt ∧ (k + (-1 : Int32)).toInt ≤ (f_X7_most mc mr).toInt - 1 := by
  rw [t_le, t_0] at h0
  have := t_up k
  rw [t_add] <;> rw [t_m1] <;> omega
theorem rk_p {mc mr k : Int32} (h : mok mc mr) (hk : 0 ≤ k.toInt ∧ k.toInt ≤ (f_X7_most mc mr).toInt - 1) (h0 : ¬ k ≤ 0) : vp_in (k - (1 : Int32)) 53 := by
  rw [t_le, t_0] at h0
  have := most_b h
  have := mok_r h
  rw [vp_in_iff, mx_sub1 (by omega)]
  omega
theorem rk_q {mc mr k : Int32} (h : mok mc mr) (hk : 0 ≤ k.toInt ∧ k.toInt ≤ (f_X7_most mc mr).toInt - 1) : vp_in k 53 := by
  have := most_b h
  have := mok_r h
  rw [vp_in_iff]
  omega
theorem rk_s {mc mr k : Int32} (h : mok mc mr) (hk : 0 ≤ k.toInt ∧ k.toInt ≤ (f_X7_most mc mr).toInt - 1) : (k + (1 : Int32)).toInt = k.toInt + 1 := by
  have := most_b h
  have := mok_r h
  rw [t_add] <;> rw [t_1] <;> omega
theorem rk_n {mc mr k : Int32} (h : mok mc mr) (hk : 0 ≤ k.toInt ∧ k.toInt ≤ (f_X7_most mc mr).toInt - 1) (hl : ¬ ((f_X7_most mc mr) - (1 : Int32)) ≤ k) : vp_in (k + (1 : Int32)) 53 := by
  have h1 := rk_k h hk hl
  have := most_b h
  have := mok_r h
  rw [vp_in_iff, rk_s h hk]
  omega
theorem rk_m {mc mr k : Int32} (h : mok mc mr) (hk : 0 ≤ k.toInt ∧ k.toInt ≤ (f_X7_most mc mr).toInt - 1) (hl : ¬ ((f_X7_most mc mr) - (1 : Int32)) ≤ k) : mix mr (k + (1 : Int32)) := by
  have h1 := rk_k h hk hl
  have := most_b h
  refine ⟨?_, ?_⟩ <;> rw [rk_s h hk] <;> omega
theorem mx_sr {mc mr mn k : Int32} (h : mok mc mr) (hn : mnb mc mr mn) (hk : 0 ≤ k.toInt) (hg : ¬ mn ≤ k) : 0 ≤ (k + mr).toInt := by
  have := (mx_k h hn hk hg).2
  have := mok_r h
  rw [t_add] <;> omega
theorem mx_dec {mc mr mn k : Int32} (h : mok mc mr) (hn : mnb mc mr mn) (hk : 0 ≤ k.toInt) (hg : ¬ mn ≤ k) : (mn.toInt - (k + mr).toInt).toNat < (mn.toInt - k.toInt).toNat := by
  have := (mx_k h hn hk hg).2
  have := mok_r h
  rw [t_le] at hg
  rw [t_add (by omega) (by omega)]
  omega
theorem mx_c1 {mc mr mn d k : Int32} (h : mok mc mr) (hn : mnb mc mr mn) (hd : 1 ≤ d.toInt) (hk : d.toInt ≤ k.toInt) (hg : ¬ mn ≤ k) : 0 ≤ k.toInt ∧ k.toInt ≤ 52 := by
  have := mx_k h hn (by omega) hg
  have := vp_in_iff.mp (mx_in h this)
  omega
theorem mx_c2 {mc mr mn d k : Int32} (h : mok mc mr) (hn : mnb mc mr mn) (hd : 1 ≤ d.toInt) (hk : d.toInt ≤ k.toInt) (hg : ¬ mn ≤ k) : 0 ≤ (k - (1 : Int32)).toInt ∧ (k - (1 : Int32)).toInt ≤ 52 := by
  have := mx_c1 h hn hd hk hg
  rw [mx_sub1 (by omega)]
  omega
theorem mx_c4 {mc mr mn d k : Int32} (h : mok mc mr) (hn : mnb mc mr mn) (hd : 1 ≤ d.toInt) (hk : d.toInt ≤ k.toInt) (hg : ¬ mn ≤ k) (h2 : ¬ k ≤ d) : vp_in ((k - d) - (1 : Int32)) 53 := by
  have := mx_c1 h hn hd hk hg
  rw [t_le] at h2
  have e : (k - d).toInt = k.toInt - d.toInt := t_sub (by omega) (by omega)
  rw [vp_in_iff, mx_sub1 (by omega)]
  omega
theorem mx_cn {d : Int32} (h : ¬ f_X7_in d (1 : Int32) (12 : Int32) = 0) : 1 ≤ d.toInt := by
  rw [e_X7_in] at h
  split at h
  · exact absurd rfl h
  · rename_i h1
    rw [t_lt, t_1] at h1
    omega
