def mok (mc mr : Int32) : Prop := (mr = 1 ∨ mr = 2 ∨ mr = 4) ∧ 0 ≤ mc.toInt ∧ mc.toInt ≤ 14
def mix (mr i : Int32) : Prop := 0 ≤ i.toInt ∧ i.toInt ≤ 13 * mr.toInt
def mix1 (mr i : Int32) : Prop := 1 ≤ i.toInt ∧ i.toInt ≤ 13 * mr.toInt
def mix2 (mr i : Int32) : Prop := 2 ≤ i.toInt ∧ i.toInt ≤ 13 * mr.toInt
def mrg (lo hi : Int32) : Prop := 0 ≤ lo.toInt ∧ hi.toInt ≤ 27 ∧ lo.toInt ≤ hi.toInt ∧ hi.toInt ≤ lo.toInt + 9
theorem t_add {a b : Int32} (h1 : -2147483648 ≤ a.toInt + b.toInt) (h2 : a.toInt + b.toInt < 2147483648) : (a + b).toInt = a.toInt + b.toInt := by
  rw [Int32.toInt_add]
  exact Int.bmod_eq_of_le (by omega) (by omega)
theorem t_sub {a b : Int32} (h1 : -2147483648 ≤ a.toInt - b.toInt) (h2 : a.toInt - b.toInt < 2147483648) : (a - b).toInt = a.toInt - b.toInt := by
  rw [Int32.toInt_sub]
  exact Int.bmod_eq_of_le (by omega) (by omega)
theorem t_mul {a b : Int32} (h1 : -2147483648 ≤ a.toInt * b.toInt) (h2 : a.toInt * b.toInt < 2147483648) : (a * b).toInt = a.toInt * b.toInt := by
  rw [Int32.toInt_mul]
  exact Int.bmod_eq_of_le (by omega) (by omega)
theorem t_le {a b : Int32} : a ≤ b ↔ a.toInt ≤ b.toInt := Int32.le_iff_toInt_le
theorem t_lt {a b : Int32} : a < b ↔ a.toInt < b.toInt := Int32.lt_iff_toInt_lt
theorem t_0 : (0 : Int32).toInt = 0 := rfl
theorem t_1 : (1 : Int32).toInt = 1 := rfl
theorem t_2 : (2 : Int32).toInt = 2 := rfl
theorem t_4 : (4 : Int32).toInt = 4 := rfl
theorem t_m1 : (-1 : Int32).toInt = -1 := rfl
theorem t_up (a : Int32) : -2147483648 ≤ a.toInt ∧ a.toInt < 2147483648 := ⟨Int32.le_toInt a, Int32.toInt_lt a⟩
/-- a number that lies between 0 and n is one of the first n -/
theorem t_nI {i : Int32} {n : Nat} (h0 : 0 ≤ i.toInt) (h1 : i.toInt < n) (hn : n < 2147483648) : ∃ j : Nat, j < n ∧ i = nI j := vp_in_of (vp_in_iff.mpr ⟨h0, h1⟩) (by omega)
theorem t_n {j : Nat} (h : j < 2147483648) : (nI j).toInt = (j : Int) := nI_toInt (by omega)
theorem mok_r {mc mr : Int32} (h : mok mc mr) : mr.toInt = 1 ∨ mr.toInt = 2 ∨ mr.toInt = 4 := by
  rcases h.1 with h | h | h <;> subst h
  · exact Or.inl rfl
  · exact Or.inr (Or.inl rfl)
  · exact Or.inr (Or.inr rfl)
theorem mx_nz {mc mr : Int32} (h : mok mc mr) : ¬ mr = 0 := by
  rcases h.1 with h | h | h <;> subst h <;> decide
theorem mx_in {mc mr i : Int32} (h : mok mc mr) (hi : mix mr i) : vp_in i 53 := by
  rw [vp_in_iff]
  have := mok_r h
  obtain ⟨h1, h2⟩ := hi
  omega
theorem mx_in1 {mc mr i : Int32} (h : mok mc mr) (hi : mix1 mr i) : vp_in i 53 := by
  rw [vp_in_iff]
  have := mok_r h
  obtain ⟨h1, h2⟩ := hi
  omega
theorem mx_sub1 {i : Int32} (h : 1 ≤ i.toInt) : (i - (1 : Int32)).toInt = i.toInt - 1 := by
  have := t_up i
  rw [t_sub] <;> rw [t_1] <;> omega
theorem mx_inp {mc mr i : Int32} (h : mok mc mr) (hi : mix1 mr i) : vp_in (i - (1 : Int32)) 53 := by
  have := mok_r h
  obtain ⟨h1, h2⟩ := hi
  rw [vp_in_iff, mx_sub1 h1]
  omega
theorem mx_1m {mr i : Int32} (hi : mix1 mr i) : mix mr i := ⟨by have := hi.1; omega, hi.2⟩
theorem mx_1p {mc mr i : Int32} (_ : mok mc mr) (hi : mix1 mr i) : mix mr (i - (1 : Int32)) := by
  obtain ⟨h1, h2⟩ := hi
  refine ⟨?_, ?_⟩ <;> rw [mx_sub1 h1] <;> omega
theorem mx_21 {mr i : Int32} (hi : mix2 mr i) : mix1 mr i := ⟨by have := hi.1; omega, hi.2⟩
theorem mx_2p {mc mr i : Int32} (_ : mok mc mr) (hi : mix2 mr i) : mix1 mr (i - (1 : Int32)) := by
  obtain ⟨h1, h2⟩ := hi
  refine ⟨?_, ?_⟩ <;> rw [mx_sub1 (by omega)] <;> omega
theorem ti_ne {a b : Int32} (h : ¬ a = b) : a.toInt ≠ b.toInt := fun e => h (Int32.toInt_inj.mp e)
theorem mx_01 {mr i : Int32} (hi : mix mr i) (h : ¬ i = 0) : mix1 mr i := by
  have h := ti_ne h
  rw [t_0] at h
  obtain ⟨h1, h2⟩ := hi
  exact ⟨by omega, h2⟩
theorem mx_01b {mr i : Int32} (hi : mix mr i) (h : ¬ i ≤ (1 : Int32)) : mix1 mr i := by
  rw [t_le, t_1] at h
  exact ⟨by omega, hi.2⟩
theorem mx_02 {mr i : Int32} (hi : mix mr i) (h : ¬ i ≤ (1 : Int32)) : mix2 mr i := by
  rw [t_le, t_1] at h
  exact ⟨by omega, hi.2⟩
theorem mx_0 {mc mr : Int32} (h : mok mc mr) : mix mr (0 : Int32) := by
  have := mok_r h
  refine ⟨?_, ?_⟩ <;> rw [t_0] <;> omega
theorem mx_1 {mc mr : Int32} (h : mok mc mr) : mix mr (1 : Int32) := by
  have := mok_r h
  refine ⟨?_, ?_⟩ <;> rw [t_1] <;> omega
theorem mx_div {mc mr i : Int32} (h : mok mc mr) (hi : mix mr i) : vp_in (idiv i mr) 14 := by
  have h53 := vp_in_iff.mp (mx_in h hi)
  obtain ⟨j, hj, rfl⟩ := t_nI h53.1 h53.2 (by omega)
  have h2 := hi.2
  rw [t_n (by omega)] at h2
  rcases h.1 with e | e | e <;> subst e
  · have e1 : (1 : Int32).toInt = 1 := rfl
    rw [e1] at h2
    rw [show (1 : Int32) = nI 1 from rfl]
    rw [idiv, pk_div (by omega) (by omega) (by omega)]
    exact vp_in_nI (by omega) (by omega)
  · have e1 : (2 : Int32).toInt = 2 := rfl
    rw [e1] at h2
    rw [show (2 : Int32) = nI 2 from rfl]
    rw [idiv, pk_div (by omega) (by omega) (by omega)]
    exact vp_in_nI (by omega) (by omega)
  · have e1 : (4 : Int32).toInt = 4 := rfl
    rw [e1] at h2
    rw [show (4 : Int32) = nI 4 from rfl]
    rw [idiv, pk_div (by omega) (by omega) (by omega)]
    exact vp_in_nI (by omega) (by omega)
theorem vi_d {i N : Int32} {n : Nat} (h1 : 0 ≤ i.toInt) (h2 : ¬ N ≤ i) (hn : N.toInt = n) : vp_in i n := by
  rw [vp_in_iff]
  rw [t_le] at h2
  omega
theorem mx_s {i N : Int32} (h1 : 0 ≤ i.toInt) (h2 : ¬ N ≤ i) : 0 ≤ (i + (1 : Int32)).toInt := by
  rw [t_le] at h2
  have := t_up N
  rw [t_add] <;> rw [t_1] <;> omega
theorem mx_s1 {i N : Int32} (h1 : 1 ≤ i.toInt) (h2 : ¬ N ≤ i) : 1 ≤ (i + (1 : Int32)).toInt := by
  rw [t_le] at h2
  have := t_up N
  rw [t_add] <;> rw [t_1] <;> omega
theorem mx_011 {v : Int32} (h : v = (0 : Int32) ∨ v = (11 : Int32)) : 0 ≤ v.toInt := by
  rcases h with h | h <;> subst h <;> decide
theorem mx_ca {i N : Int32} (h1 : 0 ≤ i.toInt) (h2 : ¬ N ≤ i) (h3 : N.toInt ≤ 12) : vp_in i 12 := by
  rw [vp_in_iff]
  rw [t_le] at h2
  omega
theorem mx_t1 {a b : Int32} (ha : 0 ≤ a.toInt ∧ a.toInt ≤ 52) (hb : 1 ≤ b.toInt ∧ b.toInt ≤ a.toInt) : vp_in (a - b) 53 := by
  rw [vp_in_iff]
  rw [t_sub (by omega) (by omega)]
  omega
theorem mx_t2 {a : Int32} (ha : 0 ≤ a.toInt ∧ a.toInt ≤ 52) : vp_in a 53 := by
  rw [vp_in_iff]
  omega
theorem mx_ak {k n : Int32} (h : 0 ≤ k.toInt) (h2 : ¬ n ≤ k) : 0 ≤ k.toInt ∧ k.toInt < n.toInt := by
  rw [t_le] at h2
  omega
theorem mx_cs {d k n : Int32} (hd : 1 ≤ d.toInt) (hk : d.toInt ≤ k.toInt) (h2 : ¬ n ≤ k) : d.toInt ≤ (k + (1 : Int32)).toInt := by
  rw [t_le] at h2
  have := t_up n
  rw [t_add] <;> rw [t_1] <;> omega
theorem mx_c3 {d k : Int32} (hd : 1 ≤ d.toInt) (hk : d.toInt ≤ k.toInt) (h2 : ¬ k ≤ d) : 1 ≤ d.toInt ∧ d.toInt ≤ (k - (1 : Int32)).toInt := by
  rw [t_le] at h2
  rw [mx_sub1 (by omega)]
  omega
