/-! ===== the two writings of pitches and intervals agree ===== -/
def gsr (gs mr : Int32) : Prop := (gs = 0 ∧ mr = 1) ∨ (gs = 1 ∧ mr = 2) ∨ (gs = 2 ∧ mr = 4)
theorem ma_shift {x : Int32} {lo n : Nat} (h1 : -(lo : Int) ≤ x.toInt) (h2 : x.toInt < (n : Int) - lo) (hn : n < 1000000) (hl : lo < 1000000) : ∃ j : Nat, j < n ∧ x = nI j - nI lo := by
  have e0 : (nI lo).toInt = (lo : Int) := t_n (by omega)
  have e1 : (x + nI lo).toInt = x.toInt + lo := by
    rw [t_add] <;> rw [e0] <;> omega
  obtain ⟨j, hj, e⟩ := t_nI (i := x + nI lo) (n := n) (by omega) (by omega) (by omega)
  refine ⟨j, hj, ?_⟩
  rw [← e]
  exact (Int32.add_sub_cancel x (nI lo)).symm
theorem ma_pitch {x : Int32} (h1 : -21 ≤ x.toInt) (h2 : x.toInt ≤ 48) : f_X5_heightOf x = f_X7_pitchOf x := by
  have key : ∀ j, j < 70 → f_X5_heightOf (nI j - nI 21) = f_X7_pitchOf (nI j - nI 21) := by decide +kernel
  obtain ⟨j, hj, rfl⟩ := ma_shift (lo := 21) (n := 70) (by omega) (by omega) (by omega) (by omega)
  exact key j hj
/-- how high a note is lies in bounds -/
theorem ma_pb {x : Int32} (h1 : -21 ≤ x.toInt) (h2 : x.toInt ≤ 48) : -36 ≤ (f_X7_pitchOf x).toInt ∧ (f_X7_pitchOf x).toInt ≤ 84 := by
  have key : ∀ j, j < 70 → -36 ≤ (f_X7_pitchOf (nI j - nI 21)).toInt ∧ (f_X7_pitchOf (nI j - nI 21)).toInt ≤ 84 := by decide +kernel
  obtain ⟨j, hj, rfl⟩ := ma_shift (lo := 21) (n := 70) (by omega) (by omega) (by omega) (by omega)
  exact key j hj
theorem ma_neg {x : Int32} (h : -2147483648 < x.toInt) : (-x).toInt = -x.toInt := by
  have := t_up x
  rw [Int32.toInt_neg]
  exact Int.bmod_eq_of_le (by omega) (by omega)
theorem ma_inj {a b : Int32} (h : a.toInt = b.toInt) : a = b := Int32.toInt_inj.mp h
theorem ma_abs {x : Int32} (h : -2147483648 < x.toInt) : iabs x = nI x.toInt.natAbs := by
  have hu := t_up x
  apply ma_inj
  rw [t_n (by omega), iabs]
  split
  · rename_i h1
    rw [t_le, t_0] at h1
    omega
  · rename_i h1
    rw [t_le, t_0] at h1
    rw [t_sub] <;> rw [t_0] <;> omega
theorem ma_size {x : Int32} (h : -2147483648 < x.toInt) : f_X7_size x = nI x.toInt.natAbs := by
  have hu := t_up x
  apply ma_inj
  rw [t_n (by omega), e_X7_size]
  split
  · rename_i h1
    rw [t_le, t_0] at h1
    omega
  · rename_i h1
    rw [t_le, t_0] at h1
    rw [ma_neg h]
    omega
theorem ma_as {x : Int32} (h : -2147483648 < x.toInt) : iabs x = f_X7_size x := by rw [ma_abs h, ma_size h]
/-- the model's kind of an interval and the class's number of it -/
def KG (k g : Int32) : Prop := (k = 0 ∧ g = 0) ∨ (k = 1 ∧ g = (55 : Int32)) ∨ (k = (2 : Int32) ∧ f_X5_isImperfect g = 1 ∧ ¬ g = 0 ∧ ¬ g = (55 : Int32)) ∨ (k = (3 : Int32) ∧ f_X5_isImperfect g = 0 ∧ ¬ g = 0 ∧ ¬ g = (55 : Int32))
theorem ma_kr {s t s' t' : Int32} (h1 : irem (f_X7_size s) (7 : Int32) = irem (f_X7_size s') (7 : Int32)) (h2 : irem (f_X7_size t) (12 : Int32) = irem (f_X7_size t') (12 : Int32)) : f_X7_kind s t = f_X7_kind s' t' := by
  have e58 : ∀ v1 v2, f_X7_kind_j58 s t v1 v2 = f_X7_kind_j58 s' t' v1 v2 := fun v1 v2 => by
    rw [e_X7_kind_j58, e_X7_kind_j58, e_X7_kind_j72, e_X7_kind_j72, h1, h2]
  have e35 : ∀ v1, f_X7_kind_j35 s t v1 = f_X7_kind_j35 s' t' v1 := fun v1 => by
    rw [e_X7_kind_j35, e_X7_kind_j35, e_X7_kind_j57, e_X7_kind_j57, h1, h2, e58, e58]
  rw [e_X7_kind, e_X7_kind, e_X7_kind_j34, e_X7_kind_j34, h1, h2, e35, e35]
theorem ma_gr {s t s' t' : Int32} (h1 : irem (iabs s) (7 : Int32) = irem (iabs s') (7 : Int32)) (h2 : irem (iabs t) (12 : Int32) = irem (iabs t') (12 : Int32)) : f_X5_gap s t = f_X5_gap s' t' := by
  rw [e_X5_gap, e_X5_gap, h1, h2]
theorem ma_kg {s t : Int32} (hs : -1000000 ≤ s.toInt ∧ s.toInt ≤ 1000000) (ht : -1000000 ≤ t.toInt ∧ t.toInt ≤ 1000000) : KG (f_X7_kind s t) (f_X5_gap s t) := by
  have key : ∀ a, a < 7 → ∀ b, b < 12 → (f_X7_kind (nI a) (nI b) = 0 ∧ f_X5_gap (nI a) (nI b) = 0) ∨ (f_X7_kind (nI a) (nI b) = 1 ∧ f_X5_gap (nI a) (nI b) = (55 : Int32)) ∨ (f_X7_kind (nI a) (nI b) = (2 : Int32) ∧ f_X5_isImperfect (f_X5_gap (nI a) (nI b)) = 1 ∧ ¬ f_X5_gap (nI a) (nI b) = 0 ∧ ¬ f_X5_gap (nI a) (nI b) = (55 : Int32)) ∨ (f_X7_kind (nI a) (nI b) = (3 : Int32) ∧ f_X5_isImperfect (f_X5_gap (nI a) (nI b)) = 0 ∧ ¬ f_X5_gap (nI a) (nI b) = 0 ∧ ¬ f_X5_gap (nI a) (nI b) = (55 : Int32)) := by decide +kernel
  have hr7 : ∀ n : Nat, n ≤ 1000000 → irem (nI n) (7 : Int32) = nI (n % 7) := fun n hn => irem_nI (d := 7) (by omega) (by omega) (by omega)
  have hr12 : ∀ n : Nat, n ≤ 1000000 → irem (nI n) (12 : Int32) = nI (n % 12) := fun n hn => irem_nI (d := 12) (by omega) (by omega) (by omega)
  have hab : ∀ n : Nat, n < 1000000 → iabs (nI n) = nI n := fun n hn => by
    rw [ma_abs (by rw [t_n (by omega)]; omega), t_n (by omega)]
    rfl
  have hsz : ∀ n : Nat, n < 1000000 → f_X7_size (nI n) = nI n := fun n hn => by
    rw [ma_size (by rw [t_n (by omega)]; omega), t_n (by omega)]
    rfl
  have m7 : s.toInt.natAbs % 7 < 7 := Nat.mod_lt _ (by omega)
  have m12 : t.toInt.natAbs % 12 < 12 := Nat.mod_lt _ (by omega)
  have e1 : f_X7_kind s t = f_X7_kind (nI (s.toInt.natAbs % 7)) (nI (t.toInt.natAbs % 12)) := by
    apply ma_kr
    · rw [ma_size (by omega), hsz _ (by omega), hr7 _ (by omega), hr7 _ (by omega), Nat.mod_mod]
    · rw [ma_size (by omega), hsz _ (by omega), hr12 _ (by omega), hr12 _ (by omega), Nat.mod_mod]
  have e2 : f_X5_gap s t = f_X5_gap (nI (s.toInt.natAbs % 7)) (nI (t.toInt.natAbs % 12)) := by
    apply ma_gr
    · rw [ma_abs (by omega), hab _ (by omega), hr7 _ (by omega), hr7 _ (by omega), Nat.mod_mod]
    · rw [ma_abs (by omega), hab _ (by omega), hr12 _ (by omega), hr12 _ (by omega), Nat.mod_mod]
  rw [e1, e2]
  exact key _ m7 _ m12
theorem kg_perfect {k g : Int32} (h : KG k g) : f_X5_isPerfect g = 0 ↔ (2 : Int32) ≤ k := by
  rw [e_X5_isPerfect]
  rcases h with ⟨rfl, rfl⟩ | ⟨rfl, rfl⟩ | ⟨rfl, -, h1, h2⟩ | ⟨rfl, -, h1, h2⟩
  · decide
  · decide
  · rw [if_neg h1, if_neg h2]; decide
  · rw [if_neg h1, if_neg h2]; decide
theorem kg_unison {k g : Int32} (h : KG k g) : f_X5_isUnison g = 0 ↔ ¬ k = 0 := by
  rw [e_X5_isUnison]
  rcases h with ⟨rfl, rfl⟩ | ⟨rfl, rfl⟩ | ⟨rfl, -, h1, h2⟩ | ⟨rfl, -, h1, h2⟩
  · decide
  · decide
  · rw [if_neg h1]; decide
  · rw [if_neg h1]; decide
theorem kg_fifth {k g : Int32} (h : KG k g) : f_X5_isFifth g = 0 ↔ ¬ k = 1 := by
  rw [e_X5_isFifth]
  rcases h with ⟨rfl, rfl⟩ | ⟨rfl, rfl⟩ | ⟨rfl, -, h1, h2⟩ | ⟨rfl, -, h1, h2⟩
  · decide
  · decide
  · rw [if_neg h2]; decide
  · rw [if_neg h2]; decide
theorem kg_diss {k g : Int32} (h : KG k g) : f_X5_isDissonant g = 0 ↔ ¬ k = (3 : Int32) := by
  rw [e_X5_isDissonant, e_X5_isPerfect]
  rcases h with ⟨rfl, rfl⟩ | ⟨rfl, rfl⟩ | ⟨rfl, h0, h1, h2⟩ | ⟨rfl, h0, h1, h2⟩
  · decide
  · decide
  · rw [if_neg h1, if_neg h2, h0]; decide
  · rw [if_neg h1, if_neg h2, h0]; decide
theorem kg_sign {k g : Int32} (h : KG k g) : f_X5_signOf g = (if k = 0 then (117 : Int32) else (if k = (1 : Int32) then (102 : Int32) else (if k = (2 : Int32) then (105 : Int32) else (100 : Int32)))) := by
  rw [e_X5_signOf]
  rcases h with ⟨rfl, rfl⟩ | ⟨rfl, rfl⟩ | ⟨rfl, h0, h1, h2⟩ | ⟨rfl, h0, h1, h2⟩
  · decide
  · decide
  · rw [if_neg h1, if_neg h2, h0]; decide
  · rw [if_neg h1, if_neg h2, h0]; decide
/-- two perfect intervals are the same in both writings -/
theorem kg_eq {k g k' g' : Int32} (h : KG k g) (h' : KG k' g') (hp : ¬ (2 : Int32) ≤ k) : g = g' ↔ k' = k := by
  rcases h with ⟨rfl, rfl⟩ | ⟨rfl, rfl⟩ | ⟨rfl, h0, h1, h2⟩ | ⟨rfl, h0, h1, h2⟩
  · rcases h' with ⟨rfl, rfl⟩ | ⟨rfl, rfl⟩ | ⟨rfl, -, h3, h4⟩ | ⟨rfl, -, h3, h4⟩
    · decide
    · decide
    · exact ⟨fun e => absurd e.symm h3, fun e => absurd e (by decide)⟩
    · exact ⟨fun e => absurd e.symm h3, fun e => absurd e (by decide)⟩
  · rcases h' with ⟨rfl, rfl⟩ | ⟨rfl, rfl⟩ | ⟨rfl, -, h3, h4⟩ | ⟨rfl, -, h3, h4⟩
    · decide
    · decide
    · exact ⟨fun e => absurd e.symm h4, fun e => absurd e (by decide)⟩
    · exact ⟨fun e => absurd e.symm h4, fun e => absurd e (by decide)⟩
  · exact absurd (by decide) hp
  · exact absurd (by decide) hp
/-! ===== the two grounds and the two lines ===== -/
/-- what the class and the model share: the given line, the ratio, the line's notes; all notes are notes -/
def lnr (gs gf gb : Int32) (gv tv : Nat → Int32) (mc mr mf mb : Int32) (mg ml : Nat → Int32) : Prop :=
  mok mc mr ∧ gsr gs mr ∧ gf = mf ∧ gb = mb ∧ (∀ j, j < 14 → gv j = mg j ∧ 0 ≤ (mg j).toInt ∧ (mg j).toInt ≤ 27) ∧ (∀ j, j < 53 → tv j = ml j ∧ 0 ≤ (ml j).toInt ∧ (ml j).toInt ≤ 27)
theorem gsr_nI {gs mr : Int32} (h : gsr gs mr) : ∃ g, g < 3 ∧ gs = nI g ∧ mr = nI (2 ^ g) := by
  rcases h with ⟨h1, h2⟩ | ⟨h1, h2⟩ | ⟨h1, h2⟩
  · exact ⟨0, by omega, h1, h2⟩
  · exact ⟨1, by omega, h1, h2⟩
  · exact ⟨2, by omega, h1, h2⟩
theorem ma_room {gs mc mr : Int32} (h : mok mc mr) (hg : gsr gs mr) : f_X1_room mc gs = f_X7_most mc mr := by
  have key : ∀ g, g < 3 → ∀ c, c < 15 → f_X1_room (nI c) (nI g) = f_X7_most (nI c) (nI (2 ^ g)) := by decide +kernel
  obtain ⟨g, hg3, rfl, rfl⟩ := gsr_nI hg
  obtain ⟨c, hc, rfl⟩ := t_nI (i := mc) (n := 15) h.2.1 (by have := h.2.2; omega) (by omega)
  exact key g hg3 c hc
theorem ma_per {gs mr : Int32} (hg : gsr gs mr) : f_X1_perGiven gs = mr := by
  rcases hg with ⟨h1, h2⟩ | ⟨h1, h2⟩ | ⟨h1, h2⟩ <;> subst h1 <;> subst h2 <;> decide
theorem mix_nI {mc mr i : Int32} (h : mok mc mr) (hi : mix mr i) : ∃ j : Nat, j < 53 ∧ i = nI j := by
  have h53 := vp_in_iff.mp (mx_in h hi)
  exact t_nI h53.1 h53.2 (by omega)
theorem ma_strong {gs mc mr i : Int32} (h : mok mc mr) (hg : gsr gs mr) (hi : mix mr i) : f_X1_isStrong gs i = f_X7_isStrong mr i := by
  have key : ∀ g, g < 3 → ∀ j, j < 53 → f_X1_isStrong (nI g) (nI j) = f_X7_isStrong (nI (2 ^ g)) (nI j) := by decide +kernel
  obtain ⟨j, hj, rfl⟩ := mix_nI h hi
  obtain ⟨g, hg3, rfl, rfl⟩ := gsr_nI hg
  exact key g hg3 j hj
/-- a note of a line against the given line lies against a given note that is there -/
theorem ma_against {gs mc mr i : Int32} {gv mg : Nat → Int32} (h : mok mc mr) (hg : gsr gs mr) (hgv : ∀ j, j < 14 → gv j = mg j) (h0 : 0 ≤ i.toInt) (h1 : i.toInt < (f_X7_most mc mr).toInt) : f_X1_against mc gs gv i = f_X7_givenOf mr mg i := by
  have ky1 : ∀ g, g < 3 → ∀ c, c < 15 → ∀ j, j < 53 → (nI j).toInt < (f_X7_most (nI c) (nI (2 ^ g))).toInt → ¬ ishr (nI j) (nI g) < 0 := by decide +kernel
  have ky2 : ∀ g, g < 3 → ∀ c, c < 15 → ∀ j, j < 53 → (nI j).toInt < (f_X7_most (nI c) (nI (2 ^ g))).toInt → ¬ nI c ≤ ishr (nI j) (nI g) := by decide +kernel
  have ky3 : ∀ g, g < 3 → ∀ c, c < 15 → ∀ j, j < 53 → (nI j).toInt < (f_X7_most (nI c) (nI (2 ^ g))).toInt → ¬ (14 : Int32) ≤ ishr (nI j) (nI g) := by decide +kernel
  have ky4 : ∀ g, g < 3 → ∀ c, c < 15 → ∀ j, j < 53 → (nI j).toInt < (f_X7_most (nI c) (nI (2 ^ g))).toInt → ishr (nI j) (nI g) = idiv (nI j) (nI (2 ^ g)) := by decide +kernel
  have ky5 : ∀ g, g < 3 → ∀ c, c < 15 → ∀ j, j < 53 → (nI j).toInt < (f_X7_most (nI c) (nI (2 ^ g))).toInt → (idiv (nI j) (nI (2 ^ g))).toNatClampNeg < 14 := by decide +kernel
  have hb := most_b h
  have hr := mok_r h
  obtain ⟨j, hj, rfl⟩ := t_nI (i := i) (n := 53) h0 (by omega) (by omega)
  obtain ⟨g, hg3, rfl, rfl⟩ := gsr_nI hg
  obtain ⟨c, hc, rfl⟩ := t_nI (i := mc) (n := 15) h.2.1 (by have := h.2.2; omega) (by omega)
  have k1 := ky1 g hg3 c hc j hj h1
  have k2 := ky2 g hg3 c hc j hj h1
  have k3 := ky3 g hg3 c hc j hj h1
  have k4 := ky4 g hg3 c hc j hj h1
  have k5 := ky5 g hg3 c hc j hj h1
  rw [e_X1_against, if_neg k1, if_neg k2, if_neg k3, k4, e_X7_givenOf]
  exact hgv _ k5
theorem ma_tone {mc mr i : Int32} {tv ml : Nat → Int32} (h : mok mc mr) (htv : ∀ j, j < 53 → tv j = ml j) (hi : mix mr i) : f_X3_toneAt tv i = ml i.toNatClampNeg := by
  obtain ⟨j, hj, rfl⟩ := mix_nI h hi
  rw [e_X3_toneAt, if_neg (nI_pos (by omega)), if_neg (by rw [show (53 : Int32) = nI 53 from rfl]; exact nI_ge hj (by omega)), nI_clamp (by omega)]
  exact htv j hj
