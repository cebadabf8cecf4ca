/-! ===== the search: trees of lines (no machine in it) ===== -/
abbrev ZZ : Int := 1000000
theorem ZZ_e : ZZ = 1000000 := rfl
def lset (x : Nat → Nat) (p c : Nat) : Nat → Nat := fun j => if j = p then c else x j
theorem lset_at (x : Nat → Nat) (p c : Nat) : lset x p c p = c := if_pos rfl
theorem lset_ne {x : Nat → Nat} {p c j : Nat} (h : j ≠ p) : lset x p c j = x j := if_neg h
theorem lset_id (x : Nat → Nat) (p : Nat) : lset x p (x p) = x := by
  funext j
  by_cases e : j = p
  · rw [e, lset_at]
  · rw [lset_ne e]
def lmin (h : Nat → Int) : Nat → Int
  | 0 => ZZ
  | w + 1 => min (lmin h w) (h w)
def lsum (h : Nat → Int64) : Nat → Int64
  | 0 => 0
  | w + 1 => lsum h w + h w
theorem lmin_z (h : Nat → Int) : ∀ w, lmin h w ≤ ZZ
  | 0 => Int.le_refl _
  | w + 1 => by
    have := lmin_z h w
    rw [lmin]
    omega
theorem lmin_le (h : Nat → Int) : ∀ w c, c < w → lmin h w ≤ h c
  | 0, c, hc => absurd hc (Nat.not_lt_zero c)
  | w + 1, c, hc => by
    rw [lmin]
    by_cases e : c = w
    · subst e
      omega
    · have := lmin_le h w c (by omega)
      omega
theorem lmin_ge {h : Nat → Int} {m : Int} (hm : m ≤ ZZ) : ∀ w, (∀ c, c < w → m ≤ h c) → m ≤ lmin h w
  | 0, _ => hm
  | w + 1, hc => by
    have h1 := lmin_ge hm w (fun c h => hc c (by omega))
    have h2 := hc w (by omega)
    rw [lmin]
    omega
theorem lmin_congr {h g : Nat → Int} : ∀ w, (∀ c, c < w → h c = g c) → lmin h w = lmin g w
  | 0, _ => rfl
  | w + 1, hc => by
    rw [lmin, lmin, lmin_congr w (fun c h => hc c (by omega)), hc w (by omega)]
theorem lsum_congr {h g : Nat → Int64} : ∀ w, (∀ c, c < w → h c = g c) → lsum h w = lsum g w
  | 0, _ => rfl
  | w + 1, hc => by
    rw [lsum, lsum, lsum_congr w (fun c h => hc c (by omega)), hc w (by omega)]
theorem lsum_0 {h : Nat → Int64} : ∀ w, (∀ c, c < w → h c = 0) → lsum h w = 0
  | 0, _ => rfl
  | w + 1, hc => by
    rw [lsum, lsum_0 w (fun c h => hc c (by omega)), hc w (by omega)]
    rfl
theorem lsum_add (h : Nat → Int64) (a : Nat) : ∀ b, lsum h (a + b) = lsum h a + lsum (fun j => h (a + j)) b
  | 0 => by rw [Nat.add_zero, lsum, Int64.add_zero]
  | b + 1 => by rw [← Nat.add_assoc, lsum, lsum_add h a b, lsum, Int64.add_assoc]
/-- the first at which the least is -/
theorem lmin_at {h : Nat → Int} : ∀ w, lmin h w < ZZ → ∃ c, c < w ∧ h c = lmin h w ∧ ∀ d, d < c → h d ≠ lmin h w
  | 0, hz => absurd hz (Int.lt_irrefl _)
  | w + 1, hz => by
    by_cases e : lmin h w ≤ h w
    · have e2 : lmin h (w + 1) = lmin h w := by rw [lmin]; omega
      rw [e2] at hz ⊢
      obtain ⟨c, h1, h2, h3⟩ := lmin_at w hz
      exact ⟨c, by omega, h2, h3⟩
    · have e2 : lmin h (w + 1) = h w := by rw [lmin]; omega
      rw [e2] at hz ⊢
      refine ⟨w, by omega, rfl, fun d hd he => ?_⟩
      have := lmin_le h w d hd
      omega
theorem lmin_plus {h : Nat → Int} {k : Int} (hk : 0 ≤ k) : ∀ w, lmin (fun c => min ZZ (k + h c)) w = min ZZ (k + lmin h w)
  | 0 => by
    rw [lmin, lmin]
    omega
  | w + 1 => by
    rw [lmin, lmin, lmin_plus hk w]
    omega
theorem lmin_cap {h : Nat → Int} : ∀ w, lmin (fun c => min ZZ (h c)) w = lmin h w
  | 0 => rfl
  | w + 1 => by
    have := lmin_z h w
    rw [lmin, lmin, lmin_cap w]
    omega
theorem sq_div {W c d : Nat} (hd : d < W) : (c * W + d) / W = c ∧ (c * W + d) % W = d := by
  constructor
  · rw [Nat.mul_comm, Nat.mul_add_div (by omega), Nat.div_eq_of_lt hd, Nat.add_zero]
  · rw [Nat.mul_comm, Nat.mul_add_mod, Nat.mod_eq_of_lt hd]
theorem sq_lt {W c d A : Nat} (hc : c < A) (hd : d < W) : c * W + d < A * W := by
  have := Nat.mul_le_mul_right W (show c + 1 ≤ A by omega)
  rw [Nat.succ_mul] at this
  omega
/-- two at once: rows and columns -/
theorem lmin_sq (h : Nat → Nat → Int) (W A : Nat) : lmin (fun t => h (t / W) (t % W)) (A * W) = lmin (fun c => lmin (h c) W) A := by
  apply Int.le_antisymm
  · refine lmin_ge (lmin_z _ _) A (fun c hc => lmin_ge (lmin_z _ _) W (fun d hd => ?_))
    have h1 := lmin_le (fun t => h (t / W) (t % W)) (A * W) (c * W + d) (sq_lt hc hd)
    rw [(sq_div hd).1, (sq_div hd).2] at h1
    exact h1
  · refine lmin_ge (lmin_z _ _) _ (fun t ht => ?_)
    have hW : 0 < W := by
      rcases Nat.eq_zero_or_pos W with e | e
      · rw [e, Nat.mul_zero] at ht
        omega
      · exact e
    have h1 := lmin_le (fun c => lmin (h c) W) A (t / W) ((Nat.div_lt_iff_lt_mul hW).mpr ht)
    exact Int.le_trans h1 (lmin_le (h (t / W)) W (t % W) (Nat.mod_lt _ hW))
theorem lsum_sq (h : Nat → Nat → Int64) (W : Nat) : ∀ A, lsum (fun t => h (t / W) (t % W)) (A * W) = lsum (fun c => lsum (h c) W) A
  | 0 => by rw [Nat.zero_mul]; rfl
  | A + 1 => by
    rw [Nat.succ_mul, lsum_add, lsum_sq h W A, lsum]
    congr 1
    refine lsum_congr W (fun d hd => ?_)
    show h ((A * W + d) / W) ((A * W + d) % W) = h A d
    rw [(sq_div hd).1, (sq_div hd).2]
/-- what is paid from p on, n notes, at the least -/
def VT (W : Nat) (pd : (Nat → Nat) → Nat → Int) : Nat → Nat → (Nat → Nat) → Int
  | 0, _, _ => 0
  | n + 1, p, x => lmin (fun c => min ZZ (pd (lset x p c) p + VT W pd n (p + 1) (lset x p c))) W
/-- how many ways there are -/
def WT (W : Nat) (pd : (Nat → Nat) → Nat → Int) : Nat → Nat → (Nat → Nat) → Int64
  | 0, _, _ => 1
  | n + 1, p, x => lsum (fun c => if pd (lset x p c) p < ZZ then WT W pd n (p + 1) (lset x p c) else 0) W
def MT (W : Nat) (T : (Nat → Nat) → Int) : Nat → Nat → (Nat → Nat) → Int
  | 0, _, x => T x
  | n + 1, p, x => lmin (fun c => MT W T n (p + 1) (lset x p c)) W
def CT (W : Nat) (T : (Nat → Nat) → Int) : Nat → Nat → (Nat → Nat) → Int64
  | 0, _, x => if T x < ZZ then 1 else 0
  | n + 1, p, x => lsum (fun c => CT W T n (p + 1) (lset x p c)) W
def pre (pd : (Nat → Nat) → Nat → Int) (x : Nat → Nat) : Nat → Int
  | 0 => 0
  | q + 1 => pre pd x q + pd x q
def tot (pd : (Nat → Nat) → Nat → Int) (N : Nat) (x : Nat → Nat) : Int := min ZZ (pre pd x N)
/-- payments are not below 0, are much or little, and hang on what is put so far -/
def PD (N : Nat) (pd : (Nat → Nat) → Nat → Int) : Prop := (∀ x q, 0 ≤ pd x q) ∧ (∀ x y q, q < N → (∀ j, j ≤ q → x j = y j) → pd x q = pd y q) ∧ (∀ x q, pd x q < ZZ → pd x q ≤ 3000)
section
variable {W N : Nat} {pd : (Nat → Nat) → Nat → Int} {T : (Nat → Nat) → Int}
theorem VT_b (P : PD N pd) : ∀ n p x, 0 ≤ VT W pd n p x ∧ VT W pd n p x ≤ ZZ
  | 0, _, _ => ⟨Int.le_refl _, by rw [VT, ZZ_e]; omega⟩
  | n + 1, p, x => by
    have hZ := ZZ_e
    rw [VT]
    refine ⟨lmin_ge (by omega) W (fun c _ => ?_), lmin_z _ _⟩
    have h1 := P.1 (lset x p c) p
    have h2 := (VT_b P n (p + 1) (lset x p c)).1
    omega
theorem VT_s (P : PD N pd) : ∀ n p x, VT W pd n p x < ZZ → VT W pd n p x ≤ ((n * 3000 : Nat) : Int)
  | 0, _, _, _ => by rw [VT]; omega
  | n + 1, p, x, h => by
    rw [VT] at h ⊢
    obtain ⟨c, h1, h2, h3⟩ := lmin_at W h
    rw [← h2] at h ⊢
    have h4 := P.1 (lset x p c) p
    have h5 := (VT_b (W := W) P n (p + 1) (lset x p c)).1
    have h6 := P.2.2 (lset x p c) p (by omega)
    have h7 := VT_s P n (p + 1) (lset x p c) (by omega)
    rw [Nat.succ_mul]
    omega
theorem WT_0 (P : PD N pd) : ∀ n p x, n ≤ 300 → VT W pd n p x = ZZ → WT W pd n p x = 0
  | 0, _, _, _, h => by
    rw [VT] at h
    exact absurd h (by decide)
  | n + 1, p, x, hn, h => by
    rw [WT]
    refine lsum_0 W (fun c hc => ?_)
    split
    · rename_i hz
      have h1 := lmin_le (fun c => min ZZ (pd (lset x p c) p + VT W pd n (p + 1) (lset x p c))) W c hc
      rw [VT] at h
      rw [h] at h1
      have h2 := P.2.2 _ _ hz
      have h3 := (VT_b (W := W) P n (p + 1) (lset x p c)).2
      have h4 := VT_s (W := W) P n (p + 1) (lset x p c)
      refine WT_0 P n (p + 1) _ (by omega) ?_
      have h5 : ((n * 3000 : Nat) : Int) ≤ 900000 := by omega
      have h6 : ZZ ≤ min ZZ (pd (lset x p c) p + VT W pd n (p + 1) (lset x p c)) := h1
      have hZ := ZZ_e
      omega
    · rfl
theorem pre_c (P : PD N pd) {x y : Nat → Nat} : ∀ p, p ≤ N → (∀ j, j < p → x j = y j) → pre pd x p = pre pd y p
  | 0, _, _ => rfl
  | p + 1, hp, h => by
    rw [pre, pre, pre_c P p (by omega) (fun j hj => h j (by omega)), P.2.1 x y p (by omega) (fun j hj => h j (by omega))]
theorem pre_0 (P : PD N pd) {x : Nat → Nat} : ∀ p, 0 ≤ pre pd x p
  | 0 => Int.le_refl _
  | p + 1 => by
    have h1 := pre_0 P (x := x) p
    have h2 := P.1 x p
    rw [pre]
    omega
theorem pre_s (P : PD N pd) {x : Nat → Nat} : ∀ p, pre pd x p < ZZ → pre pd x p ≤ ((p * 3000 : Nat) : Int)
  | 0, _ => by rw [pre]; omega
  | p + 1, h => by
    rw [pre] at h ⊢
    have h1 := pre_0 P (x := x) p
    have h2 := P.1 x p
    have h3 := pre_s P (x := x) p (by omega)
    have h4 := P.2.2 x p (by omega)
    rw [Nat.succ_mul]
    omega
theorem pre_n (P : PD N pd) {x : Nat → Nat} {p c : Nat} (hp : p < N) : pre pd (lset x p c) (p + 1) = pre pd x p + pd (lset x p c) p := by
  rw [pre, pre_c P p (by omega) (fun j hj => lset_ne (by omega))]
theorem MT_VT (P : PD N pd) : ∀ n p x, p + n = N → MT W (tot pd N) n p x = min ZZ (pre pd x p + VT W pd n p x)
  | 0, p, x, h => by
    rw [MT, tot, VT, ← h, Nat.add_zero, Int.add_zero]
  | n + 1, p, x, h => by
    rw [MT, VT, ← lmin_plus (pre_0 P p)]
    refine lmin_congr W (fun c _ => ?_)
    rw [MT_VT P n (p + 1) (lset x p c) (by omega), pre_n P (by omega)]
    have h1 := pre_0 P (x := x) p
    have h2 := P.1 (lset x p c) p
    omega
theorem CT_WT (P : PD N pd) (hN : N ≤ 300) : ∀ n p x, p + n = N → CT W (tot pd N) n p x = if pre pd x p < ZZ then WT W pd n p x else 0
  | 0, p, x, h => by
    rw [CT, tot, WT, ← h, Nat.add_zero]
    by_cases hz : pre pd x p < ZZ
    · rw [if_pos hz, if_pos (by omega)]
    · rw [if_neg hz, if_neg (by omega)]
  | n + 1, p, x, h => by
    rw [CT, WT]
    have h1 := pre_0 P (x := x) p
    have h3 := pre_s P (x := x) p
    by_cases hz : pre pd x p < ZZ
    · rw [if_pos hz]
      refine lsum_congr W (fun c _ => ?_)
      have hZ := ZZ_e
      have h2 := P.1 (lset x p c) p
      have h4 := P.2.2 (lset x p c) p
      rw [CT_WT P hN n (p + 1) (lset x p c) (by omega), pre_n P (by omega)]
      by_cases hq : pd (lset x p c) p < ZZ
      · rw [if_pos hq, if_pos (by have := h3 hz; have := h4 hq; omega)]
      · rw [if_neg hq, if_neg (by omega)]
    · rw [if_neg hz]
      refine lsum_0 W (fun c _ => ?_)
      have h2 := P.1 (lset x p c) p
      rw [CT_WT P hN n (p + 1) (lset x p c) (by omega), pre_n P (by omega), if_neg (by omega)]
def TL (N : Nat) (T : (Nat → Nat) → Int) : Prop := ∀ x y, (∀ j, j < N → x j = y j) → T x = T y
theorem tot_c (P : PD N pd) : TL N (tot pd N) := fun x y h => by rw [tot, tot, pre_c P N (Nat.le_refl _) h]
theorem MT_c (hT : TL N T) : ∀ n p x y, p + n = N → (∀ j, j < p → x j = y j) → MT W T n p x = MT W T n p y
  | 0, p, x, y, h, hj => by
    rw [MT, MT]
    exact hT x y (fun j h1 => hj j (by omega))
  | n + 1, p, x, y, h, hj => by
    rw [MT, MT]
    refine lmin_congr W (fun c _ => MT_c hT n (p + 1) _ _ (by omega) (fun j h1 => ?_))
    by_cases e : j = p
    · rw [e, lset_at, lset_at]
    · rw [lset_ne e, lset_ne e]
      exact hj j (by omega)
theorem MT_z : ∀ n p x, (∀ x, T x ≤ ZZ) → MT W T n p x ≤ ZZ
  | 0, _, x, h => h x
  | n + 1, _, _, _ => by rw [MT]; exact lmin_z _ _
/-- the line that is found by taking the first note that does each time -/
def GR (W N : Nat) (T : (Nat → Nat) → Int) (y : Nat → Nat) : Prop := ∀ p, p < N → y p < W ∧ MT W T (N - p - 1) (p + 1) y = MT W T (N - p) p y ∧ ∀ c, c < y p → MT W T (N - p - 1) (p + 1) (lset y p c) ≠ MT W T (N - p) p y
def GV (W N : Nat) (pd : (Nat → Nat) → Nat → Int) (y : Nat → Nat) : Prop := ∀ p, p < N → y p < W ∧ pd y p + VT W pd (N - p - 1) (p + 1) y = VT W pd (N - p) p y ∧ ∀ c, c < y p → pd (lset y p c) p + VT W pd (N - p - 1) (p + 1) (lset y p c) ≠ VT W pd (N - p) p y
theorem GR_u (hT : TL N T) {y z : Nat → Nat} (hy : GR W N T y) (hz : GR W N T z) : ∀ m, m ≤ N → ∀ p, p < m → y p = z p
  | 0, _, p, h => absurd h (Nat.not_lt_zero p)
  | m + 1, hm, p, h => by
    have ih := GR_u hT hy hz m (by omega)
    by_cases e : p = m
    · subst e
      have hc : ∀ a b : Nat → Nat, (∀ p', p' < p → a p' = b p') → GR W N T a → GR W N T b → ¬ a p < b p := by
        intro a b hab ha hb hlt
        refine (hb p (by omega)).2.2 (a p) hlt ?_
        rw [← MT_c hT (N - p) p a b (by omega) hab, ← (ha p (by omega)).2.1]
        refine MT_c hT (N - p - 1) (p + 1) _ _ (by omega) (fun j hj => ?_)
        by_cases e2 : j = p
        · rw [e2, lset_at]
        · rw [lset_ne e2]
          exact (hab j (by omega)).symm
      have h1 := hc y z ih hy hz
      have h2 := hc z y (fun j hj => (ih j hj).symm) hz hy
      omega
    · exact ih p (by omega)
theorem GV_pre (P : PD N pd) {y : Nat → Nat} (h : GV W N pd y) : ∀ p, p ≤ N → pre pd y p + VT W pd (N - p) p y = VT W pd N 0 y
  | 0, _ => by rw [pre, Int.zero_add, Nat.sub_zero]
  | p + 1, hp => by
    have h1 := GV_pre P h p (by omega)
    have h2 := (h p (by omega)).2.1
    rw [pre, show N - (p + 1) = N - p - 1 by omega]
    omega
theorem GV_GR (P : PD N pd) {y : Nat → Nat} (h : GV W N pd y) (hz : VT W pd N 0 y < ZZ) : GR W N (tot pd N) y := by
  intro p hp
  have e1 := GV_pre P h p (by omega)
  have e2 := GV_pre P h (p + 1) (by omega)
  obtain ⟨h1, h2, h3⟩ := h p hp
  rw [show N - (p + 1) = N - p - 1 by omega] at e2
  refine ⟨h1, ?_, fun c hc he => ?_⟩
  · rw [MT_VT P _ _ _ (by omega), MT_VT P _ _ _ (by omega), e1, e2]
  · have h4 := h3 c hc
    rw [MT_VT P _ _ _ (by omega), MT_VT P _ _ _ (by omega), e1, pre_n P hp] at he
    omega
end
