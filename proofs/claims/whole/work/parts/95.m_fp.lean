/-! quotients of small whole numbers are no NaN -/
def okD (f : FP.Core.Fmt) : FP.Core.Datum → Prop
  | .nan => False
  | .inf _ => True
  | .fin _ c q => c < 2 ^ f.p ∧ q ≤ f.qmax ∧ f.qmin ≤ q
theorem okD_ne {f : FP.Core.Fmt} {d : FP.Core.Datum} (h : okD f d) : d ≠ .nan := by
  intro e
  rw [e] at h
  exact h
theorem okD_bound {f : FP.Core.Fmt} {s : Bool} {c : Nat} {q : Int} (hc : c < 2 ^ f.p) (hq : f.qmin ≤ q) : okD f (FP.Core.bound f s c q) := by
  unfold FP.Core.bound
  split
  · exact ⟨hc, by assumption, hq⟩
  · trivial
theorem okD_settle {f : FP.Core.Fmt} {s : Bool} {c : Nat} {q : Int} (ht : f.tails < 2 ^ f.p) (hq : f.qmin ≤ q) : okD f (FP.Core.settle f s c q) := by
  unfold FP.Core.settle
  split
  · exact okD_bound (by assumption) hq
  · exact okD_bound ht (by omega)
theorem okD_ratio {f : FP.Core.Fmt} {s : Bool} {a b : Nat} {e : Int} (ht : f.tails < 2 ^ f.p) (h0 : f.qmin ≤ f.qmax) : okD f (FP.Core.roundRatio f s a b e) := by
  unfold FP.Core.roundRatio
  split
  · exact ⟨Nat.two_pow_pos _, h0, Int.le_refl _⟩
  · unfold FP.Core.roundAt
    refine okD_settle ht ?_
    unfold FP.Core.quantum
    exact Int.le_max_left _ _
theorem okD_round {f : FP.Core.Fmt} {d : FP.Core.Datum} (ht : f.tails < 2 ^ f.p) (h0 : f.qmin ≤ f.qmax) (h : d ≠ .nan) : okD f (FP.Core.round f d) := by
  cases d with
  | nan => exact absurd rfl h
  | inf s => trivial
  | fin s c q => exact okD_ratio ht h0
theorem t64 : FP.Core.b64.tails < 2 ^ FP.Core.b64.p := by decide
theorem t32 : FP.Core.b32.tails < 2 ^ FP.Core.b32.p := by decide
theorem q64 : FP.Core.b64.qmin ≤ FP.Core.b64.qmax := by decide
theorem q32 : FP.Core.b32.qmin ≤ FP.Core.b32.qmax := by decide
theorem vf64_of {n : Nat} (h : n % 2 ^ 63 ≤ 9218868437227405312) : vf_n64 (UInt64.ofNat n) := by
  unfold vf_n64
  rw [UInt64.le_iff_toNat_le, UInt64.toNat_and]
  rw [show (0x7fffffffffffffff : UInt64).toNat = 2 ^ 63 - 1 from rfl, Nat.and_two_pow_sub_one_eq_mod, UInt64.toNat_ofNat']
  rw [show (0x7ff0000000000000 : UInt64).toNat = 9218868437227405312 from rfl]
  omega
theorem vf32_of {n : Nat} (h : n % 2 ^ 31 ≤ 2139095040) : vf_n32 (UInt32.ofNat n) := by
  unfold vf_n32
  rw [UInt32.le_iff_toNat_le, UInt32.toNat_and]
  rw [show (0x7fffffff : UInt32).toNat = 2 ^ 31 - 1 from rfl, Nat.and_two_pow_sub_one_eq_mod, UInt32.toNat_ofNat']
  rw [show (0x7f800000 : UInt32).toNat = 2139095040 from rfl]
  omega
theorem vf64_to {x : UInt64} (h : vf_n64 x) : x.toNat % 2 ^ 63 ≤ 9218868437227405312 := by
  unfold vf_n64 at h
  rw [UInt64.le_iff_toNat_le, UInt64.toNat_and] at h
  rw [show (0x7fffffffffffffff : UInt64).toNat = 2 ^ 63 - 1 from rfl, Nat.and_two_pow_sub_one_eq_mod] at h
  exact h
theorem vf32_to {x : UInt32} (h : vf_n32 x) : x.toNat % 2 ^ 31 ≤ 2139095040 := by
  unfold vf_n32 at h
  rw [UInt32.le_iff_toNat_le, UInt32.toNat_and] at h
  rw [show (0x7fffffff : UInt32).toNat = 2 ^ 31 - 1 from rfl, Nat.and_two_pow_sub_one_eq_mod] at h
  exact h
theorem asm64 {s : Bool} {e t : Nat} (h : (e < 2047 ∧ t < 4503599627370496) ∨ (e = 2047 ∧ t = 0)) : FP.Core.assemble FP.Core.b64 s e t % 2 ^ 63 ≤ 9218868437227405312 := by
  have e1 : FP.Core.assemble FP.Core.b64 s e t = (s.toNat * 2048 + e) * 4503599627370496 + t := rfl
  rw [e1]
  have hs : s.toNat ≤ 1 := by cases s <;> decide
  omega
theorem asm32 {s : Bool} {e t : Nat} (h : (e < 255 ∧ t < 8388608) ∨ (e = 255 ∧ t = 0)) : FP.Core.assemble FP.Core.b32 s e t % 2 ^ 31 ≤ 2139095040 := by
  have e1 : FP.Core.assemble FP.Core.b32 s e t = (s.toNat * 256 + e) * 8388608 + t := rfl
  rw [e1]
  have hs : s.toNat ≤ 1 := by cases s <;> decide
  omega
theorem enc64 {d : FP.Core.Datum} (h : okD FP.Core.b64 d) : FP.Core.encode FP.Core.b64 d % 2 ^ 63 ≤ 9218868437227405312 := by
  cases d with
  | nan => exact h.elim
  | inf s => exact asm64 (Or.inr ⟨rfl, rfl⟩)
  | fin s c q =>
    obtain ⟨h1, h2, h3⟩ := h
    have e1 : FP.Core.b64.tails = 4503599627370496 := rfl
    have e2 : (2 : Nat) ^ FP.Core.b64.p = 9007199254740992 := rfl
    have e3 : FP.Core.b64.qmin = -1074 := rfl
    have e4 : FP.Core.b64.qmax = 971 := rfl
    rw [e2] at h1
    rw [e4] at h2
    rw [e3] at h3
    show (if c < FP.Core.b64.tails then FP.Core.assemble FP.Core.b64 s 0 c else FP.Core.assemble FP.Core.b64 s ((q - FP.Core.b64.qmin).toNat + 1) (c - FP.Core.b64.tails)) % 2 ^ 63 ≤ _
    rw [e1, e3]
    split
    · exact asm64 (Or.inl ⟨by omega, by omega⟩)
    · exact asm64 (Or.inl ⟨by omega, by omega⟩)
theorem enc32 {d : FP.Core.Datum} (h : okD FP.Core.b32 d) : FP.Core.encode FP.Core.b32 d % 2 ^ 31 ≤ 2139095040 := by
  cases d with
  | nan => exact h.elim
  | inf s => exact asm32 (Or.inr ⟨rfl, rfl⟩)
  | fin s c q =>
    obtain ⟨h1, h2, h3⟩ := h
    have e1 : FP.Core.b32.tails = 8388608 := rfl
    have e2 : (2 : Nat) ^ FP.Core.b32.p = 16777216 := rfl
    have e3 : FP.Core.b32.qmin = -149 := rfl
    have e4 : FP.Core.b32.qmax = 104 := rfl
    rw [e2] at h1
    rw [e4] at h2
    rw [e3] at h3
    show (if c < FP.Core.b32.tails then FP.Core.assemble FP.Core.b32 s 0 c else FP.Core.assemble FP.Core.b32 s ((q - FP.Core.b32.qmin).toNat + 1) (c - FP.Core.b32.tails)) % 2 ^ 31 ≤ _
    rw [e1, e3]
    split
    · exact asm32 (Or.inl ⟨by omega, by omega⟩)
    · exact asm32 (Or.inl ⟨by omega, by omega⟩)
theorem dec64 {n : Nat} (h : n % 2 ^ 63 ≤ 9218868437227405312) : FP.Core.decode FP.Core.b64 n ≠ .nan := by
  have e1 : FP.Core.fieldE FP.Core.b64 n = n / 4503599627370496 % 2048 := rfl
  have e2 : FP.Core.fieldT FP.Core.b64 n = n % 4503599627370496 := rfl
  have e3 : FP.Core.b64.exps - 1 = 2047 := rfl
  unfold FP.Core.decode
  rw [e1, e2, e3]
  split
  · split
    · exact FP.Core.Datum.noConfusion
    · exfalso
      omega
  · split <;> exact FP.Core.Datum.noConfusion
theorem dec32 {n : Nat} (h : n % 2 ^ 31 ≤ 2139095040) : FP.Core.decode FP.Core.b32 n ≠ .nan := by
  have e1 : FP.Core.fieldE FP.Core.b32 n = n / 8388608 % 256 := rfl
  have e2 : FP.Core.fieldT FP.Core.b32 n = n % 8388608 := rfl
  have e3 : FP.Core.b32.exps - 1 = 255 := rfl
  unfold FP.Core.decode
  rw [e1, e2, e3]
  split
  · split
    · exact FP.Core.Datum.noConfusion
    · exfalso
      omega
  · split <;> exact FP.Core.Datum.noConfusion
theorem i2d_n (a : Int32) : vf_n64 (FP.i2d a) := vf64_of (enc64 (okD_round t64 q64 (by unfold FP.Core.ofInt; exact FP.Core.Datum.noConfusion)))
theorem i2f_n (a : Int32) : vf_n32 (FP.i2f a) := vf32_of (enc32 (okD_round t32 q32 (by unfold FP.Core.ofInt; exact FP.Core.Datum.noConfusion)))
def dz (d : FP.Core.Datum) : Bool := match d with
  | .fin _ c _ => decide (c ≠ 0)
  | _ => false
theorem okD_quot {f : FP.Core.Fmt} {x y : FP.Core.Datum} (ht : f.tails < 2 ^ f.p) (h0 : f.qmin ≤ f.qmax) (hx : x ≠ .nan) (hy : dz y = true) : okD f (FP.Core.quotient f x y) := by
  cases y with
  | nan => exact absurd (show false = true from hy) Bool.false_ne_true
  | inf s => exact absurd (show false = true from hy) Bool.false_ne_true
  | fin t d r =>
    have hd : d ≠ 0 := of_decide_eq_true hy
    cases x with
    | nan => exact absurd rfl hx
    | inf s => trivial
    | fin s c q =>
      show okD f (if d = 0 then (if c = 0 then .nan else .inf (s != t)) else FP.Core.roundRatio f (s != t) c d (q - r))
      rw [if_neg hd]
      exact okD_ratio ht h0
theorem dz64 : ∀ j, j < 54 → 1 ≤ j → dz (FP.Core.decode FP.Core.b64 (FP.i2d (nI j)).toNat) = true := by decide +kernel
theorem dz32 : ∀ j, j < 54 → 1 ≤ j → dz (FP.Core.decode FP.Core.b32 (FP.i2f (nI j)).toNat) = true := by decide +kernel
theorem ddiv_n {a m : Int32} (h : 1 ≤ m.toInt ∧ m.toInt ≤ 53) : vf_n64 (FP.ddiv (FP.i2d a) (FP.i2d m)) := by
  obtain ⟨j, hj, rfl⟩ := t_nI (i := m) (n := 54) (by omega) (by omega) (by omega)
  rw [t_n (by omega)] at h
  exact vf64_of (enc64 (okD_quot t64 q64 (dec64 (vf64_to (i2d_n a))) (dz64 j hj (by omega))))
theorem fdiv_n {a m : Int32} (h : 1 ≤ m.toInt ∧ m.toInt ≤ 53) : vf_n32 (FP.fdiv (FP.i2f a) (FP.i2f m)) := by
  obtain ⟨j, hj, rfl⟩ := t_nI (i := m) (n := 54) (by omega) (by omega) (by omega)
  rw [t_n (by omega)] at h
  exact vf32_of (enc32 (okD_quot t32 q32 (dec32 (vf32_to (i2f_n a))) (dz32 j hj (by omega))))
theorem f2d_n {x : UInt32} (h : vf_n32 x) : vf_n64 (FP.f2d x) := by
  have h1 := dec32 (vf32_to h)
  have e : FP.Core.fIsNaN x = false := decide_eq_false h1
  have e2 : FP.f2d x = FP.Core.f2d x := by
    unfold FP.f2d
    rw [e, if_neg Bool.false_ne_true]
  rw [e2]
  exact vf64_of (enc64 (okD_round t64 q64 h1))
theorem dcmp_n {x : UInt64} (h : vf_n64 x) : FP.dcmp x x = some .eq := by
  have h1 := dec64 (vf64_to h)
  show FP.Core.order (FP.Core.decode FP.Core.b64 x.toNat) (FP.Core.decode FP.Core.b64 x.toNat) = some .eq
  generalize FP.Core.decode FP.Core.b64 x.toNat = d at h1
  cases d with
  | nan => exact absurd rfl h1
  | inf s => simp [FP.Core.order]
  | fin s c q => simp [FP.Core.order]
