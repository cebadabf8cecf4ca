/-! what the law's wrappers need -/
theorem Met.of_vx {l : Launch} {y : MethodName} {ws : List Cond} {rm : Room} {Pc : Array Value → State → Prop} {Qc : Array Value → State → Outcome → State → Prop} {mc ms : Nat} {free : Addr → Prop} (h : vx_Met l y ws rm Pc Qc (fun _ _ _ => False) mc ms free) : Met l y ws rm Pc Qc mc ms free := by
  intro p e ha hc hk s m args below hf happ hP hK
  obtain ⟨n, o, h1, h2, h3, hq⟩ := h p e ha hc hk s m args below hf happ hP hK
  refine ⟨n, o, h1, h2, h3, ?_⟩
  rcases hq with hq | ⟨q, -, E, ce, L, hx, -⟩
  · exact hq
  · exact hx.elim
/-- which of the classes was thrown, as a number; 0: none -/
def kc {α : Type} (L : List String) (x : String ⊕ α) : Int32 := match x with
  | .inr _ => 0
  | .inl E => if some E = L[0]? then 1 else if some E = L[1]? then 2 else 3
def owI (ov : Nat → Int64) (x : String ⊕ Int32) : Nat → Int64 := match x with
  | .inl _ => ov
  | .inr r => vp_updL ov (0 : Int32).toNatClampNeg (Int32.toInt64 r)
def owL (ov : Nat → Int64) (x : String ⊕ Int64) : Nat → Int64 := match x with
  | .inl _ => ov
  | .inr r => vp_updL ov (0 : Int32).toNatClampNeg r
def owF (od : Nat → UInt64) (x : String ⊕ UInt32) : Nat → UInt64 := match x with
  | .inl _ => od
  | .inr r => vf_upd od (0 : Int32).toNatClampNeg (FP.f2d r)
def owD (od : Nat → UInt64) (x : String ⊕ UInt64) : Nat → UInt64 := match x with
  | .inl _ => od
  | .inr r => vf_upd od (0 : Int32).toNatClampNeg r
/-- classes that are not among others: which handler does not take what -/
def NCL : List (String × String) := [("java/lang/IllegalStateException", "java/lang/IllegalArgumentException"), ("java/lang/IllegalArgumentException", "java/lang/IndexOutOfBoundsException"), (nE, "java/lang/IllegalStateException"), ("java/lang/UnsupportedOperationException", "java/lang/IllegalStateException"), (nE, "java/lang/UnsupportedOperationException"), ("java/lang/IndexOutOfBoundsException", "java/lang/IllegalStateException"), ("java/lang/IndexOutOfBoundsException", "java/lang/UnsupportedOperationException")]
def xnc (U : State) : Prop := ∀ q ∈ NCL, va_Nc q.1 q.2 U
theorem xnc.moved {u U : State} (hvm : u.vm.Alike U.vm) (h : xnc u) : xnc U := fun q hq => (h q hq).moved hvm
