/-! ===== the faults of one note as a set of laws ===== -/
theorem or_ac {o0 o1 o2 o3 o4 o5 o6 o7 o8 o9 o10 o11 : Int32} : (((((o0 ||| ((o4 ||| o6) ||| (o9 ||| o10))) ||| o1) ||| o2) ||| o7) ||| o8) ||| ((o11 ||| o3) ||| o5) = ((((((((((o0 ||| o1) ||| o2) ||| o3) ||| o4) ||| o5) ||| o6) ||| o7) ||| o8) ||| o9) ||| o10) ||| o11 := by
  ac_rfl
theorem ob_bit (x : Nat → Int32) (k n : Nat) : nI (if decide (x k ≠ 0) = true then n else 0) = ob (x k) (nI n) := by
  rw [ob]
  by_cases h : x k = 0
  · rw [if_pos h, if_neg (by rw [decide_eq_true_eq]; exact fun e => e h)]
    rfl
  · rw [if_neg h, if_pos (by rw [decide_eq_true_eq]; exact h)]
theorem mk_or (x : Nat → Int32) : nI (mkn (fun k => decide (x k ≠ 0)) 12) = ((((((((((ob (x 0) (1 : Int32) ||| ob (x 1) (2 : Int32)) ||| ob (x 2) (4 : Int32)) ||| ob (x 3) (8 : Int32)) ||| ob (x 4) (16 : Int32)) ||| ob (x 5) (32 : Int32)) ||| ob (x 6) (64 : Int32)) ||| ob (x 7) (128 : Int32)) ||| ob (x 8) (256 : Int32)) ||| ob (x 9) (512 : Int32)) ||| ob (x 10) (1024 : Int32)) ||| ob (x 11) (2048 : Int32) := by
  rw [or_mk _ 11 (by omega), or_mk _ 10 (by omega), or_mk _ 9 (by omega), or_mk _ 8 (by omega), or_mk _ 7 (by omega), or_mk _ 6 (by omega), or_mk _ 5 (by omega), or_mk _ 4 (by omega), or_mk _ 3 (by omega), or_mk _ 2 (by omega), or_mk _ 1 (by omega), or_mk _ 0 (by omega)]
  rw [ob_bit x 11, ob_bit x 10, ob_bit x 9, ob_bit x 8, ob_bit x 7, ob_bit x 6, ob_bit x 5, ob_bit x 4, ob_bit x 3, ob_bit x 2, ob_bit x 1, ob_bit x 0]
  rw [mkn, show nI 0 = (0 : Int32) from rfl, Int32.zero_or]
  rfl
/-- which laws a note breaks -/
def flb (mc mr mb mf : Int32) (mg ml : Nat → Int32) (i n : Int32) (k : Nat) : Bool := decide (ft mc mr mb mf mg ml (nI k) i n (lst mc mr i) ≠ 0)
section
variable {gs gf gb gc tc mc mr mf mb i : Int32} {gv tv mg ml : Nat → Int32}
theorem at_mk (hl : lnr gs gf gb gv tv mc mr mf mb mg ml) (h0 : 0 ≤ i.toInt) (h1 : i.toInt < (f_X7_most mc mr).toInt) : f_X3_faultsAt tc tv mc gs gb gf gv i = nI (mkn (flb mc mr mb mf mg ml i tc) 12) := by
  rw [e_X3_faultsAt, near_ob hl h0 h1, far_ob (L := lst mc mr i) hl h0 h1]
  exact or_ac.trans (mk_or (fun k => ft mc mr mb mf mg ml (nI k) i tc (lst mc mr i))).symm
end
