/-! what one changed note gains -/
theorem around_b {gs gf gb mc mr mf mb : Int32} {gv tv mg ml mw wv : Nat → Int32} {N p : Nat} (hl : lnr gs gf gb gv tv mc mr mf mb mg ml) (hw : wtr wv mw) (hN : N ≤ (f_X7_most mc mr).toInt.toNat) (hp : p < N) : 0 ≤ (f_X3_costAround (nI N) tv mc gs gb gf gv wv (nI p)).toInt ∧ (f_X3_costAround (nI N) tv mc gs gb gf gv wv (nI p)).toInt ≤ 6360 := by
  have h53 := most_53 hl.1
  obtain ⟨B, hB1, hB2, e1, -⟩ := around_sum hl (fun j hj => (hw j hj).1) hN hp
  rw [e1]
  have hM : min N (B + 1) - (p - 1) ≤ 53 := by omega
  generalize min N (B + 1) - (p - 1) = M at hM
  have h := tls_b (f := wcs mc mr mb mf mg ml mw (nI N)) (B := 120) M (p - 1) (fun j _ _ => wcs_b hw j) (by omega)
  exact ⟨h.1, by omega⟩
/-- the class's gain at one changed note is what the model's cost falls by -/
theorem gain_eq {gs gf gb mc mr mf mb : Int32} {gv tv tv' mg ml ml' mw wv : Nat → Int32} {N p : Nat} (hl : lnr gs gf gb gv tv mc mr mf mb mg ml) (hl' : lnr gs gf gb gv tv' mc mr mf mb mg ml') (hw : wtr wv mw) (hN : N ≤ (f_X7_most mc mr).toInt.toNat) (hp : p < N) (ha : ∀ c, c ≠ p → ml c = ml' c) : (f_X7_costNow mc (nI N) mr mb mf mg ml' mw).toInt = (f_X7_costNow mc (nI N) mr mb mf mg ml mw).toInt - (f_X3_costAround (nI N) tv mc gs gb gf gv wv (nI p) - f_X3_costAround (nI N) tv' mc gs gb gf gv wv (nI p)).toInt := by
  have h53 := most_53 hl.1
  have hq := around_eq hl hl' (fun j hj => (hw j hj).1) hN hp ha
  have a0 := around_b hl hw hN hp
  have a1 := around_b hl' hw hN hp
  have c0 := now_b (mc := mc) (mr := mr) (mb := mb) (mf := mf) (mg := mg) (ml := ml) (N := N) hw (by omega)
  have c1 := now_b (mc := mc) (mr := mr) (mb := mb) (mf := mf) (mg := mg) (ml := ml') (N := N) hw (by omega)
  have hz := congrArg Int32.toInt hq
  rw [t_add (by omega) (by omega), t_add (by omega) (by omega)] at hz
  rw [t_sub (by omega) (by omega)]
  omega
