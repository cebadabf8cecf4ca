/-! the relation of the states, and the simple calls -/
abbrev RsT : Type := Int32 → Int32 → Int32 → Int32 → Int32 → Int32 → Int32 → Int32 → (Nat → Int32) → (Nat → Int32) → SS → Prop
/-- a change of the ground or of the weights leaves what is said of a search (it speaks of the counters) -/
def RsOk (Rs : RsT) : Prop := (∀ (a : Nat) (wn gc gs gb gf gl gh gc' gs' gb' gf' gl' gh' : Int32) (gv wv gv' : Nat → Int32) (w : SS), a < 7000 → Rs (nI a) wn gc gs gb gf gl gh gv wv w → Rs (nI (a + 1)) wn gc' gs' gb' gf' gl' gh' gv' wv w) ∧ (∀ (a : Nat) (gn gc gs gb gf gl gh : Int32) (gv wv wv' : Nat → Int32) (w : SS), a < 7000 → Rs gn (nI a) gc gs gb gf gl gh gv wv w → Rs gn (nI (a + 1)) gc gs gb gf gl gh gv wv' w)
abbrev RelB (Rs : RsT) : RelT := fun k tc tv gc gs gb gf gl gh gn gv wn wv _ mc mn mr mb mf mlo mhi _ mg ml mw _ _ w =>
  lnr gs gf gb gv tv mc mr mf mb mg ml ∧ gc = mc ∧ tc = mn ∧ mnb mc mr mn ∧ wtr wv mw ∧ (gl = mlo ∧ gh = mhi ∧ mrg mlo mhi) ∧ (zb mb ∧ zb mf) ∧ (∃ a : Nat, a ≤ 12 * k ∧ gn = nI a) ∧ (∃ a : Nat, a ≤ 12 * k ∧ wn = nI a) ∧ Rs gn wn gc gs gb gf gl gh gv wv w
theorem e_up {k : Nat} {x : Int32} (h : ∃ a : Nat, a ≤ 12 * k ∧ x = nI a) : ∃ a : Nat, a ≤ 12 * (k + 1) ∧ x = nI a := by
  obtain ⟨a, h1, h2⟩ := h
  exact ⟨a, by omega, h2⟩
theorem e_up1 {k a : Nat} (h : a ≤ 12 * k) : ∃ b : Nat, b ≤ 12 * (k + 1) ∧ nI a + (1 : Int32) = nI b := ⟨a + 1, by omega, (nI_plus a 1).symm⟩
theorem RsOk.g {Rs : RsT} (h : RsOk Rs) {a : Nat} {wn gc gs gb gf gl gh gc' gs' gb' gf' gl' gh' : Int32} {gv wv gv' : Nat → Int32} {w : SS} (ha : a < 7000) (hs : Rs (nI a) wn gc gs gb gf gl gh gv wv w) : Rs (nI a + (1 : Int32)) wn gc' gs' gb' gf' gl' gh' gv' wv w := by
  have h1 := h.1 a wn gc gs gb gf gl gh gc' gs' gb' gf' gl' gh' gv wv gv' w ha hs
  rw [nI_plus] at h1
  exact h1
theorem RsOk.w {Rs : RsT} (h : RsOk Rs) {a : Nat} {gn gc gs gb gf gl gh : Int32} {gv wv wv' : Nat → Int32} {w : SS} (ha : a < 7000) (hs : Rs gn (nI a) gc gs gb gf gl gh gv wv w) : Rs gn (nI a + (1 : Int32)) gc gs gb gf gl gh gv wv' w := by
  have h1 := h.2 a gn gc gs gb gf gl gh gv wv wv' w ha hs
  rw [nI_plus] at h1
  exact h1
theorem rb_up {Rs : RsT} {k : Nat} {tc gc gs gb gf gl gh gn wn mt mc mn mr mb mf mlo mhi mx mt' mx' : Int32} {tv gv wv mg ml mw me me' : Nat → Int32} {mo mo' : Nat → Int64} {w : SS} (h : RelB Rs k tc tv gc gs gb gf gl gh gn gv wn wv mt mc mn mr mb mf mlo mhi mx mg ml mw me mo w) : RelB Rs (k + 1) tc tv gc gs gb gf gl gh gn gv wn wv mt' mc mn mr mb mf mlo mhi mx' mg ml mw me' mo' w := by
  obtain ⟨h1, h2, h3, h4, h5, h6, h7, h8, h9, h10⟩ := h
  exact ⟨h1, h2, h3, h4, h5, h6, h7, e_up h8, e_up h9, h10⟩
theorem isn {x : Int32} : f_X7_isNote x = f_X5_isNote x := by
  have e0 : (0 : Int32).toInt = 0 := rfl
  have e27 : (27 : Int32).toInt = 27 := rfl
  have e28 : (28 : Int32).toInt = 28 := rfl
  rw [e_X7_isNote, e_X7_in, e_X5_isNote]
  by_cases h : x < (0 : Int32)
  · rw [if_pos h, if_pos h]
  · rw [if_neg h, if_neg h]
    by_cases h2 : (28 : Int32) ≤ x
    · have h3 : (27 : Int32) < x := by
        rw [t_le, e28] at h2
        rw [t_lt, e27]
        omega
      rw [if_pos h2, if_pos h3]
    · have h3 : ¬ (27 : Int32) < x := by
        rw [t_le, e28] at h2
        rw [t_lt, e27]
        omega
      rw [if_neg h2, if_neg h3]
theorem isn_r {x : Int32} (h : ¬ f_X5_isNote x = 0) : 0 ≤ x.toInt ∧ x.toInt ≤ 27 := by
  have e0 : (0 : Int32).toInt = 0 := rfl
  have e28 : (28 : Int32).toInt = 28 := rfl
  rw [e_X5_isNote] at h
  by_cases h1 : x < (0 : Int32)
  · exact absurd (if_pos h1) h
  · rw [if_neg h1] at h
    by_cases h2 : (28 : Int32) ≤ x
    · exact absurd (if_pos h2) h
    · rw [t_lt, e0] at h1
      rw [t_le, e28] at h2
      exact ⟨by omega, by omega⟩
theorem relF {Rs : RsT} : RelF (RelB Rs) := by
  intro k tc tv gc gs gb gf gl gh gn gv wn wv mt mc mn mr mb mf mlo mhi mx mg ml mw me mo w h
  obtain ⟨⟨hm, hg, hf, hb, hgv, htv⟩, hc, ht, hn, hw, hr, ⟨hzb, hzf⟩, -⟩ := h
  have h53 := most_53 hm
  subst hf hb hc ht
  refine ⟨hzb, hzf, ?_, ?_, ⟨hn.1, ?_⟩, hm, hn, hzb, hzf, hr.2.2⟩
  · rw [t_le]
    exact hm.2.1
  · rw [t_le]
    exact hn.1
  · exact Int.le_trans hn.2 h53
theorem s_notes {Rs : RsT} : St_notes (RelB Rs) := by
  intro k tc tv gc gs gb gf gl gh gn gv wn wv mt mc mn mr mb mf mlo mhi mx mg ml mw me mo w hk h
  exact ⟨h.2.2.1, rb_up h⟩
theorem s_lower {Rs : RsT} (R : RsOk Rs) : St_lower (RelB Rs) := by
  intro k tc tv gc gs gb gf gl gh gn gv wn wv mt mc mn mr mb mf mlo mhi mx mg ml mw me mo p0 w hz hk h
  obtain ⟨⟨hm, hg, hf, hb, hgv, htv⟩, hc, ht, hn, hw, hr, ⟨hzb, hzf⟩, ⟨a, ha, rfl⟩, hwn, hs⟩ := h
  exact ⟨hb, ⟨hm, hg, hf, rfl, hgv, htv⟩, hc, ht, hn, hw, hr, ⟨hz, hzf⟩, e_up1 ha, e_up hwn, R.g (by omega) hs⟩
theorem s_feign {Rs : RsT} (R : RsOk Rs) : St_feign (RelB Rs) := by
  intro k tc tv gc gs gb gf gl gh gn gv wn wv mt mc mn mr mb mf mlo mhi mx mg ml mw me mo p0 w hz hk h
  obtain ⟨⟨hm, hg, hf, hb, hgv, htv⟩, hc, ht, hn, hw, hr, ⟨hzb, hzf⟩, ⟨a, ha, rfl⟩, hwn, hs⟩ := h
  exact ⟨hf, ⟨hm, hg, rfl, hb, hgv, htv⟩, hc, ht, hn, hw, hr, ⟨hzb, hz⟩, e_up1 ha, e_up hwn, R.g (by omega) hs⟩
