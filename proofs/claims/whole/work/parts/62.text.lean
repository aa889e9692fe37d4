/-! ===== the TEXT: bytes, blanks ===== -/
/-- a byte and what the class makes of it -/
theorem by_and {b : Int32} (h : rg b (-128) 127) : (b &&& 255) = if 0 ≤ b.toInt then b else b + 256 := by
  have e := pk_and b (m := 255) 8 (by decide)
  obtain ⟨h1, h2⟩ := h
  have hb : b.toInt = b.toBitVec.toInt := rfl
  rw [e]
  by_cases q : 0 ≤ b.toInt
  · obtain ⟨k, hk, rfl⟩ := nI_of_rg (x := b) (b := 127) ⟨q, h2⟩
    rw [if_pos q, pk_tn (by omega), Nat.mod_eq_of_lt (by omega)]
  · rw [if_neg q]
    have e1 : b.toInt = (-(-b.toInt).toNat : Int) := by omega
    obtain ⟨k, hk⟩ : ∃ k : Nat, b.toInt = -(k : Int) := ⟨(-b.toInt).toNat, by omega⟩
    have e2 : b + 256 = nI (256 - k) := by
      rw [tI_eq, Int32.toInt_add, nI_toInt (by omega), hk, show (256 : Int32).toInt = 256 by decide, Int.bmod_eq_of_le (by omega) (by omega)]
      omega
    have e3 : b.toBitVec.toNat = 2 ^ 32 - k := by
      have := BitVec.toInt_eq_toNat_bmod b.toBitVec
      rw [← hb, hk] at this
      have lt := b.toBitVec.isLt
      rw [Int.bmod_def] at this
      simp only [Nat.reducePow] at this lt ⊢
      split at this <;> omega
    rw [e2, e3]
    congr 1
    omega
theorem by_eq2 {b c : Int32} (h : rg b (-128) 127) (hc : rg c 0 127) : ((b &&& 255) = c ↔ b = c) := by
  rw [by_and h]
  obtain ⟨h1, h2⟩ := h
  obtain ⟨c1, c2⟩ := hc
  by_cases q : 0 ≤ b.toInt
  · rw [if_pos q]
  · rw [if_neg q, tI_eq, tI_eq, Int32.toInt_add, show (256 : Int32).toInt = 256 by decide, Int.bmod_eq_of_le (by omega) (by omega)]
    omega
theorem by_lt {b c : Int32} (h : rg b (-128) 127) (hc : rg c 0 127) : (b < c ∨ c < b) ↔ ((b &&& 255) < c ∨ c < (b &&& 255)) := by
  have := by_eq2 h hc
  simp only [tI_lt, tI_eq] at this ⊢
  omega
/-- between two signs: the same for the byte and for what the class makes of it -/
theorem by_in {b lo hi : Int32} (h : rg b (-128) 127) (hl : rg lo 0 127) (hh : rg hi 0 127) : wi (b &&& 255) lo hi = wi b lo hi := by
  unfold wi
  rw [by_and h]
  obtain ⟨h1, h2⟩ := h
  obtain ⟨l1, l2⟩ := hl
  obtain ⟨c1, c2⟩ := hh
  by_cases q : 0 ≤ b.toInt
  · rw [if_pos q]
  · have e : (b + 256).toInt = b.toInt + 256 := by
      rw [Int32.toInt_add, show (256 : Int32).toInt = 256 by decide, Int.bmod_eq_of_le (by omega) (by omega)]
    rw [if_neg q]
    have n1 : ¬ b + 256 < lo := by rw [tI_lt, e]; omega
    have n2 : hi < b + 256 := by rw [tI_lt, e]; omega
    have n3 : b < lo := by rw [tI_lt]; omega
    rw [if_neg n1, if_pos n2, if_pos n3]
theorem f1_bt (I : MI) (R : MR) (a lo hi : Int32) : f_X1_isBetween I R a lo hi = some (wi a lo hi) := f7_in I R a lo hi
theorem at_in {I : MI} {R : MR} {T p : Nat} (hT : I 6 1 = nI T) (h2 : T ≤ 200) (hp : p < T) : f_X6_at I R (nI p) = some (I 7 p &&& 255) := by
  simp only [f_X6_at, hT, if_neg (nI_pos (show p < 2 ^ 31 by omega)), if_neg (nI_ge hp (show T < 2 ^ 31 by omega)), if_neg (show ¬ (200 : Int32) ≤ nI p from nI_ge (a := p) (b := 200) (by omega) (by omega)), gd_pos (show ix (nI p) (ln 7) from ix_nI (show p < 200 by omega) (by decide)), nI_clamp (show p < 2 ^ 31 by omega)]
theorem at_out {I : MI} {R : MR} {T p : Nat} (hT : I 6 1 = nI T) (h2 : T ≤ 200) (hp : T ≤ p) (hp2 : p < 2 ^ 31) : f_X6_at I R (nI p) = some (-1) := by
  simp only [f_X6_at, hT, if_neg (nI_pos hp2), if_pos (nI_le hp hp2)]
/-- class and reference stand at the same place of the same text -/
def tx (C M : MI) (T p : Nat) : Prop := C 6 1 = nI T ∧ M 100 31 = nI T ∧ T ≤ 200 ∧ (∀ k, k < 200 → C 7 k = M 131 k ∧ rg (M 131 k) (-128) 127) ∧ C 8 1 = nI p ∧ M 100 32 = nI p ∧ p ≤ T
theorem tx.to {C M : MI} {T p : Nat} (h : tx C M T p) {e : Nat} (he : e ≤ T) : tx (p2 C 8 1 (nI e)) (p2 M 100 32 (nI e)) T e := by
  obtain ⟨h1, h2, h3, h4, h5, h6, h7⟩ := h
  unfold tx
  simp (disch := omega) only [p2_off, p2_hit]
  exact ⟨h1, h2, h3, h4, trivial, trivial, he⟩
/-- what the reference sees -/
def seen1 (M : MI) (T p : Nat) : Int32 := if p < T then (M 131 p &&& 255) else -1
theorem at_tx {C M : MI} {R : MR} {T p : Nat} (h : tx C M T p) : f_X6_at C R (nI p) = some (seen1 M T p) := by
  obtain ⟨h1, h2, h3, h4, h5, h6, h7⟩ := h
  unfold seen1
  by_cases q : p < T
  · rw [if_pos q, at_in h1 h3 q, (h4 p (by omega)).1]
  · rw [if_neg q, at_out h1 h3 (by omega) (by omega)]
theorem skip_ok {C M : MI} {R : MR} {T p0 : Nat} (h : tx C M T p0) : ∀ (d p st nn nn' : Nat), p + d = T → st ≤ p → d < nn → d < nn' →
    ∃ e, p ≤ e ∧ e ≤ T ∧ (e = T ∨ M 131 e ≠ 32) ∧ f_X1_skipBlanks_2 nn (p2 C 8 1 (nI p)) R (nI st) = some (p2 C 8 1 (nI e)) ∧ ∀ R', f_X8_see_0 nn' (p2 M 100 32 (nI p)) R' = some (seen1 M T e, p2 M 100 32 (nI e)) := by
  intro d
  induction d with
  | zero =>
    intro p st nn nn' hd hst hn hn'
    obtain ⟨nn, rfl⟩ : ∃ m, nn = m + 1 := ⟨nn - 1, by omega⟩
    obtain ⟨nn', rfl⟩ : ∃ m, nn' = m + 1 := ⟨nn' - 1, by omega⟩
    have h0 := h.to (e := p) (by omega)
    have ha := at_tx (R := R) h0
    have hs : seen1 (p2 M 100 32 (nI p)) T p = -1 := if_neg (by omega)
    obtain ⟨h1, h2, h3, h4, h5, h6, h7⟩ := h
    refine ⟨p, by omega, by omega, Or.inl (by omega), ?_, fun R' => ?_⟩
    · rw [f_X1_skipBlanks_2.eq_2]
      by_cases q : (200 : Int32) ≤ nI st
      · rw [if_pos q]
      · rw [if_neg q, p2_hit rfl rfl, ha, bd_def, hs, if_neg (by decide)]
    · rw [f_X8_see_0.eq_2, p2_hit rfl rfl, p2_off (by omega), h2, if_pos (nI_le (by omega) (by omega))]
      unfold f_X8_see_38 seen1
      rw [p2_hit rfl rfl, p2_off (by omega), h2, if_pos (nI_le (by omega) (by omega)), if_neg (by omega)]
  | succ d ih =>
    intro p st nn nn' hd hst hn hn'
    obtain ⟨nn, rfl⟩ : ∃ m, nn = m + 1 := ⟨nn - 1, by omega⟩
    obtain ⟨nn', rfl⟩ : ∃ m, nn' = m + 1 := ⟨nn' - 1, by omega⟩
    have h0 := h.to (e := p) (by omega)
    have ha := at_tx (R := R) h0
    have hs : seen1 (p2 M 100 32 (nI p)) T p = M 131 p &&& 255 := by
      unfold seen1; rw [if_pos (by omega), p2_off (by omega)]
    have hs2 : seen1 M T p = M 131 p &&& 255 := by
      unfold seen1; rw [if_pos (by omega)]
    obtain ⟨h1, h2, h3, h4, h5, h6, h7⟩ := h
    have hb := (h4 p (by omega)).2
    have q200 : ¬ (200 : Int32) ≤ nI st := nI_ge (a := st) (b := 200) (by omega) (by omega)
    have e32 := by_eq2 (c := 32) hb ⟨by decide, by decide⟩
    have hcl : (nI p).toNatClampNeg = p := nI_clamp (by omega)
    have hix : ix (nI p) (ln 131) := ix_nI (show p < 200 by omega) (by decide)
    by_cases q : M 131 p = 32
    · obtain ⟨e, e1, e2, e3, e4, e5⟩ := ih (p + 1) (st + 1) nn nn' (by omega) (by omega) (by omega) (by omega)
      refine ⟨e, by omega, e2, e3, ?_, fun R' => ?_⟩
      · rw [f_X1_skipBlanks_2.eq_2, if_neg q200, p2_hit rfl rfl, ha, bd_def, hs, if_pos (e32.mpr q), lt_def, p2_p2, nI_1, nI_1, e4]
      · rw [f_X8_see_0.eq_2, p2_hit rfl rfl, p2_off (by omega), h2, if_neg (nI_ge (by omega) (by omega)), gd_pos hix]
        simp only [hcl]
        rw [p2_off (by omega), if_pos q, lt_def, p2_p2, nI_1, e5 R']
    · refine ⟨p, by omega, by omega, Or.inr q, ?_, fun R' => ?_⟩
      · rw [f_X1_skipBlanks_2.eq_2, if_neg q200, p2_hit rfl rfl, ha, bd_def, hs, if_neg (fun z => q (e32.mp z))]
      · rw [f_X8_see_0.eq_2, p2_hit rfl rfl, p2_off (by omega), h2, if_neg (nI_ge (by omega) (by omega)), gd_pos hix]
        simp only [hcl]
        rw [p2_off (by omega), if_neg q]
        unfold f_X8_see_38
        rw [p2_hit rfl rfl, p2_off (by omega), h2, if_neg (nI_ge (by omega) (by omega)), gd_pos hix]
        simp only [hcl]
        rw [p2_off (by omega), hs2]
theorem tx.see {C M : MI} {T p : Nat} (R : MR) (h : tx C M T p) : ∃ e, p ≤ e ∧ e ≤ T ∧ (e = T ∨ M 131 e ≠ 32) ∧ f_X1_skipBlanks C R = some (p2 C 8 1 (nI e)) ∧ ∀ R', f_X8_see M R' = some (seen1 M T e, p2 M 100 32 (nI e)) := by
  have h7 := h.2.2.1
  obtain ⟨e, e1, e2, e3, e4, e5⟩ := skip_ok (R := R) h (T - p) p 0 1000000 1000000 (by have := h.2.2.2.2.2.2; omega) (by omega) (by omega) (by omega)
  rw [p2_self h.2.2.2.2.1] at e4
  rw [p2_self h.2.2.2.2.2.1] at e5
  exact ⟨e, e1, e2, e3, e4, e5⟩
