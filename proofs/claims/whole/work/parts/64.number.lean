/-! ===== the TEXT: numbers ===== -/
theorem num_loop {C M : MI} {R : MR} {T p0 s : Nat} {lo hi : Int32} (h : tx C M T p0) : ∀ (d p nn nn' : Nat) (x : Int32), p + d = T → s ≤ p → d < nn → d < nn' →
    ∃ e y, p ≤ e ∧ e ≤ T ∧ (p < T → wi (M 131 p) 48 57 = 1 → p < e) ∧ (¬ (p < T ∧ wi (M 131 p) 48 57 = 1) → e = p) ∧ f_X1_readNumber_15 nn (p2 C 8 1 (nI p)) R lo hi (nI s) x (nI (p - s)) = f_X1_readNumber_93 (p2 C 8 1 (nI e)) R lo hi (nI s) y ∧
      ∀ R', f_X8_number_39 nn' (p2 M 100 32 (nI p)) R' lo hi (nI s) (nI (p - s)) x = f_X8_number_120 (p2 M 100 32 (nI e)) R' lo hi (nI s) (nI (e - s)) y := by
  have h0 := h
  obtain ⟨h1, h2, h3, h4, h5, h6, h7⟩ := h
  intro d
  induction d with
  | zero =>
    intro p nn nn' x hd hs hn hn'
    obtain ⟨nn, rfl⟩ : ∃ m, nn = m + 1 := ⟨nn - 1, by omega⟩
    obtain ⟨nn', rfl⟩ : ∃ m, nn' = m + 1 := ⟨nn' - 1, by omega⟩
    have ha := at_tx (R := R) (h0.to (e := p) (by omega))
    have hsn : seen1 (p2 M 100 32 (nI p)) T p = -1 := if_neg (by omega)
    refine ⟨p, x, by omega, by omega, fun q => by omega, fun _ => rfl, ?_, fun R' => ?_⟩
    · rw [f_X1_readNumber_15.eq_2]
      by_cases q : (200 : Int32) ≤ nI (p - s)
      · rw [if_pos q]
      · rw [if_neg q, p2_hit rfl rfl, ha, bd_def, hsn, f1_bt, bd_def, if_pos (by decide)]
    · rw [f_X8_number_39.eq_2, p2_hit rfl rfl, p2_off (by omega), h2, if_pos (nI_le (by omega) (by omega))]
  | succ d ih =>
    intro p nn nn' x hd hs hn hn'
    obtain ⟨nn, rfl⟩ : ∃ m, nn = m + 1 := ⟨nn - 1, by omega⟩
    obtain ⟨nn', rfl⟩ : ∃ m, nn' = m + 1 := ⟨nn' - 1, by omega⟩
    have ha := at_tx (R := R) (h0.to (e := p) (by omega))
    have hsn : seen1 (p2 M 100 32 (nI p)) T p = M 131 p &&& 255 := by
      unfold seen1; rw [if_pos (by omega), p2_off (by omega)]
    have hb := (h4 p (by omega)).2
    have hin := by_in (lo := 48) (hi := 57) hb ⟨by decide, by decide⟩ ⟨by decide, by decide⟩
    have hcl : (nI p).toNatClampNeg = p := nI_clamp (by omega)
    have hix : ix (nI p) (ln 131) := ix_nI (show p < 200 by omega) (by decide)
    have e1 : p - s + 1 = p + 1 - s := by omega
    by_cases q200 : (200 : Int32) ≤ nI (p - s)
    · exact absurd q200 (nI_ge (a := p - s) (b := 200) (by omega) (by omega))
    have c15 : f_X1_readNumber_15 (nn + 1) (p2 C 8 1 (nI p)) R lo hi (nI s) x (nI (p - s)) = if wi (M 131 p) 48 57 = 0 then f_X1_readNumber_93 (p2 C 8 1 (nI p)) R lo hi (nI s) x else f_X1_readNumber_15 nn (p2 C 8 1 (nI (p + 1))) R lo hi (nI s) (if 3 ≤ nI (p - s) then x else ((x * 10) + (M 131 p &&& 255)) - 48) (nI (p + 1 - s)) := by
      rw [f_X1_readNumber_15.eq_2, if_neg q200, p2_hit rfl rfl, ha, bd_def, hsn, f1_bt, bd_def, hin]
      by_cases z : wi (M 131 p) 48 57 = 0
      · rw [if_pos z, if_pos z]
      · rw [if_neg z, if_neg z]
        by_cases z3 : (3 : Int32) ≤ nI (p - s)
        · rw [if_pos z3, if_pos z3]
          simp only [f_X1_readNumber_75, lt_def, p2_p2, p2_hit, nI_1, e1]
        · rw [if_neg z3, if_neg z3, bd_def]
          simp only [f_X1_readNumber_75, lt_def, p2_p2, p2_hit, nI_1, e1]
    by_cases q1 : M 131 p < 48
    · have w0 : wi (M 131 p) 48 57 = 0 := if_pos q1
      refine ⟨p, x, by omega, by omega, fun _ z => (by rw [w0] at z; exact absurd z (by decide)), fun _ => rfl, by rw [c15, if_pos w0], fun R' => ?_⟩
      rw [f_X8_number_39.eq_2, p2_hit rfl rfl, p2_off (by omega), h2, if_neg (nI_ge (by omega) (by omega)), gd_pos hix]
      simp only [hcl]
      rw [p2_off (by omega), if_pos q1]
    by_cases q2 : 57 < M 131 p
    · have w0 : wi (M 131 p) 48 57 = 0 := by unfold wi; rw [if_neg q1, if_pos q2]
      refine ⟨p, x, by omega, by omega, fun _ z => (by rw [w0] at z; exact absurd z (by decide)), fun _ => rfl, by rw [c15, if_pos w0], fun R' => ?_⟩
      rw [f_X8_number_39.eq_2, p2_hit rfl rfl, p2_off (by omega), h2, if_neg (nI_ge (by omega) (by omega)), gd_pos hix]
      simp only [hcl]
      rw [p2_off (by omega), if_neg q1, gd_pos hix, if_pos q2]
    have w1 : wi (M 131 p) 48 57 = 1 := by unfold wi; rw [if_neg q1, if_neg q2]
    have hpos : 0 ≤ (M 131 p).toInt := by
      rw [tI_lt] at q1
      have : (48 : Int32).toInt = 48 := by decide
      omega
    have hand : M 131 p &&& 255 = M 131 p := by rw [by_and hb, if_pos hpos]
    obtain ⟨e, y, e1', e2, -, -, e3, e4⟩ := ih (p + 1) nn nn' (if 3 ≤ nI (p - s) then x else ((x * 10) + (M 131 p &&& 255)) - 48) (by omega) (by omega) (by omega) (by omega)
    refine ⟨e, y, by omega, e2, fun _ _ => by omega, fun z => absurd ⟨by omega, w1⟩ z, by rw [c15, if_neg (by rw [w1]; exact i10), e3], fun R' => ?_⟩
    have e4' := e4 R'
    rw [hand] at e4'
    rw [f_X8_number_39.eq_2, p2_hit rfl rfl, p2_off (by omega), h2, if_neg (nI_ge (by omega) (by omega)), gd_pos hix]
    simp only [hcl]
    rw [p2_off (by omega), if_neg q1, gd_pos hix, if_neg q2]
    by_cases z3 : (3 : Int32) ≤ nI (p - s)
    · rw [if_pos z3] at e4' ⊢
      simp only [f_X8_number_104, lt_def, p2_p2, p2_hit, nI_1, e1]
      exact e4'
    · rw [if_neg z3] at e4' ⊢
      rw [gd_pos hix]
      simp only [f_X8_number_104, lt_def, p2_p2, p2_hit, nI_1, e1]
      rw [Int32.mul_comm 10 x]
      exact e4'
/-- a number, or a FAULT: the same on both sides -/
theorem num_ok {C M : MI} {R : MR} {T p : Nat} {lo hi : Int32} (h : tx C M T p) (f8 : M 100 33 = 0) :
    (∃ e F v, e ≤ T ∧ 0 < F ∧ F < 2000 ∧ f_X1_readNumber C R lo hi = some (v, p2 (p2 C 8 1 (nI e)) 8 2 (nI F)) ∧ ∃ M2, (∀ R', f_X8_number M R' lo hi = some (0, M2)) ∧ M2 100 33 = nI F ∧ (∀ b k, b ≠ 100 ∨ (k ≠ 32 ∧ k ≠ 33 ∧ k ≠ 35) → M2 b k = M b k)) ∨
    (∃ e v, p < e ∧ e ≤ T ∧ lo.toInt ≤ v.toInt ∧ v.toInt ≤ hi.toInt ∧ f_X1_readNumber C R lo hi = some (v, p2 C 8 1 (nI e)) ∧ ∀ R', f_X8_number M R' lo hi = some (1, p2 (p2 M 100 32 (nI e)) 100 35 v)) := by
  obtain ⟨s, s1, s2, s3, s4, s5⟩ := h.see R
  have h3 := h.2.2.1
  obtain ⟨e, y, e1, e2, e3, e3', e4, e5⟩ := num_loop (R := R) (s := s) (lo := lo) (hi := hi) h (T - s) s 1000000 1000000 0 (by omega) (by omega) (by omega) (by omega)
  rw [Nat.sub_self] at e4 e5
  have c1 : f_X1_readNumber C R lo hi = f_X1_readNumber_93 (p2 C 8 1 (nI e)) R lo hi (nI s) y := by
    unfold f_X1_readNumber
    rw [s4, bd_def, p2_hit rfl rfl]
    exact e4
  have e8 : (8 : Int32) = nI 8 := rfl
  have e1' : (1 : Int32) = nI 1 := rfl
  have fl : ∀ k, k < 3 → (1 : Int32) + 8 * nI s + nI k = nI (1 + 8 * s + k) := fun k hk => by rw [e8, e1', pk_mul, nI_add, nI_add]
  by_cases hdig : s < T ∧ wi (M 131 s) 48 57 = 1
  · have hlt := e3 hdig.1 hdig.2
    have hb := (h.2.2.2.1 s (by omega)).2
    have hpos : 48 ≤ (M 131 s).toInt ∧ (M 131 s).toInt ≤ 57 := by
      rcases wi_cases (M 131 s) 48 57 with ⟨z, -⟩ | ⟨-, z1, z2⟩
      · rw [z] at hdig; exact absurd hdig.2 (by decide)
      · exact ⟨z1, z2⟩
    have hsn : seen1 M T s = M 131 s := by
      unfold seen1; rw [if_pos hdig.1, by_and hb, if_pos (by omega)]
    have r1 : ∀ R', f_X8_number M R' lo hi = f_X8_number_120 (p2 M 100 32 (nI e)) R' lo hi (nI s) (nI (e - s)) y := by
      intro R'
      unfold f_X8_number
      have n1 : ¬ M 131 s < 48 := by
        rw [tI_lt]
        have : (48 : Int32).toInt = 48 := by decide
        omega
      have n2 : M 131 s ≤ 57 := by
        rw [tI_le]
        have : (57 : Int32).toInt = 57 := by decide
        omega
      rw [s5 R', bd_def, hsn]
      simp only [if_neg n1, if_pos n2]
      rw [p2_hit rfl rfl]
      exact e5 R'
    have ne : ¬ nI e = nI s := fun z => by have := (nI_eq (by omega) (by omega)).mp z; omega
    have hsub : nI e - nI s = nI (e - s) := pk_sub (by omega)
    have fault : (3 < nI (e - s) ∨ wi y lo hi = 0) → (∃ e F v, e ≤ T ∧ 0 < F ∧ F < 2000 ∧ f_X1_readNumber C R lo hi = some (v, p2 (p2 C 8 1 (nI e)) 8 2 (nI F)) ∧ ∃ M2, (∀ R', f_X8_number M R' lo hi = some (0, M2)) ∧ M2 100 33 = nI F ∧ (∀ b k, b ≠ 100 ∨ (k ≠ 32 ∧ k ≠ 33 ∧ k ≠ 35) → M2 b k = M b k)) := by
      intro hf
      refine ⟨e, 1 + 8 * s + 1, y, e2, by omega, by omega, ?_, p2 (p2 (p2 M 100 32 (nI e)) 100 35 y) 100 33 (nI (1 + 8 * s + 1)), fun R' => ?_, p2_hit rfl rfl, fun b k hbk => by simp (disch := omega) only [p2_off]⟩
      · have c130 : f_X1_readNumber_130 (p2 C 8 1 (nI e)) R (nI s) y = some (y, p2 (p2 C 8 1 (nI e)) 8 2 (nI (1 + 8 * s + 1))) := by
          unfold f_X1_readNumber_130 f_X1_blame
          rw [lt_def, bd_def, show (1 : Int32) + 8 * nI s + 1 = nI (1 + 8 * s + 1) from fl 1 (by omega)]
        rw [c1]
        unfold f_X1_readNumber_93
        rw [p2_hit rfl rfl, if_neg ne, hsub]
        by_cases q : (3 : Int32) < nI (e - s)
        · rw [if_pos q, c130]
        · rcases hf with z | z
          · exact absurd z q
          · rw [if_neg q, f7_in, bd_def, if_pos z, c130]
      · have r142 : f_X8_number_142 (p2 (p2 M 100 32 (nI e)) 100 35 y) R' (nI s) = some (0, p2 (p2 (p2 M 100 32 (nI e)) 100 35 y) 100 33 (nI (1 + 8 * s + 1))) := by
          unfold f_X8_number_142 f_X8_fails
          rw [if_pos (by simp (disch := omega) only [p2_off]; exact f8), lt_def, bd_def, if_pos rfl, show (1 : Int32) + 8 * nI s + 1 = nI (1 + 8 * s + 1) from fl 1 (by omega)]
        rw [r1 R']
        unfold f_X8_number_120
        rw [lt_def]
        by_cases q : (3 : Int32) < nI (e - s)
        · rw [if_pos q, r142]
        · rcases hf with z | z
          · exact absurd z q
          · rw [if_neg q, f8_in, bd_def, if_pos z, r142]
    by_cases q : (3 : Int32) < nI (e - s)
    · exact Or.inl (fault (Or.inl q))
    · rcases wi_cases y lo hi with ⟨z, -⟩ | ⟨z, z1, z2⟩
      · exact Or.inl (fault (Or.inr z))
      · refine Or.inr ⟨e, y, by omega, e2, z1, z2, ?_, fun R' => ?_⟩
        · rw [c1]
          unfold f_X1_readNumber_93
          rw [p2_hit rfl rfl, if_neg ne, hsub, if_neg q, f7_in, bd_def, z, if_neg i10]
        · rw [r1 R']
          unfold f_X8_number_120
          rw [lt_def, if_neg q, f8_in, bd_def, z, if_neg i10]
  · have he := e3' hdig
    subst he
    refine Or.inl ⟨e, 1 + 8 * e + 0, y, e2, by omega, by omega, ?_, p2 (p2 M 100 32 (nI e)) 100 33 (nI (1 + 8 * e + 0)), fun R' => ?_, p2_hit rfl rfl, fun b k hbk => by simp (disch := omega) only [p2_off]⟩
    · rw [c1]
      unfold f_X1_readNumber_93 f_X1_blame
      rw [p2_hit rfl rfl, if_pos rfl, lt_def, bd_def, show (1 : Int32) + 8 * nI e + 0 = nI (1 + 8 * e + 0) from fl 0 (by omega)]
    · have r17 : f_X8_number_17 (p2 M 100 32 (nI e)) R' = some (0, p2 (p2 M 100 32 (nI e)) 100 33 (nI (1 + 8 * e + 0))) := by
        unfold f_X8_number_17 f_X8_fails
        rw [p2_hit rfl rfl, if_pos (by rw [p2_off (by omega)]; exact f8), lt_def, bd_def, show (1 : Int32) + 8 * nI e + 0 = nI (1 + 8 * e + 0) from fl 0 (by omega)]
        exact gd_pos (Or.inl rfl)
      unfold f_X8_number
      rw [s5 R', bd_def]
      by_cases q : seen1 M T e < 48
      · rw [if_pos q, r17]
      · rw [if_neg q]
        by_cases q2 : seen1 M T e ≤ 57
        · exfalso
          unfold seen1 at q q2
          by_cases z : e < T
          · rw [if_pos z] at q q2
            have hb := (h.2.2.2.1 e (by omega)).2
            have hin := by_in (lo := 48) (hi := 57) hb ⟨by decide, by decide⟩ ⟨by decide, by decide⟩
            refine hdig ⟨z, ?_⟩
            rw [← hin]
            unfold wi
            rw [if_neg q, if_neg (Int32.not_lt.mpr q2)]
          · rw [if_neg z] at q
            exact absurd (show (-1 : Int32) < 48 by decide) q
        · rw [if_neg q2, r17]
