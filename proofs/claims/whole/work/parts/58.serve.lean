/-! ===== one TICK: the hoses ===== -/
theorem p2_p2 {I : MI} {a k : Nat} {v w : Int32} : p2 (p2 I a k v) a k w = p2 I a k w := by
  funext b j
  unfold p2
  by_cases e : b = a
  · by_cases e2 : j = k
    · simp only [if_pos e, if_pos e2]
    · simp only [if_pos e, if_neg e2]
  · simp only [if_neg e]
theorem p2_self {I : MI} {a k : Nat} {v : Int32} (h : I a k = v) : p2 I a k v = I := by
  funext b j
  unfold p2
  by_cases e : b = a
  · by_cases e2 : j = k
    · rw [if_pos e, if_pos e2, ← h, e, e2]
    · rw [if_pos e, if_neg e2]
  · rw [if_neg e]
theorem bR.N {C M : MI} {i : Nat} (h : bR C M i) : ∃ V B T : Nat, M 104 i = nI V ∧ M 105 i = nI B ∧ M 106 i = nI T ∧ 1 ≤ V ∧ V ≤ 100 ∧ B ≤ V * 400 ∧ T ≤ 400 := by
  obtain ⟨-, -, -, -, -, -, hv, h1, h2, ht, -⟩ := h
  have hv1 := hv.1
  have hv2 := hv.2
  obtain ⟨V, hV, eV⟩ := nI_of_rg (x := M 104 i) (b := 100) ⟨by omega, hv2⟩
  obtain ⟨B, hB, eB⟩ := nI_of_rg (x := M 105 i) (b := 40000) ⟨h1, by omega⟩
  obtain ⟨T, hT, eT⟩ := nI_of_rg ht
  rw [eV, nI_toInt (by omega)] at hv1 h2
  rw [eB, nI_toInt (by omega)] at h2
  exact ⟨V, B, T, eV, eB, eT, by omega, by omega, by omega, by omega⟩
theorem cR.N {C M : MI} {j : Nat} (h : cR C M j) : ∃ W D X : Nat, M 115 j = nI W ∧ M 116 j = nI D ∧ M 117 j = nI X ∧ 1 ≤ W ∧ W ≤ 20 ∧ 1 ≤ X ∧ X ≤ 300 ∧ D ≤ W * X := by
  obtain ⟨-, -, -, -, -, -, -, -, -, -, -, -, hv, hx, h1, h2, -, -⟩ := h
  have hv1 := hv.1
  have hv2 := hv.2
  have hx1 := hx.1
  have hx2 := hx.2
  have hm : (M 115 j).toInt * (M 117 j).toInt ≤ 20 * 300 := Int.mul_le_mul hv2 hx2 (by omega) (by omega)
  obtain ⟨W, hW, eW⟩ := nI_of_rg (x := M 115 j) (b := 20) ⟨by omega, hv2⟩
  obtain ⟨D, hD, eD⟩ := nI_of_rg (x := M 116 j) (b := 6000) ⟨h1, by omega⟩
  obtain ⟨X, hX, eX⟩ := nI_of_rg (x := M 117 j) (b := 300) ⟨by omega, hx2⟩
  rw [eW, nI_toInt (by omega)] at hv1 h2
  rw [eX, nI_toInt (by omega)] at hx1 h2
  rw [eD, nI_toInt (by omega)] at h2
  refine ⟨W, D, X, eW, eD, eX, by omega, by omega, by omega, by omega, ?_⟩
  have : ((W * X : Nat) : Int) = (W : Int) * X := Int.natCast_mul W X
  omega
def drM (M : MI) (j k : Nat) (u : Int32) : MI := p2 (p2 (p2 (p2 (p2 (p2 M 120 j (nI k)) 105 k (M 105 k - u)) 107 k (M 107 k + u)) 116 j (M 116 j + u)) 123 j (M 123 j + u)) 119 j (M 119 j + (u * M 143 0) / M 115 j)
def drC (C : MI) (r j k : Nat) (u : Int32) : MI := p2 (p2 (p2 (p2 (p2 (p2 C (40 + j) 5 (nI k)) (30 + k) 1 (C (30 + k) 1 - u)) (30 + k) 3 (C (30 + k) 3 + u)) (40 + j) 1 (C (40 + j) 1 + u)) (40 + j) 8 (C (40 + j) 8 + u)) (40 + j) 3 (C (40 + j) 3 + (u * C r 0) / C (40 + j) 0)
theorem draw_end {C M : MI} {R : MR} {nb nc lh j W D X : Nat} (hS : gS C M nb nc lh) (k0 : C (40 + j) 0 = nI W) (k1 : C (40 + j) 1 = nI D) (k2 : C (40 + j) 2 = nI X) (hWX : W * X ≤ 6000) (hD : D ≤ W * X) : ∀ (d k nn : Nat), k + d = 4 → nb ≤ k → d < nn → f_X7_drawsOn_19 nn C R (40 + j) (nI k) = some (0, p2 C (40 + j) 4 (if D = W * X then 2 else 3)) := by
  intro d
  induction d with
  | zero =>
    intro k nn hk hn hd
    obtain ⟨nn, rfl⟩ : ∃ m, nn = m + 1 := ⟨nn - 1, by omega⟩
    rw [f_X7_drawsOn_19.eq_2, if_pos (show (4 : Int32) ≤ nI k from nI_le (a := 4) (by omega) (by omega)), (lk_eq (R := R) k0 k1 k2 (by omega) (by omega)).1, bd_def]
    by_cases e : D = W * X
    · rw [if_pos (by rw [show W * X - D = 0 by omega]; rfl), if_pos e]; rfl
    · rw [if_neg (nI_ne0 (by omega) (by omega)), if_neg e]; rfl
  | succ d ih =>
    intro k nn hk hn hd
    obtain ⟨nn, rfl⟩ : ∃ m, nn = m + 1 := ⟨nn - 1, by omega⟩
    rw [f_X7_drawsOn_19.eq_2, if_neg (show ¬ (4 : Int32) ≤ nI k from nI_ge (a := k) (b := 4) (by omega) (by omega)), (bk_no (M := M) (R := R) hS (Or.inr (nI_le hn (by omega)))).1, bd_def, mt_none, nI_1]
    exact ih (k + 1) nn (by omega) (by omega) (by omega)
theorem draw_loop {C M : MI} {R : MR} {al : Nat → Bool} {nb nc lh r : Nat} (hR : Rel C M R nb nc lh r) (hA : gA al R nb nc) {h j : Nat} (hj : j < nc) :
    ∀ (d k nn nn' : Nat), k + d = 4 → d < nn → d < nn' →
    (∃ (s : Int32) (k' : Nat), (s = 2 ∨ s = 3) ∧ f_X7_drawsOn_19 nn C R (40 + j) (nI k) = some (0, p2 C (40 + j) 4 s) ∧ ∀ R', f_X8_draws_23 nn' (p2 M 120 j (nI k)) R' (nI h) (nI j) = bd (f_X8_goes (p2 M 120 j (nI k')) R' (nI h) s) (fun z => some z)) ∨
    (∃ k' u, k' < nb ∧ f_X7_drawsOn_19 nn C R (40 + j) (nI k) = some (1, drC C r j k' (nI u)) ∧ (∀ R', f_X8_draws_23 nn' (p2 M 120 j (nI k)) R' (nI h) (nI j) = some (drM M j k' (nI u))) ∧
      ∃ V B W D X G : Nat, M 104 k' = nI V ∧ M 105 k' = nI B ∧ M 115 j = nI W ∧ M 116 j = nI D ∧ M 117 j = nI X ∧ M 143 0 = nI G ∧ u ≤ B ∧ B ≤ V * 400 ∧ V ≤ 100 ∧ D + u ≤ W * X ∧ 1 ≤ W ∧ W ≤ 20 ∧ X ≤ 300 ∧ u ≤ 500 ∧ G ≤ 100 ∧ (M 119 j).toInt + ((u * G / W : Nat) : Int) ≤ 2000) := by
  obtain ⟨hS, hM, hP, hT, hLg, hB, hC, hH, hG, hN, hw⟩ := hR
  have hb := hS.2.2.2.2.2.1
  have hc := hS.2.2.2.2.2.2.1
  have hcr := hC.1 j hj
  obtain ⟨W, D, X, eW, eD, eX, w1, w2, x1, x2, hD⟩ := hcr.N
  obtain ⟨b0, b1, b2, b3, b4, b6, b7, b8, b9, bs1, bs2, br4, br0, br2, brc, brc2, brw, brl⟩ := hcr
  have hWX : W * X ≤ 20 * 300 := Nat.mul_le_mul w2 x2
  have hclj : (nI j).toNatClampNeg = j := nI_clamp (by omega)
  have hx : ix (nI j) 60 := ix_nI (by omega) (by decide)
  intro d
  induction d with
  | zero =>
    intro k nn nn' hk hd hd'
    obtain ⟨nn', rfl⟩ : ∃ m, nn' = m + 1 := ⟨nn' - 1, by omega⟩
    refine Or.inl ⟨if D = W * X then 2 else 3, k, by split <;> simp, draw_end hS (b0.trans eW) (b1.trans eD) (b2.trans eX) (by omega) hD 0 k nn hk (by omega) hd, fun R' => ?_⟩
    rw [f_X8_draws_23.eq_2]
    simp only [gd_pos (show ix (nI j) (ln 120) from hx), gd_pos (show ix (nI j) (ln 116) from hx), gd_pos (show ix (nI j) (ln 115) from hx), gd_pos (show ix (nI j) (ln 117) from hx), hclj]
    simp (disch := omega) only [p2_off, p2_hit]
    rw [hS.2.1, if_pos (nI_le (by omega) (by omega)), eW, eD, eX, pk_mul]
    by_cases e : D = W * X
    · rw [if_pos ((nI_eq (by omega) (by omega)).mpr e), if_pos e]
    · rw [if_neg (fun z => e ((nI_eq (by omega) (by omega)).mp z)), if_neg e]
  | succ d ih =>
    intro k nn nn' hk hd hd'
    obtain ⟨nn', rfl⟩ : ∃ m, nn' = m + 1 := ⟨nn' - 1, by omega⟩
    by_cases hkn : nb ≤ k
    · refine Or.inl ⟨if D = W * X then 2 else 3, k, by split <;> simp, draw_end hS (b0.trans eW) (b1.trans eD) (b2.trans eX) (by omega) hD (d + 1) k nn hk (by omega) hd, fun R' => ?_⟩
      rw [f_X8_draws_23.eq_2]
      simp only [gd_pos (show ix (nI j) (ln 120) from hx), gd_pos (show ix (nI j) (ln 116) from hx), gd_pos (show ix (nI j) (ln 115) from hx), gd_pos (show ix (nI j) (ln 117) from hx), hclj]
      simp (disch := omega) only [p2_off, p2_hit]
      rw [hS.2.1, if_pos (nI_le (by omega) (by omega)), eW, eD, eX, pk_mul]
      by_cases e : D = W * X
      · rw [if_pos ((nI_eq (by omega) (by omega)).mpr e), if_pos e]
      · rw [if_neg (fun z => e ((nI_eq (by omega) (by omega)).mp z)), if_neg e]
    obtain ⟨nn, rfl⟩ : ∃ m, nn = m + 1 := ⟨nn - 1, by omega⟩
    have hclk : (nI k).toNatClampNeg = k := nI_clamp (by omega)
    have hy : ix (nI k) 4 := ix_nI (by omega) (by decide)
    have hbk := bk_yes hS hA (j := k) (by omega)
    have hbr := hB.1 k (by omega)
    obtain ⟨V, B, T, eV, eB, eT, v1, v2, hB4, hT4⟩ := hbr.N
    obtain ⟨a0, a1, a2, a3, a4, a5, -, -, -, -, al_⟩ := hbr
    have n4 : ¬ (4 : Int32) ≤ nI k := nI_ge (a := k) (b := 4) (by omega) (by omega)
    have i4 : ix 4 (ln 143) := ⟨by decide, by decide⟩
    have c4 : (4 : Int32).toNatClampNeg = 4 := by decide
    have n8 : ¬ nI nb ≤ nI k := nI_ge (by omega) (by omega)
    have p2s : ∀ v : Int32, p2 (p2 M 120 j (nI k)) 120 j v = p2 M 120 j v := fun v => p2_p2
    by_cases hl : M 109 k = 0
    · have hl7 : C (30 + k) 5 = 0 := a5.trans hl
      obtain ⟨u, G, f, e5, e8, u1, u2, u3, g0, g8, gg, u4, -⟩ := un_eq (R := R) (M := p2 M 120 j (nI k)) (hG.2.2.pM (by omega)) hG.r2 (o1 := 30 + k) (o2 := 40 + j) (a0.trans eV) (a1.trans eB) (b0.trans eW) (b1.trans eD) (b2.trans eX) b3 v1 v2 (by omega) w1 w2 x2 hD brw.1 brw.2
      have hls := hG.2.2.2.2.2.2.1
      have f8 : ∀ R', f_X8_draws_23 (nn' + 1) (p2 M 120 j (nI k)) R' (nI h) (nI j) = f_X8_draws_96 (f_X8_draws_23 nn') (p2 M 120 j (nI k)) R' (nI h) (nI j) (nI k) (nI u) := by
        intro R'
        rw [f_X8_draws_23.eq_2]
        simp only [gd_pos (show ix (nI j) (ln 120) from hx), gd_pos (show ix (nI j) (ln 116) from hx), gd_pos (show ix (nI j) (ln 115) from hx), gd_pos (show ix (nI j) (ln 117) from hx), gd_pos (show ix (nI j) (ln 119) from hx), hclj]
        simp (disch := omega) only [p2_off, p2_hit]
        rw [hS.2.1, if_neg n8, gd_pos (show ix (nI k) (ln 109) from hy)]
        simp only [hclk]
        rw [if_pos hl, gd_pos (show ix (nI k) (ln 104) from hy), gd_pos (show ix (nI k) (ln 105) from hy), eV, eB, eW, eD, eX, e8 R', bd_def]
      by_cases hlt : nI u < M 143 4
      · have f7 : f_X7_drawsOn_19 (nn + 1) C R (40 + j) (nI k) = f_X7_drawsOn_19 nn C R (40 + j) (nI (k + 1)) := by
          rw [f_X7_drawsOn_19.eq_2]
          simp only [if_neg n4, hbk.1, bd_def, mt_def, if_pos hl7, hG.1, e5, hls, if_pos hlt, nI_1]
        have f9 : ∀ R', f_X8_draws_23 (nn' + 1) (p2 M 120 j (nI k)) R' (nI h) (nI j) = f_X8_draws_23 nn' (p2 M 120 j (nI (k + 1))) R' (nI h) (nI j) := by
          intro R'
          rw [f8 R']
          simp only [f_X8_draws_96, f_X8_draws_188, gd_pos (show ix (nI k) (ln 109) from hy), gd_pos i4, c4, hclk, hclj, gd_pos (show ix (nI j) (ln 120) from hx), lt_def]
          simp (disch := omega) only [p2_off, p2_hit]
          rw [if_pos hl, if_pos hlt, p2s, nI_1]
        rcases ih (k + 1) nn nn' (by omega) (by omega) (by omega) with ⟨s, k', hs, q7, q8⟩ | ⟨k', u', hk', q7, q8, rest⟩
        · exact Or.inl ⟨s, k', hs, f7.trans q7, fun R' => (f9 R').trans (q8 R')⟩
        · exact Or.inr ⟨k', u', hk', f7.trans q7, fun R' => (f9 R').trans (q8 R'), rest⟩
      · refine Or.inr ⟨k, u, by omega, ?_, fun R' => ?_, V, B, W, D, X, G, eV, eB, eW, eD, eX, ?_, u2, hB4, v2, u3, w1, w2, x2, u1, gg, u4⟩
        · have hr := hG.r2
          rw [f_X7_drawsOn_19.eq_2]
          simp only [if_neg n4, hbk.1, bd_def, mt_def, if_pos hl7, hG.1, e5, hls, if_neg hlt, lt_def, f_X5_moveOver]
          simp (disch := omega) only [p2_off, p2_hit]
          rw [b0, eW, if_pos (show (1 : Int32) ≤ nI W from nI_le (a := 1) w1 (by omega)), gd_pos (nI_ne0 w1 (by omega)), bd_def]
          unfold drC
          rw [b0, eW]
        · rw [f8 R']
          simp only [f_X8_draws_96, gd_pos (show ix (nI k) (ln 109) from hy), gd_pos (show ix (nI k) (ln 105) from hy), gd_pos (show ix (nI k) (ln 107) from hy), gd_pos i4, c4, hclk, hclj, gd_pos (show ix (nI j) (ln 116) from hx), gd_pos (show ix (nI j) (ln 123) from hx), gd_pos (show ix (nI j) (ln 119) from hx), gd_pos (show ix (nI j) (ln 115) from hx), gd_pos (show ix 0 (ln 143) from ⟨by decide, by decide⟩), show (0 : Int32).toNatClampNeg = 0 by decide, lt_def]
          simp (disch := omega) only [p2_off, p2_hit]
          rw [if_pos hl, if_neg hlt, eW, gd_pos (nI_ne0 w1 (by omega))]
          unfold drM
          rw [eW]
        · rw [p2_off (by omega)] at g8; exact g8
    · have hl7 : ¬ C (30 + k) 5 = 0 := fun z => hl (a5.symm.trans z)
      have f7 : f_X7_drawsOn_19 (nn + 1) C R (40 + j) (nI k) = f_X7_drawsOn_19 nn C R (40 + j) (nI (k + 1)) := by
        rw [f_X7_drawsOn_19.eq_2]
        simp only [if_neg n4, hbk.1, bd_def, mt_def, if_neg hl7, nI_1]
      have f9 : ∀ R', f_X8_draws_23 (nn' + 1) (p2 M 120 j (nI k)) R' (nI h) (nI j) = f_X8_draws_23 nn' (p2 M 120 j (nI (k + 1))) R' (nI h) (nI j) := by
        intro R'
        rw [f_X8_draws_23.eq_2]
        simp only [gd_pos (show ix (nI j) (ln 120) from hx), hclj]
        simp (disch := omega) only [p2_off, p2_hit]
        rw [hS.2.1, if_neg n8, gd_pos (show ix (nI k) (ln 109) from hy)]
        simp only [hclk]
        rw [if_neg hl]
        simp only [f_X8_draws_96, f_X8_draws_188, gd_pos (show ix (nI k) (ln 109) from hy), hclk, hclj, gd_pos (show ix (nI j) (ln 120) from hx), lt_def]
        simp (disch := omega) only [p2_off, p2_hit]
        rw [if_neg hl, p2s, nI_1]
      rcases ih (k + 1) nn nn' (by omega) (by omega) (by omega) with ⟨s, k', hs, q7, q8⟩ | ⟨k', u', hk', q7, q8, rest⟩
      · exact Or.inl ⟨s, k', hs, f7.trans q7, fun R' => (f9 R').trans (q8 R')⟩
      · exact Or.inr ⟨k', u', hk', f7.trans q7, fun R' => (f9 R').trans (q8 R'), rest⟩
