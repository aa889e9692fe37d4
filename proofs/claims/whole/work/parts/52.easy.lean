theorem K_slip : LK_slip LI := by
  intro q al I R n y0 h
  refine LK_of (f7 := fun C R => f_X7_slip C R y0) (f8 := fun M R => f_X8_slip M R y0) ?_ q al I R n h
  intro C M R al nb nc lh r hR hA
  rcases wi_cases y0 0 50 with ⟨e, hn⟩ | ⟨e, h1, h2⟩
  · exact ⟨-1, C, M, nb, nc, lh, by simp only [f_X7_slip, f7_in, bd_def, e, if_pos], by simp only [f_X8_slip, f8_in, bd_def, e, if_pos], hR, hA, fc.rf, fm.rf⟩
  obtain ⟨hS, hM, hP, hT, hLg, hB, hC, hH, hG, hN, hw⟩ := hR
  have hb := hS.2.2.2.2.2.1
  have hc := hS.2.2.2.2.2.2.1
  have hlh := hS.2.2.2.2.2.2.2
  refine ⟨C 0 9, p2 C 0 9 y0, p2 M 100 29 y0, nb, nc, lh, by simp only [f_X7_slip, f7_in, bd_def, lt_def, e, if_neg i10], by simp only [f_X8_slip, f8_in, bd_def, lt_def, e, if_neg i10, hM.2.2.2.2.2.2.1], ⟨((hS).pC (by omega)).pM (by omega), ?_, ((hP).pC (by omega)).pM (by omega), ((hT).pC (by omega)).pM (by omega), ((hLg).pC (by omega)).pM (by omega), ((hB).pC hb (by omega)).pM (by omega), ((hC).pC hc (by omega)).pM (by omega), ((hH).pC).pM (by omega), ((hG).pC (by omega)).pM (by omega), ((hN).pC (by omega)).pM (by omega), (hw).pM (by omega)⟩, hA, fc.rf.p2 (by omega), fm.rf.p2 (by omega)⟩
  unfold gM at hM ⊢
  simp (disch := omega) only [p2_off, p2_hit]
  exact ⟨hM.1, hM.2.1, hM.2.2.1, hM.2.2.2.1, hM.2.2.2.2.1, hM.2.2.2.2.2.1, trivial, h1, h2⟩
theorem K_price : LK_price LI := by
  intro q al I R n y0 y1 h
  refine LK_of (f7 := fun C R => f_X7_price C R y0 y1) (f8 := fun M R => f_X8_price M R y0 y1) ?_ q al I R n h
  intro C M R al nb nc lh r hR hA
  rcases wi_cases y0 0 23 with ⟨e, hn⟩ | ⟨e, h1, h2⟩
  · exact ⟨-1, C, M, nb, nc, lh, by simp only [f_X7_price, f7_in, bd_def, e, if_pos], by simp only [f_X8_price, f8_in, bd_def, e, if_pos], hR, hA, fc.rf, fm.rf⟩
  rcases wi_cases y1 0 99 with ⟨e', hn⟩ | ⟨e', h3, h4⟩
  · exact ⟨-1, C, M, nb, nc, lh, by simp only [f_X7_price, f7_in, bd_def, e, e', if_pos, if_neg i10], by simp only [f_X8_price, f8_in, bd_def, e, e', if_pos, if_neg i10], hR, hA, fc.rf, fm.rf⟩
  have h1 : (0 : Int) ≤ y0.toInt := h1
  have h2 : y0.toInt ≤ (23 : Int) := h2
  obtain ⟨j, hj, rfl⟩ := nI_rg (k := 24) h1 (by omega) (by decide)
  have hx : ix (nI j) 24 := ix_nI hj (by decide)
  obtain ⟨hS, hM, hP, hT, hLg, hB, hC, hH, hG, hN, hw⟩ := hR
  have hb := hS.2.2.2.2.2.1
  have hc := hS.2.2.2.2.2.2.1
  have hlh := hS.2.2.2.2.2.2.2
  have hcl : (nI j).toNatClampNeg = j := nI_clamp (by omega)
  refine ⟨C 4 j, p2 C 4 j y1, p2 M 112 j y1, nb, nc, lh, by simp only [f_X7_price, f7_in, bd_def, lt_def, e, e', if_neg i10, gd_pos (show ix (nI j) (ln 4) from hx), hcl], by simp only [f_X8_price, f8_in, bd_def, lt_def, e, e', if_neg i10, gd_pos (show ix (nI j) (ln 112) from hx), hcl, (hP j hj).1], ⟨((hS).pC (by omega)).pM (by omega), ((hM).pC (by omega)).pM (by omega), ?_, ((hT).pC (by omega)).pM (by omega), ((hLg).pC (by omega)).pM (by omega), ((hB).pC hb (by omega)).pM (by omega), ((hC).pC hc (by omega)).pM (by omega), ((hH).pC).pM (by omega), ((hG).pC (by omega)).pM (by omega), ((hN).pC (by omega)).pM (by omega), (hw).pM (by omega)⟩, hA, fc.rf.p2 (by omega), fm.rf.p2 (by omega)⟩
  intro h hh
  have := hP h hh
  by_cases e2 : h = j
  · simp (disch := omega) only [p2_off, p2_hit]
    exact ⟨trivial, this.2⟩
  · simp (disch := omega) only [p2_off]
    exact this
theorem nar_b {v : Int32} (h : v = 0 ∨ v = 1) : vp_nar .boolean v = v := by rcases h with e | e <;> subst e <;> rfl
theorem K_closed : LK_closed LI := by
  intro q al I R n y0 y1 hy h
  refine LK_of (f7 := fun C R => f_X7_closed C R y0 y1) (f8 := fun M R => f_X8_closed M R y0 y1) ?_ q al I R n h
  intro C M R al nb nc lh r hR hA
  rcases wi_cases y0 0 23 with ⟨e, hn⟩ | ⟨e, h1, h2⟩
  · exact ⟨0, C, M, nb, nc, lh, by simp only [f_X7_closed, f7_in, bd_def, e, if_pos], by simp only [f_X8_closed, f8_in, bd_def, e, if_pos], hR, hA, fc.rf, fm.rf⟩
  have h1 : (0 : Int) ≤ y0.toInt := h1
  have h2 : y0.toInt ≤ (23 : Int) := h2
  obtain ⟨j, hj, rfl⟩ := nI_rg (k := 24) h1 (by omega) (by decide)
  have hx : ix (nI j) 24 := ix_nI hj (by decide)
  obtain ⟨hS, hM, hP, hT, hLg, hB, hC, hH, hG, hN, hw⟩ := hR
  have hb := hS.2.2.2.2.2.1
  have hc := hS.2.2.2.2.2.2.1
  have hlh := hS.2.2.2.2.2.2.2
  have hcl : (nI j).toNatClampNeg = j := nI_clamp (by omega)
  by_cases e3 : C 5 j = y1
  · have e4 : M 113 j = y1 := (hP j hj).2.1 ▸ e3
    exact ⟨0, C, M, nb, nc, lh, by simp only [f_X7_closed, f7_in, bd_def, lt_def, e, if_neg i10, gd_pos (show ix (nI j) (ln 5) from hx), hcl, if_pos e3], by simp only [f_X8_closed, f8_in, bd_def, lt_def, e, if_neg i10, gd_pos (show ix (nI j) (ln 113) from hx), hcl, if_pos e4], ⟨hS, hM, hP, hT, hLg, hB, hC, hH, hG, hN, hw⟩, hA, fc.rf, fm.rf⟩
  · have e4 : ¬ M 113 j = y1 := (hP j hj).2.1 ▸ e3
    refine ⟨1, p2 C 5 j y1, p2 M 113 j y1, nb, nc, lh, by simp only [f_X7_closed, f7_in, bd_def, lt_def, e, if_neg i10, gd_pos (show ix (nI j) (ln 5) from hx), hcl, if_neg e3, nar_b hy], by simp only [f_X8_closed, f8_in, bd_def, lt_def, e, if_neg i10, gd_pos (show ix (nI j) (ln 113) from hx), hcl, if_neg e4, nar_b hy], ⟨((hS).pC (by omega)).pM (by omega), ((hM).pC (by omega)).pM (by omega), ?_, ((hT).pC (by omega)).pM (by omega), ((hLg).pC (by omega)).pM (by omega), ((hB).pC hb (by omega)).pM (by omega), ((hC).pC hc (by omega)).pM (by omega), ((hH).pC).pM (by omega), ((hG).pC (by omega)).pM (by omega), ((hN).pC (by omega)).pM (by omega), (hw).pM (by omega)⟩, hA, fc.rf.p2 (by omega), fm.rf.p2 (by omega)⟩
    intro h hh
    have := hP h hh
    by_cases e2 : h = j
    · simp (disch := omega) only [p2_off, p2_hit]
      exact ⟨this.1, trivial, hy⟩
    · simp (disch := omega) only [p2_off]
      exact this
theorem K_end : LK_end LI := by
  intro q al I R n y0 h
  refine LK_of (f7 := fun C R => f_X7_end C R y0) (f8 := fun M R => f_X8_end M R y0) ?_ q al I R n h
  intro C M R al nb nc lh r hR hA
  obtain ⟨hS, hM, hP, hT, hLg, hB, hC, hH, hG, hN, hw⟩ := hR
  have hb := hS.2.2.2.2.2.1
  have hc := hS.2.2.2.2.2.2.1
  have hlh := hS.2.2.2.2.2.2.2
  by_cases h0 : y0 < 0
  · have e : wi y0 0 (C 6 1) = 0 := if_pos h0
    exact ⟨-1, C, M, nb, nc, lh, by simp only [f_X7_end, f7_in, bd_def, e, if_pos], by simp only [f_X8_end, if_pos h0], ⟨hS, hM, hP, hT, hLg, hB, hC, hH, hG, hN, hw⟩, hA, fc.rf, fm.rf⟩
  by_cases h1 : y0 ≤ C 6 1
  · have e : wi y0 0 (C 6 1) = 1 := by unfold wi; rw [if_neg h0, if_neg (Int32.not_lt.mpr h1)]
    refine ⟨y0, p2 C 6 1 y0, p2 M 100 31 y0, nb, nc, lh, by simp only [f_X7_end, f7_in, bd_def, lt_def, e, if_neg i10], by simp only [f_X8_end, lt_def, if_neg h0, if_pos (hT.1 ▸ h1)], ⟨((hS).pC (by omega)).pM (by omega), ((hM).pC (by omega)).pM (by omega), ((hP).pC (by omega)).pM (by omega), ?_, ((hLg).pC (by omega)).pM (by omega), ((hB).pC hb (by omega)).pM (by omega), ((hC).pC hc (by omega)).pM (by omega), ((hH).pC).pM (by omega), ((hG).pC (by omega)).pM (by omega), ((hN).pC (by omega)).pM (by omega), (hw).pM (by omega)⟩, hA, fc.rf.p2 (by omega), fm.rf.p2 (by omega)⟩
    unfold gT at hT ⊢
    simp (disch := omega) only [p2_off, p2_hit]
    rw [tI_lt] at h0
    rw [tI_le] at h1
    have h0 : ¬ y0.toInt < 0 := h0
    exact ⟨trivial, ⟨by omega, Int.le_trans h1 hT.2.1.2⟩, hT.2.2⟩
  · have e : wi y0 0 (C 6 1) = 0 := by unfold wi; rw [if_neg h0, if_pos (Int32.not_le.mp h1)]
    exact ⟨-1, C, M, nb, nc, lh, by simp only [f_X7_end, f7_in, bd_def, e, if_pos], by simp only [f_X8_end, if_neg h0, if_neg (hT.1 ▸ h1)], ⟨hS, hM, hP, hT, hLg, hB, hC, hH, hG, hN, hw⟩, hA, fc.rf, fm.rf⟩
/-- the class's and the reference's look at a BANK's number -/
theorem bk_no {C M : MI} {R : MR} {nb nc lh : Nat} (hS : gS C M nb nc lh) {x : Int32} (h : x < 0 ∨ nI nb ≤ x) : f_X7_bankAt C R x = some none ∧ f_X8_isBank M R x = some 0 := by
  have hnb := hS.2.2.2.2.2.1
  have e : wi x 0 (nI nb - 1) = 0 := by
    unfold wi
    rcases h with h | h
    · rw [if_pos h]
    · by_cases h0 : x < 0
      · rw [if_pos h0]
      · rw [if_neg h0, if_pos]
        rw [tI_lt]
        rw [tI_le, nI_toInt (by omega)] at h
        have h1 : (nI nb - 1).toInt = (nb : Int) - 1 := by
          have := pk_sub_toInt (a := nb) (b := 1) (by omega) (by omega)
          exact this
        omega
  refine ⟨by simp only [f_X7_bankAt, f7_in, bd_def, hS.1, e, if_pos], ?_⟩
  simp only [f_X8_isBank, f8_in, bd_def, hS.2.1, e]
  exact gd_pos (by simp)
theorem bk_yes {C M : MI} {R : MR} {nb nc lh : Nat} {al : Nat → Bool} (hS : gS C M nb nc lh) (hA : gA al R nb nc) {j : Nat} (h : j < nb) : f_X7_bankAt C R (nI j) = some (some (30 + j)) ∧ f_X8_isBank M R (nI j) = some 1 := by
  have hnb := hS.2.2.2.2.2.1
  have e : wi (nI j) 0 (nI nb - 1) = 1 := by
    unfold wi
    rw [if_neg (nI_pos (by omega)), if_neg]
    rw [tI_lt, nI_toInt (by omega)]
    have h1 : (nI nb - 1).toInt = (nb : Int) - 1 := pk_sub_toInt (a := nb) (b := 1) (by omega) (by omega)
    omega
  have h4 : ¬ (4 : Int32) ≤ nI j := nI_ge (a := j) (b := 4) (by omega) (by omega)
  have hcl : (nI j).toNatClampNeg = j := nI_clamp (by omega)
  have hr : R 1 j = some (30 + j) := by rw [hA.2.2.1 j (by omega), if_pos h]
  refine ⟨by simp only [f_X7_bankAt, f7_in, bd_def, hS.1, e, if_neg i10, if_neg h4, gd_pos (show ix (nI j) (ln 1) from ix_nI (show j < 4 by omega) (by decide)), hcl, hr, mt_def], ?_⟩
  simp only [f_X8_isBank, f8_in, bd_def, hS.2.1, e]
  exact gd_pos (by simp)
theorem ca_no {C M : MI} {R : MR} {nb nc lh : Nat} (hS : gS C M nb nc lh) {x : Int32} (h : x < 0 ∨ nI nc ≤ x) : f_X7_carAt C R x = some none ∧ f_X8_isCar M R x = some 0 := by
  have hnb := hS.2.2.2.2.2.2.1
  have e : wi x 0 (nI nc - 1) = 0 := by
    unfold wi
    rcases h with h | h
    · rw [if_pos h]
    · by_cases h0 : x < 0
      · rw [if_pos h0]
      · rw [if_neg h0, if_pos]
        rw [tI_lt]
        rw [tI_le, nI_toInt (by omega)] at h
        have h1 : (nI nc - 1).toInt = (nc : Int) - 1 := pk_sub_toInt (a := nc) (b := 1) (by omega) (by omega)
        omega
  refine ⟨by simp only [f_X7_carAt, f7_in, bd_def, hS.2.2.1, e, if_pos], ?_⟩
  simp only [f_X8_isCar, f8_in, bd_def, hS.2.2.2.1, e]
  exact gd_pos (by simp)
theorem ca_yes {C M : MI} {R : MR} {nb nc lh : Nat} {al : Nat → Bool} (hS : gS C M nb nc lh) (hA : gA al R nb nc) {j : Nat} (h : j < nc) : f_X7_carAt C R (nI j) = some (some (40 + j)) ∧ f_X8_isCar M R (nI j) = some 1 := by
  have hnb := hS.2.2.2.2.2.2.1
  have e : wi (nI j) 0 (nI nc - 1) = 1 := by
    unfold wi
    rw [if_neg (nI_pos (by omega)), if_neg]
    rw [tI_lt, nI_toInt (by omega)]
    have h1 : (nI nc - 1).toInt = (nc : Int) - 1 := pk_sub_toInt (a := nc) (b := 1) (by omega) (by omega)
    omega
  have h4 : ¬ (60 : Int32) ≤ nI j := nI_ge (a := j) (b := 60) (by omega) (by omega)
  have hcl : (nI j).toNatClampNeg = j := nI_clamp (by omega)
  have hr : R 2 j = some (40 + j) := by rw [hA.2.2.2 j (by omega), if_pos h]
  refine ⟨by simp only [f_X7_carAt, f7_in, bd_def, hS.2.2.1, e, if_neg i10, if_neg h4, gd_pos (show ix (nI j) (ln 2) from ix_nI (show j < 60 by omega) (by decide)), hcl, hr, mt_def], ?_⟩
  simp only [f_X8_isCar, f8_in, bd_def, hS.2.2.2.1, e]
  exact gd_pos (by simp)
theorem ne0_of {x : Int32} {b : Int} (h : rg x 1 b) : ¬ x = 0 := fun e => by have := h.1; rw [e] at this; exact absurd this (by decide)
theorem le1_of {x : Int32} {b : Int} (h : rg x 1 b) : (1 : Int32) ≤ x := by rw [tI_le]; exact h.1
theorem pr_bank {C M : MI} {R : MR} {i : Nat} (h : bR C M i) : f_X0_pressure C R (30 + i) = some (M 105 i / M 104 i) := by
  have h7 := h.2.2.2.2.2.2.1
  simp only [f_X0_pressure, h.1, h.2.1, if_pos (le1_of h7), gd_pos (ne0_of h7)]
theorem pr_car {C M : MI} {R : MR} {j : Nat} (h : cR C M j) : f_X2_pressure C R (40 + j) = some (M 116 j / M 115 j) := by
  have h7 := h.2.2.2.2.2.2.2.2.2.2.2.2.1
  simp only [f_X2_pressure, h.1, h.2.1, if_pos (le1_of h7), gd_pos (ne0_of h7)]
theorem K_banks : LK_banks LI := by
  intro q al I R n y0 y1 h
  refine LK_ofP (f7 := fun C R => f_X7_banks C R y0 y1) (f8 := fun M R => f_X8_banks M R y0 y1) ?_ q al I R n h
  intro C M R al nb nc lh r hR hA
  obtain ⟨hS, hM, hP, hT, hLg, hB, hC, hH, hG, hN, hw⟩ := hR
  have hb := hS.2.2.2.2.2.1
  have hc := hS.2.2.2.2.2.2.1
  have hlh := hS.2.2.2.2.2.2.2
  rcases pk_ix y0 (n := nb) (by omega) with h | h | ⟨j, hj, rfl⟩
  · exact ⟨-1, by simp only [f_X7_banks, (bk_no hS (Or.inl h)).1, bd_def, mt_none], by simp only [f_X8_banks, (bk_no hS (Or.inl h)).2, bd_def, if_pos]⟩
  · exact ⟨-1, by simp only [f_X7_banks, (bk_no hS (Or.inr h)).1, bd_def, mt_none], by simp only [f_X8_banks, (bk_no hS (Or.inr h)).2, bd_def, if_pos]⟩
  have hk := bk_yes hS hA hj
  have hbr := hB.1 j hj
  have hx : ix (nI j) 4 := ix_nI (by omega) (by decide)
  have hcl : (nI j).toNatClampNeg = j := nI_clamp (by omega)
  have hpr := pr_bank (R := R) hbr
  have h7 := hbr.2.2.2.2.2.2.1
  simp only [f_X7_banks, f_X8_banks, hk.1, hk.2, bd_def, mt_def, f_X0_answer, hpr, if_neg i10, gd_pos (show ix (nI j) (ln 104) from hx), gd_pos (show ix (nI j) (ln 105) from hx), gd_pos (show ix (nI j) (ln 106) from hx), gd_pos (show ix (nI j) (ln 107) from hx), gd_pos (show ix (nI j) (ln 108) from hx), gd_pos (show ix (nI j) (ln 109) from hx), hcl, gd_pos (ne0_of h7), hbr.1, hbr.2.1, hbr.2.2.1, hbr.2.2.2.1, hbr.2.2.2.2.1, hbr.2.2.2.2.2.1]
  split
  · exact ⟨_, rfl, rfl⟩
  split
  · exact ⟨_, rfl, rfl⟩
  split
  · exact ⟨_, rfl, rfl⟩
  split
  · exact ⟨_, rfl, rfl⟩
  split
  · exact ⟨_, rfl, rfl⟩
  split
  · split
    · exact ⟨_, rfl, rfl⟩
    · exact ⟨_, rfl, rfl⟩
  · exact ⟨_, rfl, rfl⟩
theorem K_cars : LK_cars LI := by
  intro q al I R n y0 y1 h
  refine LK_ofP (f7 := fun C R => f_X7_cars C R y0 y1) (f8 := fun M R => f_X8_cars M R y0 y1) ?_ q al I R n h
  intro C M R al nb nc lh r hR hA
  obtain ⟨hS, hM, hP, hT, hLg, hB, hC, hH, hG, hN, hw⟩ := hR
  have hb := hS.2.2.2.2.2.1
  have hc := hS.2.2.2.2.2.2.1
  have hlh := hS.2.2.2.2.2.2.2
  rcases pk_ix y0 (n := nc) (by omega) with h | h | ⟨j, hj, rfl⟩
  · simp only [f_X7_cars, f_X8_cars, (ca_no hS (Or.inl h)).1, (ca_no hS (Or.inl h)).2, bd_def, mt_none, if_pos]
    split <;> exact ⟨_, rfl, rfl⟩
  · simp only [f_X7_cars, f_X8_cars, (ca_no hS (Or.inr h)).1, (ca_no hS (Or.inr h)).2, bd_def, mt_none, if_pos]
    split <;> exact ⟨_, rfl, rfl⟩
  have hk := ca_yes hS hA hj
  have hbr := hC.1 j hj
  have hx : ix (nI j) 60 := ix_nI (by omega) (by decide)
  have hcl : (nI j).toNatClampNeg = j := nI_clamp (by omega)
  have hpr := pr_car (R := R) hbr
  have h7 := hbr.2.2.2.2.2.2.2.2.2.2.2.2.1
  obtain ⟨b0, b1, b2, b3, b4, b6, b7, b8, b9, bs1, bs2, -⟩ := hbr
  simp only [f_X7_cars, f_X8_cars, hk.1, hk.2, bd_def, mt_def, f_X2_answer, hpr, if_neg i10, gd_pos (show ix (nI j) (ln 115) from hx), gd_pos (show ix (nI j) (ln 116) from hx), gd_pos (show ix (nI j) (ln 118) from hx), gd_pos (show ix (nI j) (ln 119) from hx), gd_pos (show ix (nI j) (ln 120) from hx), gd_pos (show ix (nI j) (ln 121) from hx), gd_pos (show ix (nI j) (ln 122) from hx), gd_pos (show ix (nI j) (ln 123) from hx), hcl, gd_pos (ne0_of h7), b0, b1, b2, b3, b4, b6, b7, b8, b9]
  split
  · exact ⟨_, rfl, rfl⟩
  split
  · exact ⟨_, rfl, rfl⟩
  split
  · exact ⟨_, rfl, rfl⟩
  split
  · exact ⟨_, rfl, rfl⟩
  split
  · by_cases e1 : M 118 j = 1
    · rw [if_pos e1, (bs1 e1).1]
      exact ⟨_, rfl, rfl⟩
    · rw [if_neg e1, bs2 e1]
      exact ⟨_, rfl, rfl⟩
  split
  · exact ⟨_, rfl, rfl⟩
  split
  · exact ⟨_, rfl, rfl⟩
  split
  · exact ⟨_, rfl, rfl⟩
  · exact ⟨_, rfl, rfl⟩
theorem K_target : LK_target LI := by
  intro q al I R n y0 y1 h
  refine LK_of (f7 := fun C R => f_X7_target C R y0 y1) (f8 := fun M R => f_X8_target M R y0 y1) ?_ q al I R n h
  intro C M R al nb nc lh r hR hA
  obtain ⟨hS, hM, hP, hT, hLg, hB, hC, hH, hG, hN, hw⟩ := hR
  have hb := hS.2.2.2.2.2.1
  have hc := hS.2.2.2.2.2.2.1
  have hlh := hS.2.2.2.2.2.2.2
  have none_ : (f_X7_bankAt C R y0 = some none ∧ f_X8_isBank M R y0 = some 0) → _ := fun hh => (⟨-1, C, M, nb, nc, lh, by simp only [f_X7_target, hh.1, bd_def, mt_none], by simp only [f_X8_target, hh.2, bd_def, if_pos], ⟨hS, hM, hP, hT, hLg, hB, hC, hH, hG, hN, hw⟩, hA, fc.rf, fm.rf⟩ : ∃ v C2 M2 nb2 nc2 lh2, f_X7_target C R y0 y1 = some (v, C2) ∧ f_X8_target M R y0 y1 = some (v, M2) ∧ Rel C2 M2 R nb2 nc2 lh2 r ∧ gA al R nb2 nc2 ∧ fc C C2 ∧ fm M M2)
  rcases pk_ix y0 (n := nb) (by omega) with h | h | ⟨j, hj, rfl⟩
  · exact none_ (bk_no hS (Or.inl h))
  · exact none_ (bk_no hS (Or.inr h))
  have hk := bk_yes hS hA hj
  rcases wi_cases y1 0 400 with ⟨e, hn⟩ | ⟨e, h1, h2⟩
  · exact ⟨-1, C, M, nb, nc, lh, by simp only [f_X7_target, hk.1, f7_in, bd_def, mt_def, e, if_pos], by simp only [f_X8_target, hk.2, f8_in, bd_def, e, if_neg i10, if_pos], ⟨hS, hM, hP, hT, hLg, hB, hC, hH, hG, hN, hw⟩, hA, fc.rf, fm.rf⟩
  have hx : ix (nI j) 4 := ix_nI (by omega) (by decide)
  have hcl : (nI j).toNatClampNeg = j := nI_clamp (by omega)
  refine ⟨M 106 j, p2 C (30 + j) 2 y1, p2 M 106 j y1, nb, nc, lh, by simp only [f_X7_target, hk.1, f7_in, bd_def, mt_def, lt_def, e, if_neg i10, (hB.1 j hj).2.2.1], by simp only [f_X8_target, hk.2, f8_in, bd_def, lt_def, e, if_neg i10, gd_pos (show ix (nI j) (ln 106) from hx), hcl], ⟨((hS).pC (by omega)).pM (by omega), ((hM).pC (by omega)).pM (by omega), ((hP).pC (by omega)).pM (by omega), ((hT).pC (by omega)).pM (by omega), ((hLg).pC (by omega)).pM (by omega), ?_, ((hC).pC hc (by omega)).pM (by omega), ((hH).pC).pM (by omega), ((hG).pC (by omega)).pM (by omega), ((hN).pC (by omega)).pM (by omega), (hw).pM (by omega)⟩, hA, fc.rf.p2 (by omega), fm.rf.p2 (by omega)⟩
  refine ⟨fun i hi => ?_, fun i h3 h4 => ?_⟩
  · by_cases e2 : i = j
    · subst e2
      have := hB.1 i hi
      unfold bR at this ⊢
      simp (disch := omega) only [p2_off, p2_hit]
      exact ⟨this.1, this.2.1, trivial, this.2.2.2.1, this.2.2.2.2.1, this.2.2.2.2.2.1, this.2.2.2.2.2.2.1, this.2.2.2.2.2.2.2.1, this.2.2.2.2.2.2.2.2.1, ⟨h1, h2⟩, this.2.2.2.2.2.2.2.2.2.2⟩
    · exact ((hB.1 i hi).pC (by omega)).pM (by omega)
  · have := hB.2 i h3 h4
    simp (disch := omega) only [p2_off]
    exact this
