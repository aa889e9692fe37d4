theorem fb_rng' (x : Int32) : -2147483648 ≤ x.toInt ∧ x.toInt < 2147483648 := by
  have h1 := x.le_toInt
  have h2 := x.toInt_lt
  omega
theorem K_sensor : LK_sensor LI := by
  intro q al I R n y0 y1 y2 hy h
  refine LK_of (f7 := fun C R => f_X7_sensor C R y0 y1 y2) (f8 := fun M R => f_X8_sensor M R y0 y1 y2) ?_ q al I R n h
  intro C M R al nb nc lh r hR hA
  obtain ⟨hS, hM, hP, hT, hLg, hB, hC, hH, hG, hN, hw⟩ := hR
  have hb := hS.2.2.2.2.2.1
  have hc := hS.2.2.2.2.2.2.1
  have hlh := hS.2.2.2.2.2.2.2
  have t01 : ∀ v : Int32, (v = 0 ∨ v = 1) ∧ True → (v = 0 ∨ v = 1) := fun v h => h.1
  by_cases h0 : y0 = 0
  · subst h0
    have none_ : (f_X7_bankAt C R y1 = some none ∧ f_X8_isBank M R y1 = some 0) → ∃ v C2 M2 nb2 nc2 lh2, f_X7_sensor C R 0 y1 y2 = some (v, C2) ∧ f_X8_sensor M R 0 y1 y2 = some (v, M2) ∧ Rel C2 M2 R nb2 nc2 lh2 r ∧ gA al R nb2 nc2 ∧ fc C C2 ∧ fm M M2 := fun hh => ⟨0, C, M, nb, nc, lh, by simp only [f_X7_sensor, f_X7_loseOfBank, hh.1, bd_def, mt_none, if_pos]; exact gd_pos (by simp), by simp only [f_X8_sensor, hh.2, bd_def, if_pos], ⟨hS, hM, hP, hT, hLg, hB, hC, hH, hG, hN, hw⟩, hA, fc.rf, fm.rf⟩
    rcases pk_ix y1 (n := nb) (by omega) with h | h | ⟨j, hj, rfl⟩
    · exact none_ (bk_no hS (Or.inl h))
    · exact none_ (bk_no hS (Or.inr h))
    have hk := bk_yes hS hA hj
    have hbr := hB.1 j hj
    have hx : ix (nI j) 4 := ix_nI (by omega) (by decide)
    have hcl : (nI j).toNatClampNeg = j := nI_clamp (by omega)
    by_cases e3 : M 109 j = y2
    · exact ⟨0, C, M, nb, nc, lh, by simp only [f_X7_sensor, f_X7_loseOfBank, hk.1, bd_def, mt_def, if_pos, hbr.2.2.2.2.2.1, e3]; exact gd_pos (by simp), by simp only [f_X8_sensor, hk.2, bd_def, if_pos, if_neg i10, gd_pos (show ix (nI j) (ln 109) from hx), hcl, e3], ⟨hS, hM, hP, hT, hLg, hB, hC, hH, hG, hN, hw⟩, hA, fc.rf, fm.rf⟩
    · refine ⟨1, p2 C (30 + j) 5 y2, p2 M 109 j y2, nb, nc, lh, by simp only [f_X7_sensor, f_X7_loseOfBank, hk.1, bd_def, mt_def, lt_def, if_pos, hbr.2.2.2.2.2.1, if_neg e3, gd_pos hy]; exact gd_pos (by simp), by simp only [f_X8_sensor, hk.2, bd_def, lt_def, if_pos, if_neg i10, gd_pos (show ix (nI j) (ln 109) from hx), hcl, if_neg e3, nar_b hy], ⟨((hS).pC (by omega)).pM (by omega), ((hM).pC (by omega)).pM (by omega), ((hP).pC (by omega)).pM (by omega), ((hT).pC (by omega)).pM (by omega), ((hLg).pC (by omega)).pM (by omega), ?_, ((hC).pC hc (by omega)).pM (by omega), ((hH).pC).pM (by omega), ((hG).pC (by omega)).pM (by omega), ((hN).pC (by omega)).pM (by omega), (hw).pM (by omega)⟩, hA, fc.rf.p2 (by omega), fm.rf.p2 (by omega)⟩
      refine ⟨fun i hi => ?_, fun i h3 h4 => ?_⟩
      · by_cases e2 : i = j
        · subst e2
          have := hB.1 i hi
          unfold bR at this ⊢
          simp (disch := omega) only [p2_off, p2_hit]
          exact ⟨this.1, this.2.1, this.2.2.1, this.2.2.2.1, this.2.2.2.2.1, trivial, this.2.2.2.2.2.2.1, this.2.2.2.2.2.2.2.1, this.2.2.2.2.2.2.2.2.1, this.2.2.2.2.2.2.2.2.2.1, hy⟩
        · exact ((hB.1 i hi).pC (by omega)).pM (by omega)
      · have := hB.2 i h3 h4
        simp (disch := omega) only [p2_off]
        exact this
  by_cases h1 : y0 = 1
  · subst h1
    have none_ : (f_X7_carAt C R y1 = some none ∧ f_X8_isCar M R y1 = some 0) → ∃ v C2 M2 nb2 nc2 lh2, f_X7_sensor C R 1 y1 y2 = some (v, C2) ∧ f_X8_sensor M R 1 y1 y2 = some (v, M2) ∧ Rel C2 M2 R nb2 nc2 lh2 r ∧ gA al R nb2 nc2 ∧ fc C C2 ∧ fm M M2 := fun hh => ⟨0, C, M, nb, nc, lh, by simp only [f_X7_sensor, f_X7_loseOfCar, hh.1, bd_def, mt_none, if_neg i10, if_pos], by simp only [f_X8_sensor, hh.2, bd_def, if_neg i10, if_pos], ⟨hS, hM, hP, hT, hLg, hB, hC, hH, hG, hN, hw⟩, hA, fc.rf, fm.rf⟩
    rcases pk_ix y1 (n := nc) (by omega) with h | h | ⟨j, hj, rfl⟩
    · exact none_ (ca_no hS (Or.inl h))
    · exact none_ (ca_no hS (Or.inr h))
    have hk := ca_yes hS hA hj
    have hcr := hC.1 j hj
    obtain ⟨c0, c1, c2, c3, c4, c6, c7, c8, c9, cs1, cs2, cs, -⟩ := id hcr
    have hx : ix (nI j) 60 := ix_nI (by omega) (by decide)
    have hcl : (nI j).toNatClampNeg = j := nI_clamp (by omega)
    have here : (f_X2_isHere C R (40 + j) = some 1 ∧ ¬ (1 : Int32) < M 118 j) ∨ (f_X2_isHere C R (40 + j) = some 0 ∧ (1 : Int32) < M 118 j) := by
      unfold f_X2_isHere
      rw [c4]
      by_cases s0 : M 118 j = 0
      · rw [if_pos s0]; exact Or.inl ⟨rfl, by rw [s0]; decide⟩
      · rw [if_neg s0]
        by_cases s1 : M 118 j = 1
        · rw [if_pos s1]; exact Or.inl ⟨rfl, by rw [s1]; decide⟩
        · rw [if_neg s1]
          refine Or.inr ⟨rfl, ?_⟩
          rw [tI_lt]
          have n0 := lv_neT (a := 0) s0 (by decide)
          have n1 := lv_neT (a := 1) s1 (by decide)
          have := cs.1
          show (1 : Int) < _
          omega
    rcases here with ⟨e1, e2⟩ | ⟨e1, e2⟩
    · by_cases e3 : M 124 j = y2
      · exact ⟨0, C, M, nb, nc, lh, by simp only [f_X7_sensor, f_X7_loseOfCar, hk.1, bd_def, mt_def, if_pos, if_neg i10, e1, c9, e3], by simp only [f_X8_sensor, hk.2, bd_def, if_pos, if_neg i10, gd_pos (show ix (nI j) (ln 118) from hx), gd_pos (show ix (nI j) (ln 124) from hx), hcl, if_neg e2, e3], ⟨hS, hM, hP, hT, hLg, hB, hC, hH, hG, hN, hw⟩, hA, fc.rf, fm.rf⟩
      · refine ⟨1, p2 C (40 + j) 9 y2, p2 M 124 j y2, nb, nc, lh, by simp only [f_X7_sensor, f_X7_loseOfCar, hk.1, bd_def, mt_def, lt_def, if_pos, if_neg i10, e1, c9, if_neg e3, gd_pos hy], by simp only [f_X8_sensor, hk.2, bd_def, lt_def, if_pos, if_neg i10, gd_pos (show ix (nI j) (ln 118) from hx), gd_pos (show ix (nI j) (ln 124) from hx), hcl, if_neg e2, if_neg e3, nar_b hy], ⟨((hS).pC (by omega)).pM (by omega), ((hM).pC (by omega)).pM (by omega), ((hP).pC (by omega)).pM (by omega), ((hT).pC (by omega)).pM (by omega), ((hLg).pC (by omega)).pM (by omega), ((hB).pC hb (by omega)).pM (by omega), ?_, ((hH).pC).pM (by omega), ((hG).pC (by omega)).pM (by omega), ((hN).pC (by omega)).pM (by omega), (hw).pM (by omega)⟩, hA, fc.rf.p2 (by omega), fm.rf.p2 (by omega)⟩
        refine ⟨fun i hi => ?_, ?_, ?_, fun i h3 h4 => ?_⟩
        · by_cases e4 : i = j
          · subst e4
            unfold cR at hcr ⊢
            simp (disch := omega) only [p2_off, p2_hit]
            obtain ⟨d0, d1, d2, d3, d4, d6, d7, d8, d9, ds1, ds2, ds, dv, dm, dc1, dc2, dw, dl⟩ := hcr
            exact ⟨d0, d1, d2, d3, d4, d6, d7, d8, trivial, ds1, ds2, ds, dv, dm, dc1, dc2, dw, hy⟩
          · exact ((hC.1 i hi).pC (by omega)).pM (by omega)
        · have := hC.2.1
          simp (disch := omega) only [p2_off]; exact this
        · have := hC.2.2.1
          simp (disch := omega) only [p2_off]; exact this
        · have := hC.2.2.2 i h3 h4
          simp (disch := omega) only [p2_off]; exact this
    · exact ⟨0, C, M, nb, nc, lh, by simp only [f_X7_sensor, f_X7_loseOfCar, hk.1, bd_def, mt_def, if_pos, if_neg i10, e1], by simp only [f_X8_sensor, hk.2, bd_def, if_pos, if_neg i10, gd_pos (show ix (nI j) (ln 118) from hx), hcl, if_pos e2], ⟨hS, hM, hP, hT, hLg, hB, hC, hH, hG, hN, hw⟩, hA, fc.rf, fm.rf⟩
  · exact ⟨0, C, M, nb, nc, lh, by simp only [f_X7_sensor, if_neg h0, if_neg h1], by simp only [f_X8_sensor, if_neg h0, if_neg h1], ⟨hS, hM, hP, hT, hLg, hB, hC, hH, hG, hN, hw⟩, hA, fc.rf, fm.rf⟩
theorem mul_nI {x y : Int32} {a b : Nat} (hx : x = nI a) (hy : y = nI b) : x * y = nI (a * b) := by rw [hx, hy]; exact pk_mul a b
theorem nI_of_rg {x : Int32} {b : Int} (h : rg x 0 b) : ∃ k : Nat, (k : Int) ≤ b ∧ x = nI k := by
  refine ⟨x.toInt.toNat, by have := h.1; have := h.2; omega, ?_⟩
  have h1 := h.1
  have h3 := fb_rng' x
  rw [tI_eq, nI_toInt (by omega)]
  omega
theorem K_reading : LK_reading LI := by
  intro q al I R n y0 y1 h
  refine LK_of (f7 := fun C R => f_X7_reading C R y0 y1) (f8 := fun M R => f_X8_reading M R y0 y1) ?_ q al I R n h
  intro C M R al nb nc lh r hR hA
  obtain ⟨hS, hM, hP, hT, hLg, hB, hC, hH, hG, hN, hw⟩ := hR
  have hb := hS.2.2.2.2.2.1
  have hc := hS.2.2.2.2.2.2.1
  have hlh := hS.2.2.2.2.2.2.2
  have none_ : (f_X7_bankAt C R y0 = some none ∧ f_X8_isBank M R y0 = some 0) → ∃ v C2 M2 nb2 nc2 lh2, f_X7_reading C R y0 y1 = some (v, C2) ∧ f_X8_reading M R y0 y1 = some (v, M2) ∧ Rel C2 M2 R nb2 nc2 lh2 r ∧ gA al R nb2 nc2 ∧ fc C C2 ∧ fm M M2 := fun hh => ⟨-1000000, C, M, nb, nc, lh, by simp only [f_X7_reading, hh.1, bd_def, mt_none], by simp only [f_X8_reading, hh.2, bd_def, if_pos], ⟨hS, hM, hP, hT, hLg, hB, hC, hH, hG, hN, hw⟩, hA, fc.rf, fm.rf⟩
  rcases pk_ix y0 (n := nb) (by omega) with h | h | ⟨j, hj, rfl⟩
  · exact none_ (bk_no hS (Or.inl h))
  · exact none_ (bk_no hS (Or.inr h))
  have hk := bk_yes hS hA hj
  rcases wi_cases y1 0 400 with ⟨e, hn⟩ | ⟨e, h1, h2⟩
  · exact ⟨-1000000, C, M, nb, nc, lh, by simp only [f_X7_reading, hk.1, f7_in, bd_def, mt_def, e, if_pos], by simp only [f_X8_reading, hk.2, f8_in, bd_def, e, if_neg i10, if_pos], ⟨hS, hM, hP, hT, hLg, hB, hC, hH, hG, hN, hw⟩, hA, fc.rf, fm.rf⟩
  have hbr := hB.1 j hj
  have hx : ix (nI j) 4 := ix_nI (by omega) (by decide)
  have hcl : (nI j).toNatClampNeg = j := nI_clamp (by omega)
  obtain ⟨b0, b1, b2, b3, b4, b5, bv, bc1, bc2, bt_, bl⟩ := id hbr
  have hpr := pr_bank (R := R) hbr
  have nz := ne0_of bv
  obtain ⟨w, hw100, ew⟩ := nI_of_rg (x := M 104 j) (b := 100) ⟨by have := bv.1; omega, bv.2⟩
  have hw1 : 1 ≤ w := by have := bv.1; rw [ew, nI_toInt (by omega)] at this; omega
  obtain ⟨cc, hcc, ec⟩ := nI_of_rg (x := M 105 j) (b := 40000) ⟨bc1, by rw [ew, nI_toInt (by omega)] at bc2; omega⟩
  have hcw : cc ≤ w * 400 := by rw [ec, ew, nI_toInt (by omega), nI_toInt (by omega)] at bc2; omega
  obtain ⟨y, hy400, ey⟩ := nI_of_rg (x := y1) (b := 400) ⟨h1, h2⟩
  subst ey
  obtain ⟨t, ht50, et⟩ := nI_of_rg (x := C 0 9) (b := 50) hM.2.2.2.2.2.2.2
  have et8 : M 100 29 = nI t := hM.2.2.2.2.2.2.1 ▸ et
  have ediv : M 105 j / M 104 j = nI (cc / w) := by rw [ec, ew]; exact pk_div (by omega) (by omega) (by omega)
  have ha400 : cc / w ≤ 400 := by
    have : cc / w ≤ (w * 400) / w := Nat.div_le_div_right hcw
    rw [Nat.mul_div_cancel_left _ (by omega)] at this
    exact this
  have dm := Nat.div_add_mod cc w
  have ml := Nat.mod_lt cc (show 0 < w by omega)
  generalize hadef : cc / w = a at *
  have hpr2 : f_X0_pressure C R (30 + j) = some (nI a) := by rw [hpr, ediv]
  have esub : (nI a - nI y).toInt = (a : Int) - y := pk_sub_toInt (by omega) (by omega)
  have est : (nI a - nI t).toInt = (a : Int) - t := pk_sub_toInt (by omega) (by omega)
  have eat : nI a + nI t = nI (a + t) := nI_add a t
  have hz0 : (0 : Int32).toInt = 0 := by decide
  have eabs : (if 0 ≤ nI a - nI y then nI a - nI y else 0 - (nI a - nI y)).toInt = if y ≤ a then (a : Int) - y else (y : Int) - a := by
    by_cases q : y ≤ a
    · rw [if_pos q, if_pos (by rw [tI_le, esub, hz0]; omega), esub]
    · rw [if_neg q, if_neg (by rw [tI_le, esub, hz0]; omega), Int32.toInt_sub, esub, hz0]
      rw [Int.bmod_eq_of_le (by omega) (by omega)]
      omega
  have ewy : nI w * nI y = nI (w * y) := pk_mul w y
  have hwy : w * y ≤ 40000 := by
    calc w * y ≤ 100 * 400 := Nat.mul_le_mul (by omega) (by omega)
      _ = 40000 := by decide
  have egone : (nI cc - nI (w * y)).toInt = (cc : Int) - (w * y : Nat) := pk_sub_toInt (by omega) (by omega)
  have off1 : ∀ v : Int32, p2 C (30 + j) 1 v 10 4 = C 10 4 := fun v => p2_off (by omega)
  have off2 : ∀ v : Int32, p2 C (30 + j) 1 v 10 3 = C 10 3 := fun v => p2_off (by omega)
  have off3 : ∀ v : Int32, p2 M 105 j v 100 28 = M 100 28 := fun v => p2_off (by omega)
  have off4 : ∀ v : Int32, p2 M 105 j v 100 27 = M 100 27 := fun v => p2_off (by omega)
  have hB2 : gB (p2 C (30 + j) 1 (nI (w * y))) (p2 M 105 j (nI (w * y))) nb := by
    refine ⟨fun i hi => ?_, fun i h3 h4 => ?_⟩
    · by_cases e2 : i = j
      · subst e2
        unfold bR
        simp (disch := omega) only [p2_off, p2_hit]
        refine ⟨b0, trivial, b2, b3, b4, b5, bv, by rw [nI_toInt (by omega)]; omega, ?_, bt_, bl⟩
        rw [ew, nI_toInt (by omega), nI_toInt (by omega)]
        have : w * y ≤ w * 400 := Nat.mul_le_mul_left w (by omega)
        omega
      · exact ((hB.1 i hi).pC (by omega)).pM (by omega)
    · have := hB.2 i h3 h4
      simp (disch := omega) only [p2_off]
      exact this
  by_cases q : (t : Int) < (if y ≤ a then (a : Int) - y else (y : Int) - a)
  · have c7 : nI t < (if 0 ≤ nI a - nI y then nI a - nI y else 0 - (nI a - nI y)) := by rw [tI_lt, nI_toInt (by omega), eabs]; exact q
    have go8 : f_X8_reading M R (nI j) (nI y) = f_X8_reading_58 M R (nI j) (nI y) := by
      simp only [f_X8_reading, hk.2, f8_in, bd_def, lt_def, e, if_neg i10, gd_pos (show ix (nI j) (ln 105) from hx), gd_pos (show ix (nI j) (ln 104) from hx), hcl, gd_pos nz, ediv, et8, eat]
      by_cases q2 : y ≤ a
      · rw [if_pos q2] at q
        rw [if_pos (by rw [tI_lt, est, nI_toInt (by omega)]; omega)]
      · rw [if_neg q2] at q
        rw [if_neg (by rw [tI_lt, est, nI_toInt (by omega)]; omega), if_pos (by rw [tI_lt, nI_toInt (by omega), nI_toInt (by omega)]; omega)]
    by_cases q3 : y ≤ a
    · rw [if_pos q3] at q
      have hgt : w * y < cc := by
        have : w * (y + 1) ≤ w * a := Nat.mul_le_mul_left w (by omega)
        rw [Nat.mul_add] at this
        omega
      refine ⟨nI cc - nI (w * y), p2 (p2 C (30 + j) 1 (nI (w * y))) 10 3 (C 10 3 + (nI cc - nI (w * y))), p2 (p2 M 105 j (nI (w * y))) 100 27 (M 100 27 + (nI cc - nI (w * y))), nb, nc, lh, ?_, ?_, ⟨((((hS).pC (by omega)).pC (by omega)).pM (by omega)).pM (by omega), ((((hM).pC (by omega)).pC (by omega)).pM (by omega)).pM (by omega), ((((hP).pC (by omega)).pC (by omega)).pM (by omega)).pM (by omega), ((((hT).pC (by omega)).pC (by omega)).pM (by omega)).pM (by omega), ?_, (hB2.pC hb (by omega)).pM (by omega), ((((hC).pC hc (by omega)).pC hc (by omega)).pM (by omega)).pM (by omega), ((((hH).pC).pC).pM (by omega)).pM (by omega), ((((hG).pC (by omega)).pC (by omega)).pM (by omega)).pM (by omega), ((((hN).pC (by omega)).pC (by omega)).pM (by omega)).pM (by omega), ((hw).pM (by omega)).pM (by omega)⟩, hA, (fc.rf.p2 (by omega)).p2 (by omega), (fm.rf.p2 (by omega)).p2 (by omega)⟩
      · simp only [f_X7_reading, hk.1, f7_in, bd_def, mt_def, lt_def, e, if_neg i10, hpr2, et, if_pos c7, b0, b1, ec, ew, ewy, off2, if_neg (show ¬ nI a - nI y ≤ 0 by rw [tI_le, esub, hz0]; omega)]
      · rw [go8]
        simp only [f_X8_reading_58, lt_def, gd_pos (show ix (nI j) (ln 105) from hx), gd_pos (show ix (nI j) (ln 104) from hx), hcl, ec, ew, ewy, off4, if_neg (show ¬ nI cc - nI (w * y) ≤ 0 by rw [tI_le, egone, hz0]; omega)]
      · unfold gL at hLg ⊢
        simp (disch := omega) only [p2_off, p2_hit]
        exact ⟨hLg.1, hLg.2.1, hLg.2.2.1, by rw [hLg.2.2.2.1], hLg.2.2.2.2⟩
    · rw [if_neg q3] at q
      have hgt : cc < w * y := by
        have : w * (a + 1) ≤ w * y := Nat.mul_le_mul_left w (by omega)
        rw [Nat.mul_add] at this
        omega
      refine ⟨nI cc - nI (w * y), p2 (p2 C (30 + j) 1 (nI (w * y))) 10 4 (C 10 4 - (nI cc - nI (w * y))), p2 (p2 M 105 j (nI (w * y))) 100 28 (M 100 28 - (nI cc - nI (w * y))), nb, nc, lh, ?_, ?_, ⟨((((hS).pC (by omega)).pC (by omega)).pM (by omega)).pM (by omega), ((((hM).pC (by omega)).pC (by omega)).pM (by omega)).pM (by omega), ((((hP).pC (by omega)).pC (by omega)).pM (by omega)).pM (by omega), ((((hT).pC (by omega)).pC (by omega)).pM (by omega)).pM (by omega), ?_, (hB2.pC hb (by omega)).pM (by omega), ((((hC).pC hc (by omega)).pC hc (by omega)).pM (by omega)).pM (by omega), ((((hH).pC).pC).pM (by omega)).pM (by omega), ((((hG).pC (by omega)).pC (by omega)).pM (by omega)).pM (by omega), ((((hN).pC (by omega)).pC (by omega)).pM (by omega)).pM (by omega), ((hw).pM (by omega)).pM (by omega)⟩, hA, (fc.rf.p2 (by omega)).p2 (by omega), (fm.rf.p2 (by omega)).p2 (by omega)⟩
      · simp only [f_X7_reading, hk.1, f7_in, bd_def, mt_def, lt_def, e, if_neg i10, hpr2, et, if_pos c7, b0, b1, ec, ew, ewy, off1, if_pos (show nI a - nI y ≤ 0 by rw [tI_le, esub, hz0]; omega)]
      · rw [go8]
        simp only [f_X8_reading_58, lt_def, gd_pos (show ix (nI j) (ln 105) from hx), gd_pos (show ix (nI j) (ln 104) from hx), hcl, ec, ew, ewy, off3, if_pos (show nI cc - nI (w * y) ≤ 0 by rw [tI_le, egone, hz0]; omega)]
      · unfold gL at hLg ⊢
        simp (disch := omega) only [p2_off, p2_hit]
        exact ⟨hLg.1, hLg.2.1, hLg.2.2.1, hLg.2.2.2.1, by rw [hLg.2.2.2.2]⟩
  · have c7 : ¬ nI t < (if 0 ≤ nI a - nI y then nI a - nI y else 0 - (nI a - nI y)) := by rw [tI_lt, nI_toInt (by omega), eabs]; exact q
    refine ⟨0, C, M, nb, nc, lh, by simp only [f_X7_reading, hk.1, f7_in, bd_def, mt_def, lt_def, e, if_neg i10, hpr2, et, if_neg c7], ?_, ⟨hS, hM, hP, hT, hLg, hB, hC, hH, hG, hN, hw⟩, hA, fc.rf, fm.rf⟩
    simp only [f_X8_reading, hk.2, f8_in, bd_def, lt_def, e, if_neg i10, gd_pos (show ix (nI j) (ln 105) from hx), gd_pos (show ix (nI j) (ln 104) from hx), hcl, gd_pos nz, ediv, et8, eat]
    by_cases q2 : y ≤ a
    · rw [if_pos q2] at q
      rw [if_neg (by rw [tI_lt, est, nI_toInt (by omega)]; omega), if_neg (by rw [tI_lt, nI_toInt (by omega), nI_toInt (by omega)]; omega)]
    · rw [if_neg q2] at q
      rw [if_neg (by rw [tI_lt, est, nI_toInt (by omega)]; omega), if_neg (by rw [tI_lt, nI_toInt (by omega), nI_toInt (by omega)]; omega)]
