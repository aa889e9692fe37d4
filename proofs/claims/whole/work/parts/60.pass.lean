/-! ===== one TICK: cooling, the press ===== -/
theorem tdiv_btw {x c : Int} (hc : 1 ≤ c) : (0 ≤ x → 0 ≤ x.tdiv c ∧ x.tdiv c ≤ x) ∧ (x ≤ 0 → x ≤ x.tdiv c ∧ x.tdiv c ≤ 0) := by
  refine ⟨fun h => ⟨Int.tdiv_nonneg h (by omega), Int.tdiv_le_self _ h⟩, fun h => ?_⟩
  have h1 : 0 ≤ (-x).tdiv c := Int.tdiv_nonneg (by omega) (by omega)
  have h2 : (-x).tdiv c ≤ -x := Int.tdiv_le_self _ (by omega)
  rw [Int.neg_tdiv] at h1 h2
  omega
theorem cool_rg {w a c : Int32} (hw : rg w (-300) 2000) (ha : rg a (-30) 50) (hc : rg c 1 100) : rg (w - (w - 10 * a) / c) (-300) 2000 := by
  obtain ⟨w1, w2⟩ := hw
  obtain ⟨a1, a2⟩ := ha
  obtain ⟨c1, c2⟩ := hc
  have e10 : (10 : Int32).toInt = 10 := by decide
  have e1 : (10 * a).toInt = 10 * a.toInt := by rw [Int32.toInt_mul, e10, Int.bmod_eq_of_le (by omega) (by omega)]
  have e2 : (w - 10 * a).toInt = w.toInt - 10 * a.toInt := by rw [Int32.toInt_sub, e1, Int.bmod_eq_of_le (by omega) (by omega)]
  obtain ⟨t1, t2⟩ := tdiv_btw (x := w.toInt - 10 * a.toInt) c1
  have e3 : ((w - 10 * a) / c).toInt = (w.toInt - 10 * a.toInt).tdiv c.toInt := by
    rw [Int32.toInt_div, e2]
    by_cases q : 0 ≤ w.toInt - 10 * a.toInt
    · have := t1 q
      rw [Int.bmod_eq_of_le (by omega) (by omega)]
    · have := t2 (by omega)
      rw [Int.bmod_eq_of_le (by omega) (by omega)]
  have e4 : (w - (w - 10 * a) / c).toInt = w.toInt - (w.toInt - 10 * a.toInt).tdiv c.toInt := by
    rw [Int32.toInt_sub, e3]
    by_cases q : 0 ≤ w.toInt - 10 * a.toInt
    · have := t1 q
      rw [Int.bmod_eq_of_le (by omega) (by omega)]
    · have := t2 (by omega)
      rw [Int.bmod_eq_of_le (by omega) (by omega)]
  unfold rg
  rw [e4]
  by_cases q : 0 ≤ w.toInt - 10 * a.toInt
  · have := t1 q; omega
  · have := t2 (by omega); omega
theorem st01 {x : Int32} (h : rg x 0 4) : (1 < x ∧ ¬ x = 0 ∧ ¬ x = 1) ∨ (¬ 1 < x ∧ (x = 0 ∨ x = 1)) := by
  obtain ⟨k, hk, rfl⟩ := nI_of_rg h
  have hk : k ≤ 4 := by omega
  rcases (show k = 0 ∨ k = 1 ∨ k = 2 ∨ k = 3 ∨ k = 4 by omega) with e | e | e | e | e <;> subst e
  · exact Or.inr ⟨by decide, Or.inl (by decide)⟩
  · exact Or.inr ⟨by decide, Or.inr (by decide)⟩
  · exact Or.inl ⟨by decide, by decide, by decide⟩
  · exact Or.inl ⟨by decide, by decide, by decide⟩
  · exact Or.inl ⟨by decide, by decide, by decide⟩
theorem cool_loop {R : MR} {al : Nat → Bool} {nb nc lh r : Nat} (hA : gA al R nb nc) : ∀ (d k nn nn' : Nat) (C M : MI), Rel C M R nb nc lh r → k + d = nc → d < nn → d < nn' →
    ∃ C2 M2, f_X7_coolCars_2 nn C R (nI k) = some C2 ∧ (∀ R', f_X8_tick_126 nn' M R' (nI k) = bd (f_X8_presses M2 R') (fun z => some (p2 z 100 0 (z 100 0 + 1)))) ∧ Rel C2 M2 R nb nc lh r ∧ fc C C2 ∧ fm M M2 ∧ C2 0 8 = C 0 8 := by
  intro d
  induction d with
  | zero =>
    intro k nn nn' C M hR hk hn hn'
    obtain ⟨nn, rfl⟩ : ∃ m, nn = m + 1 := ⟨nn - 1, by omega⟩
    obtain ⟨nn', rfl⟩ : ∃ m, nn' = m + 1 := ⟨nn' - 1, by omega⟩
    have hc := hR.1.2.2.2.2.2.2.1
    refine ⟨C, M, ?_, fun R' => ?_, hR, fc.rf, fm.rf, rfl⟩
    · rw [f_X7_coolCars_2.eq_2, hR.1.2.2.1, if_pos (nI_le (by omega) (by omega))]
    · rw [f_X8_tick_126.eq_2, hR.1.2.2.2.1, if_pos (nI_le (by omega) (by omega))]
      rfl
  | succ d ih =>
    intro k nn nn' C M hR hk hn hn'
    obtain ⟨nn, rfl⟩ : ∃ m, nn = m + 1 := ⟨nn - 1, by omega⟩
    obtain ⟨nn', rfl⟩ : ∃ m, nn' = m + 1 := ⟨nn' - 1, by omega⟩
    have hR0 := hR
    obtain ⟨hS, hM, hP, hT, hLg, hB, hC, hH, hG, hN, hw⟩ := hR
    have hb := hS.2.2.2.2.2.1
    have hc := hS.2.2.2.2.2.2.1
    have hlh := hS.2.2.2.2.2.2.2
    have hcl : (nI k).toNatClampNeg = k := nI_clamp (by omega)
    have hx : ix (nI k) 60 := ix_nI (by omega) (by decide)
    have ng : ¬ nI nc ≤ nI k := nI_ge (by omega) (by omega)
    have hca := ca_yes hS hA (j := k) (by omega)
    have hr := hG.r2
    have e8 := hM.2.2.2.2.1
    obtain ⟨b0, b1, b2, b3, b4, b6, b7, b8, b9, bs1, bs2, br4, br0, br2, brc, brc2, brw, brl⟩ := hC.1 k (by omega)
    rcases st01 br4 with ⟨s1, s2, s3⟩ | ⟨s1, s2⟩
    · obtain ⟨C2, M2, q7, q8, rest⟩ := ih (k + 1) nn nn' C M hR0 (by omega) (by omega) (by omega)
      refine ⟨C2, M2, ?_, fun R' => ?_, rest⟩
      · rw [f_X7_coolCars_2.eq_2, hS.2.2.1, if_neg ng]
        simp only [hca.1, bd_def, mt_def, f_X2_isHere, b4, if_neg s2, if_neg s3, if_pos, nI_1, q7]
      · rw [f_X8_tick_126.eq_2, hS.2.2.2.1, if_neg ng, gd_pos (show ix (nI k) (ln 118) from hx)]
        simp only [hcl, if_pos s1, nI_1, q8 R']
    · have hst : f_X2_isHere C R (40 + k) = some 1 := by
        rcases s2 with e | e
        · simp only [f_X2_isHere, b4, e, if_pos]
        · simp only [f_X2_isHere, b4, e, if_neg i10, if_pos]
      obtain ⟨-, g1, -, -, -, -, hcool, -⟩ := hG.2.2
      have nR : Rel (p2 C (40 + k) 3 (C (40 + k) 3 - (C (40 + k) 3 - 10 * C 0 7) / C r 1)) (p2 M 119 k (M 119 k - (M 119 k - 10 * M 100 1) / M 143 1)) R nb nc lh r := by
        refine hR0.upd (fun b k h1 h2 h3 => ?_) (fun b k h1 h2 h3 h4 h5 => ?_) ⟨rfl, rfl⟩ ?_ (by omega) ?_ ?_ ?_ ?_ ?_
        · simp (disch := omega) only [p2_off]
        · simp (disch := omega) only [p2_off]
        · simp (disch := omega) only [p2_off]; exact hS.2.2.2.2.1
        · simp (disch := omega) only [p2_off]
          exact ⟨e8, hM.2.2.2.2.2.1⟩
        · unfold gL at hLg ⊢
          simp (disch := omega) only [p2_off]; exact hLg
        · exact hB.same hb (fun b k h1 h2 => by simp (disch := omega) only [p2_off]) (fun b k h1 h2 => by simp (disch := omega) only [p2_off])
        · refine hC.upd hc (j := k) (by omega) (fun b k h1 h2 h3 => by simp (disch := omega) only [p2_off]) (fun b k h1 h2 h3 => by simp (disch := omega) only [p2_off]) ?_ (fun i hi => ?_) (fun i h1 h2 => ?_)
          · unfold cR
            simp (disch := omega) only [p2_off, p2_hit]
            refine ⟨b0, b1, b2, by rw [b3, hM.2.2.1, g1], b4, b6, b7, b8, b9, bs1, bs2, br4, br0, br2, brc, brc2, ?_, brl⟩
            exact cool_rg brw (hM.2.2.1 ▸ hM.2.2.2.1) hcool
          · simp (disch := omega) only [p2_off]; exact hC.2.1 i (by omega)
          · simp (disch := omega) only [p2_off]; exact hC.2.2.1 i (by omega) h2
        · unfold gH at hH ⊢
          simp (disch := omega) only [p2_off]; exact hH
      obtain ⟨C2, M2, q7, q8, hR2, h3, h4, h5⟩ := ih (k + 1) nn nn' _ _ nR (by omega) (by omega) (by omega)
      refine ⟨C2, M2, ?_, fun R' => ?_, hR2, (fc.rf.p2 (by omega)).tr h3, (fm.rf.p2 (by omega)).tr h4, h5.trans (p2_off (by omega))⟩
      · rw [f_X7_coolCars_2.eq_2, hS.2.2.1, if_neg ng]
        simp only [hca.1, bd_def, mt_def, hst, if_neg i10, hG.1, f_X7_airTenths, f_X5_coolDown, if_pos (show (1 : Int32) ≤ C r 1 from g1 ▸ le1_of hcool), gd_pos (show ¬ C r 1 = 0 from g1 ▸ ne0_of hcool), lt_def, nI_1, q7]
      · rw [f_X8_tick_126.eq_2, hS.2.2.2.1, if_neg ng, gd_pos (show ix (nI k) (ln 118) from hx)]
        simp only [hcl, if_neg s1, gd_pos (show ix (nI k) (ln 119) from hx), f_X8_cooled, gd_pos (show ix 1 (ln 143) from ⟨by decide, by decide⟩), show (1 : Int32).toNatClampNeg = 1 by decide, gd_pos (ne0_of hcool), bd_def, lt_def, nI_1, q8 R']
def prC (C : MI) (z x : Int32) : MI := p2 (p2 C 10 1 (C 10 1 + z)) 10 2 (C 10 2 + z * x)
theorem press_loop {R : MR} {al : Nat → Bool} {nb nc lh r hr : Nat} (hA : gA al R nb nc) (hhr : hr < 24) : ∀ (k nn nn' Lf : Nat) (C M : MI), Rel (prC C (C r 3 - nI Lf) (C 4 hr)) M R nb nc lh r → k ≤ nb → k < nn → k < nn' → Lf ≤ 500 →
    ∃ C2 M2, f_X7_runPress_41 nn C R (nI hr) (nI Lf) (nI k + (-1)) = some C2 ∧ (∀ R', f_X8_presses_35 nn' M R' (nI hr) (nI Lf) (nI k + (-1)) = some M2) ∧ Rel C2 M2 R nb nc lh r ∧ fc C C2 ∧ fm M M2 ∧ C2 0 8 = C 0 8 := by
  intro k
  have hclh : (nI hr).toNatClampNeg = hr := nI_clamp (by omega)
  have m1 : nI 0 + (-1) < 0 := by decide
  induction k with
  | zero =>
    intro nn nn' Lf C M hR hk hn hn' hL
    obtain ⟨nn, rfl⟩ : ∃ m, nn = m + 1 := ⟨nn - 1, by omega⟩
    obtain ⟨nn', rfl⟩ : ∃ m, nn' = m + 1 := ⟨nn' - 1, by omega⟩
    refine ⟨_, M, ?_, fun R' => ?_, hR, ?_, fm.rf, ?_⟩
    · rw [f_X7_runPress_41.eq_2, if_pos m1]
      have hG := hR.2.2.2.2.2.2.2.2.1
      rw [hG.1, bd_def, gd_pos (show ix (nI hr) (ln 4) from ix_nI hhr (by decide)), hclh]
      simp only [f_X3_press, lt_def, bd_def]
      rw [p2_off (by omega)]
      rfl
    · rw [f_X8_presses_35.eq_2, if_pos m1]
    · unfold prC
      exact (fc.rf.p2 (by omega)).p2 (by omega)
    · unfold prC
      simp (disch := omega) only [p2_off]
  | succ m ih =>
    intro nn nn' Lf C M hR hk hn hn' hL
    obtain ⟨nn, rfl⟩ : ∃ m, nn = m + 1 := ⟨nn - 1, by omega⟩
    obtain ⟨nn', rfl⟩ : ∃ m, nn' = m + 1 := ⟨nn' - 1, by omega⟩
    have hR0 := hR
    obtain ⟨hS, hM, hP, hT, hLg, hB, hC, hH, hG, hN, hw⟩ := hR
    have hb := hS.2.2.2.2.2.1
    have hc := hS.2.2.2.2.2.2.1
    have hlh := hS.2.2.2.2.2.2.2
    have hr2 := hG.r2
    have hcl : (nI m).toNatClampNeg = m := nI_clamp (by omega)
    have hx : ix (nI m) 4 := ix_nI (by omega) (by decide)
    have np : ¬ nI m < 0 := nI_pos (by omega)
    have hS' : gS C M nb nc lh := by
      unfold gS prC at hS
      unfold gS
      simp (disch := omega) only [p2_off] at hS; exact hS
    have hbk := bk_yes hS' hA (j := m) (by omega)
    have hbr := hB.1 m (by omega)
    obtain ⟨V, B, T, eV, eB, eT, v1, v2, hB4, hT4⟩ := hbr.N
    have hbr' : bR C M m := by
      unfold bR prC at hbr
      unfold bR
      simp (disch := omega) only [p2_off] at hbr; exact hbr
    obtain ⟨a0, a1, a2, a3, a4, a5, av, ac1, ac2, at_, al_⟩ := hbr'
    have hVT : V * T ≤ 100 * 400 := Nat.mul_le_mul v2 hT4
    have lk := (lk_eq (I := C) (R := R) (o := 30 + m) (a0.trans eV) (a1.trans eB) (a2.trans eT) (by omega) (by omega)).2
    by_cases hl : M 109 m = 0
    · have hl7 : C (30 + m) 5 = 0 := a5.trans hl
      obtain ⟨u, hu⟩ : ∃ u, u = min (V * T - B) Lf := ⟨_, rfl⟩
      have mn : (if nI (V * T - B) < nI Lf then nI (V * T - B) else nI Lf) = nI u := by rw [hu]; exact mn_lt (by omega) (by omega)
      obtain ⟨C', hC'⟩ : ∃ C', C' = p2 (p2 C (30 + m) 1 (C (30 + m) 1 + nI u)) (30 + m) 4 (C (30 + m) 4 + nI u) := ⟨_, rfl⟩
      have f7 : f_X7_runPress_41 (nn + 1) C R (nI hr) (nI Lf) (nI (m + 1) + (-1)) = f_X7_runPress_41 nn C' R (nI hr) (nI (Lf - u)) (nI m + (-1)) := by
        rw [f_X7_runPress_41.eq_2, pk_m1, if_neg np, hbk.1, bd_def, mt_def, if_pos hl7, lk, bd_def]
        simp only [lt_def, mn]
        rw [pk_sub (by omega), p2_off (by omega), ← hC']
      have c4 : C' 4 hr = C 4 hr := by rw [hC']; simp (disch := omega) only [p2_off]
      have c3 : C' r 3 = C r 3 := by rw [hC']; simp (disch := omega) only [p2_off]
      have fcc : fc C C' := by rw [hC']; exact (fc.rf.p2 (by omega)).p2 (by omega)
      have c8 : C' 0 8 = C 0 8 := by rw [hC']; simp (disch := omega) only [p2_off]
      obtain ⟨M', hM', fmm, nR⟩ : ∃ M', (∀ R', f_X8_presses_35 (nn' + 1) M R' (nI hr) (nI Lf) (nI (m + 1) + (-1)) = f_X8_presses_35 nn' M' R' (nI hr) (nI (Lf - u)) (nI m + (-1))) ∧ fm M M' ∧ Rel (prC C' (C' r 3 - nI (Lf - u)) (C' 4 hr)) M' R nb nc lh r := by
        rw [c3, c4]
        by_cases hu0 : u = 0
        · refine ⟨M, fun R' => ?_, fm.rf, ?_⟩
          · rw [f_X8_presses_35.eq_2, pk_m1, if_neg np]
            simp only [gd_pos (show ix (nI m) (ln 109) from hx), gd_pos (show ix (nI m) (ln 104) from hx), gd_pos (show ix (nI m) (ln 105) from hx), gd_pos (show ix (nI m) (ln 106) from hx), hcl, if_pos hl, lt_def, eV, eB, eT, pk_mul]
            by_cases hBV : B ≤ V * T
            · rw [pk_sub hBV]
              have e := mn_le (f := fun y => f_X8_presses_85 (f_X8_presses_35 nn') M R' (nI hr) (nI Lf) (nI m) y) (a := Lf) (b := V * T - B) (by omega) (by omega)
              rw [e, show min Lf (V * T - B) = 0 by omega]
              simp only [f_X8_presses_85, if_neg (show ¬ (0 : Int32) < nI 0 by decide), hu0, Nat.sub_zero]
            · have e1 := pk_sub_toInt (a := V * T) (b := B) (by omega) (by omega)
              have z0 : (0 : Int32).toInt = 0 := by decide
              rw [if_neg (by rw [tI_le, e1, nI_toInt (by omega)]; omega)]
              simp only [f_X8_presses_85, if_neg (show ¬ (0 : Int32) < nI (V * T) - nI B by rw [tI_lt, e1, z0]; omega), hu0, Nat.sub_zero]
          · have : C' = C := by
              rw [hC', hu0]
              have z1 : ∀ x : Int32, x + nI 0 = x := fun x => Int32.add_zero x
              rw [z1, z1, p2_self (I := C) rfl, p2_self rfl]
            rw [this, hu0, Nat.sub_zero]; exact hR0
        · have hBV : B < V * T := by omega
          refine ⟨p2 (p2 (p2 (p2 M 105 m (M 105 m + nI u)) 108 m (M 108 m + nI u)) 100 25 (M 100 25 + nI u)) 100 26 (M 100 26 + nI u * M 112 hr), fun R' => ?_, (((fm.rf.p2 (by omega)).p2 (by omega)).p2 (by omega)).p2 (by omega), ?_⟩
          · rw [f_X8_presses_35.eq_2, pk_m1, if_neg np]
            simp only [gd_pos (show ix (nI m) (ln 109) from hx), gd_pos (show ix (nI m) (ln 104) from hx), gd_pos (show ix (nI m) (ln 105) from hx), gd_pos (show ix (nI m) (ln 106) from hx), hcl, if_pos hl, lt_def]
            rw [eV, eT, eB, pk_mul, pk_sub (by omega)]
            have e := mn_le (f := fun y => f_X8_presses_85 (f_X8_presses_35 nn') M R' (nI hr) (nI Lf) (nI m) y) (a := Lf) (b := V * T - B) (by omega) (by omega)
            rw [e, show min Lf (V * T - B) = u by omega]
            simp only [f_X8_presses_85, if_pos (show (0 : Int32) < nI u from nI_lt (a := 0) (by omega) (by omega)), gd_pos (show ix (nI m) (ln 105) from hx), gd_pos (show ix (nI m) (ln 108) from hx), gd_pos (show ix (nI hr) (ln 112) from ix_nI hhr (by decide)), hcl, hclh, lt_def]
            simp (disch := omega) only [p2_off]
            rw [pk_sub (by omega), eB]
          · have eL := hLg
            unfold gL prC at eL
            simp (disch := omega) only [p2_off, p2_hit] at eL
            have pL : M 112 hr = C 4 hr := by
              have := (hP hr hhr).1
              unfold prC at this
              simp (disch := omega) only [p2_off] at this
              exact this.symm
            refine hR0.upd (fun b k h1 h2 h3 => ?_) (fun b k h1 h2 h3 h4 h5 => ?_) ⟨rfl, rfl⟩ ?_ hlh ?_ ?_ ?_ ?_ ?_
            · unfold prC; rw [hC']; simp (disch := omega) only [p2_off]
            · simp (disch := omega) only [p2_off]
            · unfold prC; rw [hC']; simp (disch := omega) only [p2_off]; exact hS'.2.2.2.2.1
            · have e8 := hM.2.2.2.2.1
              have e9 := hM.2.2.2.2.2.1
              unfold prC at e8 e9 ⊢
              simp (disch := omega) only [p2_off] at e8 e9
              rw [hC']
              simp (disch := omega) only [p2_off]
              exact ⟨e8, e9⟩
            · unfold gL prC
              rw [hC']
              simp (disch := omega) only [p2_off, p2_hit]
              refine ⟨eL.1, ?_, ?_, eL.2.2.2⟩
              · rw [← eL.2.1, ← pk_sub (show u ≤ Lf by omega)]; grind
              · rw [← eL.2.2.1, ← pk_sub (show u ≤ Lf by omega), pL]; grind
            · refine hB.upd hb (j := m) (by omega) (fun b k h1 h2 h3 => by unfold prC; rw [hC']; simp (disch := omega) only [p2_off]) (fun b k h1 h2 h3 => by simp (disch := omega) only [p2_off]) ?_
              unfold bR prC
              rw [hC']
              simp (disch := omega) only [p2_off, p2_hit]
              have e1 : (M 105 m + nI u).toInt = (B : Int) + u := by rw [eB, nI_add, nI_toInt (by omega)]; omega
              refine ⟨a0, by rw [a1], a2, a3, by rw [a4], a5, av, by omega, ?_, at_, al_⟩
              rw [eV, nI_toInt (by omega), e1]
              have : V * T ≤ V * 400 := Nat.mul_le_mul_left V hT4
              omega
            · exact hC.same hc (fun b k h1 h2 => by unfold prC; rw [hC']; simp (disch := omega) only [p2_off]) (fun b k h1 h2 => by simp (disch := omega) only [p2_off])
            · unfold gH at hH ⊢
              simp (disch := omega) only [p2_off]; exact hH
      obtain ⟨C2, M2, q7, q8, hR2, h3, h4, h5⟩ := ih nn nn' (Lf - u) C' M' nR (by omega) (by omega) (by omega) (by omega)
      exact ⟨C2, M2, f7.trans q7, fun R' => (hM' R').trans (q8 R'), hR2, fcc.tr h3, fmm.tr h4, h5.trans c8⟩
    · have hl7 : ¬ C (30 + m) 5 = 0 := fun z => hl (a5.symm.trans z)
      obtain ⟨C2, M2, q7, q8, rest⟩ := ih nn nn' Lf C M hR0 (by omega) (by omega) (by omega) hL
      refine ⟨C2, M2, ?_, fun R' => ?_, rest⟩
      · rw [f_X7_runPress_41.eq_2, pk_m1, if_neg np, hbk.1, bd_def, mt_def, if_neg hl7, q7]
      · rw [f_X8_presses_35.eq_2, pk_m1, if_neg np, gd_pos (show ix (nI m) (ln 109) from hx)]
        simp only [hcl, if_neg hl, q8 R']
theorem press_skip {C M : MI} {R : MR} {nb nc lh : Nat} (hS : gS C M nb nc lh) {x y : Int32} : ∀ (d nn : Nat), nb + d ≤ 4 → f_X7_runPress_41 (nn + d) C R x y (nI (nb + d) + (-1)) = f_X7_runPress_41 nn C R x y (nI nb + (-1)) := by
  intro d
  induction d with
  | zero => intro nn _; rfl
  | succ d ih =>
    intro nn hd
    rw [← ih nn (by omega), show nn + (d + 1) = (nn + d) + 1 from rfl, f_X7_runPress_41.eq_2, show nb + (d + 1) = (nb + d) + 1 from rfl, pk_m1, if_neg (nI_pos (by omega)), (bk_no (M := M) (R := R) hS (Or.inr (nI_le (by omega) (by omega)))).1, bd_def, mt_none]
theorem press_all {C M : MI} {R : MR} {al : Nat → Bool} {nb nc lh r : Nat} (hR : Rel C M R nb nc lh r) (hA : gA al R nb nc) :
    ∃ C2 M2, f_X7_runPress C R = some C2 ∧ (∀ R', f_X8_presses M R' = some M2) ∧ Rel C2 M2 R nb nc lh r ∧ fc C C2 ∧ fm M M2 ∧ C2 0 8 = C 0 8 := by
  have hR0 := hR
  obtain ⟨hS, hM, hP, hT, hLg, hB, hC, hH, hG, hN, hw⟩ := hR
  have hb := hS.2.2.2.2.2.1
  obtain ⟨N, hN9, eN⟩ := nI_of_rg hM.2.2.2.2.2.1
  have e60 : (60 : Int32) = nI 60 := rfl
  have e24 : (24 : Int32) = nI 24 := rfl
  obtain ⟨hr, hhr⟩ : ∃ hr, hr = N / 60 % 24 := ⟨_, rfl⟩
  have hr24 : hr < 24 := by omega
  have ev : nI N / 60 - nI N / 60 / 24 * 24 = nI hr := by
    rw [e60, e24, pk_div (by omega) (by omega) (by omega), pk_rem (by omega) (by omega) (by omega), hhr]
  have ev7 : C 0 8 / 60 - C 0 8 / 60 / 24 * 24 = nI hr := by rw [eN]; exact ev
  have ev8 : M 100 0 / 60 - M 100 0 / 60 / 24 * 24 = nI hr := by rw [← hM.2.2.2.2.1]; exact ev7
  have e : wi (nI hr) 0 23 = 1 := by
    unfold wi
    rw [if_neg (nI_pos (by omega)), if_neg (show ¬ (23 : Int32) < nI hr from nI_nlt (a := 23) (by omega) (by omega))]
  have hclh : (nI hr).toNatClampNeg = hr := nI_clamp (by omega)
  have hx : ix (nI hr) 24 := ix_nI hr24 (by decide)
  obtain ⟨p1, p2', p3⟩ := hP hr hr24
  by_cases hs : M 113 hr = 0
  · obtain ⟨-, -, -, g3, -, -, -, -, rg3, -⟩ := hG.2.2
    obtain ⟨P, hP5, eP⟩ := nI_of_rg rg3
    have hR1 : Rel (prC C (C r 3 - nI P) (C 4 hr)) M R nb nc lh r := by
      have : prC C (C r 3 - nI P) (C 4 hr) = C := by
        have z : C r 3 - nI P = 0 := by rw [g3, eP]; exact Int32.sub_self _
        unfold prC
        rw [z, Int32.zero_mul, Int32.add_zero, Int32.add_zero, p2_self (I := C) rfl, p2_self rfl]
      rw [this]; exact hR0
    obtain ⟨C2, M2, q7, q8, rest⟩ := press_loop hA hr24 nb (1000000 - (4 - nb)) 1000000 P C M hR1 (by omega) (by omega) (by omega) (by omega)
    have sk := press_skip (R := R) hS (x := nI hr) (y := nI P) (4 - nb) (1000000 - (4 - nb)) (by omega)
    rw [show 1000000 - (4 - nb) + (4 - nb) = 1000000 by omega, show nb + (4 - nb) = 4 by omega] at sk
    refine ⟨C2, M2, ?_, fun R' => ?_, rest⟩
    · simp only [f_X7_runPress, ev7, lt_def, f7_in, bd_def, e, if_neg i10, gd_pos (show ix (nI hr) (ln 5) from hx), hclh, if_pos (p2'.trans hs), hG.1, g3, eP]
      exact sk.trans q7
    · simp only [f_X8_presses, ev8, lt_def, gd_pos (show ix (nI hr) (ln 113) from hx), hclh, if_pos hs, gd_pos (show ix 3 (ln 143) from ⟨by decide, by decide⟩), show (3 : Int32).toNatClampNeg = 3 by decide, eP, hS.2.1]
      rw [show nI nb - 1 = nI nb + (-1) from Int32.sub_eq_add_neg ..]
      exact q8 R'
  · refine ⟨C, M, ?_, fun R' => ?_, hR0, fc.rf, fm.rf, rfl⟩
    · simp only [f_X7_runPress, ev7, lt_def, f7_in, bd_def, e, if_neg i10, gd_pos (show ix (nI hr) (ln 5) from hx), hclh, if_neg (fun z => hs (p2'.symm.trans z))]
    · simp only [f_X8_presses, ev8, lt_def, gd_pos (show ix (nI hr) (ln 113) from hx), hclh, if_neg hs]
/-! ===== one TICK, and all ===== -/
theorem tick_ok {C M : MI} {R : MR} {al : Nat → Bool} {nb nc lh r : Nat} (hR : Rel C M R nb nc lh r) (hA : gA al R nb nc) {N : Nat} (hN : C 0 8 = nI N) (hN9 : N < 9999) :
    ∃ C2 R2 M2 lh2, (∀ nn x1 x2, ¬ x1 ≤ x2 → f_X7_pass_27 (nn + 1) C R x1 x2 = f_X7_pass_27 nn C2 R2 x1 (x2 + 1)) ∧ (∀ R', f_X8_tick M R' = some M2) ∧ Rel C2 M2 R2 nb nc lh2 r ∧ gA al R2 nb nc ∧ fc C C2 ∧ fm M M2 ∧ C2 0 8 = nI (N + 1) := by
  obtain ⟨C1, R1, M1, l1, a1, b1, r1, A1, f1, m1, o1⟩ := take_all hR hA
  obtain ⟨C2, R2, M2, a2, b2, r2, A2, f2, m2, o2⟩ := serve_all r1 A1
  have hc := r2.1.2.2.2.2.2.2.1
  obtain ⟨C3, M3, a3, b3, r3, f3, m3, o3⟩ := cool_loop A2 nc 0 1000000 1000000 C2 M2 r2 (by omega) (by omega) (by omega)
  obtain ⟨C4, M4, a4, b4, r4, f4, m4, o4⟩ := press_all r3 A2
  have e8 : C4 0 8 = nI N := by rw [o4, o3, o2, o1, hN]
  have e8m : M4 100 0 = nI N := by rw [← r4.2.1.2.2.2.2.1, e8]
  refine ⟨p2 C4 0 8 (nI (N + 1)), R2, p2 M4 100 0 (nI (N + 1)), l1, fun nn x1 x2 hx => ?_, fun R' => ?_, ?_, A2, (f1.tr (f2.tr (f3.tr f4))).p2 (by omega), (m1.tr (m2.tr (m3.tr m4))).p2 (by omega), p2_hit rfl rfl⟩
  · have a3' : f_X7_coolCars C2 R2 = some C3 := a3
    rw [f_X7_pass_27.eq_2, if_neg hx, a1, bd_def, a2, bd_def, a3', bd_def, a4, bd_def]
    simp only [lt_def, e8, nI_1]
  · have b3' : f_X8_tick_126 1000000 M2 R' 0 = bd (f_X8_presses M3 R') (fun z => some (p2 z 100 0 (z 100 0 + 1))) := b3 R'
    rw [b1, b2, b3', b4, bd_def, e8m, nI_1]
  · obtain ⟨hS, hM, hP, hT, hLg, hB, hC, hH, hG, hN, hw⟩ := r4
    have hb := hS.2.2.2.2.2.1
    refine ⟨(hS.pC (by omega)).pM (by omega), ?_, (hP.pC (by omega)).pM (by omega), (hT.pC (by omega)).pM (by omega), (hLg.pC (by omega)).pM (by omega), (hB.pC hb (by omega)).pM (by omega), (hC.pC hc (by omega)).pM (by omega), hH.pC.pM (by omega), (hG.pC (by omega)).pM (by omega), (hN.pC (by omega)).pM (by omega), hw.pM (by omega)⟩
    unfold gM at hM ⊢
    simp (disch := omega) only [p2_off, p2_hit]
    refine ⟨hM.1, hM.2.1, hM.2.2.1, hM.2.2.2.1, trivial, ?_, hM.2.2.2.2.2.2⟩
    unfold rg
    rw [nI_toInt (by omega)]
    omega
theorem pass_loop {al : Nat → Bool} {nb nc r T : Nat} (hT : T ≤ 500) : ∀ (d k nn nn' N : Nat) (C M : MI) (R : MR) (lh : Nat), Rel C M R nb nc lh r → gA al R nb nc → C 0 8 = nI N → N + d ≤ 9999 → k + d = T → d < nn → d < nn' →
    ∃ C2 R2 M2 lh2, f_X7_pass_27 nn C R (nI T) (nI k) = some (nI (N + d), C2, R2) ∧ (∀ R', f_X8_pass_27 nn' M R' (nI T) (nI k) = some (nI (N + d), M2)) ∧ Rel C2 M2 R2 nb nc lh2 r ∧ gA al R2 nb nc ∧ fc C C2 ∧ fm M M2 := by
  intro d
  induction d with
  | zero =>
    intro k nn nn' N C M R lh hR hA hN hN9 hk hn hn'
    obtain ⟨nn, rfl⟩ : ∃ m, nn = m + 1 := ⟨nn - 1, by omega⟩
    obtain ⟨nn', rfl⟩ : ∃ m, nn' = m + 1 := ⟨nn' - 1, by omega⟩
    refine ⟨C, R, M, lh, ?_, fun R' => ?_, hR, hA, fc.rf, fm.rf⟩
    · rw [f_X7_pass_27.eq_2, if_pos (nI_le (by omega) (by omega)), hN]; rfl
    · rw [f_X8_pass_27.eq_2, if_pos (nI_le (by omega) (by omega)), ← hR.2.1.2.2.2.2.1, hN]; rfl
  | succ d ih =>
    intro k nn nn' N C M R lh hR hA hN hN9 hk hn hn'
    obtain ⟨nn, rfl⟩ : ∃ m, nn = m + 1 := ⟨nn - 1, by omega⟩
    obtain ⟨nn', rfl⟩ : ∃ m, nn' = m + 1 := ⟨nn' - 1, by omega⟩
    obtain ⟨C1, R1, M1, l1, a1, b1, r1, A1, f1, m1, o1⟩ := tick_ok hR hA hN (by omega)
    obtain ⟨C2, R2, M2, l2, a2, b2, r2, A2, f2, m2⟩ := ih (k + 1) nn nn' (N + 1) C1 M1 R1 l1 r1 A1 o1 (by omega) (by omega) (by omega) (by omega)
    have ng : ¬ nI T ≤ nI k := nI_ge (by omega) (by omega)
    have e : N + 1 + d = N + (d + 1) := by omega
    rw [e] at a2 b2
    refine ⟨C2, R2, M2, l2, ?_, fun R' => ?_, r2, A2, f1.tr f2, m1.tr m2⟩
    · rw [a1 nn _ _ ng, nI_1, a2]
    · rw [f_X8_pass_27.eq_2, if_neg ng, b1 R', bd_def, nI_1, b2 R']
theorem LK_ofR {f7 : MI → MR → Option (Int32 × MI × MR)} {f8 : MI → MR → Option (Int32 × MI)} (h : ∀ (C M : MI) (R : MR) (al : Nat → Bool) (nb nc lh r : Nat), Rel C M R nb nc lh r → gA al R nb nc → ∃ v C2 R2 M2 nb2 nc2 lh2 r2, f7 C R = some (v, C2, R2) ∧ (∀ R', f8 M R' = some (v, M2)) ∧ Rel C2 M2 R2 nb2 nc2 lh2 r2 ∧ gA al R2 nb2 nc2 ∧ fc C C2 ∧ fm M M2) :
    ∀ (q : Nat → Nat) (al : Nat → Bool) (I : MI) (R : MR) (n : Nat), LI q al I R n → ∃ (z1 : Int32 × MI × MR) (z2 : Int32 × MI), f7 I R = some z1 ∧ f8 z1.2.1 z1.2.2 = some z2 ∧ z1.1 = z2.1 ∧ LI q al z2.2 z1.2.2 n := by
  rintro q al I R n ⟨nb, nc, lh, r, hR, hA⟩
  obtain ⟨v, C2, R2, M2, nb2, nc2, lh2, r2, e7, e8, hR2, hA2, hc, hm⟩ := h I I R al nb nc lh r hR hA
  obtain ⟨v', C3, R3, M3, nb3, nc3, lh3, r3, e7', e8', hR3, hA3, hc', hm'⟩ := h I C2 R al nb nc lh r (hR.congM hc) hA
  rw [e7] at e7'
  have e := Option.some.inj e7'
  have e1 : v = v' := congrArg Prod.fst e
  have e2 : C2 = C3 := congrArg (fun z => z.2.1) e
  have e3 : R2 = R3 := congrArg (fun z => z.2.2) e
  subst e1; subst e2; subst e3
  exact ⟨(v, C2, R2), (v, M3), e7, e8' R2, rfl, nb3, nc3, lh3, r3, hR3.congC hm', hA3⟩
theorem K_pass : LK_pass LI := by
  intro q al I R n y0 h
  refine LK_ofR (f7 := fun C R => f_X7_pass C R y0) (f8 := fun M R => f_X8_pass M R y0) ?_ q al I R n h
  intro C M R al nb nc lh r hR hA
  rcases wi_cases y0 1 500 with ⟨e, hn⟩ | ⟨e, h1, h2⟩
  · exact ⟨-1, C, R, M, nb, nc, lh, r, by simp only [f_X7_pass, f7_in, bd_def, e, if_pos], fun R' => by simp only [f_X8_pass, f8_in, bd_def, e, if_pos], hR, hA, fc.rf, fm.rf⟩
  have h1 : (1 : Int) ≤ y0.toInt := h1
  have h2 : y0.toInt ≤ (500 : Int) := h2
  obtain ⟨T, hT, rfl⟩ := nI_of_rg (x := y0) (b := 500) ⟨by omega, h2⟩
  have hM := hR.2.1
  obtain ⟨N, hN9, eN⟩ := nI_of_rg hM.2.2.2.2.2.1
  have e99 : (9999 : Int32) = nI 9999 := rfl
  have c7 : nI T ≤ 9999 - C 0 8 ↔ N + T ≤ 9999 := by
    rw [eN, e99, tI_le, pk_sub_toInt (by omega) (by omega), nI_toInt (by omega)]
    omega
  have c8 : M 100 0 + nI T ≤ 9999 ↔ N + T ≤ 9999 := by
    rw [← hM.2.2.2.2.1, eN, e99, nI_add, nI_leI (by omega) (by omega)]
  by_cases hq : N + T ≤ 9999
  · obtain ⟨C2, R2, M2, l2, a2, b2, r2, A2, f2, m2⟩ := pass_loop (T := T) (by omega) T 0 1000000 1000000 N C M R lh hR hA eN hq (by omega) (by omega) (by omega)
    refine ⟨nI (N + T), C2, R2, M2, nb, nc, l2, r, ?_, fun R' => ?_, r2, A2, f2, m2⟩
    · simp only [f_X7_pass, f7_in, bd_def, e, if_neg i10, if_pos (c7.mpr hq)]
      exact a2
    · simp only [f_X8_pass, f8_in, bd_def, e, if_neg i10, if_pos (c8.mpr hq)]
      exact b2 R'
  · exact ⟨-1, C, R, M, nb, nc, lh, r, by simp only [f_X7_pass, f7_in, bd_def, e, if_neg i10, if_neg (fun z => hq (c7.mp z))], fun R' => by simp only [f_X8_pass, f8_in, bd_def, e, if_neg i10, if_neg (fun z => hq (c8.mp z))], hR, hA, fc.rf, fm.rf⟩
