/-! ===== one TICK: a CAR goes, or draws ===== -/
theorem goes_ok {C M : MI} {R : MR} {al : Nat → Bool} {nb nc lh r : Nat} (hR : Rel C M R nb nc lh r) (hA : gA al R nb nc) {h j : Nat} (hh : h < 2) (hj : j < lh) (hr3 : R 3 h = some (40 + j)) (hm : M 111 h = nI j) {s : Int32} (hs : s = 2 ∨ s = 3 ∨ s = 4) (k' : Nat) :
    ∃ M2, (∀ R', f_X8_goes (p2 M 120 j (nI k')) R' (nI h) s = some M2) ∧ Rel (p2 (p2 C (40 + j) 4 s) (40 + j) 7 (C 0 8)) M2 (pq R 3 h none) nb nc lh r ∧ gA al (pq R 3 h none) nb nc ∧ fm M M2 ∧ M2 100 9 = M 100 9 := by
  have hR0 := hR
  obtain ⟨hS, hM, hP, hT, hLg, hB, hC, hH, hG, hN, hw⟩ := hR
  have hb := hS.2.2.2.2.2.1
  have hc := hS.2.2.2.2.2.2.1
  have hlh := hS.2.2.2.2.2.2.2
  have hcl : (nI h).toNatClampNeg = h := nI_clamp (by omega)
  have hclj : (nI j).toNatClampNeg = j := nI_clamp (by omega)
  have hx111 : ix (nI h) (ln 111) := ix_nI (show h < 2 by omega) (by decide)
  have hx : ix (nI j) 60 := ix_nI (by omega) (by decide)
  have e8 := hM.2.2.2.2.1
  have s0 : s ≠ 0 := by rcases hs with e | e | e <;> subst e <;> decide
  have s1 : s ≠ 1 := by rcases hs with e | e | e <;> subst e <;> decide
  have s4 : rg s 0 4 := by rcases hs with e | e | e <;> subst e <;> exact ⟨by decide, by decide⟩
  obtain ⟨b0, b1, b2, b3, b4, b6, b7, b8, b9, bs1, bs2, br4, brest⟩ := hC.1 j (by omega)
  refine ⟨p2 (p2 (p2 (p2 (p2 M 120 j (nI k')) 118 j s) 122 j (M 100 0)) 120 j (-1)) 111 h (-1), fun R' => ?_, ?_, hA.hose, ((((fm.rf.p2 (by omega)).p2 (by omega)).p2 (by omega)).p2 (by omega)).p2 (by omega), by simp (disch := omega) only [p2_off]⟩
  · simp only [f_X8_goes, gd_pos hx111, hcl, lt_def]
    simp (disch := omega) only [p2_off, hm]
    simp only [hclj, gd_pos (show ix (nI j) (ln 118) from hx), gd_pos (show ix (nI j) (ln 120) from hx), gd_pos (show ix (nI j) (ln 122) from hx)]
  · refine hR0.upd (fun b k h1 h2 h3 => ?_) (fun b k h1 h2 h3 h4 h5 => ?_) ⟨pq_off (by omega), pq_off (by omega)⟩ ?_ (by omega) ?_ ?_ ?_ ?_ ?_
    · simp (disch := omega) only [p2_off]
    · simp (disch := omega) only [p2_off]
    · simp (disch := omega) only [p2_off]; exact hS.2.2.2.2.1
    · simp (disch := omega) only [p2_off]
      exact ⟨e8, hM.2.2.2.2.2.1⟩
    · unfold gL at hLg ⊢
      simp (disch := omega) only [p2_off]; exact hLg
    · exact hB.same hb (fun b k h1 h2 => by simp (disch := omega) only [p2_off]) (fun b k h1 h2 => by simp (disch := omega) only [p2_off])
    · refine hC.upd hc (j := j) (by omega) (fun b k h1 h2 h3 => by simp (disch := omega) only [p2_off]) (fun b k h1 h2 h3 => by simp (disch := omega) only [p2_off]) ?_ (fun i hi => ?_) (fun i h1 h2 => ?_)
      · unfold cR
        simp (disch := omega) only [p2_off, p2_hit]
        exact ⟨b0, b1, b2, b3, trivial, b6, e8, b8, b9, fun z => absurd z s1, fun _ => trivial, s4, brest⟩
      · by_cases e : i = j
        · rw [e]; simp (disch := omega) only [p2_off, p2_hit]; exact s0
        · simp (disch := omega) only [p2_off]; exact hC.2.1 i (by omega)
      · simp (disch := omega) only [p2_off]; exact hC.2.2.1 i (by omega) h2
    · refine ⟨fun g hg => ?_, fun hz => ?_, fun t ht1 ht2 => ?_⟩
      · by_cases e : g = h
        · subst e
          refine Or.inl ⟨pq_hit rfl rfl, ?_⟩
          simp (disch := omega) only [p2_hit]
        · rcases hH.1 g hg with ⟨a1, a2⟩ | ⟨i, hi, a1, a2, a3⟩
          · refine Or.inl ⟨(pq_off (by omega)).trans a1, ?_⟩
            simp (disch := omega) only [p2_off]; exact a2
          · have hij : i ≠ j := by
              intro q
              subst q
              by_cases e0 : h = 0
              · subst e0
                have : g = 1 := by omega
                subst this
                exact hH.2.2 _ hr3 a1
              · have e1 : h = 1 := by omega
                have : g = 0 := by omega
                subst e1; subst this
                exact hH.2.2 _ a1 hr3
            refine Or.inr ⟨i, by omega, (pq_off (by omega)).trans a1, ?_, ?_⟩
            · simp (disch := omega) only [p2_off]; exact a2
            · simp (disch := omega) only [p2_off]; exact a3
      · simp (disch := omega) only [p2_off] at hz
        by_cases e : h = 1
        · exact pq_hit rfl (by omega)
        · rw [pq_off (by omega)]
          exact hH.2.1 hz
      · by_cases e : h = 0
        · subst e
          rw [pq_hit rfl rfl] at ht1; cases ht1
        · have e : h = 1 := by omega
          subst e
          rw [pq_hit rfl rfl] at ht2; cases ht2
theorem draw_ok {C M : MI} {R : MR} {nb nc lh r : Nat} (hR : Rel C M R nb nc lh r) {j k u : Nat} (hj : j < lh) (h1 : M 118 j = 1) (hk : k < nb)
    (hf : ∃ V B W D X G : Nat, M 104 k = nI V ∧ M 105 k = nI B ∧ M 115 j = nI W ∧ M 116 j = nI D ∧ M 117 j = nI X ∧ M 143 0 = nI G ∧ u ≤ B ∧ B ≤ V * 400 ∧ V ≤ 100 ∧ D + u ≤ W * X ∧ 1 ≤ W ∧ W ≤ 20 ∧ X ≤ 300 ∧ u ≤ 500 ∧ G ≤ 100 ∧ (M 119 j).toInt + ((u * G / W : Nat) : Int) ≤ 2000) :
    Rel (drC C r j k (nI u)) (drM M j k (nI u)) R nb nc lh r ∧ fc C (drC C r j k (nI u)) ∧ fm M (drM M j k (nI u)) ∧ drM M j k (nI u) 100 9 = M 100 9 := by
  obtain ⟨V, B, W, D, X, G, eV, eB, eW, eD, eX, eG, uB, hB4, v2, hD, w1, w2, x2, u5, gg, hwm⟩ := hf
  have hR0 := hR
  obtain ⟨hS, hM, hP, hT, hLg, hB, hC, hH, hG, hN, hw⟩ := hR
  have hb := hS.2.2.2.2.2.1
  have hc := hS.2.2.2.2.2.2.1
  have hlh := hS.2.2.2.2.2.2.2
  have hr := hG.r2
  have e8 := hM.2.2.2.2.1
  obtain ⟨b0, b1, b2, b3, b4, b6, b7, b8, b9, bs1, bs2, br4, br0, br2, brc, brc2, brw, brl⟩ := hC.1 j (by omega)
  obtain ⟨a0, a1, a2, a3, a4, a5, av, -, -, at_, al_⟩ := hB.1 k hk
  have g0 := hG.2.2.1
  refine ⟨?_, ?_, ?_, ?_⟩
  · unfold drC drM
    refine hR0.upd (fun b k h1 h2 h3 => ?_) (fun b k h1 h2 h3 h4 h5 => ?_) ⟨rfl, rfl⟩ ?_ (by omega) ?_ ?_ ?_ ?_ ?_
    · simp (disch := omega) only [p2_off]
    · simp (disch := omega) only [p2_off]
    · simp (disch := omega) only [p2_off]; exact hS.2.2.2.2.1
    · simp (disch := omega) only [p2_off]
      exact ⟨e8, hM.2.2.2.2.2.1⟩
    · unfold gL at hLg ⊢
      simp (disch := omega) only [p2_off]; exact hLg
    · refine hB.upd hb (j := k) hk (fun b k h1 h2 h3 => by simp (disch := omega) only [p2_off]) (fun b k h1 h2 h3 => by simp (disch := omega) only [p2_off]) ?_
      unfold bR
      simp (disch := omega) only [p2_off, p2_hit]
      have e1 : (M 105 k - nI u).toInt = (B : Int) - u := by rw [eB]; exact pk_sub_toInt (by omega) (by omega)
      refine ⟨a0, by rw [a1], a2, by rw [a3], a4, a5, av, by omega, ?_, at_, al_⟩
      rw [eV, nI_toInt (by omega), e1]; omega
    · have hWX : W * X ≤ 20 * 300 := Nat.mul_le_mul w2 x2
      have huG : u * G ≤ 500 * 100 := Nat.mul_le_mul u5 gg
      have nnq : 0 ≤ ((u * G / W : Nat) : Int) := Int.natCast_nonneg _
      refine hC.upd hc (j := j) (by omega) (fun b k h1 h2 h3 => by simp (disch := omega) only [p2_off]) (fun b k h1 h2 h3 => by simp (disch := omega) only [p2_off]) ?_ (fun i hi => ?_) (fun i h1 h2 => ?_)
      · unfold cR
        simp (disch := omega) only [p2_off, p2_hit]
        have e1 : (M 116 j + nI u).toInt = (D : Int) + u := by rw [eD, nI_add, nI_toInt (by omega)]; omega
        have e2 : (M 119 j + nI u * M 143 0 / M 115 j).toInt = (M 119 j).toInt + ((u * G / W : Nat) : Int) := by
          have hd : u * G / W ≤ u * G := Nat.div_le_self _ _
          have := brw.1
          have := brw.2
          rw [eG, eW, pk_mul, pk_div (by omega) (by omega) (by omega), Int32.toInt_add, nI_toInt (by omega), Int.bmod_eq_of_le (by omega) (by omega)]
        refine ⟨b0, by rw [b1], b2, by rw [b3, g0, b0], b4, b6, b7, by rw [b8], b9, fun _ => ⟨trivial, ?_⟩, fun z => absurd h1 z, br4, br0, br2, by omega, ?_, ?_, brl⟩
        · unfold rg; rw [nI_toInt (by omega)]; omega
        · rw [e1, eW, eX, nI_toInt (by omega), nI_toInt (by omega), ← Int.natCast_mul]; omega
        · unfold rg; rw [e2]; have := brw.1; omega
      · simp (disch := omega) only [p2_off]; exact hC.2.1 i (by omega)
      · simp (disch := omega) only [p2_off]; exact hC.2.2.1 i (by omega) h2
    · unfold gH at hH ⊢
      simp (disch := omega) only [p2_off]; exact hH
  · exact (((((fc.rf.p2 (by omega)).p2 (by omega)).p2 (by omega)).p2 (by omega)).p2 (by omega)).p2 (by omega)
  · exact (((((fm.rf.p2 (by omega)).p2 (by omega)).p2 (by omega)).p2 (by omega)).p2 (by omega)).p2 (by omega)
  · unfold drM
    simp (disch := omega) only [p2_off]
theorem serve1 {C M : MI} {R : MR} {al : Nat → Bool} {nb nc lh r : Nat} (hR : Rel C M R nb nc lh r) (hA : gA al R nb nc) {h H : Nat} (hh : h < 2) (hHM : M 100 9 = nI H) (hH12 : 1 ≤ H ∧ H ≤ 2) :
    ∃ C2 R2 M2, (∀ nn, f_X7_serveHoses_2 (nn + 1) C R (nI h) = f_X7_serveHoses_2 nn C2 R2 (nI (h + 1))) ∧ (h < H → ∀ R' nn, f_X8_tick_95 (nn + 1) M R' (nI h) = f_X8_tick_95 nn M2 R' (nI (h + 1))) ∧ (H ≤ h → M2 = M) ∧ M2 100 9 = nI H ∧ Rel C2 M2 R2 nb nc lh r ∧ gA al R2 nb nc ∧ fc C C2 ∧ fm M M2 ∧ C2 0 8 = C 0 8 := by
  have hR0 := hR
  obtain ⟨hS, hM, hP, hT, hLg, hB, hC, hH, hG, hN, hw⟩ := hR
  have hb := hS.2.2.2.2.2.1
  have hc := hS.2.2.2.2.2.2.1
  have hlh := hS.2.2.2.2.2.2.2
  have hcl : (nI h).toNatClampNeg = h := nI_clamp (by omega)
  have hx3 : ix (nI h) (ln 3) := ix_nI (show h < 2 by omega) (by decide)
  have hx111 : ix (nI h) (ln 111) := ix_nI (show h < 2 by omega) (by decide)
  have n2 : ¬ (2 : Int32) ≤ nI h := nI_ge (a := h) (b := 2) (by omega) (by omega)
  have n6 : h < H → ¬ nI H ≤ nI h := fun q => nI_ge (by omega) (by omega)
  rcases hH.1 h hh with ⟨n1, m1⟩ | ⟨j, hj, n1, m1, h118⟩
  · refine ⟨C, R, M, fun nn => ?_, fun hq R' nn => ?_, fun _ => rfl, hHM, hR0, hA, fc.rf, fm.rf, rfl⟩
    · rw [f_X7_serveHoses_2.eq_2, if_neg n2, gd_pos hx3]
      simp only [hcl, n1, mt_none, nI_1]
    · rw [f_X8_tick_95.eq_2, hHM, if_neg (n6 hq), gd_pos hx111]
      simp only [hcl, m1, if_pos, nI_1]
  · have hhH : h < H := by
      by_cases q : h < H
      · exact q
      · have h1 : h = 1 := by omega
        have h2 : H = 1 := by omega
        subst h1; subst h2
        have := hH.2.1 hHM
        rw [n1] at this; cases this
    have hclj : (nI j).toNatClampNeg = j := nI_clamp (by omega)
    have hx : ix (nI j) 60 := ix_nI (by omega) (by decide)
    obtain ⟨b0, b1, b2, b3, b4, b6, b7, b8, b9, bs1, bs2, br4, br0, br2, brc, brc2, brw, brl⟩ := hC.1 j (by omega)
    obtain ⟨c5, r5⟩ := bs1 h118
    obtain ⟨k0, hk0, ek0⟩ := nI_of_rg r5
    have hk0 : k0 ≤ 3 := by omega
    have pre8 : ∀ R' nn, f_X8_tick_95 (nn + 1) M R' (nI h) = bd (f_X8_draws M R' (nI h)) (fun z => f_X8_tick_95 nn z R' (nI (h + 1))) := by
      intro R' nn
      rw [f_X8_tick_95.eq_2, hHM, if_neg (n6 hhH), gd_pos hx111]
      simp only [hcl, m1, if_neg (nIm1 (show j < 2 ^ 31 by omega)), nI_1]
    have pre7 : ∀ nn, f_X7_serveHoses_2 (nn + 1) C R (nI h) = bd (f_X7_drawsOn C R (40 + j)) (fun z_20 => (if z_20.1 = 0 then f_X7_serveHoses_2 nn (p2 z_20.2 (40 + j) 7 (z_20.2 0 8)) (pq R 3 h none) (nI (h + 1)) else f_X7_serveHoses_2 nn z_20.2 R (nI (h + 1)))) := by
      intro nn
      rw [f_X7_serveHoses_2.eq_2, if_neg n2, gd_pos hx3]
      simp only [hcl, n1, mt_def, lt_def, gd_pos hx3, nI_1]
    have hself : p2 M 120 j (nI k0) = M := p2_self ek0
    have off8 : ∀ s, p2 C (40 + j) 4 s 0 8 = C 0 8 := fun s => p2_off (by omega)
    have cfc : ∀ s v, fc C (p2 (p2 C (40 + j) 4 s) (40 + j) 7 v) := fun s v => (fc.rf.p2 (by omega)).p2 (by omega)
    by_cases hl : M 124 j = 0
    · have hl7 : C (40 + j) 9 = 0 := b9.trans hl
      have d7 : f_X7_drawsOn C R (40 + j) = f_X7_drawsOn_19 1000000 C R (40 + j) (nI k0) := by
        simp only [f_X7_drawsOn, if_pos hl7, c5, ek0]
      have d8 : ∀ R', f_X8_draws M R' (nI h) = f_X8_draws_23 1000000 (p2 M 120 j (nI k0)) R' (nI h) (nI j) := by
        intro R'
        rw [hself]
        simp only [f_X8_draws, gd_pos hx111, hcl, m1, gd_pos (show ix (nI j) (ln 124) from hx), hclj, if_pos hl]
      rcases draw_loop hR0 hA (h := h) (j := j) (by omega) (4 - k0) k0 1000000 1000000 (by omega) (by omega) (by omega) with ⟨s, k', hs, q7, q8⟩ | ⟨k', u, hk', q7, q8, hf⟩
      · obtain ⟨M2, z8, zR, zA, zf, z9⟩ := goes_ok hR0 hA hh hj n1 m1 (s := s) (by rcases hs with e | e <;> simp [e]) k'
        refine ⟨_, _, M2, fun nn => ?_, fun _ R' nn => ?_, fun q => by omega, z9.trans hHM, zR, zA, cfc _ _, zf, by simp (disch := omega) only [p2_off]⟩
        · rw [pre7, d7, q7, bd_def]
          simp only [if_pos, off8]
        · rw [pre8, d8, q8 R', z8 R', bd_def, bd_def]
      · obtain ⟨zR, zc, zf, z9⟩ := draw_ok hR0 hj h118 hk' hf
        refine ⟨_, R, _, fun nn => ?_, fun _ R' nn => ?_, fun q => by omega, z9.trans hHM, zR, hA, zc, zf, by unfold drC; simp (disch := omega) only [p2_off]⟩
        · rw [pre7, d7, q7, bd_def]
          simp only [if_neg i10]
        · rw [pre8, d8, q8 R', bd_def]
    · have hl7 : ¬ C (40 + j) 9 = 0 := fun z => hl (b9.symm.trans z)
      obtain ⟨M2, z8, zR, zA, zf, z9⟩ := goes_ok hR0 hA hh hj n1 m1 (s := 4) (by simp) k0
      refine ⟨_, _, M2, fun nn => ?_, fun _ R' nn => ?_, fun q => by omega, z9.trans hHM, zR, zA, cfc _ _, zf, by simp (disch := omega) only [p2_off]⟩
      · rw [pre7]
        simp only [f_X7_drawsOn, if_neg hl7, lt_def, bd_def, if_pos, off8]
      · rw [hself] at z8
        rw [pre8]
        simp only [f_X8_draws, gd_pos hx111, hcl, m1, gd_pos (show ix (nI j) (ln 124) from hx), hclj, if_neg hl, z8, bd_def]
theorem serve_all {C M : MI} {R : MR} {al : Nat → Bool} {nb nc lh r : Nat} (hR : Rel C M R nb nc lh r) (hA : gA al R nb nc) :
    ∃ C2 R2 M2, f_X7_serveHoses C R = some (C2, R2) ∧ (∀ R', f_X8_tick_95 1000000 M R' 0 = f_X8_tick_126 1000000 M2 R' 0) ∧ Rel C2 M2 R2 nb nc lh r ∧ gA al R2 nb nc ∧ fc C C2 ∧ fm M M2 ∧ C2 0 8 = C 0 8 := by
  obtain ⟨H, h1, h2, hHM⟩ := hR.2.1.H
  obtain ⟨C1, R1, M1, a1, b1, c1, d1, e1, f1, g1, k1, o1⟩ := serve1 hR hA (h := 0) (by omega) hHM ⟨h1, h2⟩
  obtain ⟨C3, R3, M3, a3, b3, c3, d3, e3, f3, g3, k3, o3⟩ := serve1 e1 f1 (h := 1) (by omega) d1 ⟨h1, h2⟩
  have z0 : (0 : Int32) = nI 0 := rfl
  refine ⟨C3, R3, M3, ?_, fun R' => ?_, e3, f3, g1.tr g3, k1.tr k3, o3.trans o1⟩
  · unfold f_X7_serveHoses
    rw [z0, show (1000000 : Nat) = 999999 + 1 from rfl, a1 999999, show (999999 : Nat) = 999998 + 1 from rfl, a3, show (999998 : Nat) = 999997 + 1 from rfl, f_X7_serveHoses_2.eq_2, if_pos (by decide)]
  · have s1 : f_X8_tick_95 1000000 M R' 0 = f_X8_tick_95 999999 M1 R' (nI 1) := b1 (by omega) R' 999999
    rw [s1]
    by_cases hH : H = 1
    · subst hH
      rw [c3 (by omega), show (999999 : Nat) = 999998 + 1 from rfl, f_X8_tick_95.eq_2, d1, if_pos (nI_le (by omega) (by omega))]
    · have hH : H = 2 := by omega
      subst hH
      have s2 : f_X8_tick_95 999999 M1 R' (nI 1) = f_X8_tick_95 999998 M3 R' (nI 2) := b3 (by omega) R' 999998
      rw [s2, show (999998 : Nat) = 999997 + 1 from rfl, f_X8_tick_95.eq_2, d3, if_pos (nI_le (by omega) (by omega))]
