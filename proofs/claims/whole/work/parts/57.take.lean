/-! ===== one TICK: the line ===== -/
theorem Rel.upd {C M C2 M2 : MI} {R R2 : MR} {nb nc lh lh2 r : Nat} (h : Rel C M R nb nc lh r)
    (aC : ∀ b k, b < 30 → b ≠ 10 → ¬ (b = 0 ∧ (k = 4 ∨ k = 8)) → C2 b k = C b k)
    (aM : ∀ b k, 100 ≤ b → ¬ (104 ≤ b ∧ b ≤ 109) → b ≠ 111 → ¬ (115 ≤ b ∧ b ≤ 124) → ¬ (b = 100 ∧ (k = 0 ∨ k = 25 ∨ k = 26)) → M2 b k = M b k)
    (aR : R2 0 16 = R 0 16 ∧ R2 0 17 = R 0 17)
    (n4 : C2 0 4 = nI lh2) (n4' : lh2 ≤ nc) (n8 : C2 0 8 = M2 100 0 ∧ rg (C2 0 8) 0 9999)
    (nL : gL C2 M2) (nB : gB C2 M2 nb) (nC : gC C2 M2 nc lh2) (nH : gH C2 M2 R2 lh2) : Rel C2 M2 R2 nb nc lh2 r := by
  obtain ⟨hS, hM, hP, hT, hLg, hB, hC, hH, hG, hN, hw⟩ := h
  have hr := hG.r2
  refine ⟨?_, ?_, ?_, ?_, nL, nB, nC, nH, ?_, ?_, ?_⟩
  · unfold gS at hS ⊢
    simp (disch := omega) only [aC, aM]
    exact ⟨hS.1, hS.2.1, hS.2.2.1, hS.2.2.2.1, n4, hS.2.2.2.2.2.1, hS.2.2.2.2.2.2.1, n4'⟩
  · unfold gM at hM ⊢
    have e6 := aC 0 6 (by omega) (by omega) (by omega)
    have e7 := aC 0 7 (by omega) (by omega) (by omega)
    have e9 := aC 0 9 (by omega) (by omega) (by omega)
    have m9 := aM 100 9 (by omega) (by omega) (by omega) (by omega) (by omega)
    have m1 := aM 100 1 (by omega) (by omega) (by omega) (by omega) (by omega)
    have m29 := aM 100 29 (by omega) (by omega) (by omega) (by omega) (by omega)
    rw [e6, e7, e9, m9, m1, m29]
    exact ⟨hM.1, hM.2.1, hM.2.2.1, hM.2.2.2.1, n8.1, n8.2, hM.2.2.2.2.2.2⟩
  · unfold gP at hP ⊢
    simp (disch := omega) only [aC, aM]; exact hP
  · unfold gT at hT ⊢
    simp (disch := omega) only [aC, aM]; exact hT
  · unfold gR rR fR at hG ⊢
    simp (disch := omega) only [aC, aM, aR]; exact hG
  · unfold gN at hN ⊢
    simp (disch := omega) only [aC, aM]; exact hN
  · unfold gW at hw ⊢
    simp (disch := omega) only [aM]; exact hw
theorem gC.upd {C M C2 M2 : MI} {nc lh lh2 j : Nat} (h : gC C M nc lh) (hn : nc ≤ 60) (hj : j < nc)
    (aC : ∀ b k, 40 ≤ b → b < 100 → b ≠ 40 + j → C2 b k = C b k) (aM : ∀ b k, 115 ≤ b → b ≤ 124 → k ≠ j → M2 b k = M b k)
    (nj : cR C2 M2 j) (s1 : ∀ i, i < lh2 → M2 118 i ≠ 0) (s2 : ∀ i, lh2 ≤ i → i < 60 → M2 118 i = 0) : gC C2 M2 nc lh2 := by
  refine ⟨fun i hi => ?_, s1, s2, fun i h1 h2 => ?_⟩
  · by_cases e : i = j
    · rw [e]; exact nj
    · have := h.1 i hi
      unfold cR at this ⊢
      simp (disch := omega) only [aC, aM]; exact this
  · have := h.2.2.2 i h1 h2
    simp (disch := omega) only [aM]; exact this
theorem gB.upd {C M C2 M2 : MI} {nb j : Nat} (h : gB C M nb) (hn : nb ≤ 4) (hj : j < nb)
    (aC : ∀ b k, 30 ≤ b → b < 34 → b ≠ 30 + j → C2 b k = C b k) (aM : ∀ b k, 104 ≤ b → b ≤ 109 → k ≠ j → M2 b k = M b k)
    (nj : bR C2 M2 j) : gB C2 M2 nb := by
  refine ⟨fun i hi => ?_, fun i h1 h2 => ?_⟩
  · by_cases e : i = j
    · rw [e]; exact nj
    · have := h.1 i hi
      unfold bR at this ⊢
      simp (disch := omega) only [aC, aM]; exact this
  · have := h.2 i h1 h2
    simp (disch := omega) only [aM]; exact this
theorem gB.same {C M C2 M2 : MI} {nb : Nat} (h : gB C M nb) (hn : nb ≤ 4)
    (aC : ∀ b k, 30 ≤ b → b < 34 → C2 b k = C b k) (aM : ∀ b k, 104 ≤ b → b ≤ 109 → M2 b k = M b k) : gB C2 M2 nb := by
  refine ⟨fun i hi => ?_, fun i h1 h2 => ?_⟩
  · have := h.1 i hi
    unfold bR at this ⊢
    simp (disch := omega) only [aC, aM]; exact this
  · have := h.2 i h1 h2
    simp (disch := omega) only [aM]; exact this
theorem gC.same {C M C2 M2 : MI} {nc lh : Nat} (h : gC C M nc lh) (hn : nc ≤ 60)
    (aC : ∀ b k, 40 ≤ b → b < 100 → C2 b k = C b k) (aM : ∀ b k, 115 ≤ b → b ≤ 124 → M2 b k = M b k) : gC C2 M2 nc lh := by
  refine ⟨fun i hi => ?_, fun i hi => ?_, fun i h1 h2 => ?_, fun i h1 h2 => ?_⟩
  · have := h.1 i hi
    unfold cR at this ⊢
    simp (disch := omega) only [aC, aM]; exact this
  · have := h.2.1 i hi
    simp (disch := omega) only [aM]; exact this
  · have := h.2.2.1 i h1 h2
    simp (disch := omega) only [aM]; exact this
  · have := h.2.2.2 i h1 h2
    simp (disch := omega) only [aM]; exact this
theorem pq_hit {R : MR} {a k : Nat} {v : Option Nat} {b j : Nat} (h1 : b = a) (h2 : j = k) : pq R a k v b j = v := by
  unfold pq
  rw [if_pos h1, if_pos h2]
theorem pq_off {R : MR} {a k : Nat} {v : Option Nat} {b j : Nat} (h : b ≠ a ∨ j ≠ k) : pq R a k v b j = R b j := by
  unfold pq
  by_cases e : b = a
  · rw [if_pos e, if_neg (by omega)]
  · rw [if_neg e]
theorem gA.hose {al : Nat → Bool} {R : MR} {nb nc h : Nat} {v : Option Nat} (hA : gA al R nb nc) : gA al (pq R 3 h v) nb nc :=
  ⟨hA.1, hA.2.1.pq (by show fxt 3 h = none; rfl), fun i hi => (pq_off (by omega)).trans (hA.2.2.1 i hi), fun j hj => (pq_off (by omega)).trans (hA.2.2.2 j hj)⟩
theorem tk12 {C M : MI} {R : MR} {k4 : MI → MR → Int32 → Int32 → Option MI} {nc lh : Nat} (hn : M 100 13 = nI nc) (hnc : nc ≤ 60) (hl : lh ≤ nc) (hC : gC C M nc lh) (x2 : Int32) : ∀ (d a nn : Nat), a + d = lh → d < nn → f_X8_tick_12 k4 nn M R (nI a) x2 = f_X8_tick_35 k4 M R (nI lh) x2 := by
  intro d
  induction d with
  | zero =>
    intro a nn ha hd
    obtain ⟨nn, rfl⟩ : ∃ m, nn = m + 1 := ⟨nn - 1, by omega⟩
    have ha : a = lh := by omega
    subst ha
    rw [f_X8_tick_12.eq_2, hn]
    by_cases h : nc ≤ a
    · rw [if_pos (nI_le h (by omega))]
    · have hcl : (nI a).toNatClampNeg = a := nI_clamp (by omega)
      rw [if_neg (nI_ge (by omega) (by omega)), gd_pos (show ix (nI a) (ln 118) from ix_nI (show a < 60 by omega) (by decide)), hcl, if_pos (hC.2.2.1 a (by omega) (by omega))]
  | succ d ih =>
    intro a nn ha hd
    obtain ⟨nn, rfl⟩ : ∃ m, nn = m + 1 := ⟨nn - 1, by omega⟩
    have hcl : (nI a).toNatClampNeg = a := nI_clamp (by omega)
    rw [f_X8_tick_12.eq_2, hn, if_neg (nI_ge (by omega) (by omega)), gd_pos (show ix (nI a) (ln 118) from ix_nI (show a < 60 by omega) (by decide)), hcl, if_neg (hC.2.1 a (by omega)), nI_1]
    exact ih (a + 1) nn (by omega) (by omega)
theorem nIm1 {j : Nat} (h : j < 2 ^ 31) : ¬ nI j = -1 := fun e => by
  have := congrArg Int32.toInt e
  rw [nI_toInt h] at this
  have z : (-1 : Int32).toInt = -1 := by decide
  omega
/-- one HOSE takes, or not -/
theorem take1 {C M : MI} {R : MR} {al : Nat → Bool} {nb nc lh r : Nat} (hR : Rel C M R nb nc lh r) (hA : gA al R nb nc) {h H : Nat} (hh : h < H) (hH2 : H ≤ 2) (hHM : M 100 9 = nI H) :
    ∃ C2 R2 M2 lh2, (∀ nn, f_X7_takeFromLine_2 (nn + 1) C R (nI h) = f_X7_takeFromLine_2 nn C2 R2 (nI (h + 1))) ∧ (∀ R' nn a, a ≤ lh → f_X8_tick_4 (nn + 1) M R' (nI a) (nI h) = f_X8_tick_4 nn M2 R' (nI lh) (nI (h + 1))) ∧ lh ≤ lh2 ∧ M2 100 9 = nI H ∧ Rel C2 M2 R2 nb nc lh2 r ∧ gA al R2 nb nc ∧ fc C C2 ∧ fm M M2 ∧ C2 0 8 = C 0 8 := by
  have hR0 := hR
  obtain ⟨hS, hM, hP, hT, hLg, hB, hC, hH, hG, hN, hw⟩ := hR
  have hb := hS.2.2.2.2.2.1
  have hc := hS.2.2.2.2.2.2.1
  have hlh := hS.2.2.2.2.2.2.2
  have hcl : (nI h).toNatClampNeg = h := nI_clamp (by omega)
  have hx3 : ix (nI h) (ln 3) := ix_nI (show h < 2 by omega) (by decide)
  have hx111 : ix (nI h) (ln 111) := ix_nI (show h < 2 by omega) (by decide)
  have n2 : ¬ (2 : Int32) ≤ nI h := nI_ge (a := h) (b := 2) (by omega) (by omega)
  have n6 : ¬ nI H ≤ nI h := nI_ge (by omega) (by omega)
  have r8 : ∀ R' nn a, a ≤ lh → f_X8_tick_4 (nn + 1) M R' (nI a) (nI h) = f_X8_tick_35 (f_X8_tick_4 nn) M R' (nI lh) (nI h) := by
    intro R' nn a ha
    rw [f_X8_tick_4.eq_2, hHM, if_neg n6]
    exact tk12 hS.2.2.2.1 hc hlh hC (nI h) (lh - a) a 1000000 (by omega) (by omega)
  rcases hH.1 h (by omega) with ⟨n1, m1⟩ | ⟨j, hj, n1, m1, -⟩
  · by_cases hl : lh = nc
    · -- no one in line
      refine ⟨C, R, M, lh, fun nn => ?_, fun R' nn a ha => ?_, by omega, hHM, hR0, hA, fc.rf, fm.rf, rfl⟩
      · rw [f_X7_takeFromLine_2.eq_2, if_neg n2, hS.2.2.2.2.1, (ca_no (M := M) (R := R) hS (Or.inr (by rw [hl]; exact nI_le (by omega) (by omega)))).1, bd_def, mt_none, hM.1, hHM, if_neg n6, gd_pos hx3, hcl, n1, mt_none, nI_1]
      · rw [r8 R' nn a ha]
        simp only [f_X8_tick_35, gd_pos hx111, hcl, m1, if_pos, hS.2.2.2.1, hl, nI_1]
    · have hk := ca_yes hS hA (j := lh) (by omega)
      have hcl2 : (nI lh).toNatClampNeg = lh := nI_clamp (by omega)
      have hx : ix (nI lh) 60 := ix_nI (by omega) (by decide)
      have hne : ¬ nI lh = nI nc := fun e => hl ((nI_eq (by omega) (by omega)).mp e)
      have e8 := hM.2.2.2.2.1
      obtain ⟨b0, b1, b2, b3, b4, b6, b7, b8, b9, bs1, bs2, brest⟩ := hC.1 lh (by omega)
      refine ⟨p2 (p2 (p2 (p2 C (40 + lh) 4 1) (40 + lh) 5 0) (40 + lh) 6 (C 0 8)) 0 4 (nI (lh + 1)), pq R 3 h (some (40 + lh)), p2 (p2 (p2 (p2 M 111 h (nI lh)) 118 lh 1) 120 lh 0) 121 lh (M 100 0), lh + 1, fun nn => ?_, fun R' nn a ha => ?_, by omega, by rw [p2_off (by omega), p2_off (by omega), p2_off (by omega), p2_off (by omega)]; exact hHM, ?_, hA.hose, (((fc.rf.p2 (by omega)).p2 (by omega)).p2 (by omega)).p2 (by omega), (((fm.rf.p2 (by omega)).p2 (by omega)).p2 (by omega)).p2 (by omega), by simp (disch := omega) only [p2_off]⟩
      · rw [f_X7_takeFromLine_2.eq_2, if_neg n2, hS.2.2.2.2.1, hk.1, bd_def, mt_def, hM.1, hHM, if_neg n6, gd_pos hx3]
        simp only [hcl, n1, mt_none, lt_def, gd_pos hx3]
        simp (disch := omega) only [p2_off, hS.2.2.2.2.1, nI_1]
      · rw [r8 R' nn a ha]
        simp only [f_X8_tick_35, gd_pos hx111, hcl, hcl2, m1, if_pos, hS.2.2.2.1, if_neg hne, lt_def, gd_pos (show ix (nI lh) (ln 118) from hx), gd_pos (show ix (nI lh) (ln 120) from hx), gd_pos (show ix (nI lh) (ln 121) from hx), nI_1]
        simp (disch := omega) only [p2_off]
      · refine hR0.upd (fun b k h1 h2 h3 => ?_) (fun b k h1 h2 h3 h4 h5 => ?_) ⟨pq_off (by omega), pq_off (by omega)⟩ ?_ (by omega) ?_ ?_ ?_ ?_ ?_
        · simp (disch := omega) only [p2_off]
        · simp (disch := omega) only [p2_off]
        · simp (disch := omega) only [p2_hit]
        · simp (disch := omega) only [p2_off]
          exact ⟨e8, hM.2.2.2.2.2.1⟩
        · unfold gL at hLg ⊢
          simp (disch := omega) only [p2_off]; exact hLg
        · exact hB.same hb (fun b k h1 h2 => by simp (disch := omega) only [p2_off]) (fun b k h1 h2 => by simp (disch := omega) only [p2_off])
        · refine hC.upd hc (j := lh) (by omega) (fun b k h1 h2 h3 => by simp (disch := omega) only [p2_off]) (fun b k h1 h2 h3 => by simp (disch := omega) only [p2_off]) ?_ (fun i hi => ?_) (fun i h1 h2 => ?_)
          · unfold cR
            simp (disch := omega) only [p2_off, p2_hit]
            exact ⟨b0, b1, b2, b3, trivial, e8, b7, b8, b9, fun _ => ⟨trivial, by decide, by decide⟩, fun z => absurd rfl z, ⟨by decide, by decide⟩, brest.2⟩
          · by_cases e : i = lh
            · rw [e]; simp (disch := omega) only [p2_off, p2_hit]; decide
            · simp (disch := omega) only [p2_off]; exact hC.2.1 i (by omega)
          · simp (disch := omega) only [p2_off]; exact hC.2.2.1 i (by omega) h2
        · refine ⟨fun g hg => ?_, fun hz => ?_, fun t ht1 ht2 => ?_⟩
          · by_cases e : g = h
            · subst e
              refine Or.inr ⟨lh, by omega, pq_hit rfl rfl, ?_, ?_⟩
              · simp (disch := omega) only [p2_off, p2_hit]
              · simp (disch := omega) only [p2_off, p2_hit]
            · rcases hH.1 g hg with ⟨a1, a2⟩ | ⟨i, hi, a1, a2, a3⟩
              · refine Or.inl ⟨(pq_off (by omega)).trans a1, ?_⟩
                simp (disch := omega) only [p2_off]; exact a2
              · refine Or.inr ⟨i, by omega, (pq_off (by omega)).trans a1, ?_, ?_⟩
                · simp (disch := omega) only [p2_off]; exact a2
                · simp (disch := omega) only [p2_off]; exact a3
          · rw [p2_off (by omega), p2_off (by omega), p2_off (by omega), p2_off (by omega), hHM] at hz
            have : H = 1 := (nI_eq (b := 1) (by omega) (by omega)).mp hz
            rw [pq_off (by omega)]
            exact hH.2.1 (by rw [hHM, this]; rfl)
          · have hne2 : ∀ g, g < 2 → R 3 g ≠ some (40 + lh) := by
              intro g hg q
              rcases hH.1 g hg with ⟨a1, -⟩ | ⟨i, hi, a1, -⟩
              · rw [a1] at q; cases q
              · rw [a1] at q; have := Option.some.inj q; omega
            by_cases e : h = 0
            · subst e
              rw [pq_hit rfl rfl] at ht1
              rw [pq_off (by omega)] at ht2
              exact hne2 1 (by omega) (by rw [ht2, ← ht1])
            · have e : h = 1 := by omega
              subst e
              rw [pq_off (by omega)] at ht1
              rw [pq_hit rfl rfl] at ht2
              exact hne2 0 (by omega) (by rw [ht1, ← ht2])
  · refine ⟨C, R, M, lh, fun nn => ?_, fun R' nn a ha => ?_, by omega, hHM, hR0, hA, fc.rf, fm.rf, rfl⟩
    · rw [f_X7_takeFromLine_2.eq_2, if_neg n2, hS.2.2.2.2.1]
      by_cases hl : lh = nc
      · rw [(ca_no (M := M) (R := R) hS (Or.inr (by rw [hl]; exact nI_le (by omega) (by omega)))).1, bd_def, mt_none, hM.1, hHM, if_neg n6, gd_pos hx3, hcl, n1, mt_def, nI_1]
      · rw [(ca_yes hS hA (j := lh) (by omega)).1, bd_def, mt_def, hM.1, hHM, if_neg n6, gd_pos hx3]
        simp only [hcl, n1, mt_def, nI_1]
    · rw [r8 R' nn a ha]
      simp only [f_X8_tick_35, gd_pos hx111, hcl, m1, if_neg (nIm1 (show j < 2 ^ 31 by omega)), nI_1]
theorem take0 {C M : MI} {R : MR} {al : Nat → Bool} {nb nc lh r : Nat} (hR : Rel C M R nb nc lh r) (hA : gA al R nb nc) (hHM : M 100 9 = nI 1) (nn : Nat) : f_X7_takeFromLine_2 (nn + 1) C R (nI 1) = f_X7_takeFromLine_2 nn C R (nI 2) := by
  obtain ⟨hS, hM, -⟩ := hR
  have hc := hS.2.2.2.2.2.2.1
  have hlh := hS.2.2.2.2.2.2.2
  have n6 : nI 1 ≤ nI 1 := nI_le (by omega) (by omega)
  have n2 : ¬ (2 : Int32) ≤ nI 1 := by decide
  rw [f_X7_takeFromLine_2.eq_2, if_neg n2, hS.2.2.2.2.1]
  by_cases hl : lh = nc
  · rw [(ca_no (M := M) (R := R) hS (Or.inr (by rw [hl]; exact nI_le (by omega) (by omega)))).1, bd_def, mt_none, hM.1, hHM, if_pos n6, nI_1]
  · rw [(ca_yes hS hA (j := lh) (by omega)).1, bd_def, mt_def, hM.1, hHM, if_pos n6, nI_1]
theorem gM.H {C M : MI} (h : gM C M) : ∃ H, 1 ≤ H ∧ H ≤ 2 ∧ M 100 9 = nI H := by
  rcases h.2.1 with e | e
  · exact ⟨1, by omega, by omega, by rw [← h.1, e]; rfl⟩
  · exact ⟨2, by omega, by omega, by rw [← h.1, e]; rfl⟩
theorem take_all {C M : MI} {R : MR} {al : Nat → Bool} {nb nc lh r : Nat} (hR : Rel C M R nb nc lh r) (hA : gA al R nb nc) :
    ∃ C2 R2 M2 lh2, f_X7_takeFromLine C R = some (C2, R2) ∧ (∀ R', f_X8_tick M R' = f_X8_tick_95 1000000 M2 R' 0) ∧ Rel C2 M2 R2 nb nc lh2 r ∧ gA al R2 nb nc ∧ fc C C2 ∧ fm M M2 ∧ C2 0 8 = C 0 8 := by
  obtain ⟨H, h1, h2, hHM⟩ := hR.2.1.H
  obtain ⟨C1, R1, M1, l1, a1, b1, c1, d1, e1, f1, g1, k1, o1⟩ := take1 hR hA (h := 0) (by omega) h2 hHM
  have z0 : (0 : Int32) = nI 0 := rfl
  by_cases hH : H = 1
  · subst hH
    refine ⟨C1, R1, M1, l1, ?_, fun R' => ?_, e1, f1, g1, k1, o1⟩
    · unfold f_X7_takeFromLine
      rw [z0, show (1000000 : Nat) = 999999 + 1 from rfl, a1 999999, show (999999 : Nat) = 999998 + 1 from rfl, take0 e1 f1 d1, show (999998 : Nat) = 999997 + 1 from rfl, f_X7_takeFromLine_2.eq_2, if_pos (by decide)]
    · unfold f_X8_tick
      rw [z0, show (1000000 : Nat) = 999999 + 1 from rfl, b1 R' 999999 0 (by omega), show (999999 : Nat) = 999998 + 1 from rfl, f_X8_tick_4.eq_2, d1, if_pos (nI_le (by omega) (by omega))]
      rfl
  · have hH : H = 2 := by omega
    subst hH
    obtain ⟨C3, R3, M3, l3, a3, b3, c3, d3, e3, f3, g3, k3, o3⟩ := take1 e1 f1 (h := 1) (by omega) h2 d1
    refine ⟨C3, R3, M3, l3, ?_, fun R' => ?_, e3, f3, g1.tr g3, k1.tr k3, o3.trans o1⟩
    · unfold f_X7_takeFromLine
      rw [z0, show (1000000 : Nat) = 999999 + 1 from rfl, a1 999999, show (999999 : Nat) = 999998 + 1 from rfl, a3, show (999998 : Nat) = 999997 + 1 from rfl, f_X7_takeFromLine_2.eq_2, if_pos (by decide)]
    · unfold f_X8_tick
      rw [z0, show (1000000 : Nat) = 999999 + 1 from rfl, b1 R' 999999 0 (by omega), show (999999 : Nat) = 999998 + 1 from rfl, b3 R' _ lh (by omega), show (999998 : Nat) = 999997 + 1 from rfl, f_X8_tick_4.eq_2, d3, if_pos (nI_le (by omega) (by omega))]
      rfl
