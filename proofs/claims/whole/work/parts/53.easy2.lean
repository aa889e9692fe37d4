/-! ===== flow ===== -/
def flW (A B : Nat → Int32) (x : Int32) : Nat → Nat → Int32 → Int32
  | 0, _, u => u
  | d + 1, k, u => flW A B x d (k + 1) (if x < A k then u else B k)
theorem flW_cong {A B A2 B2 : Nat → Int32} {x : Int32} : ∀ (d k : Nat) (u : Int32), (∀ j, k ≤ j → j < k + d → A j = A2 j ∧ B j = B2 j) → flW A B x d k u = flW A2 B2 x d k u
  | 0, _, _, _ => rfl
  | d + 1, k, u, h => by
    unfold flW
    rw [(h k (by omega) (by omega)).1, (h k (by omega) (by omega)).2]
    exact flW_cong d (k + 1) _ (fun j h1 h2 => h j (by omega) (by omega))
theorem flW_neg {A B : Nat → Int32} {x : Int32} (hx : x < 0) : ∀ (d k : Nat) (u : Int32), (∀ j, k ≤ j → j < k + d → 0 ≤ (A j).toInt) → flW A B x d k u = u
  | 0, _, _, _ => rfl
  | d + 1, k, u, h => by
    unfold flW
    have h1 : x < A k := by
      rw [tI_lt] at hx ⊢
      have := h k (by omega) (by omega)
      have hx : x.toInt < 0 := hx
      omega
    rw [if_pos h1]
    exact flW_neg hx d (k + 1) u (fun j h1 h2 => h j (by omega) (by omega))
theorem flW_rg {A B : Nat → Int32} {x : Int32} : ∀ (d k : Nat) (u : Int32), rg u 0 500 → (∀ j, k ≤ j → j < k + d → rg (B j) 0 500) → rg (flW A B x d k u) 0 500
  | 0, _, _, hu, _ => hu
  | d + 1, k, u, hu, h => by
    unfold flW
    refine flW_rg d (k + 1) _ ?_ (fun j h1 h2 => h j (by omega) (by omega))
    split
    · exact hu
    · exact h k (by omega) (by omega)
theorem f8_fl {M : MI} {R : MR} {x : Int32} {F : Nat} (hF : M 100 36 = nI F) (h8 : F ≤ 8) : ∀ (d k : Nat) (u : Int32) (nn : Nat), k + d = F → d < nn → f_X8_flowAt_4 nn M R x u (nI k) = some (flW (M 138) (M 139) x d k u) := by
  intro d
  induction d with
  | zero =>
    intro k u nn hk hn
    obtain ⟨nn, rfl⟩ : ∃ m, nn = m + 1 := ⟨nn - 1, by omega⟩
    rw [f_X8_flowAt_4.eq_2, hF, if_pos (nI_le (by omega) (by omega))]
    rfl
  | succ d ih =>
    intro k u nn hk hn
    obtain ⟨nn, rfl⟩ : ∃ m, nn = m + 1 := ⟨nn - 1, by omega⟩
    have hcl : (nI k).toNatClampNeg = k := nI_clamp (by omega)
    rw [f_X8_flowAt_4.eq_2, hF, if_neg (nI_ge (by omega) (by omega)), gd_pos (show ix (nI k) (ln 138) from ix_nI (show k < 8 by omega) (by decide)), gd_pos (show ix (nI k) (ln 139) from ix_nI (show k < 8 by omega) (by decide)), hcl, nI_1]
    unfold flW
    by_cases h : x < M 138 k
    · rw [if_pos h, if_pos h]
      exact ih (k + 1) u nn (by omega) (by omega)
    · rw [if_neg h, if_neg h]
      exact ih (k + 1) _ nn (by omega) (by omega)
theorem f5_fl {C : MI} {R : MR} {x : Int32} {r f : Nat} (hf : C r 7 = nI f) (h8 : f ≤ 8) (hk5 : kd r = 5) : ∀ (d k : Nat) (u : Int32) (nn : Nat), k + d = f → d < nn → f_X5_flowAt_22 nn C R r x u (nI k) = some (flW (C (r + 1)) (C (r + 2)) x d k u) := by
  intro d
  induction d with
  | zero =>
    intro k u nn hk hn
    obtain ⟨nn, rfl⟩ : ∃ m, nn = m + 1 := ⟨nn - 1, by omega⟩
    rw [f_X5_flowAt_22.eq_2, hf, if_pos (nI_le (by omega) (by omega))]
    rfl
  | succ d ih =>
    intro k u nn hk hn
    obtain ⟨nn, rfl⟩ : ∃ m, nn = m + 1 := ⟨nn - 1, by omega⟩
    have hcl : (nI k).toNatClampNeg = k := nI_clamp (by omega)
    rw [f_X5_flowAt_22.eq_2, hf, if_neg (nI_ge (by omega) (by omega)), if_neg (show ¬ (8 : Int32) ≤ nI k from nI_ge (a := k) (b := 8) (by omega) (by omega)), (ln5 hk5).1, (ln5 hk5).2, gd_pos (ix_nI (show k < 8 by omega) (by decide)), gd_pos (ix_nI (show k < 8 by omega) (by decide)), hcl, nI_1]
    unfold flW
    by_cases h : x < C (r + 1) k
    · rw [if_pos h, if_pos h]
      exact ih (k + 1) u nn (by omega) (by omega)
    · rw [if_neg h, if_neg h]
      exact ih (k + 1) _ nn (by omega) (by omega)
theorem kd_r {r : Nat} (h : r = 23 ∨ r = 26) : kd r = 5 := by rcases h with e | e <;> subst e <;> rfl
theorem fl_eq {C M : MI} {R : MR} {r : Nat} (hG : rR C M r) (hr : r = 23 ∨ r = 26) (x : Int32) : ∃ v, f_X5_flowAt C R r x = some v ∧ f_X8_flowAt M R x = some v ∧ rg v 0 500 := by
  obtain ⟨f, h8, hf, hc⟩ := hG.2.2.2.2.2.2.2.2.2.2
  have hk5 := kd_r hr
  have r0 : rg 0 0 500 := ⟨by decide, by decide⟩
  have r20 : rg 20 0 500 := ⟨by decide, by decide⟩
  rcases hc with ⟨h0, hF, hA, hB⟩ | ⟨h0, hF, hAB⟩
  · subst h0
    by_cases hx : x < 0
    · refine ⟨0, by simp only [f_X5_flowAt, if_neg (Int32.not_le.mpr hx)], ?_, r0⟩
      unfold f_X8_flowAt
      rw [← nI_0, f8_fl hF (by omega) 1 0 (nI 0) 1000000 rfl (by omega)]
      unfold flW flW
      rw [hA, if_pos hx]
    · refine ⟨20, ?_, ?_, r20⟩
      · unfold f_X5_flowAt
        rw [if_pos (Int32.not_lt.mp hx), if_pos (by rw [hf]; rfl)]
        exact f5_fl hf h8 hk5 0 0 20 1000000 rfl (by omega)
      · unfold f_X8_flowAt
        rw [← nI_0, f8_fl hF (by omega) 1 0 (nI 0) 1000000 rfl (by omega)]
        unfold flW flW
        rw [hA, if_neg hx, hB]
  · have e8 : f_X8_flowAt M R x = some (flW (M 138) (M 139) x f 0 0) := f8_fl hF h8 f 0 0 1000000 (by omega) (by omega)
    by_cases hx : x < 0
    · have e : flW (M 138) (M 139) x f 0 0 = 0 := flW_neg hx f 0 0 (fun j _ h2 => (hAB j (by omega)).2.2.1.1)
      exact ⟨0, by simp only [f_X5_flowAt, if_neg (Int32.not_le.mpr hx)], by rw [e8, e], r0⟩
    · refine ⟨_, ?_, e8, flW_rg f 0 0 r0 (fun j _ h2 => (hAB j (by omega)).2.2.2)⟩
      unfold f_X5_flowAt
      rw [if_pos (Int32.not_lt.mp hx), if_neg (by rw [hf]; exact nI_ne0 h0 (by omega))]
      have e5 : f_X5_flowAt_22 1000000 C R r x 0 0 = some (flW (C (r + 1)) (C (r + 2)) x f 0 0) := f5_fl hf h8 hk5 f 0 0 1000000 (by omega) (by omega)
      rw [e5, flW_cong f 0 0 (fun j _ h2 => ⟨(hAB j (by omega)).1, (hAB j (by omega)).2.1⟩)]
theorem K_flow : LK_flow LI := by
  intro q al I R n y0 h
  refine LK_ofP (f7 := fun C R => f_X7_flow C R y0) (f8 := fun M R => f_X8_flow M R y0) ?_ q al I R n h
  intro C M R al nb nc lh r hR hA
  obtain ⟨hS, hM, hP, hT, hLg, hB, hC, hH, hG, hN, hw⟩ := hR
  have hb := hS.2.2.2.2.2.1
  have hc := hS.2.2.2.2.2.2.1
  have hlh := hS.2.2.2.2.2.2.2
  rcases wi_cases y0 (-400) 400 with ⟨e, hn⟩ | ⟨e, h1, h2⟩
  · exact ⟨-1, by simp only [f_X7_flow, f7_in, bd_def, e, if_pos], by simp only [f_X8_flow, f8_in, bd_def, e, if_pos]⟩
  · obtain ⟨v, e5, e8, -⟩ := fl_eq (R := R) hG.2.2 hG.r2 y0
    exact ⟨v, by simp only [f_X7_flow, f7_in, bd_def, e, if_neg i10, hG.1, e5], by simp only [f_X8_flow, f8_in, bd_def, e, if_neg i10, e8]⟩
theorem K_bestOf : LK_bestOf LI := by
  intro q al I R n y0 y1 h
  refine LK_ofP (f7 := fun C R => f_X7_bestOf C R y0 y1) (f8 := fun M R => f_X8_bestOf M R y0 y1) ?_ q al I R n h
  intro C M R al nb nc lh r hR hA
  obtain ⟨hS, hM, hP, hT, hLg, hB, hC, hH, hG, hN, hw⟩ := hR
  have hb := hS.2.2.2.2.2.1
  have hc := hS.2.2.2.2.2.2.1
  have hlh := hS.2.2.2.2.2.2.2
  rcases hN with ⟨h1, h2⟩ | ⟨h1, t, ht1, ht6, h2, h3, h4⟩
  · refine ⟨-1, ?_, by simp only [f_X8_bestOf, h1, if_pos]⟩
    by_cases h0 : y0 < 0
    · simp only [f_X7_bestOf, f_X4_answer, bd_def, if_pos h0]
    · simp only [f_X7_bestOf, f_X4_answer, bd_def, if_neg h0, h2, if_pos (Int32.not_lt.mp h0)]
  have hsub : (nI t - 1).toInt = (t : Int) - 1 := pk_sub_toInt (a := t) (b := 1) (by omega) (by omega)
  by_cases h0 : y0 < 0
  · have e : wi y0 0 (nI t - 1) = 0 := if_pos h0
    exact ⟨-1, by simp only [f_X7_bestOf, f_X4_answer, bd_def, if_pos h0], by simp only [f_X8_bestOf, h1, if_neg i10, f8_in, h3, bd_def, e, if_pos]⟩
  by_cases hy : nI t ≤ y0
  · have e : wi y0 0 (nI t - 1) = 0 := by
      unfold wi
      rw [if_neg h0, if_pos]
      rw [tI_lt]
      rw [tI_le, nI_toInt (by omega)] at hy
      omega
    exact ⟨-1, by simp only [f_X7_bestOf, f_X4_answer, bd_def, if_neg h0, h2, if_pos hy], by simp only [f_X8_bestOf, h1, if_neg i10, f8_in, h3, bd_def, e, if_pos]⟩
  obtain ⟨j, hj, rfl⟩ : ∃ j, j < t ∧ y0 = nI j := by
    rw [tI_lt] at h0
    rw [tI_le, nI_toInt (by omega)] at hy
    have h0 : ¬ y0.toInt < 0 := h0
    exact nI_rg (by omega) (by omega) (by omega)
  have e : wi (nI j) 0 (nI t - 1) = 1 := by
    unfold wi
    rw [if_neg h0, if_neg]
    rw [tI_lt, nI_toInt (by omega)]
    omega
  have h6 : nI j < 6 := nI_lt (a := j) (b := 6) (by omega) (by omega)
  have hcl : (nI j).toNatClampNeg = j := nI_clamp (by omega)
  have hx : ix (nI j) 6 := ix_nI (by omega) (by decide)
  simp only [f_X7_bestOf, f_X4_answer, f_X8_bestOf, h1, h2, h3, f8_in, e, bd_def, if_neg i10, if_neg h0, if_neg hy, if_pos h6, gd_pos (show ix (nI j) (ln 20) from hx), gd_pos (show ix (nI j) (ln 21) from hx), gd_pos (show ix (nI j) (ln 150) from hx), gd_pos (show ix (nI j) (ln 151) from hx), hcl, (h4 j hj).1, (h4 j hj).2]
  by_cases e0 : y1 = 0
  · simp only [if_pos e0, bd_def]
    exact ⟨_, rfl, rfl⟩
  · simp only [if_neg e0]
    by_cases e1 : y1 = 1
    · simp only [if_pos e1, bd_def]
      exact ⟨_, rfl, rfl⟩
    · simp only [if_neg e1, bd_def]
      exact ⟨_, rfl, rfl⟩
theorem f8_cnt {C M : MI} {R : MR} {nc lh : Nat} (hn : M 100 13 = nI nc) (hnc : nc ≤ 60) (hl : lh ≤ nc) (hC : gC C M nc lh) : ∀ (d k m nn : Nat), k + d = nc → d < nn → m = k - lh → f_X8_count_73 nn M R (nI m) (nI k) = some (nI (nc - lh)) := by
  intro d
  induction d with
  | zero =>
    intro k m nn hk hd hm
    obtain ⟨nn, rfl⟩ : ∃ m, nn = m + 1 := ⟨nn - 1, by omega⟩
    rw [f_X8_count_73.eq_2, hn, if_pos (nI_le (by omega) (by omega))]
    have : m = nc - lh := by omega
    rw [this]
  | succ d ih =>
    intro k m nn hk hd hm
    obtain ⟨nn, rfl⟩ : ∃ m, nn = m + 1 := ⟨nn - 1, by omega⟩
    have hcl : (nI k).toNatClampNeg = k := nI_clamp (by omega)
    rw [f_X8_count_73.eq_2, hn, if_neg (nI_ge (by omega) (by omega)), gd_pos (show ix (nI k) (ln 118) from ix_nI (show k < 60 by omega) (by decide)), hcl, nI_1, nI_1]
    by_cases h : k < lh
    · rw [if_neg (hC.2.1 k h)]
      have e : nI m + 0 = nI m := Int32.add_zero _
      rw [e]
      exact ih (k + 1) m nn (by omega) (by omega) (by omega)
    · rw [if_pos (hC.2.2.1 k (by omega) (by omega))]
      exact ih (k + 1) (m + 1) nn (by omega) (by omega) (by omega)
theorem K_count : LK_count LI := by
  intro q al I R n y0 h
  refine LK_ofP (f7 := fun C R => f_X7_count C R y0) (f8 := fun M R => f_X8_count M R y0) ?_ q al I R n h
  intro C M R al nb nc lh r hR hA
  obtain ⟨hS, hM, hP, hT, hLg, hB, hC, hH, hG, hN, hw⟩ := hR
  have hb := hS.2.2.2.2.2.1
  have hc := hS.2.2.2.2.2.2.1
  have hlh := hS.2.2.2.2.2.2.2
  obtain ⟨g1, g2, g3, g4, g5, -, hr11⟩ := hG.2.2
  simp only [f_X7_count, f_X8_count, f_X3_allGas, bd_def, hG.1, hM.2.2.2.2.1, hS.1, hS.2.1, hS.2.2.1, hS.2.2.2.1, hS.2.2.2.2.1, hLg.1, hLg.2.1, hLg.2.2.1, hLg.2.2.2.1, hLg.2.2.2.2, hT.1, g1, g2, g3, g4, g5]
  by_cases e0 : y0 = 0
  · simp only [if_pos e0]; exact ⟨_, rfl, rfl⟩
  by_cases e1 : y0 = 1
  · simp only [if_neg e0, if_pos e1]; exact ⟨_, rfl, rfl⟩
  by_cases e2 : y0 = 2
  · simp only [if_neg e0, if_neg e1, if_pos e2]; exact ⟨_, rfl, rfl⟩
  by_cases e3 : y0 = 3
  · simp only [if_neg e0, if_neg e1, if_neg e2, if_pos e3]
    have h1 := f8_cnt (R := R) hS.2.2.2.1 hc hS.2.2.2.2.2.2.2 hC nc 0 0 1000000 (by omega) (by omega) (by omega)
    refine ⟨_, rfl, ?_⟩
    rw [pk_sub hS.2.2.2.2.2.2.2]
    exact h1
  by_cases e4 : y0 = 4
  · simp only [if_neg e0, if_neg e1, if_neg e2, if_neg e3, if_pos e4]; exact ⟨_, rfl, rfl⟩
  by_cases e5 : y0 = 5
  · simp only [if_neg e0, if_neg e1, if_neg e2, if_neg e3, if_neg e4, if_pos e5]; exact ⟨_, rfl, rfl⟩
  by_cases e6 : y0 = 6
  · simp only [if_neg e0, if_neg e1, if_neg e2, if_neg e3, if_neg e4, if_neg e5, if_pos e6]; exact ⟨_, rfl, rfl⟩
  by_cases e7 : y0 = 7
  · simp only [if_neg e0, if_neg e1, if_neg e2, if_neg e3, if_neg e4, if_neg e5, if_neg e6, if_pos e7]; exact ⟨_, rfl, rfl⟩
  by_cases e8 : y0 = 8
  · simp only [if_neg e0, if_neg e1, if_neg e2, if_neg e3, if_neg e4, if_neg e5, if_neg e6, if_neg e7, if_pos e8]; exact ⟨_, rfl, rfl⟩
  by_cases e9 : y0 = 9
  · simp only [if_neg e0, if_neg e1, if_neg e2, if_neg e3, if_neg e4, if_neg e5, if_neg e6, if_neg e7, if_neg e8, if_pos e9]; exact ⟨_, rfl, rfl⟩
  simp only [if_neg e0, if_neg e1, if_neg e2, if_neg e3, if_neg e4, if_neg e5, if_neg e6, if_neg e7, if_neg e8, if_neg e9, f8_in, bd_def]
  by_cases e10 : y0 = 10
  · subst e10; exact ⟨_, rfl, rfl⟩
  by_cases e11 : y0 = 11
  · subst e11; exact ⟨_, rfl, rfl⟩
  by_cases e12 : y0 = 12
  · subst e12; exact ⟨_, rfl, rfl⟩
  by_cases e13 : y0 = 13
  · subst e13; exact ⟨_, rfl, rfl⟩
  by_cases e14 : y0 = 14
  · subst e14; exact ⟨_, rfl, rfl⟩
  simp only [if_neg e10, if_neg e11, if_neg e12, if_neg e13, if_neg e14]
  rcases wi_cases y0 10 14 with ⟨e, hn⟩ | ⟨e, h1, h2⟩
  · exact ⟨-1, rfl, by simp only [e, if_pos]⟩
  · have h1 : (10 : Int) ≤ y0.toInt := h1
    have h2 : y0.toInt ≤ (14 : Int) := h2
    have n10 := lv_neT (a := 10) e10 (by decide)
    have n11 := lv_neT (a := 11) e11 (by decide)
    have n12 := lv_neT (a := 12) e12 (by decide)
    have n13 := lv_neT (a := 13) e13 (by decide)
    have n14 := lv_neT (a := 14) e14 (by decide)
    omega
theorem K_hoses : LK_hoses LI := by
  intro q al I R n y0 h
  refine LK_of (f7 := fun C R => f_X7_hoses C R y0) (f8 := fun M R => f_X8_hoses M R y0) ?_ q al I R n h
  intro C M R al nb nc lh r hR hA
  obtain ⟨hS, hM, hP, hT, hLg, hB, hC, hH, hG, hN, hw⟩ := hR
  have hb := hS.2.2.2.2.2.1
  have hc := hS.2.2.2.2.2.2.1
  have hlh := hS.2.2.2.2.2.2.2
  rcases wi_cases y0 1 2 with ⟨e, hn⟩ | ⟨e, h1, h2⟩
  · exact ⟨-1, C, M, nb, nc, lh, by simp only [f_X7_hoses, f7_in, bd_def, e, if_pos], by simp only [f_X8_hoses, f8_in, bd_def, e, if_pos], ⟨hS, hM, hP, hT, hLg, hB, hC, hH, hG, hN, hw⟩, hA, fc.rf, fm.rf⟩
  have h1 : (1 : Int) ≤ y0.toInt := h1
  have h2 : y0.toInt ≤ (2 : Int) := h2
  have hy : y0 = 1 ∨ y0 = 2 := by
    by_cases q : y0.toInt = 1
    · exact Or.inl (tI_eq.mpr q)
    · exact Or.inr (tI_eq.mpr (show y0.toInt = 2 by omega))
  have two : ∀ nn x, f_X7_hoses_13 (nn + 1) C R x 2 = some (C 0 6, p2 C 0 6 x) := fun nn x => by
    rw [f_X7_hoses_13.eq_2, if_pos (by decide)]; rfl
  have set_ : ∀ x : Int32, (x = 1 ∨ x = 2) → (x = 1 → R 3 1 = none) → Rel (p2 C 0 6 x) (p2 M 100 9 x) R nb nc lh r := by
    intro x hx hx1
    refine ⟨((hS).pC (by omega)).pM (by omega), ?_, ((hP).pC (by omega)).pM (by omega), ((hT).pC (by omega)).pM (by omega), ((hLg).pC (by omega)).pM (by omega), ((hB).pC hb (by omega)).pM (by omega), ((hC).pC hc (by omega)).pM (by omega), ?_, ((hG).pC (by omega)).pM (by omega), ((hN).pC (by omega)).pM (by omega), (hw).pM (by omega)⟩
    · unfold gM at hM ⊢
      simp (disch := omega) only [p2_off, p2_hit]
      exact ⟨trivial, hx, hM.2.2⟩
    · refine ⟨fun h hh => ?_, fun hz => ?_, hH.2.2⟩
      · have := hH.1 h hh
        simp (disch := omega) only [p2_off]
        exact this
      · rw [p2_hit rfl rfl] at hz
        exact hx1 hz
  rcases hy with rfl | rfl
  · have e1 : (1 : Int32).toNatClampNeg = 1 := by decide
    have one : f_X7_hoses_13 1000000 C R 1 1 = mt (R 3 1) (f_X7_hoses_13 999999 C R 1 2) (fun _ => some (-1, C)) := by
      rw [show (1000000 : Nat) = 999999 + 1 from rfl, f_X7_hoses_13.eq_2, if_neg (by decide), gd_pos (show ix 1 (ln 3) from ⟨by decide, by decide⟩), e1]
      rfl
    rcases hH.1 1 (by omega) with ⟨n1, m1⟩ | ⟨j, hj, n1, m1, -⟩
    · rw [n1, mt_none, show (999999 : Nat) = 999998 + 1 from rfl, two] at one
      exact ⟨C 0 6, p2 C 0 6 1, p2 M 100 9 1, nb, nc, lh, by simp only [f_X7_hoses, f7_in, bd_def, e, if_neg i10, one], by simp only [f_X8_hoses, f_X8_hoses_26, f8_in, bd_def, lt_def, e, if_neg i10, if_pos, gd_pos (show ix 1 (ln 111) from ⟨by decide, by decide⟩), e1, m1, hM.1], set_ 1 (Or.inl rfl) (fun _ => n1), hA, fc.rf.p2 (by omega), fm.rf.p2 (by omega)⟩
    · rw [n1, mt_def] at one
      have m2 : ¬ M 111 1 = -1 := by
        rw [m1]
        intro q
        rw [tI_eq, nI_toInt (by omega)] at q
        exact absurd q (by have : (-1 : Int32).toInt = -1 := by decide
                           omega)
      exact ⟨-1, C, M, nb, nc, lh, by simp only [f_X7_hoses, f7_in, bd_def, e, if_neg i10, one], by simp only [f_X8_hoses, f_X8_hoses_26, f8_in, bd_def, lt_def, e, if_neg i10, if_pos, gd_pos (show ix 1 (ln 111) from ⟨by decide, by decide⟩), e1, if_neg m2], ⟨hS, hM, hP, hT, hLg, hB, hC, hH, hG, hN, hw⟩, hA, fc.rf, fm.rf⟩
  · have one : f_X7_hoses_13 1000000 C R 2 2 = some (C 0 6, p2 C 0 6 2) := two 999999 2
    exact ⟨C 0 6, p2 C 0 6 2, p2 M 100 9 2, nb, nc, lh, by simp only [f_X7_hoses, f7_in, bd_def, e, if_neg i10, one], by simp only [f_X8_hoses, f_X8_hoses_26, f8_in, bd_def, lt_def, e, if_neg i10, if_neg (show ¬ (2 : Int32) = 1 by decide), hM.1], set_ 2 (Or.inr rfl) (fun q => absurd q (by decide)), hA, fc.rf.p2 (by omega), fm.rf.p2 (by omega)⟩
