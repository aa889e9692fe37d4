/-! ===== best, as a whole ===== -/
theorem Rel.bst {C M C2 M2 : MI} {R : MR} {nb nc lh r : Nat} (h : Rel C M R nb nc lh r) (aC : ∀ b k, b < 11 ∨ 22 < b → C2 b k = C b k) (aM : RA M M2) (nN : gN C2 M2) : Rel C2 M2 R nb nc lh r := by
  obtain ⟨hS, hM, hP, hT, hLg, hB, hC, hH, hG, hN, hw⟩ := h
  have hb := hS.2.2.2.2.2.1
  have hc := hS.2.2.2.2.2.2.1
  have hr := hG.r2
  have aM' : ∀ b k, ¬ (150 ≤ b ∧ b ≤ 156) → ¬ (b = 100 ∧ (k = 46 ∨ k = 47 ∨ k = 48)) → M2 b k = M b k := aM
  refine ⟨?_, ?_, ?_, ?_, ?_, ?_, ?_, ?_, ?_, nN, ?_⟩
  · unfold gS at hS ⊢
    simp (disch := omega) only [aC, aM']; exact hS
  · unfold gM at hM ⊢
    simp (disch := omega) only [aC, aM']; exact hM
  · unfold gP at hP ⊢
    simp (disch := omega) only [aC, aM']; exact hP
  · unfold gT at hT ⊢
    simp (disch := omega) only [aC, aM']; exact hT
  · unfold gL at hLg ⊢
    simp (disch := omega) only [aC, aM']; exact hLg
  · exact hB.same hb (fun b k h1 h2 => aC b k (by omega)) (fun b k h1 h2 => aM b k (by omega) (by omega))
  · exact hC.same hc (fun b k h1 h2 => aC b k (by omega)) (fun b k h1 h2 => aM b k (by omega) (by omega))
  · unfold gH at hH ⊢
    simp (disch := omega) only [aM']; exact hH
  · unfold gR rR fR at hG ⊢
    simp (disch := omega) only [aC, aM']; exact hG
  · unfold gW at hw ⊢
    simp (disch := omega) only [aM']; exact hw
theorem Rel.hy {C M : MI} {R : MR} {nb nc lh r W X : Nat} (h : Rel C M R nb nc lh r) (w1 : 1 ≤ W) (w2 : W ≤ 20) (x2 : X ≤ 300) : Hy C M r W X nb := by
  obtain ⟨hS, hM, hP, hT, hLg, hB, hC, hH, hG, hN, hw⟩ := h
  refine ⟨hG.r2, hG.2.2, hM.2.2.1 ▸ hM.2.2.2.1, w1, w2, x2, hS.2.2.2.2.2.1, fun k hk => ?_⟩
  obtain ⟨V, B, T, eV, eB, eT, v1, v2, hB4, hT4⟩ := (hB.1 k hk).N
  have e1 : vV M k = V := by unfold vV; rw [eV, nI_clamp (by omega)]
  have e2 : vB M k = B := by unfold vB; rw [eB, nI_clamp (by omega)]
  rw [e1, e2]
  exact ⟨eV, eB, v1, v2, by omega⟩
def K0 : KS := (-1, (fun _ => 0), (fun _ => 0), fun _ => 0)
/-- the class -/
theorem best7 {C M : MI} {R : MR} {al : Nat → Bool} {nb nc lh r W X c0 t fs : Nat} (hR : Rel C M R nb nc lh r) (hA : gA al R nb nc) (w1 : 1 ≤ W) (w2 : W ≤ 20) (x2 : X ≤ 300) (hc : c0 ≤ W * X) (t6 : t ≤ 6) (h13 : R13 R) :
    ∃ C4, bd (f_X2_comeWith C R 12 (nI W) (nI c0) (nI X) (10 * C 0 7)) (fun z_43 => bd (f_X4_copyBanks z_43 R 1 (z_43 0 1)) (fun z_58 => bd (R 0 16) (fun z_66 => bd (f_X7_airTenths z_58 R) (fun z_70 => bd (f_X4_plan z_58 R z_66 z_70 (nI t)) (fun z_75 => some (z_75.1, z_75.2)))))) = some ((dfs M W X c0 nb t t (fun _ => fs) K0).1, C4) ∧
      KC C4 nb t (dfs M W X c0 nb t t (fun _ => fs) K0) ∧ C4 11 11 = nI t ∧ ∀ b k, b < 11 ∨ 22 < b → C4 b k = C b k := by
  have hy := hR.hy w1 w2 x2
  obtain ⟨hS, hM, hP, hT, hLg, hB, hC, hH, hG, hN, hw⟩ := hR
  have hb := hS.2.2.2.2.2.1
  have hr := hG.r2
  obtain ⟨C1, hC1⟩ : ∃ C1, C1 = p2 (p2 (p2 (p2 (p2 (p2 C 12 0 (nI W)) 12 1 (nI c0)) 12 2 (nI X)) 12 3 (10 * C 0 7)) 12 8 0) 11 2 0 := ⟨_, rfl⟩
  have o1 : ∀ b k, b < 11 ∨ 22 < b → C1 b k = C b k := fun b k h => by rw [hC1]; simp (disch := omega) only [p2_off]
  obtain ⟨C2, a1, a2, a3, -, a5⟩ := copy_ok (M := M) hA h13 hb nb 0 1000000 C1 (by omega) (by omega) (by rw [hC1, p2_hit rfl rfl]; rfl) (fun i hi => by
    rw [o1 _ _ (by omega), (hB.1 i hi).2.2.2.2.2.1]; exact (hB.1 i hi).2.2.2.2.2.2.2.2.2.2)
  have o2 : ∀ b k, b < 11 ∨ 22 < b → C2 b k = C b k := fun b k h => by rw [a5 b k (by omega) (by omega)]; exact o1 b k h
  have g12 : rR (p2 (p2 C2 11 3 (10 * C 0 7)) 11 4 (nI t)) M r := by
    have hg := hG.2.2
    have o3 : ∀ b k, b < 11 ∨ 22 < b → p2 (p2 C2 11 3 (10 * C 0 7)) 11 4 (nI t) b k = C b k := fun b k h => by
      rw [p2_off (by omega), p2_off (by omega)]; exact o2 b k h
    unfold rR fR at hg ⊢
    simp (disch := omega) only [o3]; exact hg
  obtain ⟨F, hF5, eF, hF⟩ := most_ok (R := R) g12 hr
  obtain ⟨C3, hC3⟩ : ∃ C3, C3 = p2 (p2 (p2 (p2 (p2 C2 11 3 (10 * C 0 7)) 11 4 (nI t)) 11 5 (nI F)) 11 11 (nI t)) 11 12 (-1) := ⟨_, rfl⟩
  have o3 : ∀ b k, b ≠ 11 → C3 b k = C2 b k := fun b k h => by rw [hC3]; simp (disch := omega) only [p2_off]
  have hSC : SC C3 M r W X c0 nb t F (fun _ => fs) 0 := by
    refine ⟨⟨?_, ?_, ?_, ?_, ?_⟩, ⟨?_, ?_, ?_, ?_⟩, fun k hk => ?_, fun i hi => by omega⟩
    · have hg := hG.2.2
      have o4 : ∀ b k, b < 11 ∨ 22 < b → C3 b k = C b k := fun b k h => by rw [o3 b k (by omega)]; exact o2 b k h
      unfold rR fR at hg ⊢
      simp (disch := omega) only [o4]; exact hg
    · rw [hC3]; simp (disch := omega) only [p2_off]; exact a2
    · rw [hC3]; simp (disch := omega) only [p2_off, p2_hit]; rw [hM.2.2.1]
    · rw [hC3]; simp (disch := omega) only [p2_off, p2_hit]
    · rw [hC3]; simp (disch := omega) only [p2_off, p2_hit]
    · rw [o3 _ _ (by omega), a5 _ _ (by omega) (by omega), hC1]; simp (disch := omega) only [p2_off, p2_hit]
    · rw [o3 _ _ (by omega), a5 _ _ (by omega) (by omega), hC1]; simp (disch := omega) only [p2_off, p2_hit]; rfl
    · rw [o3 _ _ (by omega), a5 _ _ (by omega) (by omega), hC1]; simp (disch := omega) only [p2_off, p2_hit]
    · rw [o3 _ _ (by omega), a5 _ _ (by omega) (by omega), hC1]; simp (disch := omega) only [p2_off, p2_hit]; rw [hM.2.2.1]; rfl
    · obtain ⟨q0, q1, q5, q3⟩ := a3 k (by omega) hk
      obtain ⟨eV, eB, -⟩ := hy.2.2.2.2.2.2.2 k hk
      rw [o3 _ _ (by omega), o3 _ _ (by omega), o3 _ _ (by omega), o3 _ _ (by omega), q0, q1, q3, q5, o1 _ _ (by omega), o1 _ _ (by omega), o1 _ _ (by omega), (hB.1 k hk).1, (hB.1 k hk).2.1, (hB.1 k hk).2.2.2.2.2.1]
      exact ⟨eV, eB, rfl, rfl⟩
  have hKC : KC C3 nb t K0 := ⟨by rw [hC3, p2_hit rfl rfl]; rfl, Or.inl rfl⟩
  have hs := srch_ok (R := R) (c0 := c0) h13 hy hc t6 hF hF5 t 10 (fun _ => fs) C3 K0 (by omega) (by omega) (fun j hj => by omega)
  rw [Nat.sub_self] at hs
  obtain ⟨C4, b1, b2, b3, b4⟩ := hs hSC hKC
  refine ⟨C4, ?_, b3, ?_, fun b k h => ?_⟩
  · unfold f_X2_comeWith
    simp only [lt_def]
    rw [bd_def]
    unfold f_X4_copyBanks
    rw [lt_def, ← hC1]
    have c01 : p2 (p2 (p2 (p2 (p2 C 12 0 (nI W)) 12 1 (nI c0)) 12 2 (nI X)) 12 3 (10 * C 0 7)) 12 8 0 0 1 = nI nb := by
      simp (disch := omega) only [p2_off]; exact hS.1
    rw [c01, show f_X4_copyBanks_7 1000000 C1 R 1 (nI nb) 0 = some C2 from a1, bd_def, hG.1, bd_def]
    unfold f_X7_airTenths
    rw [bd_def, o2 _ _ (by omega)]
    have e8 : (if (6 : Int32) < nI t then 6 else nI t) = nI t := if_neg (nI_nlt (a := 6) (by omega) (by omega))
    have pl : f_X4_plan C2 R r (10 * C 0 7) (nI t) = some (C4 11 12, C4) := by
      unfold f_X4_plan
      simp only [lt_def]
      rw [e8, eF, bd_def]
      have c11 : p2 (p2 (p2 C2 11 3 (10 * C 0 7)) 11 4 (nI t)) 11 5 (nI F) 11 4 = nI t := by
        simp (disch := omega) only [p2_off, p2_hit]
      rw [c11, ← hC3, show f_X4_search 10 C3 R r 0 = some C4 from b1, bd_def]
    rw [pl, bd_def, b3.1]
  · rw [b4 _ _ (by omega) (by omega) (by omega), hC3]
    simp (disch := omega) only [p2_off, p2_hit]
  · rw [b4 b k (by omega) (by omega) (by omega), o3 b k (by omega)]; exact o2 b k h
/-- the reference -/
theorem best8 {C M : MI} {R : MR} {nb nc lh r W X c0 t fs : Nat} (hR : Rel C M R nb nc lh r) (w1 : 1 ≤ W) (w2 : W ≤ 20) (x2 : X ≤ 300) (hc : c0 ≤ W * X) (t6 : t ≤ 6) (hfs : fs < nb) (hf0 : M 109 fs = 0) (hfl : ∀ i, i < fs → ¬ M 109 i = 0) :
    ∃ M4, (∀ R', f_X8_best_90 1000000 (p2 M 100 48 (-1)) R' (nI W) (nI c0) (nI X) (nI t) (nI fs) 0 = some ((dfs M W X c0 nb t t (fun _ => fs) K0).1, M4)) ∧ RA M M4 ∧ KM M4 nb t (dfs M W X c0 nb t t (fun _ => fs) K0) ∧ M4 100 46 = 1 ∧ M4 100 47 = nI t := by
  have hy := hR.hy w1 w2 x2
  obtain ⟨M2, a1, a2, -, a4⟩ := b90 (x1 := nI W) (x2 := nI c0) (x3 := nI X) (fs := fs) t6 t 0 1000000 (p2 M 100 48 (-1)) (by omega) (by omega)
  have p4 : 4 ^ t ≤ 4 ^ 6 := Nat.pow_le_pow_right (by omega) t6
  have p46 : (4 : Nat) ^ 6 = 4096 := by decide
  have ho := odo (c0 := c0) hy hc t6 hR.1.2.1 hfs hf0 hfl t (by omega) (fun _ => fs) M2 K0 1000000 (fun j hj => hfs) (fun j _ _ => rfl) (fun b k q1 q2 => by rw [a4 b k (by omega), p2_off (by omega)]) (fun j hj => a2 j (by omega) hj) ⟨by rw [a4 _ _ (by omega), p2_hit rfl rfl]; rfl, Or.inl rfl⟩ (by omega)
  rw [Nat.sub_self] at ho
  obtain ⟨M3, nn2, g, b1, b2, b3, b4, b5, b6⟩ := ho
  obtain ⟨g, rfl⟩ : ∃ g', g = g' + 1 := ⟨g - 1, by omega⟩
  obtain ⟨nn2, rfl⟩ : ∃ n', nn2 = n' + 1 := ⟨nn2 - 1, by omega⟩
  refine ⟨p2 (p2 M3 100 46 1) 100 47 (nI t), fun R' => ?_, fun b k q1 q2 => ?_, ?_, ?_, p2_hit rfl rfl⟩
  · refine (a1 R').trans ?_
    refine (b3 R').trans ?_
    rw [f_X8_goesOn_4.eq_2, if_pos (by decide), bd_def]
    show f_X8_best_115 (nn2 + 1) M3 R' (nI W) (nI c0) (nI X) (nI t) 0 = _
    rw [f_X8_best_115.eq_2, if_pos rfl, lt_def, lt_def, p2_off (by omega), p2_off (by omega), b6.1]
  · rw [p2_off (by omega), p2_off (by omega)]; exact b4 b k q1 q2
  · exact b6.cong (fun b k q => by rw [p2_off (by omega), p2_off (by omega)])
  · rw [p2_off (by omega), p2_hit rfl rfl]
theorem K_best : LK_best LI := by
  intro q al I R n y0 y1 y2 y3 h
  refine LK_of (f7 := fun C R => f_X7_best C R y0 y1 y2 y3) (f8 := fun M R => f_X8_best M R y0 y1 y2 y3) ?_ q al I R n h
  intro C M R al nb nc lh r hR hA
  have hS := hR.1
  have hB := hR.2.2.2.2.2.1
  have hG := hR.2.2.2.2.2.2.2.2.1
  have hM := hR.2.1
  have hb := hS.2.2.2.2.2.1
  obtain ⟨fs, -, f2, f3, f4, f5⟩ := b3 (M := M) (x1 := y0) (x2 := y1) (x3 := y2) (x4 := y3) hb hS.2.1 nb 0 1000000 (by omega) (by omega)
  have e8 : f_X8_best M R y0 y1 y2 y3 = f_X8_best_28 M R y0 y1 y2 y3 (nI fs) := f5 R
  have same : f_X7_best C R y0 y1 y2 y3 = some (-1, C) → f_X8_best_28 M R y0 y1 y2 y3 (nI fs) = some (-1, M) → ∃ v C2 M2 nb2 nc2 lh2, f_X7_best C R y0 y1 y2 y3 = some (v, C2) ∧ f_X8_best M R y0 y1 y2 y3 = some (v, M2) ∧ Rel C2 M2 R nb2 nc2 lh2 r ∧ gA al R nb2 nc2 ∧ fc C C2 ∧ fm M M2 := fun e7 e => ⟨-1, C, M, nb, nc, lh, e7, e8.trans e, hR, hA, fc.rf, fm.rf⟩
  by_cases hall : nI fs = M 100 2
  · -- every BANK is lost, or there is none
    have hfsn : fs = nb := by rw [hS.2.1] at hall; exact (nI_eq (by omega) (by omega)).mp hall
    have r8 : f_X8_best_28 M R y0 y1 y2 y3 (nI fs) = some (-1, M) := by unfold f_X8_best_28; rw [if_pos hall]
    refine same ?_ r8
    have hno : f_X7_anyBankSensed C R = some 0 := by
      rcases any_ok (R := R) hS hA (fun i hi => (hB.1 i hi).2.2.2.2.2.1) 4 0 1000000 (by omega) (by omega) with ⟨-, j, a2, a3, a4⟩ | ⟨a, -⟩
      · exact absurd a4 (f3 j (by omega) (by omega))
      · exact a
    unfold f_X7_best f_X7_carAsTold
    simp only [f7_in, bd_def]
    rcases wi_01 y0 1 20 with e | e
    · simp only [e, if_pos, bd_def]
    simp only [e, if_neg i10]
    rcases wi_01 y2 1 300 with e' | e'
    · simp only [e', if_pos, bd_def]
    simp only [e', if_neg i10, bd_def]
    rcases wi_01 y1 0 (y0 * y2) with e'' | e''
    · simp only [e'', if_pos, bd_def]
    simp only [e'', if_neg i10, bd_def]
    rcases wi_01 y3 1 6 with e3 | e3
    · simp only [e3, if_pos]
    simp only [e3, if_neg i10, hno, bd_def, if_pos]
  · have hfsn : fs < nb := by
      rcases Nat.lt_or_ge fs nb with z | z
      · exact z
      · exact absurd (by rw [hS.2.1, show fs = nb by omega]) hall
    have hf0 : M 109 fs = 0 := by
      rcases f4 with z | z
      · omega
      · exact z
    rcases wi_cases y0 1 20 with ⟨e, hn⟩ | ⟨e, h1, h2⟩
    · exact same (by simp only [f_X7_best, f_X7_carAsTold, f7_in, bd_def, e, if_pos]) (by simp only [f_X8_best_28, if_neg hall, f8_in, bd_def, e, if_pos])
    rcases wi_cases y2 1 300 with ⟨e', hn⟩ | ⟨e', h3, h4⟩
    · exact same (by simp only [f_X7_best, f_X7_carAsTold, f7_in, bd_def, e, e', if_pos, if_neg i10]) (by simp only [f_X8_best_28, if_neg hall, f8_in, bd_def, e, e', if_pos, if_neg i10])
    rcases wi_cases y1 0 (y0 * y2) with ⟨e'', hn⟩ | ⟨e'', h5, h6⟩
    · exact same (by simp only [f_X7_best, f_X7_carAsTold, f7_in, bd_def, e, e', e'', if_pos, if_neg i10]) (by simp only [f_X8_best_28, if_neg hall, f8_in, bd_def, e, e', e'', if_pos, if_neg i10])
    rcases wi_cases y3 1 6 with ⟨e3, hn⟩ | ⟨e3, h7, h8⟩
    · exact same (by simp only [f_X7_best, f_X7_carAsTold, f7_in, bd_def, e, e', e'', e3, if_pos, if_neg i10]) (by simp only [f_X8_best_28, if_neg hall, f8_in, bd_def, e, e', e'', e3, if_pos, if_neg i10])
    have h1 : (1 : Int) ≤ y0.toInt := h1
    have h2 : y0.toInt ≤ (20 : Int) := h2
    have h3 : (1 : Int) ≤ y2.toInt := h3
    have h4 : y2.toInt ≤ (300 : Int) := h4
    have h5 : (0 : Int) ≤ y1.toInt := h5
    have h7 : (1 : Int) ≤ y3.toInt := h7
    have h8 : y3.toInt ≤ (6 : Int) := h8
    obtain ⟨W, hW, rfl⟩ := nI_of_rg (x := y0) (b := 20) ⟨by omega, h2⟩
    obtain ⟨X, hX, rfl⟩ := nI_of_rg (x := y2) (b := 300) ⟨by omega, h4⟩
    obtain ⟨t, ht, rfl⟩ := nI_of_rg (x := y3) (b := 6) ⟨by omega, h8⟩
    have hWX : W * X ≤ 20 * 300 := Nat.mul_le_mul (by omega) (by omega)
    rw [pk_mul, nI_toInt (show W * X < 2 ^ 31 by omega)] at h6
    obtain ⟨c0, hc0, rfl⟩ := nI_of_rg (x := y1) (b := 6000) ⟨h5, by omega⟩
    rw [nI_toInt (by omega)] at h1 h6 h7
    have h13 : R13 R := by
      intro k hk
      refine hA.2.1 13 k (14 + k) ((hA.1 13).mpr (Or.inl ⟨by decide, by omega⟩)) ?_
      rcases (show k = 0 ∨ k = 1 ∨ k = 2 ∨ k = 3 by omega) with z | z | z | z <;> subst z <;> rfl
    have hyes : f_X7_anyBankSensed C R = some 1 := by
      rcases any_ok (R := R) hS hA (fun i hi => (hB.1 i hi).2.2.2.2.2.1) 4 0 1000000 (by omega) (by omega) with ⟨a, -⟩ | ⟨-, a⟩
      · exact a
      · exact absurd hf0 (a fs (by omega) hfsn)
    obtain ⟨C4, p1, p2_, p3, p4⟩ := best7 (fs := fs) (c0 := c0) hR hA (show 1 ≤ W by omega) (show W ≤ 20 by omega) (show X ≤ 300 by omega) (by omega) (show t ≤ 6 by omega) h13
    obtain ⟨M4, q1, q2, q3, q4, q5⟩ := best8 (c0 := c0) hR (show 1 ≤ W by omega) (show W ≤ 20 by omega) (show X ≤ 300 by omega) (by omega) (show t ≤ 6 by omega) hfsn hf0 (fun i hi => f3 i (by omega) hi)
    have hne := dfs_ne (c0 := c0) (t := t) (hR.hy (W := W) (X := X) (by omega) (by omega) (by omega)) (by omega) ⟨fs, hfsn, hf0⟩ t (fun _ => fs) K0 (by omega) (fun j hj => by omega)
    refine ⟨(dfs M W X c0 nb t t (fun _ => fs) K0).1, C4, M4, nb, nc, lh, ?_, ?_, ?_, hA, fun id j hi => p4 id j (by omega), fun id j hi => q2 id j (by omega) (by omega)⟩
    · unfold f_X7_best f_X7_carAsTold
      simp only [f7_in, bd_def, e, e', e'', e3, if_neg i10, hyes]
      exact p1
    · refine e8.trans ?_
      unfold f_X8_best_28
      simp only [if_neg hall, f8_in, bd_def, e, e', e'', e3, if_neg i10, lt_def]
      exact q1 R
    · refine hR.bst p4 q2 (Or.inr ⟨q4, t, by omega, by omega, p3, q5, fun k hk => ?_⟩)
      rcases p2_.2 with z | ⟨-, z⟩
      · exact absurd z hne
      rcases q3.2 with z' | ⟨-, z'⟩
      · exact absurd z' hne
      rw [(z k hk).1, (z k hk).2, (z' k hk).1, (z' k hk).2]
      exact ⟨rfl, rfl⟩
