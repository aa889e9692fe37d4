/-! ===== book, as a whole ===== -/
def fil9 : Nat → Nat → MI → MI
  | 0, _, I => I
  | d + 1, k, I => fil9 d (k + 1) (p2 I 9 k 0)
theorem fil9_at : ∀ (d k : Nat) (I : MI) (b j : Nat), fil9 d k I b j = if b = 9 ∧ k ≤ j ∧ j < k + d then 0 else I b j
  | 0, k, I, b, j => by rw [if_neg (by omega)]; rfl
  | d + 1, k, I, b, j => by
    unfold fil9
    rw [fil9_at d (k + 1) _ b j]
    by_cases h : b = 9 ∧ k + 1 ≤ j ∧ j < k + 1 + d
    · rw [if_pos h, if_pos (by omega)]
    · rw [if_neg h]
      by_cases e : b = 9 ∧ j = k
      · rw [if_pos (by omega), p2_hit e.1 e.2]
      · rw [if_neg (by omega), p2_off (by omega)]
def fil4 : Nat → Nat → MI → MI
  | 0, _, I => I
  | d + 1, k, I => fil4 d (k + 1) (p2 I 144 k (woL.getD k 0))
theorem fil4_at : ∀ (d k : Nat) (I : MI) (b j : Nat), fil4 d k I b j = if b = 144 ∧ k ≤ j ∧ j < k + d then woL.getD j 0 else I b j
  | 0, k, I, b, j => by rw [if_neg (by omega)]; rfl
  | d + 1, k, I, b, j => by
    unfold fil4
    rw [fil4_at d (k + 1) _ b j]
    by_cases h : b = 144 ∧ k + 1 ≤ j ∧ j < k + 1 + d
    · rw [if_pos h, if_pos (by omega)]
    · rw [if_neg h]
      by_cases e : b = 144 ∧ j = k
      · rw [if_pos (by omega), p2_hit e.1 e.2, e.2]
      · rw [if_neg (by omega), p2_off (by omega)]
theorem i12 {R : MR} {o : Nat} : ∀ (d k nn : Nat) (I : MI), k + d = 6 → d < nn → f_X1_begin_12 nn I R o (nI k) = (bd (f_X5_asWithout (fil9 d k I) R o) (fun z_32 => some z_32)) := by
  intro d
  induction d with
  | zero =>
    intro k nn I hk hd
    obtain ⟨nn, rfl⟩ : ∃ m, nn = m + 1 := ⟨nn - 1, by omega⟩
    rw [f_X1_begin_12.eq_2, if_pos (show (6 : Int32) ≤ nI k from nI_le (a := 6) (by omega) (by omega))]
    rfl
  | succ d ih =>
    intro k nn I hk hd
    obtain ⟨nn, rfl⟩ : ∃ m, nn = m + 1 := ⟨nn - 1, by omega⟩
    rw [f_X1_begin_12.eq_2, if_neg (show ¬ (6 : Int32) ≤ nI k from nI_ge (a := k) (b := 6) (by omega) (by omega)), gd_pos (show ix (nI k) (ln 9) from ix_nI (show k < 6 by omega) (by decide)), lt_def, nI_clamp (by omega), nI_1, nar_b (Or.inl rfl)]
    exact ih (k + 1) nn _ (by omega) (by omega)
theorem i22 {R : MR} : ∀ (d k nn : Nat) (I : MI), k + d = 5 → d < nn → f_X8_book_22 nn I R (nI k) = (bd (f_X8_see (fil4 d k I) R) (fun z_48 => (if z_48.1 = (-1) then (f_X8_book_61 1000000 z_48.2 R 0 1 0) else (f_X8_book_61 1000000 z_48.2 R 0 1 1)))) := by
  intro d
  induction d with
  | zero =>
    intro k nn I hk hd
    obtain ⟨nn, rfl⟩ : ∃ m, nn = m + 1 := ⟨nn - 1, by omega⟩
    rw [f_X8_book_22.eq_2, if_pos (show (5 : Int32) ≤ nI k from nI_le (a := 5) (by omega) (by omega))]
    rfl
  | succ d ih =>
    intro k nn I hk hd
    obtain ⟨nn, rfl⟩ : ∃ m, nn = m + 1 := ⟨nn - 1, by omega⟩
    rw [f_X8_book_22.eq_2, if_neg (show ¬ (5 : Int32) ≤ nI k from nI_ge (a := k) (b := 5) (by omega) (by omega)), wo_eq (by omega), bd_def, gd_pos (show ix (nI k) (ln 144) from ix_nI (show k < 5 by omega) (by decide)), lt_def, nI_clamp (by omega), nI_1]
    exact ih (k + 1) nn _ (by omega) (by omega)
/-- what both sides make of the text -/
theorem read_ok {C M : MI} {R : MR} {T d : Nat} (hd : d = 23 ∨ d = 26) (h61 : C 6 1 = nI T) (h31 : M 100 31 = nI T) (hT : T ≤ 200) (hby : ∀ k, k < 200 → C 7 k = M 131 k ∧ rg (M 131 k) (-128) 127) (hW : gW M) :
    (∃ C2 M2 F, 0 < F ∧ F < 2000 ∧ f_X1_readInto C R d = some ((-2) - nI F, C2) ∧ (∀ R', f_X8_book M R' = some ((-2) - nI F, p2 M2 100 31 0)) ∧ BF d C C2 ∧ BG M M2) ∨
    (∃ n' C2 M2 p' S' f', n' ≤ 200 ∧ f_X1_readInto C R d = some (nI n', C2) ∧ (∀ R', f_X8_book M R' = f_X8_book_135 M2 R' (nI n') 1) ∧ BR C2 M2 T d p' S' f' ∧ BF d C C2 ∧ BG M M2) := by
  obtain ⟨C1, hC1⟩ : ∃ C1, C1 = p2 (p2 (p2 (p2 (p2 (p2 (fil9 6 0 (p2 (p2 C 8 1 0) 8 2 0)) d 0 10) d 1 10) d 2 85) d 3 20) d 4 1) d 7 0 := ⟨_, rfl⟩
  obtain ⟨M1, hM1⟩ : ∃ M1, M1 = fil4 5 0 (p2 (p2 (p2 (p2 M 100 32 0) 100 33 0) 100 34 0) 100 39 0) := ⟨_, rfl⟩
  have c1a : ∀ b k, b ≠ 8 → b ≠ 9 → b ≠ d → C1 b k = C b k := fun b k h1 h2 h3 => by
    rw [hC1]
    simp (disch := omega) only [p2_off]
    rw [fil9_at, if_neg (by omega)]
    simp (disch := omega) only [p2_off]
  have m1a : ∀ b k, b ≠ 144 → ¬ (b = 100 ∧ (k = 32 ∨ k = 33 ∨ k = 34 ∨ k = 39)) → M1 b k = M b k := fun b k h1 h2 => by
    rw [hM1, fil4_at, if_neg (by omega)]
    simp (disch := omega) only [p2_off]
  have bf1 : BF d C C1 := fun b k h1 h2 h3 h4 h5 => c1a b k h1 h2 h3
  have bg1 : BG M M1 := fun b k h1 h2 h3 h4 => m1a b k h3 (by omega)
  have m144 : ∀ k, k < 5 → M1 144 k = woL.getD k 0 := fun k hk => by rw [hM1, fil4_at, if_pos (by omega)]
  have c9 : ∀ k, k < 6 → C1 9 k = 0 := fun k hk => by
    rw [hC1]
    simp (disch := omega) only [p2_off]
    rw [fil9_at, if_pos (by omega)]
  have hB1 : BR C1 M1 T d 0 0 0 := by
    refine ⟨⟨?_, ?_, hT, fun k hk => ?_, ?_, ?_, by omega⟩, ?_, ?_, ?_, ⟨?_, by omega, fun w hw => ?_⟩, ⟨?_, ?_, by omega, fun k hk => by omega⟩, ?_⟩
    · rw [c1a _ _ (by omega) (by omega) (by omega)]; exact h61
    · rw [m1a _ _ (by omega) (by omega)]; exact h31
    · rw [c1a _ _ (by omega) (by omega) (by omega), m1a _ _ (by omega) (by omega)]; exact hby k hk
    · rw [hC1]
      simp (disch := omega) only [p2_off]
      rw [fil9_at, if_neg (by omega)]
      simp (disch := omega) only [p2_off, p2_hit]
      rfl
    · rw [hM1, fil4_at, if_neg (by omega)]
      simp (disch := omega) only [p2_off, p2_hit]
      rfl
    · intro k hk
      rw [m1a _ _ (by omega) (by omega)]; exact hW k hk
    · rw [hC1]
      simp (disch := omega) only [p2_off]
      rw [fil9_at, if_neg (by omega)]
      simp (disch := omega) only [p2_hit]
    · rw [hM1, fil4_at, if_neg (by omega)]
      simp (disch := omega) only [p2_off, p2_hit]
    · rw [hM1, fil4_at, if_neg (by omega)]
      simp (disch := omega) only [p2_off, p2_hit]
      rfl
    · rw [c9 (w + 1) (by omega)]
      rcases (show w = 0 ∨ w = 1 ∨ w = 2 ∨ w = 3 ∨ w = 4 by omega) with e | e | e | e | e <;> subst e <;> decide
    · rw [hC1, p2_hit rfl rfl]; rfl
    · rw [hM1, fil4_at, if_neg (by omega), p2_hit rfl rfl]; rfl
    · unfold bV
      rw [m144 0 (by omega), m144 1 (by omega), m144 2 (by omega), m144 3 (by omega), m144 4 (by omega), hC1]
      simp (disch := omega) only [p2_off, p2_hit]
      exact ⟨rfl, rfl, rfl, rfl, rfl, ⟨by decide, by decide⟩, ⟨by decide, by decide⟩, ⟨by decide, by decide⟩, ⟨by decide, by decide⟩, by decide, by decide⟩
  obtain ⟨e, e1, e2, e3, e4, e5⟩ := hB1.1.see R
  have hB2 := hB1.go (e := e) hd e2
  have ha := at_tx (R := R) hB2.1
  have hsn : seen1 (p2 M1 100 32 (nI e)) T e = seen1 M1 T e := by unfold seen1; rw [p2_off (by omega)]
  rw [hsn] at ha
  have bf2 : BF d C (p2 C1 8 1 (nI e)) := bf1.tr (fun b k h1 h2 h3 h4 h5 => p2_off (by omega))
  have bg2 : BG M (p2 M1 100 32 (nI e)) := bg1.tr (fun b k h1 h2 h3 h4 => p2_off (by omega))
  have hbg : f_X1_begin C R d = some C1 := by
    unfold f_X1_begin
    rw [lt_def, lt_def]
    have := i12 (R := R) (o := d) 6 0 1000000 (p2 (p2 C 8 1 0) 8 2 0) (by omega) (by omega)
    refine this.trans ?_
    unfold f_X5_asWithout
    simp only [lt_def]
    rw [bd_def, ← hC1]
  have hE : f_X1_isAtEnd C1 R = (if seen1 M1 T e = (-1) then (some (1, p2 C1 8 1 (nI e))) else (some (0, p2 C1 8 1 (nI e)))) := by
    unfold f_X1_isAtEnd
    rw [e4, bd_def, p2_hit rfl rfl, ha, bd_def]
  have hin : f_X1_readInto C R d = (if seen1 M1 T e = (-1) then (f_X1_readInto_76 (p2 C1 8 1 (nI e)) R 0) else (f_X1_readInto_23 1000000 (p2 C1 8 1 (nI e)) R d (nI 0) 1 (nI 0))) := by
    unfold f_X1_readInto
    rw [hbg, bd_def, hE]
    by_cases q : seen1 M1 T e = -1
    · rw [if_pos q, if_pos q, bd_def, if_neg i10, show (1000000 : Nat) = 999999 + 1 from rfl]
      exact endR
    · rw [if_neg q, if_neg q, bd_def, if_pos rfl]
      rfl
  have hbk : ∀ R', f_X8_book M R' = (if seen1 M1 T e = (-1) then (f_X8_book_61 1000000 (p2 M1 100 32 (nI e)) R' 0 1 0) else (f_X8_book_61 1000000 (p2 M1 100 32 (nI e)) R' 0 1 1)) := by
    intro R'
    unfold f_X8_book
    rw [lt_def, lt_def, lt_def, lt_def]
    have := i22 (R := R') 5 0 1000000 (p2 (p2 (p2 (p2 M 100 32 0) 100 33 0) 100 34 0) 100 39 0) (by omega) (by omega)
    refine this.trans ?_
    rw [← hM1, e5 R', bd_def]
  have z2 : p2 C1 8 1 (nI e) 8 2 = 0 := hB2.2.2.1
  by_cases q : seen1 M1 T e = -1
  · refine Or.inr ⟨0, p2 C1 8 1 (nI e), p2 M1 100 32 (nI e), e, 0, 0, by omega, ?_, fun R' => ?_, hB2, bf2, bg2⟩
    · rw [hin, if_pos q]
      unfold f_X1_readInto_76
      rw [z2, if_pos rfl]; rfl
    · rw [hbk R', if_pos q, show (1000000 : Nat) = 999999 + 1 from rfl, end61]; rfl
  · rcases clauses_ok (R := R) hd 300 (p2 C1 8 1 (nI e)) (p2 M1 100 32 (nI e)) e 0 0 0 1000000 1000000 hB2 (by omega) (by omega) (by omega) (by omega) with ⟨x, x', C4, M4, F, b1, b2, b3, b4, b5, b6, b7, b8⟩ | ⟨n', C4, M4, p4, S4, f4, b1, b2, b3, b4, b5, b6⟩
    · refine Or.inl ⟨C4, M4, F, b1, b2, ?_, fun R' => ?_, bf2.tr b7, bg2.tr b8⟩
      · rw [hin, if_neg q, b3]
        simp only [f_X1_readInto_76, b4, if_neg (nI_ne0 b1 (show F < 2 ^ 31 by omega))]
      · rw [hbk R', if_neg q]
        refine (b5 R').trans ?_
        unfold f_X8_book_135
        rw [lt_def, if_pos rfl, p2_off (by omega), b6]
    · refine Or.inr ⟨n', C4, M4, p4, S4, f4, b1, ?_, fun R' => ?_, b4, bf2.tr b5, bg2.tr b6⟩
      · rw [hin, if_neg q, b2]
        simp only [f_X1_readInto_76, b4.2.2.1, if_pos]
      · rw [hbk R', if_neg q]
        exact b3 R'
theorem Rel.bk {C M C2 M2 : MI} {R R2 : MR} {nb nc lh r r2 : Nat} (h : Rel C M R nb nc lh r) (aC : ∀ b k, b ≠ 6 → b ≠ 8 → b ≠ 9 → (b < 23 ∨ 28 < b) → C2 b k = C b k)
    (aM : ∀ b k, ¬ (138 ≤ b ∧ b ≤ 144) → ¬ (b = 100 ∧ ((31 ≤ k ∧ k ≤ 39) ∨ k = 45)) → M2 b k = M b k) (aR : ∀ k, R2 3 k = R 3 k) (t1 : C2 6 1 = 0) (t2 : M2 100 31 = 0) (nG : gR C2 M2 R2 r2) : Rel C2 M2 R2 nb nc lh r2 := by
  obtain ⟨hS, hM, hP, hT, hLg, hB, hC, hH, hG, hN, hw⟩ := h
  have hb := hS.2.2.2.2.2.1
  have hc := hS.2.2.2.2.2.2.1
  refine ⟨?_, ?_, ?_, ?_, ?_, ?_, ?_, ?_, nG, ?_, ?_⟩
  · unfold gS at hS ⊢
    simp (disch := omega) only [aC, aM]; exact hS
  · unfold gM at hM ⊢
    simp (disch := omega) only [aC, aM]; exact hM
  · unfold gP at hP ⊢
    simp (disch := omega) only [aC, aM]; exact hP
  · have := hT.2.2
    unfold gT
    rw [t1, t2]
    simp (disch := omega) only [aC, aM]
    exact ⟨trivial, ⟨by decide, by decide⟩, this⟩
  · unfold gL at hLg ⊢
    simp (disch := omega) only [aC, aM]; exact hLg
  · exact hB.same hb (fun b k h1 h2 => aC b k (by omega) (by omega) (by omega) (by omega)) (fun b k h1 h2 => aM b k (by omega) (by omega))
  · exact hC.same hc (fun b k h1 h2 => aC b k (by omega) (by omega) (by omega) (by omega)) (fun b k h1 h2 => aM b k (by omega) (by omega))
  · unfold gH at hH ⊢
    simp (disch := omega) only [aM, aR]; exact hH
  · unfold gN at hN ⊢
    simp (disch := omega) only [aC, aM]; exact hN
  · unfold gW at hw ⊢
    simp (disch := omega) only [aM]; exact hw
theorem neg2 {F : Nat} (a1 : 0 < F) (a2 : F < 2000) : (-2 : Int32) - nI F < 0 := by
  have e2 : (-2 : Int32).toInt = -2 := by decide
  have e0 : (0 : Int32).toInt = 0 := by decide
  have e3 : ((-2 : Int32) - nI F).toInt = -2 - (F : Int) := by
    rw [Int32.toInt_sub, e2, nI_toInt (by omega), Int.bmod_eq_of_le (by omega) (by omega)]
  rw [tI_lt, e3, e0]
  omega
theorem bk_fail {C M : MI} {R : MR} {al : Nat → Bool} {nb nc lh r d T : Nat} (hR0 : Rel C M R nb nc lh r) (hA : gA al R nb nc) (hd : d = 23 ∨ d = 26) (hrd : (r = 23 ∧ d = 26) ∨ (r = 26 ∧ d = 23)) (hd17 : R 0 17 = some d) {C2 M2 : MI} {F : Nat} (a1 : 0 < F) (a2 : F < 2000) (a3 : f_X1_readInto C R d = some ((-2) - nI F, C2)) (a4 : ∀ R', f_X8_book M R' = some ((-2) - nI F, p2 M2 100 31 0)) (a5 : BF d C C2) (a6 : BG M M2) : ∃ v C2 R2 M2 nb2 nc2 lh2 r2, f_X7_book C R = some (v, C2, R2) ∧ (∀ R', f_X8_book M R' = some (v, M2)) ∧ Rel C2 M2 R2 nb2 nc2 lh2 r2 ∧ gA al R2 nb2 nc2 ∧ fc C C2 ∧ fm M M2 := by
  have hG := hR0.2.2.2.2.2.2.2.2.1
  have hneg := neg2 a1 a2
  refine ⟨(-2) - nI F, p2 C2 6 1 0, R, p2 M2 100 31 0, nb, nc, lh, r, ?_, a4, ?_, hA, fun id j hi => ?_, fun id j hi => ?_⟩
  · rw [f_X7_book, hd17, bd_def, a3, bd_def, lt_def]
    exact if_pos hneg
  · refine hR0.bk (fun b k h1 h2 h3 h4 => ?_) (fun b k h1 h2 => ?_) (fun k => rfl) (p2_hit rfl rfl) (p2_hit rfl rfl) ⟨hG.1, hG.2.1, ?_⟩
    · rw [p2_off (by omega)]; exact a5 b k h2 h3 (by omega) (by omega) (by omega)
    · rw [p2_off (by omega)]; exact a6 b k (by omega) (by omega) (by omega) (by omega)
    · have hg := hG.2.2
      have b5 : ∀ b k, (b = r ∨ b = r + 1 ∨ b = r + 2) → p2 C2 6 1 0 b k = C b k := fun b k hb => by
        rw [p2_off (by omega)]; exact a5 b k (by omega) (by omega) (by omega) (by omega) (by omega)
      have b6 : ∀ b k, (b = 143 ∨ b = 138 ∨ b = 139 ∨ (b = 100 ∧ k = 36)) → p2 M2 100 31 0 b k = M b k := fun b k hb => by
        rw [p2_off (by omega)]; exact a6 b k (by omega) (by omega) (by omega) (by omega)
      unfold rR fR at hg ⊢
      simp (disch := omega) only [b5, b6]
      exact hg
  · rw [p2_off (by omega)]; exact a5 id j (by omega) (by omega) (by omega) (by omega) (by omega)
  · rw [p2_off (by omega)]; exact a6 id j (by omega) (by omega) (by omega) (by omega)
theorem bk_done {C M : MI} {R : MR} {al : Nat → Bool} {nb nc lh r d T : Nat} (hR0 : Rel C M R nb nc lh r) (hA : gA al R nb nc) (hd : d = 23 ∨ d = 26) (hrd : (r = 23 ∧ d = 26) ∨ (r = 26 ∧ d = 23)) (hd17 : R 0 17 = some d) {C2 M2 : MI} {n' p' S' f' : Nat} (a1 : n' ≤ 200) (a2 : f_X1_readInto C R d = some (nI n', C2)) (a3 : ∀ R', f_X8_book M R' = f_X8_book_135 M2 R' (nI n') 1) (a4 : BR C2 M2 T d p' S' f') (a5 : BF d C C2) (a6 : BG M M2) : ∃ v C2 R2 M2 nb2 nc2 lh2 r2, f_X7_book C R = some (v, C2, R2) ∧ (∀ R', f_X8_book M R' = some (v, M2)) ∧ Rel C2 M2 R2 nb2 nc2 lh2 r2 ∧ gA al R2 nb2 nc2 ∧ fc C C2 ∧ fm M M2 := by
  have hG := hR0.2.2.2.2.2.2.2.2.1
  obtain ⟨ht, hW2, z7, z8, hS2, hF2, hV2⟩ := a4
  obtain ⟨M3, b1, b2, b3, b4, b5, b6, b7⟩ := bk135 (x := nI n') hF2.2.1 hF2.2.2.1
  have R16 : pq (pq R 0 16 (some d)) 0 17 (some r) 0 16 = some d := by rw [pq_off (by omega), pq_hit rfl rfl]
  refine ⟨nI n', p2 C2 6 1 0, pq (pq R 0 16 (some d)) 0 17 (some r), M3, nb, nc, lh, d, ?_, fun R' => (a3 R').trans (b1 R'), ?_, ?_, fun id j hi => ?_, fun id j hi => ?_⟩
  · simp only [f_X7_book, hd17, bd_def, a2, lt_def, if_neg (nI_pos (show n' < 2 ^ 31 by omega)), hG.1]
  · refine hR0.bk (fun b k h1 h2 h3 h4 => ?_) (fun b k h1 h2 => ?_) (fun k => ?_) (p2_hit rfl rfl) b2 ⟨R16, ?_, ?_⟩
    · rw [p2_off (by omega)]; exact a5 b k h2 h3 (by omega) (by omega) (by omega)
    · rw [b7 b k (by omega) (by omega) (by omega) (by omega) (by omega) (by omega)]; exact a6 b k (by omega) (by omega) (by omega) (by omega)
    · rw [pq_off (by omega), pq_off (by omega)]
    · rw [pq_hit rfl rfl]
      rcases hrd with ⟨e1, e2⟩ | ⟨e1, e2⟩
      · exact Or.inr ⟨e2, by rw [e1]⟩
      · exact Or.inl ⟨e2, by rw [e1]⟩
    · have co : ∀ b k, b ≠ 6 → p2 C2 6 1 0 b k = C2 b k := fun b k hb => p2_off (by omega)
      obtain ⟨v0, v1, v2, v3, v4, g0, g1, g2, g3, g4⟩ := hV2
      refine ⟨?_, ?_, ?_, ?_, ?_, ?_, ?_, ?_, ?_, ?_, f', hF2.2.2.1, ?_, ?_⟩
      · rw [co _ _ (by omega), b6 0 (by omega)]; exact v0
      · rw [co _ _ (by omega), b6 1 (by omega)]; exact v1
      · rw [co _ _ (by omega), b6 2 (by omega)]; exact v2
      · rw [co _ _ (by omega), b6 3 (by omega)]; exact v3
      · rw [co _ _ (by omega), b6 4 (by omega)]; exact v4
      · rw [b6 0 (by omega)]; exact g0
      · rw [b6 1 (by omega)]; exact g1
      · rw [b6 2 (by omega)]; exact g2
      · rw [b6 3 (by omega)]; exact g3
      · rw [b6 4 (by omega)]; exact g4
      · rw [co _ _ (by omega)]; exact hF2.1
      · by_cases e : f' = 0
        · obtain ⟨c1, c2, c3⟩ := b3 e
          exact Or.inl ⟨e, c1, c2, c3⟩
        · refine Or.inr ⟨by omega, b4 (by omega), fun k hk => ?_⟩
          obtain ⟨c1, c2, c3, c4⟩ := hF2.2.2.2 k hk
          rw [co _ _ (by omega), co _ _ (by omega), (b5 k hk).1, (b5 k hk).2]
          exact ⟨c1, c2, c3, c4⟩
  · exact ⟨hA.1, (hA.2.1.pq rfl).pq rfl, fun i hi => by rw [pq_off (by omega), pq_off (by omega)]; exact hA.2.2.1 i hi, fun j hj => by rw [pq_off (by omega), pq_off (by omega)]; exact hA.2.2.2 j hj⟩
  · rw [p2_off (by omega)]; exact a5 id j (by omega) (by omega) (by omega) (by omega) (by omega)
  · rw [b7 id j (by omega) (by omega) (by omega) (by omega) (by omega) (by omega)]; exact a6 id j (by omega) (by omega) (by omega) (by omega)
theorem K_book : LK_book LI := by
  intro q al I R n h
  refine LK_ofR (f7 := fun C R => f_X7_book C R) (f8 := fun M R => f_X8_book M R) ?_ q al I R n h
  intro C M R al nb nc lh r hR hA
  have hR0 := hR
  obtain ⟨hS, hM, hP, hT, hLg, hB, hC, hH, hG, hN, hw⟩ := hR
  obtain ⟨d, hd, hrd, hd17⟩ : ∃ d, (d = 23 ∨ d = 26) ∧ ((r = 23 ∧ d = 26) ∨ (r = 26 ∧ d = 23)) ∧ R 0 17 = some d := by
    rcases hG.2.1 with ⟨a, b⟩ | ⟨a, b⟩
    · exact ⟨26, Or.inr rfl, Or.inl ⟨a, rfl⟩, b⟩
    · exact ⟨23, Or.inl rfl, Or.inr ⟨a, rfl⟩, b⟩
  obtain ⟨T, hT2, eT⟩ := nI_of_rg hT.2.1
  have hT200 : T ≤ 200 := by omega
  have hby : ∀ k, k < 200 → C 7 k = M 131 k ∧ rg (M 131 k) (-128) 127 := fun k hk => ⟨(hT.2.2 k hk).1, (hT.2.2 k hk).1 ▸ (hT.2.2 k hk).2⟩
  rcases read_ok (R := R) hd eT (hT.1 ▸ eT) hT200 hby hw with ⟨C2, M2, F, a1, a2, a3, a4, a5, a6⟩ | ⟨n', C2, M2, p', S', f', a1, a2, a3, a4, a5, a6⟩
  · exact bk_fail hR0 hA hd hrd hd17 a1 a2 a3 a4 a5 a6 (T := T)
  · exact bk_done hR0 hA hd hrd hd17 a1 a2 a3 a4 a5 a6
