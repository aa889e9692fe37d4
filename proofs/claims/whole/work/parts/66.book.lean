/-! ===== the TEXT: all CLAUSES; book ===== -/
theorem see1 {M : MI} {R : MR} {T p : Nat} (h2 : M 100 31 = nI T) (h3 : T ≤ 200) (h6 : M 100 32 = nI p) (hp : p < T) (hb : M 131 p ≠ 32) : f_X8_see M R = some (seen1 M T p, M) := by
  have hcl : (nI p).toNatClampNeg = p := nI_clamp (by omega)
  have hix : ix (nI p) (ln 131) := ix_nI (show p < 200 by omega) (by decide)
  unfold f_X8_see
  rw [show (1000000 : Nat) = 999999 + 1 from rfl, f_X8_see_0.eq_2, h2, h6, if_neg (nI_ge hp (by omega)), gd_pos hix]
  simp only [hcl]
  rw [if_neg hb]
  unfold f_X8_see_38 seen1
  rw [h2, h6, if_neg (nI_ge hp (by omega)), gd_pos hix, if_pos hp]
  simp only [hcl]
theorem BF.tr {d : Nat} {A B C : MI} (h1 : BF d A B) (h2 : BF d B C) : BF d A C := fun b k a1 a2 a3 a4 a5 => (h2 b k a1 a2 a3 a4 a5).trans (h1 b k a1 a2 a3 a4 a5)
theorem BG.tr {A B C : MI} (h1 : BG A B) (h2 : BG B C) : BG A C := fun b k a1 a2 a3 a4 => (h2 b k a1 a2 a3 a4).trans (h1 b k a1 a2 a3 a4)
theorem BR.go {C M : MI} {T d p S f e : Nat} (hd : d = 23 ∨ d = 26) (h : BR C M T d p S f) (he : e ≤ T) : BR (p2 C 8 1 (nI e)) (p2 M 100 32 (nI e)) T d e S f := by
  obtain ⟨ht, hW, f7, f8, hS, hF, hV⟩ := h
  refine ⟨ht.to he, hW.pM (by omega), by rw [p2_off (by omega)]; exact f7, by rw [p2_off (by omega)]; exact f8, ?_, ?_, ?_⟩
  · unfold bS at hS ⊢
    simp (disch := omega) only [p2_off]; exact hS
  · unfold bF at hF ⊢
    simp (disch := omega) only [p2_off]; exact hF
  · unfold bV at hV ⊢
    simp (disch := omega) only [p2_off]; exact hV
theorem end61 {M : MI} {R : MR} {x x2 : Int32} {nn : Nat} : f_X8_book_61 (nn + 1) M R x x2 0 = f_X8_book_135 M R x x2 := by
  rw [f_X8_book_61.eq_2]
  by_cases h : x2 = 0
  · rw [if_pos h]
  · rw [if_neg h, if_pos rfl]
theorem end61' {M : MI} {R : MR} {x x3 : Int32} {nn : Nat} : f_X8_book_61 (nn + 1) M R x 0 x3 = f_X8_book_135 M R x 0 := by
  rw [f_X8_book_61.eq_2, if_pos rfl]
theorem seen_m1 {M : MI} {T p : Nat} (hp : p < T) (hb : rg (M 131 p) (-128) 127) : ¬ seen1 M T p = -1 := by
  unfold seen1
  rw [if_pos hp]
  obtain ⟨j, hj0, hj⟩ := pk_andE (M 131 p) (m := 255) 8 (by decide)
  rw [hj]
  exact nIm1 (by omega)
theorem endR {I : MI} {R : MR} {d : Nat} {x y : Int32} {nn : Nat} : f_X1_readInto_23 (nn + 1) I R d x 0 y = f_X1_readInto_76 I R x := by
  rw [f_X1_readInto_23.eq_2]
  by_cases h : (200 : Int32) ≤ y
  · rw [if_pos h]
  · rw [if_neg h, if_pos rfl]
theorem clauses_ok {R : MR} {T d : Nat} (hd : d = 23 ∨ d = 26) : ∀ (g : Nat) (C M : MI) (p S f n nn nn' : Nat), BR C M T d p S f → 2 * n ≤ p → T - p < g → g + 1 < nn → g + 1 < nn' →
    (∃ x x' C2 M2 F, 0 < F ∧ F < 2000 ∧ f_X1_readInto_23 nn C R d (nI n) 1 (nI n) = f_X1_readInto_76 C2 R x ∧ C2 8 2 = nI F ∧ (∀ R', f_X8_book_61 nn' M R' (nI n) 1 1 = f_X8_book_135 M2 R' x' 0) ∧ M2 100 33 = nI F ∧ BF d C C2 ∧ BG M M2) ∨
    (∃ n' C2 M2 p' S' f', n' ≤ 200 ∧ f_X1_readInto_23 nn C R d (nI n) 1 (nI n) = f_X1_readInto_76 C2 R (nI n') ∧ (∀ R', f_X8_book_61 nn' M R' (nI n) 1 1 = f_X8_book_135 M2 R' (nI n') 1) ∧ BR C2 M2 T d p' S' f' ∧ BF d C C2 ∧ BG M M2) := by
  intro g
  induction g with
  | zero => intro C M p S f n nn nn' _ _ h; omega
  | succ g ih =>
    intro C M p S f n nn nn' hB hn hg hnn hnn'
    obtain ⟨nn, rfl⟩ : ∃ m, nn = m + 2 := ⟨nn - 2, by omega⟩
    obtain ⟨nn', rfl⟩ : ∃ m, nn' = m + 2 := ⟨nn' - 2, by omega⟩
    have h3 := hB.1.2.2.1
    have h7 := hB.1.2.2.2.2.2.2
    have n200 : ¬ (200 : Int32) ≤ nI n := nI_ge (a := n) (b := 200) (by omega) (by omega)
    rcases clause_ok (R := R) hd hB with ⟨C2, M2, F, a1, a2, a3, a4, a5, a6, a7, a8⟩ | ⟨C2, M2, p', S', f', a1, a2, a3, a4, a5, a6⟩
    · refine Or.inl ⟨nI (n + 1), nI (n + 1), C2, M2, F, a1, a2, ?_, a4, fun R' => ?_, a6, a7, a8⟩
      · rw [f_X1_readInto_23.eq_2, if_neg n200, if_neg i10, a3, bd_def, a4, if_neg (nI_ne0 a1 (by omega)), nI_1]
        exact endR
      · rw [f_X8_book_61.eq_2, if_neg i10, if_neg i10, a5 R', bd_def]
        simp only [if_pos, f_X8_book_93, f_X8_book_94, f_X8_book_118, nI_1]
        exact end61
    · obtain ⟨e, e1, e2, e3, e4, e5⟩ := a4.1.see R
      have hB2 := a4.go (e := e) hd e2
      have c2z : C2 8 2 = 0 := a4.2.2.1
      have ha := at_tx (R := R) hB2.1
      have hsn : seen1 (p2 M2 100 32 (nI e)) T e = seen1 M2 T e := by unfold seen1; rw [p2_off (by omega)]
      rw [hsn] at ha
      have bf2 : BF d C (p2 C2 8 1 (nI e)) := a5.tr (fun b k h1 h2 h3 h4 h5 => p2_off (by omega))
      have bg2 : BG M (p2 M2 100 32 (nI e)) := a6.tr (fun b k h1 h2 h3 h4 => p2_off (by omega))
      have hE : f_X1_isAtEnd C2 R = (if seen1 M2 T e = (-1) then (some (1, p2 C2 8 1 (nI e))) else (some (0, p2 C2 8 1 (nI e)))) := by
        unfold f_X1_isAtEnd
        rw [e4, bd_def, p2_hit rfl rfl, ha, bd_def]
      have hS : f_X1_takesSemicolon (p2 C2 8 1 (nI e)) R = (if seen1 M2 T e = 59 then (some (1, p2 (p2 C2 8 1 (nI e)) 8 1 (nI (e + 1)))) else (bd (f_X1_blame (p2 C2 8 1 (nI e)) R (nI e) 0) (fun z_22 => some (0, z_22)))) := by
        unfold f_X1_takesSemicolon
        rw [p2_hit rfl rfl, ha, bd_def, lt_def, nI_1]
      have c1 : f_X1_readInto_23 (nn + 2) C R d (nI n) 1 (nI n) = (if seen1 M2 T e = (-1) then (f_X1_readInto_76 (p2 C2 8 1 (nI e)) R (nI (n + 1))) else (if seen1 M2 T e = 59 then f_X1_readInto_23 (nn + 1) (p2 (p2 C2 8 1 (nI e)) 8 1 (nI (e + 1))) R d (nI (n + 1)) 1 (nI (n + 1)) else (bd (f_X1_blame (p2 C2 8 1 (nI e)) R (nI e) 0) (fun z_22 => f_X1_readInto_76 z_22 R (nI (n + 1)))))) := by
        rw [f_X1_readInto_23.eq_2, if_neg n200, if_neg i10, a2, bd_def, c2z, if_pos rfl, hE, nI_1]
        by_cases q : seen1 M2 T e = -1
        · rw [if_pos q, if_pos q, bd_def, if_neg i10]
          exact endR
        · rw [if_neg q, if_neg q, bd_def, if_pos rfl, hS]
          by_cases q2 : seen1 M2 T e = 59
          · rw [if_pos q2, if_pos q2, bd_def, if_neg i10]
          · rw [if_neg q2, if_neg q2]
            unfold f_X1_blame
            rw [lt_def, bd_def, bd_def, bd_def, if_pos rfl]
            exact endR
      have r1 : ∀ R', f_X8_book_61 (nn' + 2) M R' (nI n) 1 1 = (if seen1 M2 T e = (-1) then f_X8_book_135 (p2 M2 100 32 (nI e)) R' (nI (n + 1)) 1 else f_X8_book_94 (f_X8_book_61 (nn' + 1)) (p2 M2 100 32 (nI e)) R' (nI (n + 1)) 1 1) := by
        intro R'
        rw [f_X8_book_61.eq_2, if_neg i10, if_neg i10, a3 R', bd_def]
        simp only [if_neg i10]
        rw [e5 R', bd_def, nI_1]
        by_cases q : seen1 M2 T e = -1
        · simp only [if_pos q]
          simp only [f_X8_book_93, f_X8_book_94, f_X8_book_118, if_pos]
          exact end61
        · simp only [if_neg q]
      by_cases q : e = T
      · have hs : seen1 M2 T e = -1 := if_neg (by omega)
        refine Or.inr ⟨n + 1, p2 C2 8 1 (nI e), p2 M2 100 32 (nI e), e, S', f', by omega, by rw [c1, if_pos hs], fun R' => by rw [r1 R', if_pos hs], hB2, bf2, bg2⟩
      · have elt : e < T := by omega
        have hb32 : M2 131 e ≠ 32 := by rcases e3 with z | z
                                        · exact absurd z q
                                        · exact z
        have hbr := (a4.1.2.2.2.1 e (by omega)).2
        have hs := seen_m1 (M := M2) elt hbr
        have s1 : ∀ R', f_X8_see (p2 M2 100 32 (nI e)) R' = some (seen1 M2 T e, p2 M2 100 32 (nI e)) := fun R' => by
          rw [see1 (M := p2 M2 100 32 (nI e)) (T := T) (p := e) hB2.1.2.1 h3 (p2_hit rfl rfl) elt (by rw [p2_off (by omega)]; exact hb32), hsn]
        by_cases q59 : seen1 M2 T e = 59
        · have hB3 := a4.go (e := e + 1) hd (by omega)
          have r2 : ∀ R', f_X8_book_61 (nn' + 2) M R' (nI n) 1 1 = f_X8_book_61 (nn' + 1) (p2 M2 100 32 (nI (e + 1))) R' (nI (n + 1)) 1 1 := by
            intro R'
            rw [r1 R', if_neg hs]
            unfold f_X8_book_94
            rw [if_neg i10, s1 R', bd_def]
            simp only [q59, if_pos, f_X8_book_118, if_neg i10, lt_def, p2_hit, p2_p2, nI_1]
          have c2 : f_X1_readInto_23 (nn + 2) C R d (nI n) 1 (nI n) = f_X1_readInto_23 (nn + 1) (p2 C2 8 1 (nI (e + 1))) R d (nI (n + 1)) 1 (nI (n + 1)) := by
            rw [c1, if_neg hs, if_pos q59, p2_p2]
          have bf3 : BF d C (p2 C2 8 1 (nI (e + 1))) := a5.tr (fun b k h1 h2 h3 h4 h5 => p2_off (by omega))
          have bg3 : BG M (p2 M2 100 32 (nI (e + 1))) := a6.tr (fun b k h1 h2 h3 h4 => p2_off (by omega))
          rcases ih (p2 C2 8 1 (nI (e + 1))) (p2 M2 100 32 (nI (e + 1))) (e + 1) S' f' (n + 1) (nn + 1) (nn' + 1) hB3 (by omega) (by omega) (by omega) (by omega) with ⟨x, x', C4, M4, F, b1, b2, b3, b4, b5, b6, b7, b8⟩ | ⟨n', C4, M4, p4, S4, f4, b1, b2, b3, b4, b5, b6⟩
          · exact Or.inl ⟨x, x', C4, M4, F, b1, b2, c2.trans b3, b4, fun R' => (r2 R').trans (b5 R'), b6, bf3.tr b7, bg3.tr b8⟩
          · exact Or.inr ⟨n', C4, M4, p4, S4, f4, b1, c2.trans b2, fun R' => (r2 R').trans (b3 R'), b4, bf3.tr b5, bg3.tr b6⟩
        · have e8 : (8 : Int32) = nI 8 := rfl
          have e1' : (1 : Int32) = nI 1 := rfl
          have fl : (1 : Int32) + 8 * nI e + 0 = nI (1 + 8 * e + 0) := by
            have : (0 : Int32) = nI 0 := rfl
            rw [this, e8, e1', pk_mul, nI_add, nI_add]
          refine Or.inl ⟨nI (n + 1), nI (n + 1), p2 (p2 C2 8 1 (nI e)) 8 2 (nI (1 + 8 * e + 0)), p2 (p2 (p2 M2 100 32 (nI e)) 100 33 (nI (1 + 8 * e + 0))) 100 32 (nI (e + 1)), 1 + 8 * e + 0, by omega, by omega, ?_, p2_hit rfl rfl, fun R' => ?_, by simp (disch := omega) only [p2_off, p2_hit], bf2.tr (fun b k h1 h2 h3 h4 h5 => p2_off (by omega)), bg2.tr (fun b k h1 h2 h3 h4 => by simp (disch := omega) only [p2_off])⟩
          · rw [c1, if_neg hs, if_neg q59]
            unfold f_X1_blame
            rw [lt_def, bd_def, fl]
          · rw [r1 R', if_neg hs]
            unfold f_X8_book_94
            rw [if_neg i10, s1 R', bd_def]
            simp only [if_neg q59]
            unfold f_X8_fails
            rw [if_pos (show p2 M2 100 32 (nI e) 100 33 = 0 by rw [p2_off (by omega)]; exact a4.2.2.2.1), lt_def, bd_def]
            simp only [f_X8_book_118, if_neg i10, lt_def, p2_hit]
            rw [fl, p2_off (by omega), p2_hit rfl rfl, nI_1]
            exact end61'
/-! the reference takes the BOOK over -/
theorem cp236 {x : Int32} : ∀ (dd k nn : Nat) (M : MI), k + dd = 5 → dd < nn → ∃ M', (∀ R', f_X8_book_236 nn M R' x (nI k) = some (x, M')) ∧ (∀ j, k ≤ j → j < 5 → M' 143 j = M 144 j) ∧ (∀ j, j < k → M' 143 j = M 143 j) ∧ ∀ b j, b ≠ 143 → M' b j = M b j := by
  intro dd
  induction dd with
  | zero =>
    intro k nn M hk hn
    obtain ⟨nn, rfl⟩ : ∃ m, nn = m + 1 := ⟨nn - 1, by omega⟩
    refine ⟨M, fun R' => ?_, fun j h1 h2 => by omega, fun j _ => rfl, fun b j _ => rfl⟩
    rw [f_X8_book_236.eq_2, if_pos (show (5 : Int32) ≤ nI k from nI_le (a := 5) (by omega) (by omega))]
  | succ dd ih =>
    intro k nn M hk hn
    obtain ⟨nn, rfl⟩ : ∃ m, nn = m + 1 := ⟨nn - 1, by omega⟩
    obtain ⟨M', q1, q2, q3, q4⟩ := ih (k + 1) nn (p2 M 143 k (M 144 k)) (by omega) (by omega)
    refine ⟨M', fun R' => ?_, fun j h1 h2 => ?_, fun j h1 => ?_, fun b j hb => ?_⟩
    · rw [f_X8_book_236.eq_2, if_neg (show ¬ (5 : Int32) ≤ nI k from nI_ge (a := k) (b := 5) (by omega) (by omega)), gd_pos (show ix (nI k) (ln 144) from ix_nI (show k < 5 by omega) (by decide)), gd_pos (show ix (nI k) (ln 143) from ix_nI (show k < 5 by omega) (by decide)), lt_def, nI_clamp (by omega), nI_1, q1 R']
    · by_cases e : j = k
      · rw [q3 j (by omega), e, p2_hit rfl rfl]
      · rw [q2 j (by omega) h2, p2_off (by omega)]
    · rw [q3 j (by omega), p2_off (by omega)]
    · rw [q4 b j hb, p2_off (by omega)]
theorem cp190 {x : Int32} {F : Nat} (hF : F ≤ 8) : ∀ (dd k nn : Nat) (M : MI), M 100 36 = nI F → k + dd = F → dd < nn → ∃ M', (∀ R', f_X8_book_190 nn M R' x (nI k) = f_X8_book_236 1000000 M' R' x 0) ∧ (∀ j, k ≤ j → j < F → M' 138 j = M 141 j ∧ M' 139 j = M 142 j) ∧ (∀ j, j < k → M' 138 j = M 138 j ∧ M' 139 j = M 139 j) ∧ ∀ b j, b ≠ 138 → b ≠ 139 → M' b j = M b j := by
  intro dd
  induction dd with
  | zero =>
    intro k nn M h36 hk hn
    obtain ⟨nn, rfl⟩ : ∃ m, nn = m + 1 := ⟨nn - 1, by omega⟩
    refine ⟨M, fun R' => ?_, fun j h1 h2 => by omega, fun j _ => ⟨rfl, rfl⟩, fun b j _ _ => rfl⟩
    rw [f_X8_book_190.eq_2, h36, if_pos (nI_le (by omega) (by omega))]
  | succ dd ih =>
    intro k nn M h36 hk hn
    obtain ⟨nn, rfl⟩ : ∃ m, nn = m + 1 := ⟨nn - 1, by omega⟩
    obtain ⟨M', q1, q2, q3, q4⟩ := ih (k + 1) nn (p2 (p2 M 138 k (M 141 k)) 139 k (M 142 k)) (by simp (disch := omega) only [p2_off]; exact h36) (by omega) (by omega)
    have hx : ix (nI k) 8 := ix_nI (by omega) (by decide)
    refine ⟨M', fun R' => ?_, fun j h1 h2 => ?_, fun j h1 => ?_, fun b j hb hb2 => ?_⟩
    · rw [f_X8_book_190.eq_2, h36, if_neg (nI_ge (by omega) (by omega))]
      simp only [gd_pos (show ix (nI k) (ln 141) from hx), gd_pos (show ix (nI k) (ln 138) from hx), gd_pos (show ix (nI k) (ln 142) from hx), gd_pos (show ix (nI k) (ln 139) from hx), lt_def, nI_clamp (show k < 2 ^ 31 by omega), nI_1]
      rw [p2_off (by omega), q1 R']
    · by_cases e : j = k
      · rw [(q3 j (by omega)).1, (q3 j (by omega)).2, e]
        simp (disch := omega) only [p2_off, p2_hit, and_self]
      · rw [(q2 j (by omega) h2).1, (q2 j (by omega) h2).2]
        simp (disch := omega) only [p2_off, and_self]
    · rw [(q3 j (by omega)).1, (q3 j (by omega)).2]
      simp (disch := omega) only [p2_off, and_self]
    · rw [q4 b j hb hb2]
      simp (disch := omega) only [p2_off]
theorem bk135 {M : MI} {f : Nat} {x : Int32} (hf : M 100 39 = nI f) (h8 : f ≤ 8) : ∃ M3, (∀ R', f_X8_book_135 M R' x 1 = some (x, M3)) ∧ M3 100 31 = 0 ∧ (f = 0 → M3 100 36 = nI 1 ∧ M3 138 0 = 0 ∧ M3 139 0 = 20) ∧ (0 < f → M3 100 36 = nI f) ∧ (∀ k, k < f → M3 138 k = M 141 k ∧ M3 139 k = M 142 k) ∧ (∀ w, w < 5 → M3 143 w = M 144 w) ∧ ∀ b k, b ≠ 138 → b ≠ 139 → b ≠ 141 → b ≠ 142 → b ≠ 143 → ¬ (b = 100 ∧ (k = 31 ∨ k = 36 ∨ k = 39)) → M3 b k = M b k := by
  have tail : ∀ (A : MI) (F : Nat), A 100 39 = nI F → F ≤ 8 → ∃ M3, (∀ R', f_X8_book_179 A R' x = some (x, M3)) ∧ M3 100 36 = nI F ∧ (∀ k, k < F → M3 138 k = A 141 k ∧ M3 139 k = A 142 k) ∧ (∀ w, w < 5 → M3 143 w = A 144 w) ∧ ∀ b k, b ≠ 138 → b ≠ 139 → b ≠ 143 → ¬ (b = 100 ∧ k = 36) → M3 b k = A b k := by
    intro A F hA hF
    obtain ⟨M1, a1, a2, a3, a4⟩ := cp190 (x := x) hF F 0 1000000 (p2 A 100 36 (nI F)) (p2_hit rfl rfl) (by omega) (by omega)
    obtain ⟨M2, b1, b2, b3, b4⟩ := cp236 (x := x) 5 0 1000000 M1 (by omega) (by omega)
    refine ⟨M2, fun R' => ?_, ?_, fun k hk => ?_, fun w hw => ?_, fun b k h1 h2 h3 h4 => ?_⟩
    · unfold f_X8_book_179
      rw [lt_def, hA]
      exact (a1 R').trans (b1 R')
    · rw [b4 _ _ (by omega), a4 _ _ (by omega) (by omega), p2_hit rfl rfl]
    · rw [b4 _ _ (by omega), b4 _ _ (by omega), (a2 k (by omega) hk).1, (a2 k (by omega) hk).2]
      simp (disch := omega) only [p2_off, and_self]
    · rw [b2 w (by omega) hw, a4 _ _ (by omega) (by omega), p2_off (by omega)]
    · rw [b4 b k h3, a4 b k h1 h2, p2_off (by omega)]
  by_cases q : f = 0
  · subst q
    obtain ⟨M3, a1, a2, a3, a4, a5⟩ := tail (p2 (p2 (p2 (p2 M 100 31 0) 141 0 0) 142 0 20) 100 39 1) 1 (p2_hit rfl rfl) (by omega)
    refine ⟨M3, fun R' => ?_, ?_, fun _ => ⟨a2, ?_, ?_⟩, fun z => by omega, fun k hk => by omega, fun w hw => ?_, fun b k h1 h2 h3 h4 h5 h6 => ?_⟩
    · rw [← a1 R']
      unfold f_X8_book_135
      rw [lt_def, if_neg i10, p2_off (by omega), hf, if_pos (by decide), gd_pos (show ix 0 (ln 141) from ⟨by decide, by decide⟩), lt_def, gd_pos (show ix 0 (ln 142) from ⟨by decide, by decide⟩), lt_def, lt_def]
      rfl
    · rw [a5 _ _ (by omega) (by omega) (by omega) (by omega)]
      simp (disch := omega) only [p2_off, p2_hit]
    · rw [(a3 0 (by omega)).1]
      simp (disch := omega) only [p2_off, p2_hit]
    · rw [(a3 0 (by omega)).2]
      simp (disch := omega) only [p2_off, p2_hit]
    · rw [a4 w hw]
      simp (disch := omega) only [p2_off]
    · rw [a5 b k h1 h2 h5 (by omega)]
      simp (disch := omega) only [p2_off]
  · obtain ⟨M3, a1, a2, a3, a4, a5⟩ := tail (p2 M 100 31 0) f (by rw [p2_off (by omega)]; exact hf) h8
    refine ⟨M3, fun R' => ?_, ?_, fun z => absurd z q, fun _ => a2, fun k hk => ?_, fun w hw => ?_, fun b k h1 h2 h3 h4 h5 h6 => ?_⟩
    · rw [← a1 R']
      unfold f_X8_book_135
      rw [lt_def, if_neg i10, p2_off (by omega), hf, if_neg (nI_ne0 (by omega) (by omega))]
    · rw [a5 _ _ (by omega) (by omega) (by omega) (by omega), p2_hit rfl rfl]
    · rw [(a3 k hk).1, (a3 k hk).2]
      simp (disch := omega) only [p2_off, and_self]
    · rw [a4 w hw, p2_off (by omega)]
    · rw [a5 b k h1 h2 h5 (by omega), p2_off (by omega)]
