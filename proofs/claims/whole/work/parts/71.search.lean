/-! ===== BEST: the class's search ===== -/
def SC (C M : MI) (r W X c0 nb t F : Nat) (pr : Nat → Nat) (d : Nat) : Prop :=
  (rR C M r ∧ C 11 2 = nI nb ∧ C 11 3 = 10 * M 100 1 ∧ C 11 4 = nI t ∧ C 11 5 = nI F) ∧ (C 12 0 = nI W ∧ C 12 1 = nI (st M W X c0 pr d).1 ∧ C 12 2 = nI X ∧ C 12 3 = (st M W X c0 pr d).2.1) ∧
  (∀ k, k < nb → C (14 + k) 0 = nI (vV M k) ∧ C (14 + k) 1 = nI (vB M k - (st M W X c0 pr d).2.2 k) ∧ C (14 + k) 3 = nI ((st M W X c0 pr d).2.2 k) ∧ C (14 + k) 5 = M 109 k) ∧
  ∀ i, i < d → C 18 i = nI (pr i) ∧ C 19 i = nI (uN M W X (pr i) (st M W X c0 pr i))
def KC (C : MI) (nb t : Nat) (K : KS) : Prop := C 11 12 = K.1 ∧ (K.1 = -1 ∨ ((∀ i, i < nb → C 22 i = K.2.1 i) ∧ ∀ i, i < t → C 20 i = K.2.2.1 i ∧ C 21 i = K.2.2.2 i))
def SF (C C2 : MI) : Prop := ∀ b k, ¬ (b = 11 ∧ k = 12) → b ≠ 12 → ¬ (14 ≤ b ∧ b ≤ 22) → C2 b k = C b k
theorem SF.rf {C : MI} : SF C C := fun _ _ _ _ _ => rfl
theorem SF.tr {A B C : MI} (h1 : SF A B) (h2 : SF B C) : SF A C := fun b k a1 a2 a3 => (h2 b k a1 a2 a3).trans (h1 b k a1 a2 a3)
def R13 (R : MR) : Prop := ∀ k, k < 4 → R 13 k = some (14 + k)
theorem b33 {C : MI} {R : MR} {nb : Nat} {dr : Nat → Nat} {kd : Nat → Int32} (hR : R13 R) (hb : nb ≤ 4) (h1 : ∀ k, k < nb → C (14 + k) 3 = nI (dr k)) (h2 : ∀ k, k < nb → C 22 k = kd k) : ∀ (k nn : Nat), k ≤ nb → k < nn → f_X4_isBetter_33 nn C R (nI k + (-1)) = some (if lx dr kd k = true then 1 else 0) := by
  intro k
  induction k with
  | zero =>
    intro nn _ hn
    obtain ⟨nn, rfl⟩ : ∃ m, nn = m + 1 := ⟨nn - 1, by omega⟩
    rw [f_X4_isBetter_33.eq_2, if_pos (by decide)]
    rfl
  | succ k ih =>
    intro nn hk hn
    obtain ⟨nn, rfl⟩ : ∃ m, nn = m + 1 := ⟨nn - 1, by omega⟩
    have hcl : (nI k).toNatClampNeg = k := nI_clamp (by omega)
    have i13 : ix (nI k) (ln 13) := ix_nI (show k < 4 by omega) (by decide)
    have i22 : ix (nI k) (ln 22) := ix_nI (show k < 4 by omega) (by decide)
    rw [f_X4_isBetter_33.eq_2, pk_m1, if_neg (nI_pos (by omega)), gd_pos i13]
    simp only [hcl, hR k (by omega), mt_def, gd_pos i22, gd_pos i13, h1 k (by omega), h2 k (by omega)]
    unfold lx
    by_cases e : nI (dr k) = kd k
    · rw [if_pos e, if_pos e]
      exact ih nn (by omega) (by omega)
    · rw [if_neg e, if_neg e]
      by_cases q : kd k ≤ nI (dr k)
      · rw [if_pos q, decide_eq_false (Int32.not_lt.mpr q)]; rfl
      · rw [if_neg q, decide_eq_true (Int32.not_le.mp q)]; rfl
theorem isB7 {C : MI} {R : MR} {nb t c : Nat} {dr : Nat → Nat} {K : KS} (hR : R13 R) (hb : nb ≤ 4) (h1 : ∀ k, k < nb → C (14 + k) 3 = nI (dr k)) (hnb : C 11 2 = nI nb) (hK : KC C nb t K) (hc : c < 2 ^ 31) : f_X4_isBetter C R (nI c) = some (if bet nb c dr K = true then 1 else 0) := by
  unfold f_X4_isBetter bet
  rw [hK.1]
  by_cases e : nI c = K.1
  · rw [if_pos e, if_pos e, hnb, lt_def, if_neg (show ¬ (4 : Int32) < nI nb from nI_nlt (a := 4) (by omega) (by omega)), show nI nb - 1 = nI nb + (-1) from Int32.sub_eq_add_neg ..]
    rcases hK.2 with z | ⟨z, -⟩
    · rw [z] at e; exact absurd e (nIm1 hc)
    · exact b33 hR hb h1 z nb 1000000 (by omega) (by omega)
  · rw [if_neg e, if_neg e]
    by_cases q : nI c ≤ K.1
    · rw [if_pos q, decide_eq_false (Int32.not_lt.mpr q)]; rfl
    · rw [if_neg q, decide_eq_true (Int32.not_le.mp q)]; rfl
theorem kr51 {R : MR} (hR : R13 R) : ∀ (d k nn : Nat) (C : MI), k + d = 4 → d < nn → ∃ C2, f_X4_keepRow_51 nn C R (nI k) = some C2 ∧ (∀ j, k ≤ j → j < 4 → C2 22 j = C (14 + j) 3) ∧ (∀ j, j < k → C2 22 j = C 22 j) ∧ ∀ b j, b ≠ 22 → C2 b j = C b j := by
  intro d
  induction d with
  | zero =>
    intro k nn C hk hn
    obtain ⟨nn, rfl⟩ : ∃ m, nn = m + 1 := ⟨nn - 1, by omega⟩
    refine ⟨C, ?_, fun j h1 h2 => by omega, fun j _ => rfl, fun b j _ => rfl⟩
    rw [f_X4_keepRow_51.eq_2, if_pos (show (4 : Int32) ≤ nI k from nI_le (a := 4) (by omega) (by omega))]
  | succ d ih =>
    intro k nn C hk hn
    obtain ⟨nn, rfl⟩ : ∃ m, nn = m + 1 := ⟨nn - 1, by omega⟩
    obtain ⟨C2, q1, q2, q3, q4⟩ := ih (k + 1) nn (p2 C 22 k (C (14 + k) 3)) (by omega) (by omega)
    have hcl : (nI k).toNatClampNeg = k := nI_clamp (by omega)
    refine ⟨C2, ?_, fun j h1 h2 => ?_, fun j h1 => ?_, fun b j hb => ?_⟩
    · rw [f_X4_keepRow_51.eq_2, if_neg (show ¬ (4 : Int32) ≤ nI k from nI_ge (a := k) (b := 4) (by omega) (by omega)), gd_pos (show ix (nI k) (ln 13) from ix_nI (show k < 4 by omega) (by decide))]
      simp only [hcl, hR k (by omega), mt_def, gd_pos (show ix (nI k) (ln 22) from ix_nI (show k < 4 by omega) (by decide)), lt_def, nI_1, q1]
    · by_cases e : j = k
      · rw [q3 j (by omega), e, p2_hit rfl rfl]
      · rw [q2 j (by omega) h2, p2_off (by omega)]
    · rw [q3 j (by omega), p2_off (by omega)]
    · rw [q4 b j hb, p2_off (by omega)]
theorem kr13 {R : MR} : ∀ (d k nn : Nat) (C : MI), k + d = 6 → d < nn → ∃ C2, f_X4_keepRow_13 nn C R (nI k) = f_X4_keepRow_51 1000000 C2 R 0 ∧ (∀ j, k ≤ j → j < 6 → C2 20 j = C 18 j ∧ C2 21 j = C 19 j) ∧ (∀ j, j < k → C2 20 j = C 20 j ∧ C2 21 j = C 21 j) ∧ ∀ b j, b ≠ 20 → b ≠ 21 → C2 b j = C b j := by
  intro d
  induction d with
  | zero =>
    intro k nn C hk hn
    obtain ⟨nn, rfl⟩ : ∃ m, nn = m + 1 := ⟨nn - 1, by omega⟩
    refine ⟨C, ?_, fun j h1 h2 => by omega, fun j _ => ⟨rfl, rfl⟩, fun b j _ _ => rfl⟩
    rw [f_X4_keepRow_13.eq_2, if_pos (show (6 : Int32) ≤ nI k from nI_le (a := 6) (by omega) (by omega))]
  | succ d ih =>
    intro k nn C hk hn
    obtain ⟨nn, rfl⟩ : ∃ m, nn = m + 1 := ⟨nn - 1, by omega⟩
    obtain ⟨C2, q1, q2, q3, q4⟩ := ih (k + 1) nn (p2 (p2 C 20 k (C 18 k)) 21 k (C 19 k)) (by omega) (by omega)
    have hcl : (nI k).toNatClampNeg = k := nI_clamp (by omega)
    have hx : ix (nI k) 6 := ix_nI (by omega) (by decide)
    refine ⟨C2, ?_, fun j h1 h2 => ?_, fun j h1 => ?_, fun b j hb hb2 => ?_⟩
    · rw [f_X4_keepRow_13.eq_2, if_neg (show ¬ (6 : Int32) ≤ nI k from nI_ge (a := k) (b := 6) (by omega) (by omega))]
      simp only [gd_pos (show ix (nI k) (ln 18) from hx), gd_pos (show ix (nI k) (ln 19) from hx), gd_pos (show ix (nI k) (ln 20) from hx), gd_pos (show ix (nI k) (ln 21) from hx), hcl, lt_def, nI_1]
      rw [p2_off (by omega), q1]
    · by_cases e : j = k
      · rw [(q3 j (by omega)).1, (q3 j (by omega)).2, e]
        simp (disch := omega) only [p2_off, p2_hit, and_self]
      · rw [(q2 j (by omega) h2).1, (q2 j (by omega) h2).2]
        simp (disch := omega) only [p2_off, and_self]
    · rw [(q3 j (by omega)).1, (q3 j (by omega)).2]
      simp (disch := omega) only [p2_off, and_self]
    · rw [q4 b j hb hb2]
      simp (disch := omega) only [p2_off]
theorem SC.cong {C C2 M : MI} {r W X c0 nb t F d : Nat} {pr : Nat → Nat} (h : SC C M r W X c0 nb t F pr d) (hr : r = 23 ∨ r = 26) (hb : nb ≤ 4) (e : ∀ b k, b ≠ 20 → b ≠ 21 → b ≠ 22 → ¬ (b = 11 ∧ k = 12) → C2 b k = C b k) : SC C2 M r W X c0 nb t F pr d := by
  obtain ⟨⟨h1, h2, h3, h4, h5⟩, h6, h7, h8⟩ := h
  refine ⟨⟨?_, ?_, ?_, ?_, ?_⟩, ?_, fun k hk => ?_, fun i hi => ?_⟩
  · unfold rR fR at h1 ⊢
    simp (disch := omega) only [e]; exact h1
  · rw [e _ _ (by omega) (by omega) (by omega) (by omega)]; exact h2
  · rw [e _ _ (by omega) (by omega) (by omega) (by omega)]; exact h3
  · rw [e _ _ (by omega) (by omega) (by omega) (by omega)]; exact h4
  · rw [e _ _ (by omega) (by omega) (by omega) (by omega)]; exact h5
  · simp (disch := omega) only [e]; exact h6
  · have := h7 k hk
    simp (disch := omega) only [e]; exact this
  · have := h8 i hi
    simp (disch := omega) only [e]; exact this
theorem keep_ok {C M : MI} {R : MR} {r W X c0 nb t F : Nat} {pr : Nat → Nat} (hR : R13 R) (hr : r = 23 ∨ r = 26) (hb : nb ≤ 4) (ht : t ≤ 6) (h : SC C M r W X c0 nb t F pr t) : ∃ C2, f_X4_keepRow C R = some C2 ∧ SC C2 M r W X c0 nb t F pr t ∧ KC C2 nb t (kp M W X c0 pr t) ∧ SF C C2 := by
  obtain ⟨C1, a1, a2, -, a4⟩ := kr13 (R := R) 6 0 1000000 (p2 C 11 12 (C 12 1)) (by omega) (by omega)
  obtain ⟨C2, b1, b2, -, b4⟩ := kr51 (R := R) hR 4 0 1000000 C1 (by omega) (by omega)
  have ag : ∀ b k, b ≠ 20 → b ≠ 21 → b ≠ 22 → ¬ (b = 11 ∧ k = 12) → C2 b k = C b k := fun b k h1 h2 h3 h4 => by rw [b4 b k h3, a4 b k h1 h2, p2_off (by omega)]
  obtain ⟨h1, h6, h7, h8⟩ := h
  refine ⟨C2, ?_, SC.cong ⟨h1, h6, h7, h8⟩ hr hb ag, ⟨?_, Or.inr ⟨fun i hi => ?_, fun i hi => ?_⟩⟩, fun b k q1 q2 q3 => ag b k (by omega) (by omega) (by omega) q1⟩
  · unfold f_X4_keepRow
    rw [lt_def]
    exact a1.trans b1
  · rw [b4 _ _ (by omega), a4 _ _ (by omega) (by omega), p2_hit rfl rfl]; exact h6.2.1
  · rw [b2 i (by omega) (by omega), a4 _ _ (by omega) (by omega), p2_off (by omega)]; exact (h7 i hi).2.2.1
  · rw [b4 _ _ (by omega), b4 _ _ (by omega), (a2 i (by omega) (by omega)).1, (a2 i (by omega) (by omega)).2, p2_off (by omega), p2_off (by omega)]; exact h8 i hi
theorem sub_neg_u {a u : Nat} : nI a - -nI u = nI (a + u) := by
  rw [Int32.sub_eq_add_neg, Int32.neg_neg, nI_add]
theorem add_neg_u {a u : Nat} : nI (a + u) + -nI u = nI a := by
  rw [← Int32.sub_eq_add_neg, pk_sub (by omega)]; congr 1; omega
theorem KC.cong {C C2 : MI} {nb t : Nat} {K : KS} (h : KC C nb t K) (e : ∀ b k, (b = 11 ∧ k = 12) ∨ b = 20 ∨ b = 21 ∨ b = 22 → C2 b k = C b k) : KC C2 nb t K := by
  unfold KC at h ⊢
  simp (disch := omega) only [e]; exact h
theorem draw_go {C M C0 : MI} {R : MR} {r W X c0 nb t F d k : Nat} {pr : Nat → Nat} {K K' : KS} {srch : MI → MR → Nat → Int32 → Option MI} (hR : R13 R) (hy : Hy C0 M r W X nb) (hc : c0 ≤ W * X) (hd : d < 6) (hpr : ∀ j, j < d → pr j < nb) (hk : k < nb)
    (h : SC C M r W X c0 nb t F pr d) (hK : KC C nb t K)
    (ih : ∀ C1, SC C1 M r W X c0 nb t F (up pr d k) (d + 1) → KC C1 nb t K → ∃ C2, srch C1 R r (nI (d + 1)) = some C2 ∧ SC C2 M r W X c0 nb t F (up pr d k) (d + 1) ∧ KC C2 nb t K' ∧ SF C1 C2) :
    ∃ C2, f_X4_drawAndGoOn srch C R r (nI k) (nI d) = some C2 ∧ SC C2 M r W X c0 nb t F pr d ∧ KC C2 nb t K' ∧ SF C C2 := by
  have hb : nb ≤ 4 := hy.2.2.2.2.2.2.1
  have hr := hy.1
  have hW1 := hy.2.2.2.1
  have hW2 := hy.2.2.2.2.1
  have hok := st_ok (c0 := c0) (pr := pr) hy hc d hpr
  obtain ⟨u1, u2, u3, u4, u5, -⟩ := un_st hy hok hk
  obtain ⟨⟨g1, g2, g3, g4, g5⟩, ⟨a0, a1, a2, a3⟩, hs, hrow⟩ := h
  obtain ⟨s0, s1, s3, s5⟩ := hs k hk
  have hun := u5 C R (14 + k) 12 g1 s0 s1 a0 a1 a2 a3
  have hup : ∀ j, uN M W X (up pr d k j) (st M W X c0 (up pr d k) j) = if j = d then uN M W X k (st M W X c0 pr d) else uN M W X (up pr d k j) (st M W X c0 (up pr d k) j) := fun j => by
    by_cases e : j = d
    · rw [if_pos e, e, up_hit rfl, st_up d (by omega)]
    · rw [if_neg e]
  obtain ⟨s, hsd⟩ : ∃ s, s = st M W X c0 pr d := ⟨_, rfl⟩
  obtain ⟨u, hu⟩ : ∃ u, u = uN M W X k s := ⟨_, rfl⟩
  rw [← hsd] at hok u1 u2 u3 u4 hun a1 a3 s1 s3 hup
  rw [← hu] at u1 u2 u3 hun hup
  have hWX : W * X ≤ 20 * 300 := Nat.mul_le_mul hW2 hy.2.2.2.2.2.1
  have hclk : (nI k).toNatClampNeg = k := nI_clamp (by omega)
  have hcld : (nI d).toNatClampNeg = d := nI_clamp (by omega)
  have i13 : ix (nI k) (ln 13) := ix_nI (show k < 4 by omega) (by decide)
  have i18 : ix (nI d) (ln 18) := ix_nI (show d < 6 by omega) (by decide)
  have i19 : ix (nI d) (ln 19) := ix_nI (show d < 6 by omega) (by decide)
  have hg1 := g1
  obtain ⟨r0, r1, -, -, -, -, rc, -⟩ := hg1
  have w1 : (1 : Int32) ≤ nI W := nI_le (a := 1) hW1 (by omega)
  have w0 : ¬ nI W = 0 := nI_ne0 hW1 (by omega)
  obtain ⟨y, hyy⟩ : ∃ y, y = s.2.1 + nI u * M 143 0 / nI W := ⟨_, rfl⟩
  obtain ⟨C1, hC1⟩ : ∃ C1, C1 = p2 (p2 (p2 (p2 (p2 (p2 (p2 (p2 C 18 d (nI k)) 19 d (nI u)) (14 + k) 1 (nI (vB M k - s.2.2 k) - nI u)) (14 + k) 3 (nI (s.2.2 k) + nI u)) 12 1 (nI s.1 + nI u)) 12 8 (C 12 8 + nI u)) 12 3 y) 12 3 (clW M y) := ⟨_, rfl⟩
  have hSC1 : SC C1 M r W X c0 nb t F (up pr d k) (d + 1) := by
    have es : st M W X c0 (up pr d k) (d + 1) = sN M W X k s := by rw [st_dn, hsd]
    have e1 : (sN M W X k s).1 = s.1 + u := by rw [hu]; rfl
    have e2 : (sN M W X k s).2.1 = clW M y := by rw [hyy, hu]; rfl
    have e3 : (sN M W X k s).2.2 = up s.2.2 k (s.2.2 k + u) := by rw [hu]; rfl
    refine ⟨⟨?_, ?_, ?_, ?_, ?_⟩, ?_, fun j hj => ?_, fun i hi => ?_⟩
    · rw [hC1]
      unfold rR fR at g1 ⊢
      simp (disch := omega) only [p2_off]; exact g1
    · rw [hC1]; simp (disch := omega) only [p2_off]; exact g2
    · rw [hC1]; simp (disch := omega) only [p2_off]; exact g3
    · rw [hC1]; simp (disch := omega) only [p2_off]; exact g4
    · rw [hC1]; simp (disch := omega) only [p2_off]; exact g5
    · rw [es, e1, e2, hC1]
      simp (disch := omega) only [p2_off, p2_hit, nI_add]
      exact ⟨a0, trivial, a2, trivial⟩
    · rw [es, e3, hC1]
      by_cases e : j = k
      · subst e
        rw [up_hit rfl]
        simp (disch := omega) only [p2_off, p2_hit, nI_add]
        refine ⟨s0, ?_, trivial, s5⟩
        rw [pk_sub u2]; congr 1; omega
      · rw [up_off e]
        simp (disch := omega) only [p2_off]
        rw [hsd]
        exact hs j hj
    · rw [hup i, hC1]
      by_cases e : i = d
      · subst e
        rw [if_pos rfl, up_hit rfl]
        simp (disch := omega) only [p2_off, p2_hit, and_self]
      · rw [if_neg e, up_off e, st_up i (by omega)]
        simp (disch := omega) only [p2_off]
        exact hrow i (by omega)
  have hKC1 : KC C1 nb t K := hK.cong (fun b j hbj => by rw [hC1]; simp (disch := omega) only [p2_off])
  obtain ⟨C2, q1, q2, q3, q4⟩ := ih C1 hSC1 hKC1
  obtain ⟨⟨f1, f2, f3, f4, f5⟩, ⟨c0', c1, c2, c3⟩, fs, frow⟩ := q2
  have es : st M W X c0 (up pr d k) (d + 1) = sN M W X k s := by rw [st_dn, hsd]
  have e1 : (sN M W X k s).1 = s.1 + u := by rw [hu]; rfl
  have e3 : (sN M W X k s).2.2 = up s.2.2 k (s.2.2 k + u) := by rw [hu]; rfl
  rw [es, e1] at c1
  have fk := fs k hk
  rw [es, e3, up_hit rfl] at fk
  obtain ⟨t0, t1, t3, t5⟩ := fk
  obtain ⟨v8, hv8⟩ : ∃ v8, v8 = C2 12 8 + -nI u := ⟨_, rfl⟩
  obtain ⟨v3, hv3⟩ : ∃ v3, v3 = C2 12 3 + (-nI u * C2 r 0) / C2 12 0 := ⟨_, rfl⟩
  refine ⟨p2 (p2 (p2 (p2 (p2 (p2 C2 (14 + k) 1 (nI (vB M k - s.2.2 k))) (14 + k) 3 (nI (s.2.2 k))) 12 1 (nI s.1)) 12 8 v8) 12 3 v3) 12 3 s.2.1, ?_, ?_, ?_, ?_⟩
  · unfold f_X4_drawAndGoOn
    rw [gd_pos i13]
    simp only [hclk, hcld, hR k (by omega), mt_def, hun, bd_def, gd_pos i18, gd_pos i19, gd_pos i13, lt_def, f_X5_moveOver]
    simp (disch := omega) only [p2_off, p2_hit]
    rw [a0, if_pos w1, gd_pos w0, bd_def]
    unfold f_X5_coolDown
    simp (disch := omega) only [p2_off, p2_hit]
    rw [r1, if_pos (le1_of rc), gd_pos (ne0_of rc)]
    simp only [lt_def, bd_def, nI_1]
    rw [s1, s3, a1, a3, g3, r0, ← hyy, show y - (y - 10 * M 100 1) / M 143 1 = clW M y from rfl, ← hC1, q1, bd_def]
    rw [c0', if_pos w1, gd_pos w0, bd_def, t1, t3, c1, sub_neg_u, add_neg_u, add_neg_u, ← hv8]
    rw [c0'] at hv3
    rw [← hv3, show vB M k - (s.2.2 k + u) + u = vB M k - s.2.2 k by omega]
  · refine ⟨⟨?_, ?_, ?_, ?_, ?_⟩, ?_, fun j hj => ?_, fun i hi => ?_⟩
    · unfold rR fR at f1 ⊢
      simp (disch := omega) only [p2_off]; exact f1
    · simp (disch := omega) only [p2_off]; exact f2
    · simp (disch := omega) only [p2_off]; exact f3
    · simp (disch := omega) only [p2_off]; exact f4
    · simp (disch := omega) only [p2_off]; exact f5
    · rw [← hsd]
      simp (disch := omega) only [p2_off, p2_hit]
      exact ⟨c0', trivial, c2, trivial⟩
    · rw [← hsd]
      by_cases e : j = k
      · subst e
        simp (disch := omega) only [p2_off, p2_hit]
        exact ⟨t0, trivial, trivial, t5⟩
      · have := fs j hj
        rw [es, e3, up_off e] at this
        simp (disch := omega) only [p2_off]
        exact this
    · have := frow i (by omega)
      rw [up_off (by omega), st_up i (by omega)] at this
      simp (disch := omega) only [p2_off]
      exact this
  · exact q3.cong (fun b j hbj => by simp (disch := omega) only [p2_off])
  · refine SF.tr ?_ q4 |>.tr ?_
    · intro b j h1 h2 h3
      rw [hC1]; simp (disch := omega) only [p2_off]
    · intro b j h1 h2 h3
      simp (disch := omega) only [p2_off]
