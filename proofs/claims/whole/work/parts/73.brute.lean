/-! ===== BEST: the reference's rows, one after another ===== -/
def RA (M M' : MI) : Prop := ∀ b k, ¬ (150 ≤ b ∧ b ≤ 156) → ¬ (b = 100 ∧ (k = 46 ∨ k = 47 ∨ k = 48)) → M' b k = M b k
theorem RA.sm {M M' : MI} (h : RA M M') : sameR M M' := ⟨h _ _ (by omega) (by omega), fun _ => h _ _ (by omega) (by omega), fun _ => h _ _ (by omega) (by omega), fun _ => h _ _ (by omega) (by omega)⟩
theorem RA.tr {A B C : MI} (h1 : RA A B) (h2 : RA B C) : RA A C := fun b k a1 a2 => (h2 b k a1 a2).trans (h1 b k a1 a2)
def KM (M : MI) (nb t : Nat) (K : KS) : Prop := M 100 48 = K.1 ∧ (K.1 = -1 ∨ ((∀ i, i < nb → M 152 i = K.2.1 i) ∧ ∀ i, i < t → M 150 i = K.2.2.1 i ∧ M 151 i = K.2.2.2 i))
def TR (M : MI) (t : Nat) (pr : Nat → Nat) : Prop := ∀ i, i < t → M 153 i = nI (pr i)
theorem KM.cong {M M2 : MI} {nb t : Nat} {K : KS} (h : KM M nb t K) (e : ∀ b k, (b = 100 ∧ k = 48) ∨ b = 150 ∨ b = 151 ∨ b = 152 → M2 b k = M b k) : KM M2 nb t K := by
  unfold KM at h ⊢
  simp (disch := omega) only [e]; exact h
theorem runs55 {C0 M : MI} {r W X c0 nb t : Nat} {pr : Nat → Nat} (hy : Hy C0 M r W X nb) (hc : c0 ≤ W * X) (ht : t ≤ 6) (hpr : ∀ j, j < t → pr j < nb) : ∀ (d i nn : Nat) (M1 : MI), i + d = t → d < nn → RA M M1 → TR M1 t pr →
    (∀ k, k < nb → M1 155 k = nI ((st M W X c0 pr i).2.2 k) ∧ M1 156 k = nI (vB M k - (st M W X c0 pr i).2.2 k)) → (∀ j, j < i → M1 154 j = nI (uN M W X (pr j) (st M W X c0 pr j))) →
    ∃ M2, (∀ R', f_X8_runs_55 nn M1 R' (nI W) (nI X) (nI t) (nI (st M W X c0 pr i).1) (st M W X c0 pr i).2.1 (nI i) = some (nI (st M W X c0 pr t).1, M2)) ∧ (∀ k, k < nb → M2 155 k = nI ((st M W X c0 pr t).2.2 k)) ∧ (∀ j, j < t → M2 154 j = nI (uN M W X (pr j) (st M W X c0 pr j))) ∧ ∀ b k, b ≠ 154 → b ≠ 155 → b ≠ 156 → M2 b k = M1 b k := by
  have hb : nb ≤ 4 := hy.2.2.2.2.2.2.1
  have hW1 := hy.2.2.2.1
  have hW2 := hy.2.2.2.2.1
  intro d
  induction d with
  | zero =>
    intro i nn M1 hi hn hRA hTR h5 h4
    obtain ⟨nn, rfl⟩ : ∃ m, nn = m + 1 := ⟨nn - 1, by omega⟩
    have hi : i = t := by omega
    subst hi
    refine ⟨M1, fun R' => ?_, fun k hk => (h5 k hk).1, h4, fun b k _ _ _ => rfl⟩
    rw [f_X8_runs_55.eq_2, if_pos (nI_le (by omega) (by omega))]
  | succ d ih =>
    intro i nn M1 hi hn hRA hTR h5 h4
    obtain ⟨nn, rfl⟩ : ∃ m, nn = m + 1 := ⟨nn - 1, by omega⟩
    have hok := st_ok (c0 := c0) (pr := pr) hy hc i (fun j hj => hpr j (by omega))
    have hk := hpr i (by omega)
    obtain ⟨u1, u2, u3, u4, -, u6, -⟩ := un_st hy hok hk
    have hes : st M W X c0 pr (i + 1) = sN M W X (pr i) (st M W X c0 pr i) := rfl
    obtain ⟨s, hs⟩ : ∃ s, s = st M W X c0 pr i := ⟨_, rfl⟩
    obtain ⟨k, hkk⟩ : ∃ k, k = pr i := ⟨_, rfl⟩
    rw [← hkk] at hk u1 u2 u3 u4 u6 hes
    rw [← hs] at hok u1 u2 u3 u4 u6 hes h5 ⊢
    obtain ⟨u, hu⟩ : ∃ u, u = uN M W X k s := ⟨_, rfl⟩
    rw [← hu] at u1 u2 u3 u6
    have e1 : (sN M W X k s).1 = s.1 + u := by rw [hu]; rfl
    have e2 : (sN M W X k s).2.1 = clW M (s.2.1 + nI u * M 143 0 / nI W) := by rw [hu]; rfl
    have e3 : (sN M W X k s).2.2 = up s.2.2 k (s.2.2 k + u) := by rw [hu]; rfl
    have hTi : M1 153 i = nI k := by rw [hTR i (by omega), hkk]
    have hcli : (nI i).toNatClampNeg = i := nI_clamp (by omega)
    have hclk : (nI k).toNatClampNeg = k := nI_clamp (by omega)
    have hx6 : ix (nI i) 6 := ix_nI (by omega) (by decide)
    have hx4 : ix (nI k) 4 := ix_nI (by omega) (by decide)
    have m104 : M1 104 k = nI (vV M k) := by rw [hRA _ _ (by omega) (by omega)]; exact (hy.2.2.2.2.2.2.2 k hk).1
    have m143 : ∀ j, M1 143 j = M 143 j := fun j => hRA _ _ (by omega) (by omega)
    have m1001 : M1 100 1 = M 100 1 := hRA _ _ (by omega) (by omega)
    obtain ⟨-, -, -, -, -, -, rc, -⟩ := hy.2.1
    obtain ⟨M3, hM3⟩ : ∃ M3, M3 = p2 (p2 (p2 M1 154 i (nI u)) 155 k (nI (s.2.2 k) + nI u)) 156 k (nI (vB M k - s.2.2 k) - nI u) := ⟨_, rfl⟩
    have o3 : ∀ b j, b ≠ 154 → b ≠ 155 → b ≠ 156 → M3 b j = M1 b j := fun b j q1 q2 q3 => by rw [hM3]; simp (disch := omega) only [p2_off]
    have stp : ∀ R', f_X8_runs_55 (nn + 1) M1 R' (nI W) (nI X) (nI t) (nI s.1) s.2.1 (nI i) = f_X8_runs_55 nn M3 R' (nI W) (nI X) (nI t) (nI (s.1 + u)) (clW M (s.2.1 + nI u * M 143 0 / nI W)) (nI (i + 1)) := by
      intro R'
      rw [f_X8_runs_55.eq_2, if_neg (nI_ge (by omega) (by omega)), gd_pos (show ix (nI i) (ln 153) from hx6)]
      simp only [hcli, hTi, hclk, gd_pos (show ix (nI k) (ln 104) from hx4), gd_pos (show ix (nI k) (ln 155) from hx4), gd_pos (show ix (nI k) (ln 156) from hx4), gd_pos (show ix (nI i) (ln 154) from hx6), m104, (h5 k hk).2, u6 M1 R' hRA.sm, bd_def, lt_def, gd_pos (show ix 0 (ln 143) from ⟨by decide, by decide⟩), gd_pos (nI_ne0 (n := W) hW1 (by omega)), show (0 : Int32).toNatClampNeg = 0 by decide, f_X8_cooled, gd_pos (show ix 1 (ln 143) from ⟨by decide, by decide⟩), show (1 : Int32).toNatClampNeg = 1 by decide]
      simp (disch := omega) only [p2_off]
      rw [m143 1, gd_pos (ne0_of rc), bd_def, m143 0, m1001, (h5 k hk).1, (h5 k hk).2, ← hM3, nI_add, nI_1]
      rfl
    have n5 : ∀ j, j < nb → M3 155 j = nI ((st M W X c0 pr (i + 1)).2.2 j) ∧ M3 156 j = nI (vB M j - (st M W X c0 pr (i + 1)).2.2 j) := by
      intro j hj
      rw [hes, e3, hM3]
      by_cases e : j = k
      · subst e
        rw [up_hit rfl]
        simp (disch := omega) only [p2_off, p2_hit, nI_add]
        refine ⟨trivial, ?_⟩
        rw [pk_sub u2]; congr 1; omega
      · rw [up_off e]
        simp (disch := omega) only [p2_off]
        exact h5 j hj
    have n4 : ∀ j, j < i + 1 → M3 154 j = nI (uN M W X (pr j) (st M W X c0 pr j)) := by
      intro j hj
      rw [hM3]
      by_cases e : j = i
      · subst e
        simp (disch := omega) only [p2_off, p2_hit]
        rw [← hkk, ← hs, ← hu]
      · simp (disch := omega) only [p2_off]
        exact h4 j (by omega)
    obtain ⟨M2, a1, a2, a3, a4⟩ := ih (i + 1) nn M3 (by omega) (by omega) (fun b j q1 q2 => by rw [o3 b j (by omega) (by omega) (by omega)]; exact hRA b j q1 q2) (fun j hj => by rw [o3 _ _ (by omega) (by omega) (by omega)]; exact hTR j hj) n5 n4
    refine ⟨M2, fun R' => ?_, a2, a3, fun b j q1 q2 q3 => (a4 b j q1 q2 q3).trans (o3 b j q1 q2 q3)⟩
    rw [stp R', ← a1 R', hes, e1, e2]
theorem runs3 {M : MI} {x1 x2 x3 x4 : Int32} {nb : Nat} (hb : nb ≤ 4) : ∀ (d k nn : Nat) (M1 : MI), k + d = nb → d < nn → M1 100 2 = nI nb → (∀ j, M1 105 j = M 105 j) → ∃ M2, (∀ R', f_X8_runs_3 nn M1 R' x1 x2 x3 x4 (nI k) = f_X8_runs_55 1000000 M2 R' x1 x3 x4 x2 (10 * M1 100 1) 0) ∧ (∀ j, k ≤ j → j < nb → M2 155 j = 0 ∧ M2 156 j = M 105 j) ∧ (∀ j, j < k → M2 155 j = M1 155 j ∧ M2 156 j = M1 156 j) ∧ ∀ b j, b ≠ 155 → b ≠ 156 → M2 b j = M1 b j := by
  intro d
  induction d with
  | zero =>
    intro k nn M1 hk hn h2 h105
    obtain ⟨nn, rfl⟩ : ∃ m, nn = m + 1 := ⟨nn - 1, by omega⟩
    refine ⟨M1, fun R' => ?_, fun j a b => by omega, fun j _ => ⟨rfl, rfl⟩, fun b j _ _ => rfl⟩
    rw [f_X8_runs_3.eq_2, h2, if_pos (nI_le (by omega) (by omega))]
  | succ d ih =>
    intro k nn M1 hk hn h2 h105
    obtain ⟨nn, rfl⟩ : ∃ m, nn = m + 1 := ⟨nn - 1, by omega⟩
    have hx : ix (nI k) 4 := ix_nI (by omega) (by decide)
    obtain ⟨M2, a1, a2, a3, a4⟩ := ih (k + 1) nn (p2 (p2 M1 155 k 0) 156 k (M 105 k)) (by omega) (by omega) (by simp (disch := omega) only [p2_off]; exact h2) (fun j => by simp (disch := omega) only [p2_off]; exact h105 j)
    refine ⟨M2, fun R' => ?_, fun j h1 h3 => ?_, fun j h1 => ?_, fun b j h1 h3 => ?_⟩
    · rw [f_X8_runs_3.eq_2, h2, if_neg (nI_ge (by omega) (by omega))]
      simp only [nI_clamp (show k < 2 ^ 31 by omega), gd_pos (show ix (nI k) (ln 155) from hx), gd_pos (show ix (nI k) (ln 105) from hx), gd_pos (show ix (nI k) (ln 156) from hx), lt_def, nI_1]
      rw [p2_off (by omega), h105 k, a1 R']
      simp (disch := omega) only [p2_off]
    · by_cases e : j = k
      · rw [(a3 j (by omega)).1, (a3 j (by omega)).2, e]
        simp (disch := omega) only [p2_off, p2_hit, and_self]
      · exact a2 j (by omega) h3
    · rw [(a3 j (by omega)).1, (a3 j (by omega)).2]
      simp (disch := omega) only [p2_off, and_self]
    · rw [a4 b j h1 h3]
      simp (disch := omega) only [p2_off]
theorem runs_ok {C0 M M1 : MI} {r W X c0 nb t : Nat} {pr : Nat → Nat} (hy : Hy C0 M r W X nb) (hc : c0 ≤ W * X) (ht : t ≤ 6) (hpr : ∀ j, j < t → pr j < nb) (h2 : M 100 2 = nI nb) (hRA : RA M M1) (hTR : TR M1 t pr) :
    ∃ M2, (∀ R', f_X8_runs M1 R' (nI W) (nI c0) (nI X) (nI t) = some (nI (st M W X c0 pr t).1, M2)) ∧ (∀ k, k < nb → M2 155 k = nI ((st M W X c0 pr t).2.2 k)) ∧ (∀ j, j < t → M2 154 j = nI (uN M W X (pr j) (st M W X c0 pr j))) ∧ ∀ b k, b ≠ 154 → b ≠ 155 → b ≠ 156 → M2 b k = M1 b k := by
  have hb : nb ≤ 4 := hy.2.2.2.2.2.2.1
  obtain ⟨M3, a1, a2, -, a4⟩ := runs3 (M := M) (x1 := nI W) (x2 := nI c0) (x3 := nI X) (x4 := nI t) hb nb 0 1000000 M1 (by omega) (by omega) (by rw [hRA _ _ (by omega) (by omega)]; exact h2) (fun j => hRA _ _ (by omega) (by omega))
  have n5 : ∀ k, k < nb → M3 155 k = nI ((st M W X c0 pr 0).2.2 k) ∧ M3 156 k = nI (vB M k - (st M W X c0 pr 0).2.2 k) := by
    intro k hk
    rw [(a2 k (by omega) hk).1, (a2 k (by omega) hk).2]
    exact ⟨rfl, (hy.2.2.2.2.2.2.2 k hk).2.1⟩
  obtain ⟨M2, b1, b2, b3, b4⟩ := runs55 (c0 := c0) hy hc ht hpr t 0 1000000 M3 (by omega) (by omega) (fun b j q1 q2 => by rw [a4 b j (by omega) (by omega)]; exact hRA b j q1 q2) (fun j hj => by rw [a4 _ _ (by omega) (by omega)]; exact hTR j hj) n5 (fun j hj => by omega)
  refine ⟨M2, fun R' => ?_, b2, b3, fun b k q1 q2 q3 => (b4 b k q1 q2 q3).trans (a4 b k q2 q3)⟩
  unfold f_X8_runs
  have e10 : M1 100 1 = M 100 1 := hRA _ _ (by omega) (by omega)
  refine (a1 R').trans ?_
  rw [e10]
  exact b1 R'
theorem b29 {M : MI} {R : MR} {nb : Nat} {dr : Nat → Nat} {kd : Nat → Int32} (hb : nb ≤ 4) (h1 : ∀ k, k < nb → M 155 k = nI (dr k)) (h2 : ∀ k, k < nb → M 152 k = kd k) : ∀ (k nn : Nat), k ≤ nb → k < nn → f_X8_isBetter_29 nn M R (nI k + (-1)) = some (if lx dr kd k = true then 1 else 0) := by
  intro k
  induction k with
  | zero =>
    intro nn _ hn
    obtain ⟨nn, rfl⟩ : ∃ m, nn = m + 1 := ⟨nn - 1, by omega⟩
    rw [f_X8_isBetter_29.eq_2, if_pos (by decide)]
    rfl
  | succ k ih =>
    intro nn hk hn
    obtain ⟨nn, rfl⟩ : ∃ m, nn = m + 1 := ⟨nn - 1, by omega⟩
    have hcl : (nI k).toNatClampNeg = k := nI_clamp (by omega)
    have hx : ix (nI k) 4 := ix_nI (show k < 4 by omega) (by decide)
    rw [f_X8_isBetter_29.eq_2, pk_m1, if_neg (nI_pos (by omega))]
    simp only [hcl, gd_pos (show ix (nI k) (ln 155) from hx), gd_pos (show ix (nI k) (ln 152) from hx), h1 k (by omega), h2 k (by omega)]
    unfold lx
    by_cases e : nI (dr k) = kd k
    · rw [if_pos e, if_pos e]
      exact ih nn (by omega) (by omega)
    · rw [if_neg e, if_neg e]
      by_cases q : kd k ≤ nI (dr k)
      · rw [if_pos q, decide_eq_false (Int32.not_lt.mpr q)]; rfl
      · rw [if_neg q, decide_eq_true (Int32.not_le.mp q)]; rfl
theorem isB8 {M : MI} {R : MR} {nb t c : Nat} {dr : Nat → Nat} {K : KS} (hb : nb ≤ 4) (h1 : ∀ k, k < nb → M 155 k = nI (dr k)) (hnb : M 100 2 = nI nb) (hK : KM M nb t K) (hc : c < 2 ^ 31) : f_X8_isBetter M R (nI c) = some (if bet nb c dr K = true then 1 else 0) := by
  unfold f_X8_isBetter bet
  rw [hK.1]
  by_cases e : nI c = K.1
  · rw [if_pos e, if_pos e, hnb, show nI nb - 1 = nI nb + (-1) from Int32.sub_eq_add_neg ..]
    rcases hK.2 with z | ⟨z, -⟩
    · rw [z] at e; exact absurd e (nIm1 hc)
    · exact b29 hb h1 z nb 1000000 (by omega) (by omega)
  · rw [if_neg e, if_neg e]
    by_cases q : nI c ≤ K.1
    · rw [if_pos q, decide_eq_false (Int32.not_lt.mpr q)]; rfl
    · rw [if_neg q, decide_eq_true (Int32.not_le.mp q)]; rfl
theorem kb193 {x1 x2 x3 x4 : Int32} {nb : Nat} (hb : nb ≤ 4) : ∀ (d k nn : Nat) (M : MI), k + d = nb → d < nn → M 100 2 = nI nb → ∃ M2, (∀ k115 R', f_X8_best_193 k115 nn M R' x1 x2 x3 x4 (nI k) = f_X8_best_222 k115 M2 R' x1 x2 x3 x4) ∧ (∀ j, k ≤ j → j < nb → M2 152 j = M 155 j) ∧ (∀ j, j < k → M2 152 j = M 152 j) ∧ ∀ b j, b ≠ 152 → M2 b j = M b j := by
  intro d
  induction d with
  | zero =>
    intro k nn M hk hn h2
    obtain ⟨nn, rfl⟩ : ∃ m, nn = m + 1 := ⟨nn - 1, by omega⟩
    refine ⟨M, fun k115 R' => ?_, fun j h1 h2 => by omega, fun j _ => rfl, fun b j _ => rfl⟩
    rw [f_X8_best_193.eq_2, h2, if_pos (nI_le (by omega) (by omega))]
  | succ d ih =>
    intro k nn M hk hn h2
    obtain ⟨nn, rfl⟩ : ∃ m, nn = m + 1 := ⟨nn - 1, by omega⟩
    obtain ⟨M2, q1, q2, q3, q4⟩ := ih (k + 1) nn (p2 M 152 k (M 155 k)) (by omega) (by omega) (by rw [p2_off (by omega)]; exact h2)
    have hx : ix (nI k) 4 := ix_nI (show k < 4 by omega) (by decide)
    refine ⟨M2, fun k115 R' => ?_, fun j h1 h2 => ?_, fun j h1 => ?_, fun b j hb => ?_⟩
    · rw [f_X8_best_193.eq_2, h2, if_neg (nI_ge (by omega) (by omega))]
      simp only [nI_clamp (show k < 2 ^ 31 by omega), gd_pos (show ix (nI k) (ln 155) from hx), gd_pos (show ix (nI k) (ln 152) from hx), lt_def, nI_1, q1 k115 R']
    · by_cases e : j = k
      · rw [q3 j (by omega), e, p2_hit rfl rfl]
      · rw [q2 j (by omega) h2, p2_off (by omega)]
    · rw [q3 j (by omega), p2_off (by omega)]
    · rw [q4 b j hb, p2_off (by omega)]
theorem kb149 {x1 x2 x3 : Int32} {t : Nat} (ht : t ≤ 6) : ∀ (d k nn : Nat) (M : MI), k + d = t → d < nn → ∃ M2, (∀ k115 R', f_X8_best_149 k115 nn M R' x1 x2 x3 (nI t) (nI k) = f_X8_best_193 k115 1000000 M2 R' x1 x2 x3 (nI t) 0) ∧ (∀ j, k ≤ j → j < t → M2 150 j = M 153 j ∧ M2 151 j = M 154 j) ∧ (∀ j, j < k → M2 150 j = M 150 j ∧ M2 151 j = M 151 j) ∧ ∀ b j, b ≠ 150 → b ≠ 151 → M2 b j = M b j := by
  intro d
  induction d with
  | zero =>
    intro k nn M hk hn
    obtain ⟨nn, rfl⟩ : ∃ m, nn = m + 1 := ⟨nn - 1, by omega⟩
    refine ⟨M, fun k115 R' => ?_, fun j h1 h2 => by omega, fun j _ => ⟨rfl, rfl⟩, fun b j _ _ => rfl⟩
    rw [f_X8_best_149.eq_2, if_pos (nI_le (by omega) (by omega))]
  | succ d ih =>
    intro k nn M hk hn
    obtain ⟨nn, rfl⟩ : ∃ m, nn = m + 1 := ⟨nn - 1, by omega⟩
    obtain ⟨M2, q1, q2, q3, q4⟩ := ih (k + 1) nn (p2 (p2 M 150 k (M 153 k)) 151 k (M 154 k)) (by omega) (by omega)
    have hx : ix (nI k) 6 := ix_nI (by omega) (by decide)
    refine ⟨M2, fun k115 R' => ?_, fun j h1 h2 => ?_, fun j h1 => ?_, fun b j hb hb2 => ?_⟩
    · rw [f_X8_best_149.eq_2, if_neg (nI_ge (by omega) (by omega))]
      simp only [nI_clamp (show k < 2 ^ 31 by omega), gd_pos (show ix (nI k) (ln 153) from hx), gd_pos (show ix (nI k) (ln 150) from hx), gd_pos (show ix (nI k) (ln 154) from hx), gd_pos (show ix (nI k) (ln 151) from hx), lt_def, nI_1]
      rw [p2_off (by omega), q1 k115 R']
    · by_cases e : j = k
      · rw [(q3 j (by omega)).1, (q3 j (by omega)).2, e]
        simp (disch := omega) only [p2_off, p2_hit, and_self]
      · rw [(q2 j (by omega) h2).1, (q2 j (by omega) h2).2]
        simp (disch := omega) only [p2_off, and_self]
    · rw [(q3 j (by omega)).1, (q3 j (by omega)).2]
      simp (disch := omega) only [p2_off, and_self]
    · rw [q4 b j hb hb2]
      simp (disch := omega) only [p2_off]
/-- one row -/
theorem row_ok8 {C0 M M1 : MI} {r W X c0 nb t : Nat} {pr : Nat → Nat} {K : KS} (hy : Hy C0 M r W X nb) (hc : c0 ≤ W * X) (ht : t ≤ 6) (hpr : ∀ j, j < t → pr j < nb) (h2 : M 100 2 = nI nb) (hRA : RA M M1) (hTR : TR M1 t pr) (hK : KM M1 nb t K) :
    ∃ M2, (∀ nn R', f_X8_best_115 (nn + 1) M1 R' (nI W) (nI c0) (nI X) (nI t) 1 = bd (f_X8_goesOn_4 1000000 M2 R' (nI t + (-1))) (fun z => f_X8_best_115 nn z.2 R' (nI W) (nI c0) (nI X) (nI t) z.1)) ∧ RA M M2 ∧ TR M2 t pr ∧ KM M2 nb t (dfs M W X c0 nb t 0 pr K) := by
  have hb : nb ≤ 4 := hy.2.2.2.2.2.2.1
  have hWX : W * X ≤ 20 * 300 := Nat.mul_le_mul hy.2.2.2.2.1 hy.2.2.2.2.2.1
  have hok := (st_ok (c0 := c0) (pr := pr) hy hc t hpr).1
  obtain ⟨M2, a1, a2, a3, a4⟩ := runs_ok hy hc ht hpr h2 hRA hTR
  have hRA2 : RA M M2 := fun b k q1 q2 => (a4 b k (by omega) (by omega) (by omega)).trans (hRA b k q1 q2)
  have hK2 : KM M2 nb t K := hK.cong (fun b k q => a4 b k (by omega) (by omega) (by omega))
  have hTR2 : TR M2 t pr := fun j hj => by rw [a4 _ _ (by omega) (by omega) (by omega)]; exact hTR j hj
  have hB := fun R' => isB8 (R := R') (c := (st M W X c0 pr t).1) hb a2 (by rw [hRA2 _ _ (by omega) (by omega)]; exact h2) hK2 (by omega)
  have go : ∀ nn (A : MI) R', f_X8_best_222 (f_X8_best_115 nn) A R' (nI W) (nI c0) (nI X) (nI t) = bd (f_X8_goesOn_4 1000000 A R' (nI t + (-1))) (fun z => f_X8_best_115 nn z.2 R' (nI W) (nI c0) (nI X) (nI t) z.1) := by
    intro nn A R'
    unfold f_X8_best_222 f_X8_goesOn
    rw [show nI t - 1 = nI t + (-1) from Int32.sub_eq_add_neg ..]
  unfold dfs
  by_cases q : bet nb (st M W X c0 pr t).1 (st M W X c0 pr t).2.2 K = true
  · obtain ⟨M3, b1, b2, -, b4⟩ := kb149 (x1 := nI W) (x2 := nI c0) (x3 := nI X) ht t 0 1000000 (p2 M2 100 48 (nI (st M W X c0 pr t).1)) (by omega) (by omega)
    obtain ⟨M4, d1, d2, -, d4⟩ := kb193 (x1 := nI W) (x2 := nI c0) (x3 := nI X) (x4 := nI t) hb nb 0 1000000 M3 (by omega) (by omega) (by rw [b4 _ _ (by omega) (by omega), p2_off (by omega), hRA2 _ _ (by omega) (by omega)]; exact h2)
    refine ⟨M4, fun nn R' => ?_, fun b k q1 q2 => ?_, fun j hj => ?_, ?_⟩
    · rw [f_X8_best_115.eq_2, if_neg i10, a1 R', bd_def]
      simp only [hB R', bd_def, if_pos q, if_neg i10, lt_def]
      refine (b1 _ R').trans ?_
      refine (d1 _ R').trans ?_
      exact go nn M4 R'
    · rw [d4 b k (by omega), b4 b k (by omega) (by omega), p2_off (by omega)]; exact hRA2 b k q1 q2
    · rw [d4 _ _ (by omega), b4 _ _ (by omega) (by omega), p2_off (by omega)]; exact hTR2 j hj
    · rw [if_pos q]
      refine ⟨?_, Or.inr ⟨fun i hi => ?_, fun i hi => ?_⟩⟩
      · rw [d4 _ _ (by omega), b4 _ _ (by omega) (by omega), p2_hit rfl rfl]; rfl
      · rw [d2 i (by omega) hi, b4 _ _ (by omega) (by omega), p2_off (by omega)]; exact a2 i hi
      · rw [d4 _ _ (by omega), d4 _ _ (by omega), (b2 i (by omega) hi).1, (b2 i (by omega) hi).2, p2_off (by omega), p2_off (by omega)]
        exact ⟨hTR2 i hi, a3 i hi⟩
  · refine ⟨M2, fun nn R' => ?_, hRA2, hTR2, by rw [if_neg q]; exact hK2⟩
    rw [f_X8_best_115.eq_2, if_neg i10, a1 R', bd_def]
    simp only [hB R', bd_def, if_neg q, if_pos]
    exact go nn M2 R'
/-- the next row -/
theorem g18 {M : MI} {nb d : Nat} (hb : nb ≤ 4) (hd : d < 6) (h2 : M 100 2 = nI nb) : ∀ (j k nn : Nat), k + j = nb → j < nn → ∃ k', k ≤ k' ∧ k' ≤ nb ∧ (∀ i, k ≤ i → i < k' → ¬ M 109 i = 0) ∧ (k' = nb ∨ M 109 k' = 0) ∧ ∀ (k4 : MI → MR → Int32 → Option (Int32 × MI)) (R : MR), f_X8_goesOn_18 k4 nn (p2 M 153 d (nI k)) R (nI d) = f_X8_goesOn_58 k4 (p2 M 153 d (nI k')) R (nI d) := by
  have hcl : (nI d).toNatClampNeg = d := nI_clamp (by omega)
  have hx : ix (nI d) (ln 153) := ix_nI (show d < 6 by omega) (by decide)
  intro j
  induction j with
  | zero =>
    intro k nn hk hn
    obtain ⟨nn, rfl⟩ : ∃ m, nn = m + 1 := ⟨nn - 1, by omega⟩
    refine ⟨k, by omega, by omega, fun i h1 h3 => by omega, Or.inl (by omega), fun k4 R => ?_⟩
    rw [f_X8_goesOn_18.eq_2, gd_pos hx]
    simp only [hcl]
    rw [p2_off (by omega), h2, p2_hit rfl rfl, if_pos (nI_le (by omega) (by omega))]
  | succ j ih =>
    intro k nn hk hn
    obtain ⟨nn, rfl⟩ : ∃ m, nn = m + 1 := ⟨nn - 1, by omega⟩
    have hclk : (nI k).toNatClampNeg = k := nI_clamp (by omega)
    have hxk : ix (nI k) (ln 109) := ix_nI (show k < 4 by omega) (by decide)
    by_cases e : M 109 k = 0
    · refine ⟨k, by omega, by omega, fun i h1 h3 => by omega, Or.inr e, fun k4 R => ?_⟩
      rw [f_X8_goesOn_18.eq_2, gd_pos hx]
      simp only [hcl, gd_pos hx]
      rw [p2_off (by omega), h2, p2_hit rfl rfl, if_neg (nI_ge (by omega) (by omega)), gd_pos hxk, hclk, p2_off (by omega), if_pos e]
    · obtain ⟨k', a1, a2, a3, a4, a5⟩ := ih (k + 1) nn (by omega) (by omega)
      refine ⟨k', by omega, a2, fun i h1 h3 => ?_, a4, fun k4 R => ?_⟩
      · by_cases z : i = k
        · rw [z]; exact e
        · exact a3 i (by omega) h3
      · rw [f_X8_goesOn_18.eq_2, gd_pos hx]
        simp only [hcl, gd_pos hx]
        rw [p2_off (by omega), h2, p2_hit rfl rfl, if_neg (nI_ge (by omega) (by omega)), gd_pos hxk, hclk, p2_off (by omega), if_neg e, lt_def, p2_p2, nI_1, a5 k4 R]
theorem g80 {M : MI} {k4 : MI → MR → Int32 → Option (Int32 × MI)} {R : MR} {nb d fs : Nat} (hb : nb ≤ 4) (hd : d < 6) (hfs : fs < nb) (hf0 : M 109 fs = 0) (hfl : ∀ i, i < fs → ¬ M 109 i = 0) : ∀ (j k nn : Nat), k + j = fs → j < nn → f_X8_goesOn_80 k4 nn (p2 M 153 d (nI k)) R (nI d) = k4 (p2 M 153 d (nI fs)) R (nI d + (-1)) := by
  have hcl : (nI d).toNatClampNeg = d := nI_clamp (by omega)
  have hx : ix (nI d) (ln 153) := ix_nI (show d < 6 by omega) (by decide)
  intro j
  induction j with
  | zero =>
    intro k nn hk hn
    obtain ⟨nn, rfl⟩ : ∃ m, nn = m + 1 := ⟨nn - 1, by omega⟩
    have hk : k = fs := by omega
    subst hk
    have hclk : (nI k).toNatClampNeg = k := nI_clamp (by omega)
    rw [f_X8_goesOn_80.eq_2, gd_pos hx]
    simp only [hcl]
    rw [p2_hit rfl rfl, gd_pos (show ix (nI k) (ln 109) from ix_nI (show k < 4 by omega) (by decide)), hclk, p2_off (by omega), if_pos hf0]
  | succ j ih =>
    intro k nn hk hn
    obtain ⟨nn, rfl⟩ : ∃ m, nn = m + 1 := ⟨nn - 1, by omega⟩
    have hclk : (nI k).toNatClampNeg = k := nI_clamp (by omega)
    rw [f_X8_goesOn_80.eq_2, gd_pos hx]
    simp only [hcl, gd_pos hx]
    rw [p2_hit rfl rfl, gd_pos (show ix (nI k) (ln 109) from ix_nI (show k < 4 by omega) (by decide)), hclk, p2_off (by omega), if_neg (hfl k (by omega)), lt_def, p2_p2, nI_1]
    exact ih (k + 1) nn (by omega) (by omega)
