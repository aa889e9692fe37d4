/-! ===== BEST: all rows of the reference; best ===== -/
theorem each_skip {M : MI} {f : Nat → KS → KS} : ∀ (n' n k : Nat) (K : KS), (∀ i, k ≤ i → i < k + n' → ¬ M 109 i = 0) → each M f (n' + n) k K = each M f n (k + n') K
  | 0, n, k, K, _ => by rw [Nat.zero_add, Nat.add_zero]
  | n' + 1, n, k, K, h => by
    rw [show n' + 1 + n = (n' + n) + 1 by omega]
    show each M f (n' + n) (k + 1) (if M 109 k = 0 then f k K else K) = _
    rw [if_neg (h k (by omega) (by omega)), each_skip n' n (k + 1) K (fun i h1 h2 => h i (by omega) (by omega)), show k + 1 + n' = k + (n' + 1) by omega]
theorem odo {C0 M : MI} {r W X c0 nb t fs : Nat} (hy : Hy C0 M r W X nb) (hc : c0 ≤ W * X) (ht : t ≤ 6) (h2 : M 100 2 = nI nb) (hfs : fs < nb) (hf0 : M 109 fs = 0) (hfl : ∀ i, i < fs → ¬ M 109 i = 0) : ∀ (m : Nat), m ≤ t → ∀ (pr : Nat → Nat) (M1 : MI) (K : KS) (nn : Nat), (∀ j, j < t → pr j < nb) → (∀ j, t - m ≤ j → j < t → pr j = fs) → RA M M1 → TR M1 t pr → KM M1 nb t K → 4 ^ m ≤ nn →
    ∃ M2 nn2 g, nn ≤ nn2 + 4 ^ m ∧ 1000000 ≤ g + m ∧ (∀ R', f_X8_best_115 nn M1 R' (nI W) (nI c0) (nI X) (nI t) 1 = bd (f_X8_goesOn_4 g M2 R' (nI (t - m) + (-1))) (fun z => f_X8_best_115 nn2 z.2 R' (nI W) (nI c0) (nI X) (nI t) z.1)) ∧ RA M M2 ∧ TR M2 t pr ∧ KM M2 nb t (dfs M W X c0 nb t m pr K) := by
  have hb : nb ≤ 4 := hy.2.2.2.2.2.2.1
  intro m
  induction m with
  | zero =>
    intro _ pr M1 K nn hpr hlast hRA hTR hK hnn
    obtain ⟨nn, rfl⟩ : ∃ n, nn = n + 1 := ⟨nn - 1, by omega⟩
    obtain ⟨M2, a1, a2, a3, a4⟩ := row_ok8 hy hc ht hpr h2 hRA hTR hK
    exact ⟨M2, nn, 1000000, by omega, by omega, fun R' => a1 nn R', a2, a3, a4⟩
  | succ m ih =>
    intro hm pr M1 K nn hpr hlast hRA hTR hK hnn
    obtain ⟨d, hd⟩ : ∃ d, d = t - (m + 1) := ⟨_, rfl⟩
    have hd1 : t - m = d + 1 := by omega
    have hdt : d < t := by omega
    have h4m : 0 < 4 ^ m := Nat.pow_pos (by omega)
    have hcld : (nI d).toNatClampNeg = d := nI_clamp (by omega)
    have hxd : ix (nI d) (ln 153) := ix_nI (show d < 6 by omega) (by decide)
    have inner : ∀ (N n k : Nat), n ≤ N → k + n = nb → 0 < n → M 109 k = 0 → ∀ (M1 : MI) (K : KS) (nn : Nat), RA M M1 → TR M1 t (up pr d k) → KM M1 nb t K → n * 4 ^ m ≤ nn →
        ∃ M2 nn2 g, nn ≤ nn2 + n * 4 ^ m ∧ 1000000 ≤ g + (m + 1) ∧ (∀ R', f_X8_best_115 nn M1 R' (nI W) (nI c0) (nI X) (nI t) 1 = bd (f_X8_goesOn_4 g M2 R' (nI d + (-1))) (fun z => f_X8_best_115 nn2 z.2 R' (nI W) (nI c0) (nI X) (nI t) z.1)) ∧ RA M M2 ∧ TR M2 t (up pr d fs) ∧ KM M2 nb t (each M (fun k K => dfs M W X c0 nb t m (up pr d k) K) n k K) := by
      intro N
      induction N with
      | zero => intro n k h1 h2 h3; omega
      | succ N ihN =>
        intro n k hnN hkn hn0 hk0 M1 K nn hRA hTR hK hnn
        obtain ⟨n0, rfl⟩ : ∃ n0, n = n0 + 1 := ⟨n - 1, by omega⟩
        have hmul : (n0 + 1) * 4 ^ m = n0 * 4 ^ m + 4 ^ m := Nat.succ_mul _ _
        have hupk : ∀ j, j < t → up pr d k j < nb := fun j hj => by
          by_cases e : j = d
          · rw [up_hit e]; omega
          · rw [up_off e]; exact hpr j hj
        have hupl : ∀ j, t - m ≤ j → j < t → up pr d k j = fs := fun j h1 h3 => by
          rw [up_off (by omega)]; exact hlast j (by omega) h3
        obtain ⟨M2, nn2, g, a1, a2, a3, a4, a5, a6⟩ := ih (by omega) (up pr d k) M1 K nn hupk hupl hRA hTR hK (by omega)
        obtain ⟨g, rfl⟩ : ∃ g', g = g' + 1 := ⟨g - 1, by omega⟩
        have m109 : ∀ i, M2 109 i = M 109 i := fun i => a4 _ _ (by omega) (by omega)
        have m2 : M2 100 2 = nI nb := by rw [a4 _ _ (by omega) (by omega)]; exact h2
        have hTd : M2 153 d = nI k := by rw [a5 d hdt, up_hit rfl]
        obtain ⟨k', b1, b2, b3, b4, b5⟩ := g18 (M := M2) (nb := nb) (d := d) hb (by omega) m2 n0 (k + 1) 1000000 (by omega) (by omega)
        have gstep : ∀ R', f_X8_goesOn_4 (g + 1) M2 R' (nI (t - m) + (-1)) = f_X8_goesOn_58 (f_X8_goesOn_4 g) (p2 M2 153 d (nI k')) R' (nI d) := by
          intro R'
          rw [hd1, pk_m1, f_X8_goesOn_4.eq_2, if_neg (nI_pos (by omega)), gd_pos hxd]
          simp only [hcld, gd_pos hxd, hTd, lt_def, nI_1]
          exact b5 _ R'
        have hea : each M (fun k K => dfs M W X c0 nb t m (up pr d k) K) (n0 + 1) k K = each M (fun k K => dfs M W X c0 nb t m (up pr d k) K) (nb - k') k' (dfs M W X c0 nb t m (up pr d k) K) := by
          show each M _ n0 (k + 1) (if M 109 k = 0 then _ else K) = _
          rw [if_pos hk0]
          have := each_skip (M := M) (f := fun k K => dfs M W X c0 nb t m (up pr d k) K) (k' - (k + 1)) (nb - k') (k + 1) (dfs M W X c0 nb t m (up pr d k) K) (fun i h1 h3 => by rw [← m109 i]; exact b3 i h1 (by omega))
          rw [show k' - (k + 1) + (nb - k') = n0 by omega, show k + 1 + (k' - (k + 1)) = k' by omega] at this
          exact this
        by_cases hk' : k' = nb
        · refine ⟨p2 M2 153 d (nI fs), nn2, g, by omega, by omega, fun R' => ?_, fun b j q1 q2 => ?_, fun j hj => ?_, ?_⟩
          · rw [a3 R', gstep R']
            unfold f_X8_goesOn_58
            rw [gd_pos hxd]
            simp only [hcld, gd_pos hxd]
            rw [p2_off (by omega), m2, p2_hit rfl rfl, hk', if_pos (nI_le (by omega) (by omega)), lt_def, p2_p2, show (0 : Int32) = nI 0 from rfl, g80 (M := M2) (d := d) hb (by omega) hfs (by rw [m109]; exact hf0) (fun i hi => by rw [m109]; exact hfl i hi) fs 0 1000000 (by omega) (by omega)]
          · rw [p2_off (by omega)]; exact a4 b j q1 q2
          · by_cases e : j = d
            · rw [p2_hit rfl e, up_hit e]
            · rw [p2_off (by omega), up_off e, a5 j hj, up_off e]
          · rw [hea, hk', Nat.sub_self]
            exact a6.cong (fun b j q => p2_off (by omega))
        · have hk0' : M 109 k' = 0 := by
            rcases b4 with z | z
            · exact absurd z hk'
            · rw [← m109]; exact z
          have hmul2 : (nb - k') * 4 ^ m ≤ n0 * 4 ^ m := Nat.mul_le_mul_right _ (by omega)
          obtain ⟨M4, nn4, g4, c1, c2, c3, c4, c5, c6⟩ := ihN (nb - k') k' (by omega) (by omega) (by omega) hk0' (p2 M2 153 d (nI k')) (dfs M W X c0 nb t m (up pr d k) K) nn2 (fun b j q1 q2 => by rw [p2_off (by omega)]; exact a4 b j q1 q2) (fun j hj => by
            by_cases e : j = d
            · rw [p2_hit rfl e, up_hit e]
            · rw [p2_off (by omega), up_off e, a5 j hj, up_off e]) (a6.cong (fun b j q => p2_off (by omega))) (by omega)
          refine ⟨M4, nn4, g4, by omega, c2, fun R' => ?_, c4, c5, by rw [hea]; exact c6⟩
          rw [a3 R', gstep R', ← c3 R']
          unfold f_X8_goesOn_58
          rw [gd_pos hxd]
          simp only [hcld]
          rw [p2_off (by omega), m2, p2_hit rfl rfl, if_neg (nI_ge (by omega) (by omega)), bd_def]
    have hprd : pr d = fs := hlast d (by omega) hdt
    have hupe : ∀ j, up pr d fs j = pr j := fun j => by
      by_cases e : j = d
      · rw [up_hit e, e, hprd]
      · rw [up_off e]
    have hpow : 4 ^ (m + 1) = 4 * 4 ^ m := by rw [Nat.pow_succ, Nat.mul_comm]
    have hmul3 : (nb - fs) * 4 ^ m ≤ 4 * 4 ^ m := Nat.mul_le_mul_right _ (by omega)
    obtain ⟨M2, nn2, g, a1, a2, a3, a4, a5, a6⟩ := inner nb (nb - fs) fs (by omega) (by omega) (by omega) hf0 M1 K nn hRA (fun j hj => by rw [hupe j]; exact hTR j hj) hK (by omega)
    refine ⟨M2, nn2, g, by omega, a2, fun R' => ?_, a4, fun j hj => ?_, ?_⟩
    · rw [← hd]; exact a3 R'
    · rw [← hupe j]; exact a5 j hj
    · unfold dfs
      rw [← hd]
      have := each_skip (M := M) (f := fun k K => dfs M W X c0 nb t m (up pr d k) K) fs (nb - fs) 0 K (fun i _ h3 => hfl i (by omega))
      rw [show fs + (nb - fs) = nb by omega, Nat.zero_add] at this
      rw [this]; exact a6
theorem b90 {x1 x2 x3 : Int32} {t fs : Nat} (ht : t ≤ 6) : ∀ (d k nn : Nat) (M : MI), k + d = t → d < nn → ∃ M2, (∀ R', f_X8_best_90 nn M R' x1 x2 x3 (nI t) (nI fs) (nI k) = f_X8_best_115 1000000 M2 R' x1 x2 x3 (nI t) 1) ∧ (∀ j, k ≤ j → j < t → M2 153 j = nI fs) ∧ (∀ j, j < k → M2 153 j = M 153 j) ∧ ∀ b j, b ≠ 153 → M2 b j = M b j := by
  intro d
  induction d with
  | zero =>
    intro k nn M hk hn
    obtain ⟨nn, rfl⟩ : ∃ m, nn = m + 1 := ⟨nn - 1, by omega⟩
    refine ⟨M, fun R' => ?_, fun j h1 h2 => by omega, fun j _ => rfl, fun b j _ => rfl⟩
    rw [f_X8_best_90.eq_2, if_pos (nI_le (by omega) (by omega))]
  | succ d ih =>
    intro k nn M hk hn
    obtain ⟨nn, rfl⟩ : ∃ m, nn = m + 1 := ⟨nn - 1, by omega⟩
    obtain ⟨M2, q1, q2, q3, q4⟩ := ih (k + 1) nn (p2 M 153 k (nI fs)) (by omega) (by omega)
    refine ⟨M2, fun R' => ?_, fun j h1 h2 => ?_, fun j h1 => ?_, fun b j hb => ?_⟩
    · rw [f_X8_best_90.eq_2, if_neg (nI_ge (by omega) (by omega)), gd_pos (show ix (nI k) (ln 153) from ix_nI (show k < 6 by omega) (by decide)), lt_def, nI_clamp (by omega), nI_1, q1 R']
    · by_cases e : j = k
      · rw [q3 j (by omega), e, p2_hit rfl rfl]
      · exact q2 j (by omega) h2
    · rw [q3 j (by omega), p2_off (by omega)]
    · rw [q4 b j hb, p2_off (by omega)]
/-- the first BANK that is not lost -/
theorem b3 {M : MI} {x1 x2 x3 x4 : Int32} {nb : Nat} (hb : nb ≤ 4) (h2 : M 100 2 = nI nb) : ∀ (d k nn : Nat), k + d = nb → d < nn → ∃ fs, k ≤ fs ∧ fs ≤ nb ∧ (∀ i, k ≤ i → i < fs → ¬ M 109 i = 0) ∧ (fs = nb ∨ M 109 fs = 0) ∧ ∀ R', f_X8_best_3 nn M R' x1 x2 x3 x4 (nI k) = f_X8_best_28 M R' x1 x2 x3 x4 (nI fs) := by
  intro d
  induction d with
  | zero =>
    intro k nn hk hn
    obtain ⟨nn, rfl⟩ : ∃ m, nn = m + 1 := ⟨nn - 1, by omega⟩
    refine ⟨k, by omega, by omega, fun i h1 h3 => by omega, Or.inl (by omega), fun R' => ?_⟩
    rw [f_X8_best_3.eq_2, h2, if_pos (nI_le (by omega) (by omega))]
  | succ d ih =>
    intro k nn hk hn
    obtain ⟨nn, rfl⟩ : ∃ m, nn = m + 1 := ⟨nn - 1, by omega⟩
    have hcl : (nI k).toNatClampNeg = k := nI_clamp (by omega)
    have hx : ix (nI k) (ln 109) := ix_nI (show k < 4 by omega) (by decide)
    by_cases e : M 109 k = 0
    · refine ⟨k, by omega, by omega, fun i h1 h3 => by omega, Or.inr e, fun R' => ?_⟩
      rw [f_X8_best_3.eq_2, h2, if_neg (nI_ge (by omega) (by omega)), gd_pos hx]
      simp only [hcl, if_pos e]
    · obtain ⟨fs, a1, a2, a3, a4, a5⟩ := ih (k + 1) nn (by omega) (by omega)
      refine ⟨fs, by omega, a2, fun i h1 h3 => ?_, a4, fun R' => ?_⟩
      · by_cases z : i = k
        · rw [z]; exact e
        · exact a3 i (by omega) h3
      · rw [f_X8_best_3.eq_2, h2, if_neg (nI_ge (by omega) (by omega)), gd_pos hx]
        simp only [hcl, if_neg e, nI_1, a5 R']
