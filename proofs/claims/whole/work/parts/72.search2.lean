/-! ===== BEST: the class's search, its loops ===== -/
theorem s65 {M C0 : MI} {R : MR} {r W X c0 nb t F d : Nat} {pr : Nat → Nat} {f : Nat → KS → KS} {srch : MI → MR → Nat → Int32 → Option MI} (hR : R13 R) (hy : Hy C0 M r W X nb) (hc : c0 ≤ W * X) (hd : d < 6) (hpr : ∀ j, j < d → pr j < nb)
    (ih : ∀ k, k < nb → ∀ (K : KS) C1, SC C1 M r W X c0 nb t F (up pr d k) (d + 1) → KC C1 nb t K → ∃ C2, srch C1 R r (nI (d + 1)) = some C2 ∧ SC C2 M r W X c0 nb t F (up pr d k) (d + 1) ∧ KC C2 nb t (f k K) ∧ SF C1 C2) :
    ∀ (n k nn : Nat) (C : MI) (K : KS), k + n = nb → n < nn → SC C M r W X c0 nb t F pr d → KC C nb t K → ∃ C2, f_X4_search_65 srch nn C R r (nI d) (nI k) = some C2 ∧ SC C2 M r W X c0 nb t F pr d ∧ KC C2 nb t (each M f n k K) ∧ SF C C2 := by
  have hb : nb ≤ 4 := hy.2.2.2.2.2.2.1
  intro n
  induction n with
  | zero =>
    intro k nn C K hk hn h hK
    obtain ⟨nn, rfl⟩ : ∃ m, nn = m + 1 := ⟨nn - 1, by omega⟩
    refine ⟨C, ?_, h, hK, SF.rf⟩
    rw [f_X4_search_65.eq_2, h.1.2.1, if_pos (nI_le (by omega) (by omega))]
  | succ n ihn =>
    intro k nn C K hk hn h hK
    obtain ⟨nn, rfl⟩ : ∃ m, nn = m + 1 := ⟨nn - 1, by omega⟩
    have hcl : (nI k).toNatClampNeg = k := nI_clamp (by omega)
    have st7 : f_X4_search_65 srch (nn + 1) C R r (nI d) (nI k) = if M 109 k = 0 then bd (f_X4_drawAndGoOn srch C R r (nI k) (nI d)) (fun z_98 => f_X4_search_65 srch nn z_98 R r (nI d) (nI (k + 1))) else f_X4_search_65 srch nn C R r (nI d) (nI (k + 1)) := by
      rw [f_X4_search_65.eq_2, h.1.2.1, if_neg (nI_ge (by omega) (by omega)), if_neg (show ¬ (4 : Int32) ≤ nI k from nI_ge (a := k) (b := 4) (by omega) (by omega)), gd_pos (show ix (nI k) (ln 13) from ix_nI (show k < 4 by omega) (by decide))]
      simp only [hcl, hR k (by omega), mt_def, (h.2.2.1 k (by omega)).2.2.2, nI_1]
    unfold each
    by_cases e : M 109 k = 0
    · obtain ⟨C1, a1, a2, a3, a4⟩ := draw_go hR hy hc hd hpr (show k < nb by omega) h hK (ih k (by omega) K)
      obtain ⟨C2, b1, b2, b3, b4⟩ := ihn (k + 1) nn C1 (f k K) (by omega) (by omega) a2 a3
      exact ⟨C2, by rw [st7, if_pos e, a1, bd_def, b1], b2, by rw [if_pos e]; exact b3, a4.tr b4⟩
    · obtain ⟨C2, b1, b2, b3, b4⟩ := ihn (k + 1) nn C K (by omega) (by omega) h hK
      exact ⟨C2, by rw [st7, if_neg e, b1], b2, by rw [if_neg e]; exact b3, b4⟩
theorem srch_ok {M C0 : MI} {R : MR} {r W X c0 nb t F : Nat} (hR : R13 R) (hy : Hy C0 M r W X nb) (hc : c0 ≤ W * X) (ht : t ≤ 6) (hF : ∀ x f, f ≤ 500 → (∀ R', f_X8_flowAt M R' x = some (nI f)) → f ≤ F) (hF5 : F ≤ 500) :
    ∀ (m dd : Nat) (pr : Nat → Nat) (C : MI) (K : KS), m ≤ t → m < dd → (∀ j, j < t - m → pr j < nb) → SC C M r W X c0 nb t F pr (t - m) → KC C nb t K → ∃ C2, f_X4_search dd C R r (nI (t - m)) = some C2 ∧ SC C2 M r W X c0 nb t F pr (t - m) ∧ KC C2 nb t (dfs M W X c0 nb t m pr K) ∧ SF C C2 := by
  have hb : nb ≤ 4 := hy.2.2.2.2.2.2.1
  have hr := hy.1
  have hWX : W * X ≤ 20 * 300 := Nat.mul_le_mul hy.2.2.2.2.1 hy.2.2.2.2.2.1
  intro m
  induction m with
  | zero =>
    intro dd pr C K hm hdd hpr h hK
    obtain ⟨dd, rfl⟩ : ∃ n, dd = n + 1 := ⟨dd - 1, by omega⟩
    have hok := st_ok (c0 := c0) (pr := pr) hy hc t (by simpa using hpr)
    rw [Nat.sub_zero] at h ⊢
    have h0 := h
    obtain ⟨⟨g1, g2, g3, g4, g5⟩, ⟨a0, a1, a2, a3⟩, hs, hrow⟩ := h
    have lk := (lk_eq (R := R) a0 a1 a2 (by omega) (by have := hok.1; omega)).1
    have hm0 : (nI t - nI t) * nI F = nI 0 := by rw [Int32.sub_self, Int32.zero_mul]; rfl
    have e1 : (if (nI t - nI t) * nI F < nI (W * X - (st M W X c0 pr t).1) then (nI t - nI t) * nI F else nI (W * X - (st M W X c0 pr t).1)) = nI 0 := by
      rw [hm0, mn_lt (by omega) (by omega), Nat.zero_min]
    have hB := isB7 (c := (st M W X c0 pr t).1) hR hb (fun k hk => (hs k hk).2.2.1) g2 hK (by have := hok.1; omega)
    rw [f_X4_search.eq_2, lk, bd_def, g4, g5, e1, lt_def, a1, nI_add, Nat.add_zero, hB, bd_def]
    unfold dfs
    by_cases q : bet nb (st M W X c0 pr t).1 (st M W X c0 pr t).2.2 K = true
    · rw [if_pos q, if_neg i10, if_neg (nI_pos (by omega)), if_pos (nI_le (by omega) (by omega)), if_pos q]
      obtain ⟨C2, b1, b2, b3, b4⟩ := keep_ok (R := R) hR hr hb ht h0
      refine ⟨C2, ?_, b2, b3, b4⟩
      unfold f_X4_search_57
      rw [b1, bd_def]
    · rw [if_neg q, if_pos rfl, if_neg q]
      exact ⟨C, rfl, h0, hK, SF.rf⟩
  | succ m ih =>
    intro dd pr C K hm hdd hpr h hK
    obtain ⟨dd, rfl⟩ : ∃ n, dd = n + 1 := ⟨dd - 1, by omega⟩
    have hok := st_ok (c0 := c0) (pr := pr) hy hc (t - (m + 1)) hpr
    have hprune := prune (c0 := c0) (t := t) hy hc hF (m + 1) pr K hm hpr
    obtain ⟨d, hd⟩ : ∃ d, d = t - (m + 1) := ⟨_, rfl⟩
    have hd1 : t - m = d + 1 := by omega
    rw [← hd] at h hok hpr hprune ⊢
    have h0 := h
    obtain ⟨⟨g1, g2, g3, g4, g5⟩, ⟨a0, a1, a2, a3⟩, hs, hrow⟩ := h
    have hokc := hok.1
    have hmF : (m + 1) * F ≤ 6 * 500 := Nat.mul_le_mul (by omega) hF5
    have lk := (lk_eq (R := R) a0 a1 a2 (by omega) (by omega)).1
    have e0 : (nI t - nI d) * nI F = nI ((m + 1) * F) := by
      rw [pk_sub (by omega), pk_mul, show t - d = m + 1 by omega]
    have e1 : (if (nI t - nI d) * nI F < nI (W * X - (st M W X c0 pr d).1) then (nI t - nI d) * nI F else nI (W * X - (st M W X c0 pr d).1)) = nI (min ((m + 1) * F) (W * X - (st M W X c0 pr d).1)) := by
      rw [e0, mn_lt (by omega) (by omega)]
    have hB := isB7 (c := (st M W X c0 pr d).1 + min ((m + 1) * F) (W * X - (st M W X c0 pr d).1)) hR hb (fun k hk => (hs k hk).2.2.1) g2 hK (by omega)
    rw [f_X4_search.eq_2, lk, bd_def, g4, g5, e1, lt_def, a1, nI_add, hB, bd_def]
    by_cases q : bet nb ((st M W X c0 pr d).1 + min ((m + 1) * F) (W * X - (st M W X c0 pr d).1)) (st M W X c0 pr d).2.2 K = true
    · rw [if_pos q, if_neg i10, if_neg (nI_pos (by omega)), if_neg (nI_ge (by omega) (by omega)), if_pos (show nI d < 6 from nI_lt (b := 6) (by omega) (by omega))]
      unfold dfs
      rw [← hd]
      refine s65 (f := fun k K => dfs M W X c0 nb t m (up pr d k) K) hR hy hc (by omega) hpr (fun k hk K C1 h1 h2 => ?_) nb 0 1000000 C K (by omega) (by omega) h0 hK
      rw [← hd1] at h1 ⊢
      refine ih dd (up pr d k) C1 K (by omega) (by omega) (fun j hj => ?_) h1 h2
      by_cases e : j = d
      · rw [up_hit e]; exact hk
      · rw [up_off e]; exact hpr j (by omega)
    · rw [if_neg q, if_pos rfl, hprune (by simpa using q)]
      exact ⟨C, rfl, h0, hK, SF.rf⟩
/-! the most that a flow lets through -/
def mxW (B : Nat → Int32) : Nat → Nat → Int32 → Int32
  | 0, _, u => u
  | d + 1, k, u => mxW B d (k + 1) (if u < B k then B k else u)
theorem mxW_cong {B B2 : Nat → Int32} : ∀ (d k : Nat) (u : Int32), (∀ j, k ≤ j → j < k + d → B j = B2 j) → mxW B d k u = mxW B2 d k u
  | 0, _, _, _ => rfl
  | d + 1, k, u, h => by
    unfold mxW
    rw [h k (by omega) (by omega)]
    exact mxW_cong d (k + 1) _ (fun j h1 h2 => h j (by omega) (by omega))
theorem mxW_ge {B : Nat → Int32} : ∀ (d k : Nat) (u : Int32), u.toInt ≤ (mxW B d k u).toInt
  | 0, _, _ => Int.le_refl _
  | d + 1, k, u => by
    unfold mxW
    refine Int.le_trans ?_ (mxW_ge d (k + 1) _)
    by_cases h : u < B k
    · rw [if_pos h]; rw [tI_lt] at h; omega
    · rw [if_neg h]; omega
theorem mxW_rg {B : Nat → Int32} : ∀ (d k : Nat) (u : Int32), rg u 0 500 → (∀ j, k ≤ j → j < k + d → rg (B j) 0 500) → rg (mxW B d k u) 0 500
  | 0, _, _, hu, _ => hu
  | d + 1, k, u, hu, h => by
    unfold mxW
    refine mxW_rg d (k + 1) _ ?_ (fun j h1 h2 => h j (by omega) (by omega))
    split
    · exact h k (by omega) (by omega)
    · exact hu
theorem flW_mx {A B : Nat → Int32} {x : Int32} : ∀ (d k : Nat) (u v : Int32), u.toInt ≤ v.toInt → (flW A B x d k u).toInt ≤ (mxW B d k v).toInt
  | 0, _, _, _, h => h
  | d + 1, k, u, v, h => by
    unfold flW mxW
    refine flW_mx d (k + 1) _ _ ?_
    by_cases h1 : x < A k
    · rw [if_pos h1]
      by_cases h2 : v < B k
      · rw [if_pos h2]; rw [tI_lt] at h2; omega
      · rw [if_neg h2]; exact h
    · rw [if_neg h1]
      by_cases h2 : v < B k
      · rw [if_pos h2]; omega
      · rw [if_neg h2]; rw [tI_lt] at h2; omega
theorem f5_mx {C : MI} {R : MR} {r f : Nat} (hf : C r 7 = nI f) (h8 : f ≤ 8) (hk5 : kd r = 5) : ∀ (d k : Nat) (u : Int32) (nn : Nat), k + d = f → d < nn → f_X5_mostFlow_16 nn C R r u (nI k) = some (mxW (C (r + 2)) d k u) := by
  intro d
  induction d with
  | zero =>
    intro k u nn hk hn
    obtain ⟨nn, rfl⟩ : ∃ m, nn = m + 1 := ⟨nn - 1, by omega⟩
    rw [f_X5_mostFlow_16.eq_2, hf, if_pos (nI_le (by omega) (by omega))]
    rfl
  | succ d ih =>
    intro k u nn hk hn
    obtain ⟨nn, rfl⟩ : ∃ m, nn = m + 1 := ⟨nn - 1, by omega⟩
    have hcl : (nI k).toNatClampNeg = k := nI_clamp (by omega)
    rw [f_X5_mostFlow_16.eq_2, hf, if_neg (nI_ge (by omega) (by omega)), if_neg (show ¬ (8 : Int32) ≤ nI k from nI_ge (a := k) (b := 8) (by omega) (by omega)), (ln5 hk5).2, gd_pos (ix_nI (show k < 8 by omega) (by decide)), hcl, lt_def, nI_1]
    unfold mxW
    exact ih (k + 1) _ nn (by omega) (by omega)
theorem most_ok {C M : MI} {R : MR} {r : Nat} (hG : rR C M r) (hr : r = 23 ∨ r = 26) : ∃ F, F ≤ 500 ∧ f_X5_mostFlow C R r = some (nI F) ∧ ∀ x f, f ≤ 500 → (∀ R', f_X8_flowAt M R' x = some (nI f)) → f ≤ F := by
  obtain ⟨f, h8, hf, hc⟩ := hG.2.2.2.2.2.2.2.2.2.2
  have hk5 := kd_r hr
  rcases hc with ⟨h0, hF, hA, hB⟩ | ⟨h0, hF, hAB⟩
  · subst h0
    refine ⟨20, by omega, ?_, fun x v hv hx => ?_⟩
    · unfold f_X5_mostFlow
      rw [if_pos (by rw [hf]; rfl)]
      exact f5_mx hf h8 hk5 0 0 20 1000000 rfl (by omega)
    · have e8 : f_X8_flowAt M (fun _ _ => none) x = some (flW (M 138) (M 139) x 1 0 0) := f8_fl hF (by omega) 1 0 0 1000000 (by omega) (by omega)
      have h1 := flW_mx (A := M 138) (B := M 139) (x := x) 1 0 0 0 (Int.le_refl _)
      have h2 : (mxW (M 139) 1 0 0).toInt = 20 := by unfold mxW mxW; rw [hB]; decide
      rw [hx] at e8
      rw [← Option.some.inj e8, h2, nI_toInt (by omega)] at h1
      omega
  · have e5 : f_X5_mostFlow C R r = some (mxW (C (r + 2)) f 0 0) := by
      unfold f_X5_mostFlow
      rw [if_neg (by rw [hf]; exact nI_ne0 h0 (by omega))]
      exact f5_mx hf h8 hk5 f 0 0 1000000 (by omega) (by omega)
    have ec : mxW (C (r + 2)) f 0 0 = mxW (M 139) f 0 0 := mxW_cong f 0 0 (fun j _ h2 => (hAB j (by omega)).2.1)
    have hrg := mxW_rg (B := M 139) f 0 0 ⟨by decide, by decide⟩ (fun j _ h2 => (hAB j (by omega)).2.2.2)
    obtain ⟨F, hF5, eF⟩ := nI_of_rg hrg
    refine ⟨F, by omega, by rw [e5, ec, eF], fun x v hv hx => ?_⟩
    have e8 : f_X8_flowAt M (fun _ _ => none) x = some (flW (M 138) (M 139) x f 0 0) := f8_fl hF h8 f 0 0 1000000 (by omega) (by omega)
    have h1 := flW_mx (A := M 138) (B := M 139) (x := x) f 0 0 0 (Int.le_refl _)
    rw [hx] at e8
    rw [← Option.some.inj e8, eF, nI_toInt (by omega), nI_toInt (by omega)] at h1
    omega
/-! the class copies its BANKS -/
theorem copy_ok {M : MI} {R : MR} {nb nc : Nat} {al : Nat → Bool} (hA : gA al R nb nc) (hR : R13 R) (hb : nb ≤ 4) : ∀ (d k nn : Nat) (C : MI), k + d = nb → d < nn → C 11 2 = nI k → (∀ i, i < nb → C (30 + i) 5 = 0 ∨ C (30 + i) 5 = 1) →
    ∃ C2, f_X4_copyBanks_7 nn C R 1 (nI nb) (nI k) = some C2 ∧ C2 11 2 = nI nb ∧ (∀ i, k ≤ i → i < nb → C2 (14 + i) 0 = C (30 + i) 0 ∧ C2 (14 + i) 1 = C (30 + i) 1 ∧ C2 (14 + i) 5 = C (30 + i) 5 ∧ C2 (14 + i) 3 = 0) ∧ (∀ i j, i < k → C2 (14 + i) j = C (14 + i) j) ∧ ∀ b j, ¬ (14 ≤ b ∧ b ≤ 17) → ¬ (b = 11 ∧ j = 2) → C2 b j = C b j := by
  intro d
  induction d with
  | zero =>
    intro k nn C hk hn h2 hl
    obtain ⟨nn, rfl⟩ : ∃ m, nn = m + 1 := ⟨nn - 1, by omega⟩
    refine ⟨C, ?_, by rw [h2, show k = nb by omega], fun i a b => by omega, fun i j _ => rfl, fun b j _ _ => rfl⟩
    rw [f_X4_copyBanks_7.eq_2, if_pos (nI_le (by omega) (by omega))]
  | succ d ih =>
    intro k nn C hk hn h2 hl
    obtain ⟨nn, rfl⟩ : ∃ m, nn = m + 1 := ⟨nn - 1, by omega⟩
    have hcl : (nI k).toNatClampNeg = k := nI_clamp (by omega)
    have hx1 : ix (nI k) (ln 1) := ix_nI (show k < 4 by omega) (by decide)
    have hx13 : ix (nI k) (ln 13) := ix_nI (show k < 4 by omega) (by decide)
    have r1 : R 1 k = some (30 + k) := by rw [hA.2.2.1 k (by omega), if_pos (by omega)]
    obtain ⟨C1, hC1⟩ : ∃ C1, C1 = p2 (p2 (p2 (p2 (p2 C (14 + k) 0 (C (30 + k) 0)) (14 + k) 1 (C (30 + k) 1)) (14 + k) 5 (C (30 + k) 5)) (14 + k) 3 0) 11 2 (nI (k + 1)) := ⟨_, rfl⟩
    have o1 : ∀ b j, b ≠ 14 + k → ¬ (b = 11 ∧ j = 2) → C1 b j = C b j := fun b j q1 q2 => by rw [hC1]; simp (disch := omega) only [p2_off]
    obtain ⟨C2, a1, a2, a3, a4, a5⟩ := ih (k + 1) nn C1 (by omega) (by omega) (by rw [hC1, p2_hit rfl rfl]) (fun i hi => by rw [o1 _ _ (by omega) (by omega)]; exact hl i hi)
    have st7 : f_X4_copyBanks_7 (nn + 1) C R 1 (nI nb) (nI k) = f_X4_copyBanks_7 nn C1 R 1 (nI nb) (nI (k + 1)) := by
      have hlk := hl k (by omega)
      rw [f_X4_copyBanks_7.eq_2, if_neg (nI_ge (by omega) (by omega)), if_neg (show ¬ (4 : Int32) ≤ nI k from nI_ge (a := k) (b := 4) (by omega) (by omega)), if_neg (show ¬ nI (ln 1) ≤ nI k from nI_ge (a := k) (b := 4) (by omega) (by omega)), gd_pos hx1]
      simp only [hcl, r1, mt_def, gd_pos hx13, hR k (by omega), gd_pos hx1, f_X0_copyFrom, lt_def]
      simp (disch := omega) only [p2_off]
      rw [gd_pos hlk, bd_def, nI_1, hC1]
    refine ⟨C2, st7.trans a1, a2, fun i h1 h3 => ?_, fun i j hi => ?_, fun b j h1 h3 => ?_⟩
    · by_cases e : i = k
      · subst e
        rw [a4 i 0 (by omega), a4 i 1 (by omega), a4 i 5 (by omega), a4 i 3 (by omega), hC1]
        simp (disch := omega) only [p2_off, p2_hit, and_self]
      · have := a3 i (by omega) h3
        rw [o1 _ _ (by omega) (by omega), o1 _ _ (by omega) (by omega), o1 _ _ (by omega) (by omega)] at this
        exact this
    · rw [a4 i j (by omega), o1 _ _ (by omega) (by omega)]
    · rw [a5 b j h1 h3, o1 _ _ (by omega) (by omega)]
/-- is there a BANK that is not lost -/
theorem any_ok {C M : MI} {R : MR} {al : Nat → Bool} {nb nc lh : Nat} (hS : gS C M nb nc lh) (hA : gA al R nb nc) (hl : ∀ i, i < nb → C (30 + i) 5 = M 109 i) : ∀ (d k nn : Nat), k + d = 4 → d < nn →
    (f_X7_anyBankSensed_2 nn C R (nI k) = some 1 ∧ ∃ j, k ≤ j ∧ j < nb ∧ M 109 j = 0) ∨ (f_X7_anyBankSensed_2 nn C R (nI k) = some 0 ∧ ∀ j, k ≤ j → j < nb → ¬ M 109 j = 0) := by
  have hb := hS.2.2.2.2.2.1
  intro d
  induction d with
  | zero =>
    intro k nn hk hn
    obtain ⟨nn, rfl⟩ : ∃ m, nn = m + 1 := ⟨nn - 1, by omega⟩
    refine Or.inr ⟨?_, fun j h1 h2 => by omega⟩
    rw [f_X7_anyBankSensed_2.eq_2, if_pos (show (4 : Int32) ≤ nI k from nI_le (a := 4) (by omega) (by omega))]
  | succ d ih =>
    intro k nn hk hn
    obtain ⟨nn, rfl⟩ : ∃ m, nn = m + 1 := ⟨nn - 1, by omega⟩
    have n4 : ¬ (4 : Int32) ≤ nI k := nI_ge (a := k) (b := 4) (by omega) (by omega)
    by_cases q : k < nb
    · have st7 : f_X7_anyBankSensed_2 (nn + 1) C R (nI k) = if M 109 k = 0 then some 1 else f_X7_anyBankSensed_2 nn C R (nI (k + 1)) := by
        rw [f_X7_anyBankSensed_2.eq_2, if_neg n4, (bk_yes hS hA q).1, bd_def, mt_def, hl k q, nI_1]
      by_cases e : M 109 k = 0
      · exact Or.inl ⟨by rw [st7, if_pos e], k, by omega, q, e⟩
      · rw [st7, if_neg e]
        rcases ih (k + 1) nn (by omega) (by omega) with ⟨a, j, b1, b2, b3⟩ | ⟨a, b⟩
        · exact Or.inl ⟨a, j, by omega, b2, b3⟩
        · refine Or.inr ⟨a, fun j h1 h2 => ?_⟩
          by_cases z : j = k
          · rw [z]; exact e
          · exact b j (by omega) h2
    · have st7 : f_X7_anyBankSensed_2 (nn + 1) C R (nI k) = f_X7_anyBankSensed_2 nn C R (nI (k + 1)) := by
        rw [f_X7_anyBankSensed_2.eq_2, if_neg n4, (bk_no (M := M) (R := R) hS (Or.inr (nI_le (by omega) (by omega)))).1, bd_def, mt_none, nI_1]
      rw [st7]
      rcases ih (k + 1) nn (by omega) (by omega) with ⟨a, j, b1, b2, b3⟩ | ⟨a, b⟩
      · exact Or.inl ⟨a, j, by omega, b2, b3⟩
      · exact Or.inr ⟨a, fun j h1 h2 => by omega⟩
