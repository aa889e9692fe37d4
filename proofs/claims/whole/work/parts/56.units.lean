/-! ===== UNITS, the same on both sides ===== -/
theorem fl_eqR {C M : MI} {R : MR} {r : Nat} (hG : rR C M r) (hr : r = 23 ∨ r = 26) (x : Int32) : ∃ v, f_X5_flowAt C R r x = some v ∧ (∀ R', f_X8_flowAt M R' x = some v) ∧ rg v 0 500 := by
  obtain ⟨v, e5, e8, hv⟩ := fl_eq (R := R) hG hr x
  refine ⟨v, e5, fun R' => ?_, hv⟩
  obtain ⟨f, h8, hf, hc⟩ := hG.2.2.2.2.2.2.2.2.2.2
  obtain ⟨F, hF8, hF⟩ : ∃ F, F ≤ 8 ∧ M 100 36 = nI F := by
    rcases hc with h | h
    · exact ⟨1, by omega, h.2.1⟩
    · exact ⟨f, h8, h.2.1⟩
  have a1 : f_X8_flowAt M R x = some (flW (M 138) (M 139) x F 0 0) := f8_fl hF hF8 F 0 0 1000000 (by omega) (by omega)
  have a2 : f_X8_flowAt M R' x = some (flW (M 138) (M 139) x F 0 0) := f8_fl hF hF8 F 0 0 1000000 (by omega) (by omega)
  rw [a2, ← a1]; exact e8
theorem mn_lt {a b : Nat} (ha : a < 2 ^ 31) (hb : b < 2 ^ 31) : (if nI a < nI b then nI a else nI b) = nI (min a b) := by
  by_cases h : a < b
  · rw [if_pos (nI_lt h hb), Nat.min_eq_left (by omega)]
  · rw [if_neg (nI_nlt (by omega) ha), Nat.min_eq_right (by omega)]
theorem mn_le {α : Type} {f : Int32 → α} {a b : Nat} (ha : a < 2 ^ 31) (hb : b < 2 ^ 31) : (if nI a ≤ nI b then f (nI a) else f (nI b)) = f (nI (min a b)) := by
  by_cases h : a ≤ b
  · rw [if_pos (nI_le h hb), Nat.min_eq_left h]
  · rw [if_neg (nI_ge (by omega) ha), Nat.min_eq_right (by omega)]
theorem lk_eq {I : MI} {R : MR} {o W X D : Nat} (h0 : I o 0 = nI W) (h1 : I o 1 = nI D) (h2 : I o 2 = nI X) (hWX : W * X < 2 ^ 30) (hD : D < 2 ^ 30) : f_X2_lacks I R o = some (nI (W * X - D)) ∧ f_X0_lacks I R o = some (nI (W * X - D)) := by
  have e : (if (0 : Int32) < ((I o 0) * (I o 2)) - (I o 1) then ((I o 0) * (I o 2)) - (I o 1) else (0 : Int32)) = nI (W * X - D) := by
    rw [h0, h1, h2, pk_mul]
    by_cases h : D < W * X
    · rw [pk_sub (by omega), if_pos (show (0 : Int32) < nI (W * X - D) from nI_lt (a := 0) (by omega) (by omega))]
    · rw [if_neg, show W * X - D = 0 by omega]
      · rfl
      · rw [tI_lt, pk_sub_toInt hWX hD]
        have : (0 : Int32).toInt = 0 := by decide
        omega
  unfold f_X2_lacks f_X0_lacks
  simp only [lt_def, e, and_self]
theorem un_eq {C M : MI} {R : MR} {r : Nat} (hG : rR C M r) (hr : r = 23 ∨ r = 26) {o1 o2 V B W D X : Nat} {wm : Int32}
    (k0 : C o1 0 = nI V) (k1 : C o1 1 = nI B) (k2 : C o2 0 = nI W) (k3 : C o2 1 = nI D) (k4 : C o2 2 = nI X) (k5 : C o2 3 = wm)
    (v1 : 1 ≤ V) (v2 : V ≤ 100) (hB : B ≤ 40000) (w1 : 1 ≤ W) (w2 : W ≤ 20) (hX : X ≤ 300) (hD : D ≤ W * X) (q1 : -300 ≤ wm.toInt) (q2 : wm.toInt ≤ 2000) :
    ∃ u G f : Nat, f_X5_unitsOver C R r o1 o2 = some (nI u) ∧ (∀ R', f_X8_units M R' (nI V) (nI B) (nI W) (nI D) (nI X) wm = some (nI u)) ∧ u ≤ 500 ∧ u ≤ B ∧ D + u ≤ W * X ∧ C r 0 = nI G ∧ M 143 0 = nI G ∧ G ≤ 100 ∧ wm.toInt + ((u * G / W : Nat) : Int) ≤ 2000 ∧ u ≤ f ∧ f ≤ 500 ∧ ∃ x, f_X5_flowAt C R r x = some (nI f) := by
  obtain ⟨v, e5, e8, hv⟩ := fl_eqR (R := R) hG hr (nI B / nI V - nI D / nI W)
  obtain ⟨f, hf, rfl⟩ := nI_of_rg hv
  have hWX : W * X ≤ 20 * 300 := Nat.mul_le_mul w2 hX
  have hBW : B * W ≤ 40000 * 20 := Nat.mul_le_mul hB w2
  have hDV : D * V ≤ 6000 * 100 := Nat.mul_le_mul (by omega) v2
  obtain ⟨g0, g1, g2, g3, g4, rg0, rg1, rg2, rg3, rg4, -⟩ := hG
  obtain ⟨G, hG1, hG2⟩ := nI_of_rg rg0
  obtain ⟨L, hL1, hL2⟩ := nI_of_rg rg2
  have pV : f_X0_pressure C R o1 = some (nI B / nI V) := by
    simp only [f_X0_pressure, k0, k1, if_pos (show (1 : Int32) ≤ nI V from nI_le (a := 1) v1 (by omega)), gd_pos (nI_ne0 v1 (by omega))]
  have pW : f_X2_pressure C R o2 = some (nI D / nI W) := by
    simp only [f_X2_pressure, k2, k3, if_pos (show (1 : Int32) ≤ nI W from nI_le (a := 1) w1 (by omega)), gd_pos (nI_ne0 w1 (by omega))]
  have z0 : (0 : Int32).toInt = 0 := by decide
  -- even
  have hE : (B * W - D * V) / (V + W) ≤ B := by
    refine Nat.div_le_of_le_mul ?_
    have : B * W ≤ (V + W) * B := by rw [Nat.add_mul, Nat.mul_comm B W]; omega
    omega
  have sE := pk_sub_toInt (a := B * W) (b := D * V) (by omega) (by omega)
  have ev5 : f_X5_unitsToEven C R r o1 o2 = some (nI ((B * W - D * V) / (V + W))) := by
    simp only [f_X5_unitsToEven, lt_def, k0, k1, k2, k3, pk_mul, nI_add]
    by_cases h : B * W ≤ D * V
    · rw [if_pos (by rw [tI_le, sE]; omega), show B * W - D * V = 0 by omega, Nat.zero_div]; rfl
    · rw [if_neg (by rw [tI_le, sE]; omega), if_pos (show (1 : Int32) ≤ nI (V + W) from nI_le (a := 1) (by omega) (by omega)), gd_pos (nI_ne0 (by omega) (by omega)), pk_sub (by omega), pk_div (by omega) (by omega) (by omega)]
  -- lacks
  have lk := (lk_eq (R := R) k2 k3 k4 (by omega) (by omega)).1
  -- room
  have e10 : (10 : Int32) = nI 10 := rfl
  have hroom : (10 * C r 2 - wm).toInt = 10 * (L : Int) - wm.toInt := by
    rw [g2, hL2, e10, pk_mul, Int32.toInt_sub, nI_toInt (by omega), Int.bmod_eq_of_le (by omega) (by omega)]
    omega
  have hroom8 : (10 * M 143 2 - wm).toInt = 10 * (L : Int) - wm.toInt := by rw [← g2]; exact hroom
  have c0 : (0 : Int32).toNatClampNeg = 0 := by decide
  have c2 : (2 : Int32).toNatClampNeg = 2 := by decide
  have i2 : ix 2 (ln 143) := ⟨by decide, by decide⟩
  have i0 : ix 0 (ln 143) := ⟨by decide, by decide⟩
  -- the reference down to the room
  have r8 : ∀ R', f_X8_units M R' (nI V) (nI B) (nI W) (nI D) (nI X) wm = f_X8_units_80 M R' (nI W) wm (nI (min (min f ((B * W - D * V) / (V + W))) (W * X - D))) := by
    intro R'
    have e55 : ∀ y : Nat, y ≤ 500 → f_X8_units_55 M R' (nI W) (nI D) (nI X) wm (nI y) = f_X8_units_80 M R' (nI W) wm (nI (min y (W * X - D))) := by
      intro y hy
      simp only [f_X8_units_55, pk_mul, pk_sub hD]
      exact mn_le (by omega) (by omega)
    have e39 : ∀ y : Nat, y ≤ B → f_X8_units_39 M R' (nI W) (nI D) (nI X) wm (nI f) (nI y) = f_X8_units_55 M R' (nI W) (nI D) (nI X) wm (nI (min f y)) := by
      intro y hy
      simp only [f_X8_units_39]
      exact mn_le (f := fun z => f_X8_units_55 M R' (nI W) (nI D) (nI X) wm z) (by omega) (by omega)
    rw [← e55 _ (by omega), ← e39 _ hE]
    simp only [f_X8_units, gd_pos (nI_ne0 (n := V) (by omega) (by omega)), gd_pos (nI_ne0 (n := W) (by omega) (by omega)), e8 R', bd_def, pk_mul, nI_add]
    by_cases h : D * V ≤ B * W
    · rw [if_pos (by rw [tI_le, sE]; omega), gd_pos (nI_ne0 (by omega) (by omega)), pk_sub h, pk_div (by omega) (by omega) (by omega), Nat.add_comm W V]
    · rw [if_neg (by rw [tI_le, sE]; omega), show B * W - D * V = 0 by omega, Nat.zero_div]; rfl
  have m1 : (if nI ((B * W - D * V) / (V + W)) < nI f then nI ((B * W - D * V) / (V + W)) else nI f) = nI (min ((B * W - D * V) / (V + W)) f) := mn_lt (by omega) (by omega)
  have m2 : (if nI (W * X - D) < nI (min ((B * W - D * V) / (V + W)) f) then nI (W * X - D) else nI (min ((B * W - D * V) / (V + W)) f)) = nI (min (W * X - D) (min ((B * W - D * V) / (V + W)) f)) := mn_lt (by omega) (by omega)
  obtain ⟨y, hy⟩ : ∃ y, y = min (W * X - D) (min ((B * W - D * V) / (V + W)) f) := ⟨_, rfl⟩
  have hy8 : min (min f ((B * W - D * V) / (V + W))) (W * X - D) = y := by omega
  have hyf : y ≤ f := by omega
  have hyB : y ≤ B := by omega
  have hyL : D + y ≤ W * X := by omega
  have u5 : ∀ t : Nat, t < 2 ^ 31 → f_X5_unitsToLimit C R r o2 = some (nI t) → f_X5_unitsOver C R r o1 o2 = some (nI (min t y)) := by
    intro t ht h
    simp only [f_X5_unitsOver, pV, pW, e5, ev5, lk, h, bd_def, lt_def, m1, m2, ← hy, mn_lt ht (show y < 2 ^ 31 by omega)]
  by_cases hneg : 10 * (L : Int) - wm.toInt < 0
  · have lim : f_X5_unitsToLimit C R r o2 = some (nI 0) := by
      simp only [f_X5_unitsToLimit, lt_def, k5, if_neg (show ¬ 0 ≤ 10 * C r 2 - wm by rw [tI_le, hroom]; omega), nI_0]
    refine ⟨0, G, f, ?_, fun R' => ?_, by omega, by omega, by omega, by rw [g0, hG2], hG2, by omega, by rw [Nat.zero_mul, Nat.zero_div]; omega, by omega, by omega, _, e5⟩
    · have := u5 0 (by omega) lim
      rw [Nat.zero_min] at this; exact this
    · rw [r8 R']
      simp only [f_X8_units_80, gd_pos i2, c2, lt_def, if_neg (show ¬ 0 ≤ 10 * M 143 2 - wm by rw [tI_le, hroom8]; omega), nI_0]
  obtain ⟨P, hP⟩ : ∃ P : Nat, 10 * (L : Int) - wm.toInt = P := ⟨(10 * (L : Int) - wm.toInt).toNat, by omega⟩
  have hP2 : 10 * C r 2 - wm = nI P := by rw [tI_eq, hroom, nI_toInt (by omega)]; omega
  have hP8 : 10 * M 143 2 - wm = nI P := by rw [← g2]; exact hP2
  have pp : (0 : Int32) ≤ nI P := nI_pos' (by omega)
  have e145 : ∀ (R' : MR) (y : Nat), y < 2 ^ 31 → f_X8_units_145 M R' (nI y) = some (nI y) := fun R' y h => by
    simp only [f_X8_units_145, if_pos (nI_pos' h)]
  by_cases hG0 : G = 0
  · have lim : f_X5_unitsToLimit C R r o2 = some (nI 500) := by
      simp only [f_X5_unitsToLimit, lt_def, k5, hP2, if_pos pp, g0, hG2, hG0, if_neg (show ¬ (1 : Int32) ≤ nI 0 by decide)]; rfl
    refine ⟨y, G, f, ?_, fun R' => ?_, by omega, by omega, by omega, by rw [g0, hG2], hG2, by omega, by rw [hG0, Nat.mul_zero, Nat.zero_div]; omega, hyf, by omega, _, e5⟩
    · have := u5 500 (by omega) lim
      rw [Nat.min_eq_right (by omega)] at this; exact this
    · rw [r8 R', hy8]
      simp only [f_X8_units_80, gd_pos i2, gd_pos i0, c2, c0, lt_def, hP8, if_pos pp, hG2, hG0, if_pos (show nI 0 ≤ 0 by decide)]
      exact e145 R' y (by omega)
  · have hPW : (P + 1) * W ≤ 2301 * 20 := Nat.mul_le_mul (by omega) w2
    have hPW1 : 1 * 1 ≤ (P + 1) * W := Nat.mul_le_mul (by omega) w1
    have e1 : ((nI P + 1) * nI W - 1) / nI G = nI (((P + 1) * W - 1) / G) := by
      rw [nI_1, pk_mul, show (1 : Int32) = nI 1 from rfl, pk_sub (by omega), pk_div (by omega) (by omega) (by omega)]
    have hT : ((P + 1) * W - 1) / G < 2 ^ 31 := Nat.lt_of_le_of_lt (Nat.div_le_self _ _) (by omega)
    have lim : f_X5_unitsToLimit C R r o2 = some (nI (((P + 1) * W - 1) / G)) := by
      simp only [f_X5_unitsToLimit, lt_def, k5, k2, hP2, if_pos pp, g0, hG2, if_pos (show (1 : Int32) ≤ nI G from nI_le (a := 1) (by omega) (by omega)), gd_pos (nI_ne0 (n := G) (by omega) (by omega)), e1]
    refine ⟨min (((P + 1) * W - 1) / G) y, G, f, u5 _ hT lim, fun R' => ?_, by omega, by omega, by omega, by rw [g0, hG2], hG2, by omega, ?_, by omega, by omega, _, e5⟩
    · rw [r8 R', hy8]
      simp only [f_X8_units_80, gd_pos i2, gd_pos i0, c2, c0, lt_def, hP8, if_pos pp, hG2, if_neg (show ¬ nI G ≤ 0 from nI_nle (by omega) (by omega)), gd_pos (nI_ne0 (n := G) (by omega) (by omega)), e1, f_X8_units_143]
      rw [mn_le (by omega) hT, e145 R' _ (by omega), Nat.min_comm]
    · have a1 : min (((P + 1) * W - 1) / G) y * G ≤ (P + 1) * W - 1 := by
        refine Nat.le_trans (Nat.mul_le_mul_right G (Nat.min_le_left _ _)) (Nat.div_mul_le_self _ _)
      have a2 : min (((P + 1) * W - 1) / G) y * G / W < P + 1 := by
        rw [Nat.div_lt_iff_lt_mul (by omega)]; omega
      omega
