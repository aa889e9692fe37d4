def bt (x : Int32) (i : Nat) : Bool := x.toBitVec.getLsbD i
theorem b_ext {x y : Int32} (h : ∀ i, i < 32 → bt x i = bt y i) : x = y := Int32.toBitVec_inj.mp (BitVec.eq_of_getLsbD_eq (fun i hi => h i hi))
theorem b_and (x y : Int32) (i : Nat) : bt (x &&& y) i = (bt x i && bt y i) := by unfold bt; rw [Int32.toBitVec_and, BitVec.getLsbD_and]
theorem b_big {x : Int32} {i : Nat} (h : 32 ≤ i) : bt x i = false := BitVec.getLsbD_of_ge _ _ h
theorem b_255 (i : Nat) : bt 255 i = decide (i < 8) := by
  rcases Nat.lt_or_ge i 32 with h | h
  · exact (by decide +kernel : ∀ i, i < 32 → bt 255 i = decide (i < 8)) i h
  · rw [b_big h, decide_eq_false (by omega)]
theorem s_l : ∀ n, n < 32 → ((nI n &&& 31).toBitVec.smod 32).toNat = n := by decide +kernel
theorem s_u : ∀ n, n < 32 → (((nI n).toUInt32 &&& Int32.toUInt32 31).toBitVec % 32).toNat = n := by decide +kernel
theorem b_ushr (n : Nat) (hn : n < 32) (x : Int32) (i : Nat) : bt ((x.toUInt32 >>> ((nI n).toUInt32 &&& Int32.toUInt32 31)).toInt32) i = bt x (n + i) := by
  show (x.toUInt32 >>> ((nI n).toUInt32 &&& Int32.toUInt32 31)).toBitVec.getLsbD i = x.toUInt32.toBitVec.getLsbD (n + i)
  rw [UInt32.toBitVec_shiftRight]
  show (x.toUInt32.toBitVec >>> (((nI n).toUInt32 &&& Int32.toUInt32 31).toBitVec % 32).toNat).getLsbD i = _
  rw [s_u n hn, BitVec.getLsbD_ushiftRight]
theorem b_sshr (n : Nat) (hn : n < 32) (x : Int32) {i : Nat} (hi : i < 32) : bt (x >>> (nI n &&& 31)) i = if n + i < 32 then bt x (n + i) else bt x 31 := by
  unfold bt
  rw [Int32.toBitVec_shiftRight]
  show (x.toBitVec.sshiftRight ((nI n &&& 31).toBitVec.smod 32).toNat).getLsbD i = _
  rw [s_l n hn, BitVec.getLsbD_sshiftRight, BitVec.msb_eq_getLsbD_last]
  simp [hi]
theorem fa_byte_low (x : Int32) : (x &&& 255).toInt8 = x.toInt8 := by
  apply Int8.toBitVec_inj.1
  apply BitVec.eq_of_getLsbD_eq
  intro i hi
  have h2 : (255 : Int32).toBitVec.getLsbD i = true := by
    have : ∀ j : Fin 8, (255 : Int32).toBitVec.getLsbD j.val = true := by decide +kernel
    exact this ⟨i, hi⟩
  have h4 : (x &&& 255).toBitVec.getLsbD i = x.toBitVec.getLsbD i := by
    show (x.toBitVec &&& (255 : Int32).toBitVec).getLsbD i = _
    rw [BitVec.getLsbD_and, h2, Bool.and_true]
  have h3 : i < 32 := by omega
  first
    | (show (((x &&& 255).toBitVec).signExtend 8).getLsbD i = (x.toBitVec.signExtend 8).getLsbD i; rw [BitVec.getLsbD_signExtend, BitVec.getLsbD_signExtend, if_pos h3, if_pos h3, h4])
    | (show (((x &&& 255).toBitVec).setWidth 8).getLsbD i = (x.toBitVec.setWidth 8).getLsbD i; rw [BitVec.getLsbD_setWidth, BitVec.getLsbD_setWidth, h4])
    | (simp [hi, h3, h4]; done)
/-! ===== bytes ===== -/
theorem by_eq (n : Nat) (hn : n ≤ 24) (x : Int32) : ((x.toUInt32 >>> ((nI n).toUInt32 &&& Int32.toUInt32 31)).toInt32).toInt8.toInt32 = (x >>> (nI n &&& 31)).toInt8.toInt32 := by
  have key : ((x.toUInt32 >>> ((nI n).toUInt32 &&& Int32.toUInt32 31)).toInt32) &&& 255 = (x >>> (nI n &&& 31)) &&& 255 := by
    apply b_ext
    intro i hi
    rw [b_and, b_and, b_255, b_ushr n (by omega), b_sshr n (by omega) x hi]
    by_cases h : i < 8
    · rw [if_pos (by omega)]
    · simp [h]
  rw [← fa_byte_low, key, fa_byte_low]
theorem by_rg (x : Int32) : rg (x.toInt8.toInt32) (-128) 127 := by
  unfold rg
  rw [Int8.toInt_toInt32]
  have h1 := x.toInt8.le_toInt
  have h2 := x.toInt8.toInt_lt
  omega
theorem by_nar (x : Int32) : vp_nar .byte x.toInt8.toInt32 = x.toInt8.toInt32 := pk_vb x
theorem ap7 {C : MI} {R : MR} {x s : Int32} {t nn : Nat} (ht : C 6 1 = nI t) (h : t < 200) (hs : ¬ s < 0) : f_X6_append_3 (nn + 1) C R x s = f_X6_append_3 nn (p2 (p2 C 7 t (((x.toUInt32 >>> (s.toUInt32 &&& Int32.toUInt32 31)).toInt32).toInt8.toInt32)) 6 1 (nI (t + 1))) R x (s + (-8)) := by
  rw [f_X6_append_3.eq_2, if_neg hs, ht, if_neg (nI_pos (by omega)), if_neg (show ¬ (200 : Int32) ≤ nI t from nI_ge (a := t) (b := 200) (by omega) (by omega)), gd_pos (show ix (nI t) (ln 7) from ix_nI (show t < 200 by omega) (by decide)), nI_clamp (by omega), by_nar, lt_def, lt_def, p2_off (by omega), ht, nI_1]
theorem ap8 {M : MI} {R : MR} {x s : Int32} {t nn : Nat} (ht : M 100 31 = nI t) (h : t < 200) (hs : ¬ s < 0) : f_X8_four_3 (nn + 1) M R x s = f_X8_four_3 nn (p2 (p2 M 131 t ((x >>> (s &&& 31)).toInt8.toInt32)) 100 31 (nI (t + 1))) R x (s + (-8)) := by
  rw [f_X8_four_3.eq_2, if_neg hs, ht, gd_pos (show ix (nI t) (ln 131) from ix_nI (show t < 200 by omega) (by decide)), nI_clamp (by omega), by_nar, lt_def, lt_def, p2_off (by omega), ht, nI_1]

theorem ap_rel {C M : MI} {R : MR} {nb nc lh r t : Nat} {v w : Int32} (hR : Rel C M R nb nc lh r) (ht : C 6 1 = nI t) (h : t < 200) (hv : rg v (-128) 127) (hvw : w = v) : Rel (p2 (p2 C 7 t w) 6 1 (nI (t + 1))) (p2 (p2 M 131 t v) 100 31 (nI (t + 1))) R nb nc lh r := by
  subst hvw
  obtain ⟨hS, hM, hP, hT, hLg, hB, hC, hH, hG, hN, hw⟩ := hR
  have hb := hS.2.2.2.2.2.1
  have hc := hS.2.2.2.2.2.2.1
  have hlh := hS.2.2.2.2.2.2.2
  refine ⟨((((hS).pC (by omega)).pC (by omega)).pM (by omega)).pM (by omega), ((((hM).pC (by omega)).pC (by omega)).pM (by omega)).pM (by omega), ((((hP).pC (by omega)).pC (by omega)).pM (by omega)).pM (by omega), ?_, ((((hLg).pC (by omega)).pC (by omega)).pM (by omega)).pM (by omega), ((((hB).pC hb (by omega)).pC hb (by omega)).pM (by omega)).pM (by omega), ((((hC).pC hc (by omega)).pC hc (by omega)).pM (by omega)).pM (by omega), ((((hH).pC).pC).pM (by omega)).pM (by omega), ((((hG).pC (by omega)).pC (by omega)).pM (by omega)).pM (by omega), ((((hN).pC (by omega)).pC (by omega)).pM (by omega)).pM (by omega), ((hw).pM (by omega)).pM (by omega)⟩
  refine ⟨by rw [p2_hit rfl rfl, p2_hit rfl rfl], ?_, fun k hk => ?_⟩
  · rw [p2_hit rfl rfl]
    unfold rg
    rw [nI_toInt (by omega)]
    omega
  · by_cases e : k = t
    · subst e
      simp (disch := omega) only [p2_off, p2_hit]
      exact ⟨trivial, hv⟩
    · simp (disch := omega) only [p2_off]
      exact hT.2.2 k hk
theorem ap_four {C M : MI} {R : MR} {nb nc lh r t : Nat} (x : Int32) (hR : Rel C M R nb nc lh r) (ht : C 6 1 = nI t) (h : t + 4 ≤ 200) : ∃ C2 M2, f_X6_append C R x = some C2 ∧ f_X8_four M R x = some M2 ∧ Rel C2 M2 R nb nc lh r ∧ C2 6 1 = nI (t + 4) ∧ fc C C2 ∧ fm M M2 := by
  have one : ∀ (C0 M0 : MI) (k n : Nat) (s s2 : Int32) (nn : Nat), s = nI n → n ≤ 24 → s + (-8) = s2 → ¬ s < 0 → Rel C0 M0 R nb nc lh r → C0 6 1 = nI k → k < 200 → ∃ C1 M1, f_X6_append_3 (nn + 1) C0 R x s = f_X6_append_3 nn C1 R x s2 ∧ f_X8_four_3 (nn + 1) M0 R x s = f_X8_four_3 nn M1 R x s2 ∧ Rel C1 M1 R nb nc lh r ∧ C1 6 1 = nI (k + 1) ∧ fc C0 C1 ∧ fm M0 M1 := by
    intro C0 M0 k n s s2 nn hs hn hs2 h0 hR0 hk hlt
    have hk8 : M0 100 31 = nI k := hR0.2.2.2.1.1 ▸ hk
    have e7 := ap7 (R := R) (x := x) (nn := nn) hk hlt h0
    have e8 := ap8 (R := R) (x := x) (nn := nn) hk8 hlt h0
    rw [hs2] at e7 e8
    refine ⟨_, _, e7, e8, ap_rel hR0 hk hlt (by_rg _) (by rw [hs]; exact by_eq n hn x), by rw [p2_hit rfl rfl], (fc.rf.p2 (by omega)).p2 (by omega), (fm.rf.p2 (by omega)).p2 (by omega)⟩
  obtain ⟨C1, M1, a1, b1, r1, t1, c1, m1⟩ := one C M t 24 24 16 999999 rfl (by omega) (by decide) (by decide) hR ht (by omega)
  obtain ⟨C2, M2, a2, b2, r2, t2, c2, m2⟩ := one C1 M1 (t + 1) 16 16 8 999998 rfl (by omega) (by decide) (by decide) r1 t1 (by omega)
  obtain ⟨C3, M3, a3, b3, r3, t3, c3, m3⟩ := one C2 M2 (t + 2) 8 8 0 999997 rfl (by omega) (by decide) (by decide) r2 t2 (by omega)
  obtain ⟨C4, M4, a4, b4, r4, t4, c4, m4⟩ := one C3 M3 (t + 3) 0 0 (-8) 999996 rfl (by omega) (by decide) (by decide) r3 t3 (by omega)
  refine ⟨C4, M4, ?_, ?_, r4, t4, ((c1.tr c2).tr c3).tr c4, ((m1.tr m2).tr m3).tr m4⟩
  · unfold f_X6_append
    rw [a1, a2, a3, a4, show (999996 : Nat) = 999995 + 1 from rfl, f_X6_append_3.eq_2, if_pos (by decide)]
  · unfold f_X8_four
    rw [b1, b2, b3, b4, show (999996 : Nat) = 999995 + 1 from rfl, f_X8_four_3.eq_2, if_pos (by decide)]
theorem K_feed : LK_feed LI := by
  intro q al I R n y0 y1 y2 y3 y4 h
  refine LK_of (f7 := fun C R => f_X7_feed C R y0 y1 y2 y3 y4) (f8 := fun M R => f_X8_feed M R y0 y1 y2 y3 y4) ?_ q al I R n h
  intro C M R al nb nc lh r hR hA
  obtain ⟨t, ht200, et⟩ := nI_of_rg (x := C 6 1) (b := 200) hR.2.2.2.1.2.1
  have et8 : M 100 31 = nI t := hR.2.2.2.1.1 ▸ et
  by_cases q : t ≤ 180
  · have c7 : C 6 1 ≤ 180 := by rw [et]; exact nI_le (a := t) (b := 180) q (by omega)
    have c8 : M 100 31 + 20 ≤ 200 := by rw [et8]; exact (nI_add t 20).symm ▸ nI_le (a := t + 20) (b := 200) (by omega) (by omega)
    obtain ⟨C1, M1, a1, b1, r1, t1, c1, m1⟩ := ap_four y0 hR et (by omega)
    obtain ⟨C2, M2, a2, b2, r2, t2, c2, m2⟩ := ap_four y1 r1 t1 (by omega)
    obtain ⟨C3, M3, a3, b3, r3, t3, c3, m3⟩ := ap_four y2 r2 t2 (by omega)
    obtain ⟨C4, M4, a4, b4, r4, t4, c4, m4⟩ := ap_four y3 r3 t3 (by omega)
    obtain ⟨C5, M5, a5, b5, r5, t5, c5, m5⟩ := ap_four y4 r4 t4 (by omega)
    exact ⟨C5 6 1, C5, M5, nb, nc, lh, by simp only [f_X7_feed, if_pos c7, a1, a2, a3, a4, a5, bd_def], by simp only [f_X8_feed, if_pos c8, b1, b2, b3, b4, b5, bd_def, r5.2.2.2.1.1], r5, hA, (((c1.tr c2).tr c3).tr c4).tr c5, (((m1.tr m2).tr m3).tr m4).tr m5⟩
  · have c7 : ¬ C 6 1 ≤ 180 := by rw [et]; exact nI_ge (a := 180) (b := t) (by omega) (by omega)
    have c8 : ¬ M 100 31 + 20 ≤ 200 := by rw [et8]; exact (nI_add t 20).symm ▸ nI_ge (a := 200) (b := t + 20) (by omega) (by omega)
    exact ⟨-1, C, M, nb, nc, lh, by simp only [f_X7_feed, if_neg c7], by simp only [f_X8_feed, if_neg c8], hR, hA, fc.rf, fm.rf⟩
/-- a call that makes a cell, out of steps of the two sides on their own -/
theorem LK_ofA {f7 : (Nat → Nat) → MI → MR → (Nat → Bool) → Nat → Option (Int32 × MI × MR × (Nat → Bool) × Nat)} {f8 : MI → MR → Option (Int32 × MI)} (nid : MI → Nat)
    (h : ∀ (C M : MI) (R : MR) (al : Nat → Bool) (q : Nat → Nat) (n nb nc lh r : Nat), Rel C M R nb nc lh r → gA al R nb nc → q (nid C) = n → ∃ v C2 R2 al2 n2 M2 nb2 nc2 lh2, f7 q C R al n = some (v, C2, R2, al2, n2) ∧ (∀ R, f8 M R = some (v, M2)) ∧ Rel C2 M2 R2 nb2 nc2 lh2 r ∧ gA al2 R2 nb2 nc2 ∧ fc C C2 ∧ fm M M2)
    (hn : ∀ (C M : MI) (R : MR) (al : Nat → Bool) (nb nc lh r : Nat), Rel C M R nb nc lh r → gA al R nb nc → al (nid C) = false ∨ ∀ q n, ∃ z, f7 q C R al n = some z ∧ ∃ M2, (∀ R, f8 M R = some (z.1, M2)) ∧ z.2 = (C, R, al, n) ∧ M2 = M) :
    ∀ (q : Nat → Nat) (al : Nat → Bool) (I : MI) (R : MR) (n : Nat), LI q al I R n → ∃ (q2 : Nat → Nat) (z1 : Int32 × MI × MR × (Nat → Bool) × Nat) (z2 : Int32 × MI), (∀ t, al t = true → q2 t = q t) ∧ f7 q2 I R al n = some z1 ∧ f8 z1.2.1 z1.2.2.1 = some z2 ∧ z1.1 = z2.1 ∧ LI q2 z1.2.2.2.1 z2.2 z1.2.2.1 z1.2.2.2.2 := by
  rintro q al I R n ⟨nb, nc, lh, r, hR, hA⟩
  rcases hn I I R al nb nc lh r hR hA with hal | hsame
  · have hq : (va_up q (nid I) n) (nid I) = n := va_up_self _ _ _
    obtain ⟨v, C2, R2, al2, n2, M2, nb2, nc2, lh2, e7, e8, hR2, hA2, hc, hm⟩ := h I I R al (va_up q (nid I) n) n nb nc lh r hR hA hq
    obtain ⟨v', C3, R3, al3, n3, M3, nb3, nc3, lh3, e7', e8', hR3, hA3, hc', hm'⟩ := h I C2 R al (va_up q (nid I) n) n nb nc lh r (hR.congM hc) hA hq
    rw [e7] at e7'
    have e := Option.some.inj e7'
    simp only [Prod.mk.injEq] at e
    obtain ⟨e1, e2, e3, e4, e5⟩ := e
    subst e1; subst e2; subst e3; subst e4; subst e5
    refine ⟨va_up q (nid I) n, _, _, fun t ht => ?_, e7, e8' _, rfl, nb3, nc3, lh3, r, hR3.congC hm', hA3⟩
    exact va_up_ne _ _ (fun z => by rw [z, hal] at ht; cases ht)
  · obtain ⟨z, e7, M2, e8, ez, em⟩ := hsame q n
    refine ⟨q, z, (z.1, M2), fun _ _ => rfl, e7, ?_, rfl, ?_⟩
    · rw [ez]; exact e8 R
    · rw [ez, em]; exact ⟨nb, nc, lh, r, hR, hA⟩
theorem gA.off {al : Nat → Bool} {R : MR} {nb nc : Nat} (h : gA al R nb nc) {id : Nat} (h1 : ¬ fixedId id) (h2 : ¬ (30 ≤ id ∧ id < 30 + nb)) (h3 : ¬ (40 ≤ id ∧ id < 40 + nc)) : al id = false := by
  cases e : al id with
  | false => rfl
  | true => exact absurd ((h.1 id).mp e) (by rintro (q | q | q) <;> contradiction)
theorem kd_bank : ∀ i, i < 4 → kd (30 + i) = 0 := by decide +kernel
theorem kd_car : ∀ i, i < 60 → kd (40 + i) = 2 := by decide +kernel
theorem zR_ne {R : MR} {a b k : Nat} (h : b ≠ a) : zR R a b k = R b k := if_neg h
theorem zI_ne {I : MI} {a b k : Nat} (h : b ≠ a) : zI I a b k = I b k := if_neg h
theorem K_bank : LK_bank LI := by
  intro q al I R n y0 y1 y2 h
  refine LK_ofA (f7 := fun q C R al n => f_X7_bank q C R al n y0 y1 y2) (f8 := fun M R => f_X8_bank M R y0 y1 y2) (fun C => 30 + (C 0 1).toNatClampNeg) ?_ ?_ q al I R n h
  · intro C M R al q n nb nc lh r hR hA hq
    obtain ⟨hS, hM, hP, hT, hLg, hB, hC, hH, hG, hN, hw⟩ := hR
    have hb := hS.2.2.2.2.2.1
    have hc := hS.2.2.2.2.2.2.1
    have hlh := hS.2.2.2.2.2.2.2
    have same : ∀ (e7 : f_X7_bank q C R al n y0 y1 y2 = some (-1, C, R, al, n)) (e8 : ∀ R, f_X8_bank M R y0 y1 y2 = some (-1, M)), ∃ v C2 R2 al2 n2 M2 nb2 nc2 lh2, f_X7_bank q C R al n y0 y1 y2 = some (v, C2, R2, al2, n2) ∧ (∀ R, f_X8_bank M R y0 y1 y2 = some (v, M2)) ∧ Rel C2 M2 R2 nb2 nc2 lh2 r ∧ gA al2 R2 nb2 nc2 ∧ fc C C2 ∧ fm M M2 := fun e7 e8 => ⟨-1, C, R, al, n, M, nb, nc, lh, e7, e8, ⟨hS, hM, hP, hT, hLg, hB, hC, hH, hG, hN, hw⟩, hA, fc.rf, fm.rf⟩
    by_cases q4 : nb = 4
    · have c7 : (4 : Int32) ≤ C 0 1 := by rw [hS.1, q4]; decide
      have c8 : M 100 2 = 4 := by rw [hS.2.1, q4]; rfl
      exact same (by simp only [f_X7_bank, if_pos c7]) (fun R => by simp only [f_X8_bank, if_pos c8])
    have c7 : ¬ (4 : Int32) ≤ C 0 1 := by rw [hS.1]; exact nI_ge (a := nb) (b := 4) (by omega) (by omega)
    have c8 : ¬ M 100 2 = 4 := by rw [hS.2.1]; intro z; exact q4 ((nI_eq (b := 4) (by omega) (by omega)).mp z)
    rcases wi_cases y0 1 100 with ⟨e, hn⟩ | ⟨e, h1, h2⟩
    · exact same (by simp only [f_X7_bank, if_neg c7, f7_in, bd_def, e, if_pos]) (fun R => by simp only [f_X8_bank, if_neg c8, f8_in, bd_def, e, if_pos])
    rcases wi_cases y1 0 (y0 * 400) with ⟨e', hn⟩ | ⟨e', h3, h4⟩
    · exact same (by simp only [f_X7_bank, if_neg c7, f7_in, bd_def, e, e', if_pos, if_neg i10]) (fun R => by simp only [f_X8_bank, if_neg c8, f8_in, bd_def, e, e', if_pos, if_neg i10])
    rcases wi_cases y2 0 400 with ⟨e'', hn⟩ | ⟨e'', h5, h6⟩
    · exact same (by simp only [f_X7_bank, if_neg c7, f7_in, bd_def, e, e', e'', if_pos, if_neg i10]) (fun R => by simp only [f_X8_bank, if_neg c8, f8_in, bd_def, e, e', e'', if_pos, if_neg i10])
    have hcl : (C 0 1).toNatClampNeg = nb := by rw [hS.1]; exact nI_clamp (by omega)
    rw [hcl] at hq
    have hal : al (30 + nb) = false := hA.off (by unfold fixedId; omega) (by omega) (by omega)
    have hx : ix (nI nb) 4 := ix_nI (by omega) (by decide)
    obtain ⟨C2, hC2⟩ : ∃ C2, C2 = p2 (p2 (p2 (p2 (p2 (p2 (p2 (p2 (p2 (p2 (p2 (zI C (30 + nb)) (30 + nb) 0 1) (30 + nb) 1 0) (30 + nb) 2 0) (30 + nb) 3 0) (30 + nb) 4 0) (30 + nb) 5 0) (30 + nb) 0 y0) (30 + nb) 1 y1) (30 + nb) 2 y2) 10 0 (C 10 0 + y1)) 0 1 (nI (nb + 1)) := ⟨_, rfl⟩
    have e7 : f_X7_bank q C R al n y0 y1 y2 = some (nI nb, C2, pq (zR R (30 + nb)) 1 nb (some (30 + nb)), alu al (30 + nb), n + 1) := by
      have g1 : al (30 + nb) = false ∧ q (30 + nb) = n ∧ kd (30 + nb) = 0 ∧ 30 ≤ 30 + nb ∧ 30 + nb < 100 := ⟨hal, hq, kd_bank nb (by omega), by omega, by omega⟩
      simp only [f_X7_bank, if_neg c7, f7_in, bd_def, lt_def, e, e', e'', if_neg i10, hcl]
      rw [gd_pos g1]
      simp only [f_X0_init, bd_def, lt_def]
      simp (disch := omega) only [p2_off, zI_ne, hS.1, nI_clamp, nI_1]
      rw [gd_pos (show ix (nI nb) (ln 1) from hx), p2_hit rfl rfl, hC2, show nI (nb + 1) - 1 = nI nb from nI_pred nb]
    have e8 : ∀ R, f_X8_bank M R y0 y1 y2 = some (nI nb, p2 (p2 (p2 (p2 (p2 M 104 nb y0) 105 nb y1) 106 nb y2) 100 24 (M 100 24 + y1)) 100 2 (nI (nb + 1))) := by
      intro R
      simp only [f_X8_bank, if_neg c8, f8_in, bd_def, lt_def, e, e', e'', if_neg i10]
      simp (disch := omega) only [p2_off, hS.2.1, nI_clamp, nI_1]
      rw [gd_pos (show ix (nI nb) (ln 104) from hx), gd_pos (show ix (nI nb) (ln 105) from hx), gd_pos (show ix (nI nb) (ln 106) from hx), p2_hit rfl rfl, show nI (nb + 1) - 1 = nI nb from nI_pred nb]
    have ag : ∀ b j, b ≠ 30 + nb → ¬ (b = 10 ∧ j = 0) → ¬ (b = 0 ∧ j = 1) → C2 b j = C b j := by
      intro b j h1 h2 h3
      rw [hC2]
      simp (disch := omega) only [p2_off, zI_ne]
    have hr := hG.r2
    refine ⟨nI nb, C2, _, _, _, _, nb + 1, nc, lh, e7, e8, ⟨?_, ?_, ?_, ?_, ?_, ?_, ?_, ?_, ?_, ?_, ?_⟩, ?_, fun id j hi => ag id j (by omega) (by omega) (by omega), ((((fm.rf.p2 (by omega)).p2 (by omega)).p2 (by omega)).p2 (by omega)).p2 (by omega)⟩
    · have o1 : C2 0 1 = nI (nb + 1) := by rw [hC2, p2_hit rfl rfl]
      unfold gS at hS ⊢
      simp (disch := omega) only [p2_off, p2_hit, ag]
      exact ⟨o1, trivial, hS.2.2.1, hS.2.2.2.1, hS.2.2.2.2.1, by omega, hc, hlh⟩
    · refine (((((?_ : gM C2 M).pM (by omega)).pM (by omega)).pM (by omega)).pM (by omega)).pM (by omega)
      unfold gM at hM ⊢
      simp (disch := omega) only [ag]; exact hM
    · refine (((((?_ : gP C2 M).pM (by omega)).pM (by omega)).pM (by omega)).pM (by omega)).pM (by omega)
      unfold gP at hP ⊢
      simp (disch := omega) only [ag]; exact hP
    · refine (((((?_ : gT C2 M).pM (by omega)).pM (by omega)).pM (by omega)).pM (by omega)).pM (by omega)
      unfold gT at hT ⊢
      simp (disch := omega) only [ag]; exact hT
    · have o1 : C2 10 0 = C 10 0 + y1 := by rw [hC2, p2_off (by omega), p2_hit rfl rfl]
      unfold gL at hLg ⊢
      simp (disch := omega) only [p2_off, p2_hit, ag]
      exact ⟨by rw [o1, hLg.1], hLg.2⟩
    · refine ⟨fun i hi => ?_, fun i h7 h8 => ?_⟩
      · by_cases e1 : i = nb
        · subst e1
          obtain ⟨z0, z1, z2⟩ := hB.2 i (by omega) (by omega)
          have k0 : C2 (30 + i) 0 = y0 := by rw [hC2]; simp (disch := omega) only [p2_off, p2_hit]
          have k1 : C2 (30 + i) 1 = y1 := by rw [hC2]; simp (disch := omega) only [p2_off, p2_hit]
          have k2 : C2 (30 + i) 2 = y2 := by rw [hC2]; simp (disch := omega) only [p2_off, p2_hit]
          have k3 : C2 (30 + i) 3 = 0 := by rw [hC2]; simp (disch := omega) only [p2_off, p2_hit]
          have k4 : C2 (30 + i) 4 = 0 := by rw [hC2]; simp (disch := omega) only [p2_off, p2_hit]
          have k5 : C2 (30 + i) 5 = 0 := by rw [hC2]; simp (disch := omega) only [p2_off, p2_hit]
          unfold bR
          simp (disch := omega) only [p2_off, p2_hit, k0, k1, k2, k3, k4, k5, z0, z1, z2]
          refine ⟨trivial, trivial, trivial, trivial, trivial, trivial, ⟨h1, h2⟩, h3, ?_, ⟨h5, h6⟩, Or.inl trivial⟩
          have h1 : (1 : Int) ≤ y0.toInt := h1
          have h2 : y0.toInt ≤ (100 : Int) := h2
          have e4 : (400 : Int32).toInt = 400 := by decide
          rw [Int32.toInt_mul, e4, Int.bmod_eq_of_le (by omega) (by omega)] at h4
          exact h4
        · refine (((((?_ : bR C2 M i).pM (by omega)).pM (by omega)).pM (by omega)).pM (by omega)).pM (by omega)
          have := hB.1 i (by omega)
          unfold bR at this ⊢
          simp (disch := omega) only [ag]; exact this
      · have := hB.2 i (by omega) h8
        simp (disch := omega) only [p2_off]; exact this
    · refine (((((?_ : gC C2 M nc lh).pM (by omega)).pM (by omega)).pM (by omega)).pM (by omega)).pM (by omega)
      refine ⟨fun j hj => ?_, hC.2⟩
      have := hC.1 j hj
      unfold cR at this ⊢
      simp (disch := omega) only [ag]; exact this
    · refine (((((?_ : gH C2 M (pq (zR R (30 + nb)) 1 nb (some (30 + nb))) lh).pM (by omega)).pM (by omega)).pM (by omega)).pM (by omega)).pM (by omega)
      unfold gH at hH ⊢
      simp (disch := omega) only [pq_ne, zR_ne]; exact hH
    · refine (((((?_ : gR C2 M (pq (zR R (30 + nb)) 1 nb (some (30 + nb))) r).pM (by omega)).pM (by omega)).pM (by omega)).pM (by omega)).pM (by omega)
      unfold gR rR fR at hG ⊢
      simp (disch := omega) only [pq_ne, zR_ne, ag]; exact hG
    · refine (((((?_ : gN C2 M).pM (by omega)).pM (by omega)).pM (by omega)).pM (by omega)).pM (by omega)
      unfold gN at hN ⊢
      simp (disch := omega) only [ag]; exact hN
    · exact ((((hw.pM (by omega)).pM (by omega)).pM (by omega)).pM (by omega)).pM (by omega)
    · refine ⟨fun id => ?_, (hA.2.1.new (by omega) (by omega)).pq rfl, fun i hi => ?_, fun j hj => ?_⟩
      · unfold alu
        by_cases z : id = 30 + nb
        · rw [if_pos z]
          exact ⟨fun _ => Or.inr (Or.inl (by omega)), fun _ => rfl⟩
        · rw [if_neg z]
          refine (hA.1 id).trans ⟨fun q => ?_, fun q => ?_⟩
          · rcases q with q | q | q
            · exact Or.inl q
            · exact Or.inr (Or.inl (by omega))
            · exact Or.inr (Or.inr q)
          · rcases q with q | q | q
            · exact Or.inl q
            · exact Or.inr (Or.inl (by omega))
            · exact Or.inr (Or.inr q)
      · rw [pq_at]
        by_cases z : i = nb
        · rw [if_pos z, if_pos (by omega), z]
        · rw [if_neg z, zR_ne (by omega), hA.2.2.1 i hi]
          by_cases z2 : i < nb
          · rw [if_pos z2, if_pos (by omega)]
          · rw [if_neg z2, if_neg (by omega)]
      · rw [pq_ne (by omega), zR_ne (by omega), hA.2.2.2 j hj]
  · intro C M R al nb nc lh r hR hA
    obtain ⟨hS, -⟩ := hR
    have hb := hS.2.2.2.2.2.1
    have hcl : (C 0 1).toNatClampNeg = nb := by rw [hS.1]; exact nI_clamp (by omega)
    by_cases q4 : nb = 4
    · have c7 : (4 : Int32) ≤ C 0 1 := by rw [hS.1, q4]; decide
      have c8 : M 100 2 = 4 := by rw [hS.2.1, q4]; rfl
      exact Or.inr (fun q n => ⟨(-1, C, R, al, n), by simp only [f_X7_bank, if_pos c7], M, fun R => by simp only [f_X8_bank, if_pos c8], rfl, rfl⟩)
    · exact Or.inl (by simp only [hcl]; exact hA.off (by unfold fixedId; omega) (by omega) (by omega))
theorem K_car : LK_car LI := by
  intro q al I R n y0 y1 y2 h
  refine LK_ofA (f7 := fun q C R al n => f_X7_car q C R al n y0 y1 y2) (f8 := fun M R => f_X8_car M R y0 y1 y2) (fun C => 40 + (C 0 3).toNatClampNeg) ?_ ?_ q al I R n h
  · intro C M R al q n nb nc lh r hR hA hq
    obtain ⟨hS, hM, hP, hT, hLg, hB, hC, hH, hG, hN, hw⟩ := hR
    have hb := hS.2.2.2.2.2.1
    have hc := hS.2.2.2.2.2.2.1
    have hlh := hS.2.2.2.2.2.2.2
    have same : ∀ (e7 : f_X7_car q C R al n y0 y1 y2 = some (-1, C, R, al, n)) (e8 : ∀ R, f_X8_car M R y0 y1 y2 = some (-1, M)), ∃ v C2 R2 al2 n2 M2 nb2 nc2 lh2, f_X7_car q C R al n y0 y1 y2 = some (v, C2, R2, al2, n2) ∧ (∀ R, f_X8_car M R y0 y1 y2 = some (v, M2)) ∧ Rel C2 M2 R2 nb2 nc2 lh2 r ∧ gA al2 R2 nb2 nc2 ∧ fc C C2 ∧ fm M M2 := fun e7 e8 => ⟨-1, C, R, al, n, M, nb, nc, lh, e7, e8, ⟨hS, hM, hP, hT, hLg, hB, hC, hH, hG, hN, hw⟩, hA, fc.rf, fm.rf⟩
    by_cases q4 : nc = 60
    · have c7 : (60 : Int32) ≤ C 0 3 := by rw [hS.2.2.1, q4]; decide
      have c8 : M 100 13 = 60 := by rw [hS.2.2.2.1, q4]; rfl
      exact same (by simp only [f_X7_car, if_pos c7]) (fun R => by simp only [f_X8_car, if_pos c8])
    have c7 : ¬ (60 : Int32) ≤ C 0 3 := by rw [hS.2.2.1]; exact nI_ge (a := nc) (b := 60) (by omega) (by omega)
    have c8 : ¬ M 100 13 = 60 := by rw [hS.2.2.2.1]; intro z; exact q4 ((nI_eq (b := 60) (by omega) (by omega)).mp z)
    rcases wi_cases y0 1 20 with ⟨e, hn⟩ | ⟨e, h1, h2⟩
    · exact same (by simp only [f_X7_car, f_X7_carAsTold, if_neg c7, f7_in, bd_def, e, if_pos]) (fun R => by simp only [f_X8_car, if_neg c8, f8_in, bd_def, e, if_pos])
    rcases wi_cases y2 1 300 with ⟨e', hn⟩ | ⟨e', h3, h4⟩
    · exact same (by simp only [f_X7_car, f_X7_carAsTold, if_neg c7, f7_in, bd_def, e, e', if_pos, if_neg i10]) (fun R => by simp only [f_X8_car, if_neg c8, f8_in, bd_def, e, e', if_pos, if_neg i10])
    rcases wi_cases y1 0 (y0 * y2) with ⟨e'', hn⟩ | ⟨e'', h5, h6⟩
    · exact same (by simp only [f_X7_car, f_X7_carAsTold, if_neg c7, f7_in, bd_def, e, e', e'', if_pos, if_neg i10]) (fun R => by simp only [f_X8_car, if_neg c8, f8_in, bd_def, e, e', e'', if_pos, if_neg i10])
    have hcl : (C 0 3).toNatClampNeg = nc := by rw [hS.2.2.1]; exact nI_clamp (by omega)
    rw [hcl] at hq
    have hal : al (40 + nc) = false := hA.off (by unfold fixedId; omega) (by omega) (by omega)
    have hx : ix (nI nc) 60 := ix_nI (by omega) (by decide)
    obtain ⟨C2, hC2⟩ : ∃ C2, C2 = p2 (p2 (p2 (p2 (p2 (p2 (p2 (p2 (p2 (p2 (p2 (p2 (p2 (p2 (p2 (p2 (p2 (zI C (40 + nc)) (40 + nc) 0 1) (40 + nc) 1 0) (40 + nc) 2 1) (40 + nc) 3 0) (40 + nc) 4 0) (40 + nc) 5 0) (40 + nc) 6 (-1)) (40 + nc) 7 (-1)) (40 + nc) 8 0) (40 + nc) 9 0) (40 + nc) 0 y0) (40 + nc) 1 y1) (40 + nc) 2 y2) (40 + nc) 3 (10 * C 0 7)) (40 + nc) 8 0) 10 0 (C 10 0 + y1)) 0 3 (nI (nc + 1)) := ⟨_, rfl⟩
    have e7 : f_X7_car q C R al n y0 y1 y2 = some (nI nc, C2, pq (zR R (40 + nc)) 2 nc (some (40 + nc)), alu al (40 + nc), n + 1) := by
      have g1 : al (40 + nc) = false ∧ q (40 + nc) = n ∧ kd (40 + nc) = 2 ∧ 30 ≤ 40 + nc ∧ 40 + nc < 100 := ⟨hal, hq, kd_car nc (by omega), by omega, by omega⟩
      simp only [f_X7_car, f_X7_carAsTold, if_neg c7, f7_in, bd_def, lt_def, e, e', e'', if_neg i10, hcl]
      rw [gd_pos g1]
      simp only [f_X2_init, f_X7_airTenths, f_X2_comeWith, bd_def, lt_def]
      simp (disch := omega) only [p2_off, zI_ne, hS.2.2.1, nI_clamp, nI_1]
      rw [gd_pos (show ix (nI nc) (ln 2) from hx), p2_hit rfl rfl, hC2, show nI (nc + 1) - 1 = nI nc from nI_pred nc]
    have e8 : ∀ R, f_X8_car M R y0 y1 y2 = some (nI nc, p2 (p2 (p2 (p2 (p2 (p2 (p2 (p2 (p2 (M) 115 nc y0) 116 nc y1) 117 nc y2) 119 nc (10 * M 100 1)) 120 nc (-1)) 121 nc (-1)) 122 nc (-1)) 100 24 (M 100 24 + y1)) 100 13 (nI (nc + 1))) := by
      intro R
      simp only [f_X8_car, if_neg c8, f8_in, bd_def, lt_def, e, e', e'', if_neg i10]
      simp (disch := omega) only [p2_off, hS.2.2.2.1, nI_clamp, nI_1]
      rw [gd_pos (show ix (nI nc) (ln 115) from hx), gd_pos (show ix (nI nc) (ln 116) from hx), gd_pos (show ix (nI nc) (ln 117) from hx), gd_pos (show ix (nI nc) (ln 119) from hx), gd_pos (show ix (nI nc) (ln 120) from hx), gd_pos (show ix (nI nc) (ln 121) from hx), gd_pos (show ix (nI nc) (ln 122) from hx), p2_hit rfl rfl, show nI (nc + 1) - 1 = nI nc from nI_pred nc]
    have ag : ∀ b j, b ≠ 40 + nc → ¬ (b = 10 ∧ j = 0) → ¬ (b = 0 ∧ j = 3) → C2 b j = C b j := by
      intro b j h1 h2 h3
      rw [hC2]
      simp (disch := omega) only [p2_off, zI_ne]
    have hr := hG.r2
    refine ⟨nI nc, C2, _, _, _, _, nb, nc + 1, lh, e7, e8, ⟨?_, ?_, ?_, ?_, ?_, ?_, ?_, ?_, ?_, ?_, ?_⟩, ?_, fun id j hi => ag id j (by omega) (by omega) (by omega), (((((((((fm.rf).p2 (by omega)).p2 (by omega)).p2 (by omega)).p2 (by omega)).p2 (by omega)).p2 (by omega)).p2 (by omega)).p2 (by omega)).p2 (by omega)⟩
    · have o1 : C2 0 3 = nI (nc + 1) := by rw [hC2, p2_hit rfl rfl]
      unfold gS at hS ⊢
      simp (disch := omega) only [p2_off, p2_hit, ag]
      exact ⟨hS.1, hS.2.1, o1, trivial, hS.2.2.2.2.1, hb, by omega, by omega⟩
    · refine (((((((((?_ : gM C2 M).pM (by omega)).pM (by omega)).pM (by omega)).pM (by omega)).pM (by omega)).pM (by omega)).pM (by omega)).pM (by omega)).pM (by omega)
      unfold gM at hM ⊢
      simp (disch := omega) only [ag]; exact hM
    · refine (((((((((?_ : gP C2 M).pM (by omega)).pM (by omega)).pM (by omega)).pM (by omega)).pM (by omega)).pM (by omega)).pM (by omega)).pM (by omega)).pM (by omega)
      unfold gP at hP ⊢
      simp (disch := omega) only [ag]; exact hP
    · refine (((((((((?_ : gT C2 M).pM (by omega)).pM (by omega)).pM (by omega)).pM (by omega)).pM (by omega)).pM (by omega)).pM (by omega)).pM (by omega)).pM (by omega)
      unfold gT at hT ⊢
      simp (disch := omega) only [ag]; exact hT
    · have o1 : C2 10 0 = C 10 0 + y1 := by rw [hC2, p2_off (by omega), p2_hit rfl rfl]
      unfold gL at hLg ⊢
      simp (disch := omega) only [p2_off, p2_hit, ag]
      exact ⟨by rw [o1, hLg.1], hLg.2⟩
    · refine (((((((((?_ : gB C2 M nb).pM (by omega)).pM (by omega)).pM (by omega)).pM (by omega)).pM (by omega)).pM (by omega)).pM (by omega)).pM (by omega)).pM (by omega)
      refine ⟨fun i hi => ?_, hB.2⟩
      have := hB.1 i hi
      unfold bR at this ⊢
      simp (disch := omega) only [ag]; exact this
    · refine ⟨fun i hi => ?_, ?_, ?_, fun i h7 h8 => ?_⟩
      · by_cases e1 : i = nc
        · subst e1
          obtain ⟨z1, z2⟩ := hC.2.2.2 i (by omega) (by omega)
          have z0 := hC.2.2.1 i (by omega) (by omega)
          have k0 : C2 (40 + i) 0 = y0 := by rw [hC2]; simp (disch := omega) only [p2_off, p2_hit]
          have k1 : C2 (40 + i) 1 = y1 := by rw [hC2]; simp (disch := omega) only [p2_off, p2_hit]
          have k2 : C2 (40 + i) 2 = y2 := by rw [hC2]; simp (disch := omega) only [p2_off, p2_hit]
          have k3 : C2 (40 + i) 3 = 10 * C 0 7 := by rw [hC2]; simp (disch := omega) only [p2_off, p2_hit]
          have k4 : C2 (40 + i) 4 = 0 := by rw [hC2]; simp (disch := omega) only [p2_off, p2_hit]
          have k5 : C2 (40 + i) 5 = 0 := by rw [hC2]; simp (disch := omega) only [p2_off, p2_hit]
          have k6 : C2 (40 + i) 6 = -1 := by rw [hC2]; simp (disch := omega) only [p2_off, p2_hit]
          have k7 : C2 (40 + i) 7 = -1 := by rw [hC2]; simp (disch := omega) only [p2_off, p2_hit]
          have k8 : C2 (40 + i) 8 = 0 := by rw [hC2]; simp (disch := omega) only [p2_off, p2_hit]
          have k9 : C2 (40 + i) 9 = 0 := by rw [hC2]; simp (disch := omega) only [p2_off, p2_hit]
          unfold cR
          simp (disch := omega) only [p2_off, p2_hit, k0, k1, k2, k3, k4, k5, k6, k7, k8, k9, z0, z1, z2]
          have a1 := hM.2.2.2.1
          have h1 : (1 : Int) ≤ y0.toInt := h1
          have h2 : y0.toInt ≤ (20 : Int) := h2
          have h3 : (1 : Int) ≤ y2.toInt := h3
          have h4 : y2.toInt ≤ (300 : Int) := h4
          have e10 : (10 : Int32).toInt = 10 := by decide
          have hm1 : 0 ≤ y0.toInt * y2.toInt := Int.mul_nonneg (by omega) (by omega)
          have hm2 : y0.toInt * y2.toInt ≤ 20 * 300 := Int.mul_le_mul h2 h4 (by omega) (by omega)
          refine ⟨trivial, trivial, trivial, by rw [hM.2.2.1], trivial, trivial, trivial, trivial, trivial, fun z => absurd z (by decide), fun _ => trivial, ⟨by decide, by decide⟩, ⟨h1, h2⟩, ⟨h3, h4⟩, h5, ?_, ?_, Or.inl trivial⟩
          · rw [Int32.toInt_mul, Int.bmod_eq_of_le (by omega) (by omega)] at h6
            exact h6
          · have a2 := a1.1
            have a3 := a1.2
            rw [← hM.2.2.1]
            unfold rg
            rw [Int32.toInt_mul, e10, Int.bmod_eq_of_le (by omega) (by omega)]
            omega
        · refine (((((((((?_ : cR C2 M i).pM (by omega)).pM (by omega)).pM (by omega)).pM (by omega)).pM (by omega)).pM (by omega)).pM (by omega)).pM (by omega)).pM (by omega)
          have := hC.1 i (by omega)
          unfold cR at this ⊢
          simp (disch := omega) only [ag]; exact this
      · have := hC.2.1
        simp (disch := omega) only [p2_off]; exact this
      · have := hC.2.2.1
        simp (disch := omega) only [p2_off]; exact this
      · have := hC.2.2.2 i (by omega) h8
        simp (disch := omega) only [p2_off]; exact this
    · refine (((((((((?_ : gH C2 M (pq (zR R (40 + nc)) 2 nc (some (40 + nc))) lh).pM (by omega)).pM (by omega)).pM (by omega)).pM (by omega)).pM (by omega)).pM (by omega)).pM (by omega)).pM (by omega)).pM (by omega)
      unfold gH at hH ⊢
      simp (disch := omega) only [pq_ne, zR_ne]; exact hH
    · refine (((((((((?_ : gR C2 M (pq (zR R (40 + nc)) 2 nc (some (40 + nc))) r).pM (by omega)).pM (by omega)).pM (by omega)).pM (by omega)).pM (by omega)).pM (by omega)).pM (by omega)).pM (by omega)).pM (by omega)
      unfold gR rR fR at hG ⊢
      simp (disch := omega) only [pq_ne, zR_ne, ag]; exact hG
    · refine (((((((((?_ : gN C2 M).pM (by omega)).pM (by omega)).pM (by omega)).pM (by omega)).pM (by omega)).pM (by omega)).pM (by omega)).pM (by omega)).pM (by omega)
      unfold gN at hN ⊢
      simp (disch := omega) only [ag]; exact hN
    · exact (((((((((hw).pM (by omega)).pM (by omega)).pM (by omega)).pM (by omega)).pM (by omega)).pM (by omega)).pM (by omega)).pM (by omega)).pM (by omega)
    · refine ⟨fun id => ?_, (hA.2.1.new (by omega) (by omega)).pq rfl, fun i hi => ?_, fun j hj => ?_⟩
      · unfold alu
        by_cases z : id = 40 + nc
        · rw [if_pos z]
          exact ⟨fun _ => Or.inr (Or.inr (by omega)), fun _ => rfl⟩
        · rw [if_neg z]
          refine (hA.1 id).trans ⟨fun q => ?_, fun q => ?_⟩
          · rcases q with q | q | q
            · exact Or.inl q
            · exact Or.inr (Or.inl q)
            · exact Or.inr (Or.inr (by omega))
          · rcases q with q | q | q
            · exact Or.inl q
            · exact Or.inr (Or.inl q)
            · exact Or.inr (Or.inr (by omega))
      · rw [pq_ne (by omega), zR_ne (by omega), hA.2.2.1 i hi]
      · rw [pq_at]
        by_cases z : j = nc
        · rw [if_pos z, if_pos (by omega), z]
        · rw [if_neg z, zR_ne (by omega), hA.2.2.2 j hj]
          by_cases z2 : j < nc
          · rw [if_pos z2, if_pos (by omega)]
          · rw [if_neg z2, if_neg (by omega)]
  · intro C M R al nb nc lh r hR hA
    obtain ⟨hS, -⟩ := hR
    have hb := hS.2.2.2.2.2.1
    have hc := hS.2.2.2.2.2.2.1
    have hcl : (C 0 3).toNatClampNeg = nc := by rw [hS.2.2.1]; exact nI_clamp (by omega)
    by_cases q4 : nc = 60
    · have c7 : (60 : Int32) ≤ C 0 3 := by rw [hS.2.2.1, q4]; decide
      have c8 : M 100 13 = 60 := by rw [hS.2.2.2.1, q4]; rfl
      exact Or.inr (fun q n => ⟨(-1, C, R, al, n), by simp only [f_X7_car, if_pos c7], M, fun R => by simp only [f_X8_car, if_pos c8], rfl, rfl⟩)
    · exact Or.inl (by simp only [hcl]; exact hA.off (by unfold fixedId; omega) (by omega) (by omega))
