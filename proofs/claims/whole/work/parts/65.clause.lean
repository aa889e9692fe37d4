/-! ===== the TEXT: a CLAUSE ===== -/
def bS (C M : MI) (S : Nat) : Prop := M 100 34 = nI S ∧ S < 32 ∧ ∀ w, w < 5 → C 9 (w + 1) = (nI S >>> (nI w &&& 31)) &&& 1
def bF (C M : MI) (d f : Nat) : Prop := C d 7 = nI f ∧ M 100 39 = nI f ∧ f ≤ 8 ∧ ∀ k, k < f → C (d + 1) k = M 141 k ∧ C (d + 2) k = M 142 k ∧ rg (M 141 k) 0 400 ∧ rg (M 142 k) 0 500
def bV (C M : MI) (d : Nat) : Prop := C d 0 = M 144 0 ∧ C d 1 = M 144 1 ∧ C d 2 = M 144 2 ∧ C d 3 = M 144 3 ∧ C d 4 = M 144 4 ∧ rg (M 144 0) 0 100 ∧ rg (M 144 1) 1 100 ∧ rg (M 144 2) 0 200 ∧ rg (M 144 3) 0 500 ∧ rg (M 144 4) 1 500
def BR (C M : MI) (T d p S f : Nat) : Prop := tx C M T p ∧ gW M ∧ C 8 2 = 0 ∧ M 100 33 = 0 ∧ bS C M S ∧ bF C M d f ∧ bV C M d
def BF (d : Nat) (C C2 : MI) : Prop := ∀ b k, b ≠ 8 → b ≠ 9 → b ≠ d → b ≠ d + 1 → b ≠ d + 2 → C2 b k = C b k
def BG (M M2 : MI) : Prop := ∀ b k, b ≠ 141 → b ≠ 142 → b ≠ 144 → ¬ (b = 100 ∧ (k = 32 ∨ k = 33 ∨ k = 34 ∨ k = 35 ∨ k = 39 ∨ k = 45)) → M2 b k = M b k
def loW (w : Nat) : Int32 := if w = 1 ∨ w = 4 then 1 else 0
def hiW (w : Nat) : Int32 := if w = 0 ∨ w = 1 then 100 else if w = 2 then 200 else 500
theorem set7 {C : MI} {R : MR} {d w : Nat} (hw : w < 5) : f_X1_readSetting C R (nI (w + 1)) d = bd (f_X1_readNumber C R (loW w) (hiW w)) (fun z => some (p2 z.2 d w z.1)) := by
  rcases (show w = 0 ∨ w = 1 ∨ w = 2 ∨ w = 3 ∨ w = 4 by omega) with e | e | e | e | e <;> subst e <;> rfl
theorem set8 {M : MI} {R : MR} {w : Nat} (hw : w < 5) : f_X8_clause_58 M R (nI w) = f_X8_clause_219 (p2 (p2 M 100 32 (M 100 32 + M 100 45)) 100 34 (M 100 34 ||| (1 <<< (nI w &&& 31)))) R (nI w) (hiW w) (loW w) := by
  have e : ∀ x : Int32, p2 M 100 32 x 100 34 = M 100 34 := fun x => p2_off (by omega)
  unfold f_X8_clause_58
  simp only [lt_def, e]
  rcases (show w = 0 ∨ w = 1 ∨ w = 2 ∨ w = 3 ∨ w = 4 by omega) with z | z | z | z | z <;> subst z <;> rfl
theorem bits1 : ∀ S, S < 32 → ∀ w, w < 5 → ∃ S', S' < 32 ∧ nI S ||| (1 <<< (nI w &&& 31)) = nI S' ∧ ∀ v, v < 5 → ((nI S' >>> (nI v &&& 31)) &&& 1) = if v = w then 1 else ((nI S >>> (nI v &&& 31)) &&& 1) := by
  have h : ∀ S, S < 32 → ∀ w, w < 5 → (S ||| 2 ^ w) < 32 ∧ nI S ||| (1 <<< (nI w &&& 31)) = nI (S ||| 2 ^ w) ∧ ∀ v, v < 5 → ((nI (S ||| 2 ^ w) >>> (nI v &&& 31)) &&& 1) = if v = w then 1 else ((nI S >>> (nI v &&& 31)) &&& 1) := by decide +kernel
  exact fun S hS w hw => ⟨_, h S hS w hw⟩
theorem bits2 : ∀ S, S < 32 → ∀ w, w < 5 → ((nI S >>> (nI w &&& 31)) &&& 1) = 0 ∨ ((nI S >>> (nI w &&& 31)) &&& 1) = 1 := by decide +kernel
/-- behind the word of a flow -/
theorem flow_ok {C M : MI} {R : MR} {T d p S f : Nat} (hd : d = 23 ∨ d = 26) (h : BR C M T d p S f) (hf : f < 8) {x : Int32} (h45 : True) :
    ∃ lo : Int32, (∀ R', (if M 100 39 = 0 then f_X8_clause_101 M R' 0 else gd (ix (M 100 39 - 1) (ln 141)) (f_X8_clause_101 M R' (M 141 (M 100 39 - 1).toNatClampNeg + 1))) = f_X8_clause_101 M R' lo) ∧
    ((∃ C2 M2 F, 0 < F ∧ F < 2000 ∧ f_X1_readFlow C R d = some C2 ∧ C2 8 2 = nI F ∧ (∀ R', f_X8_clause_101 M R' lo = some (0, M2)) ∧ M2 100 33 = nI F ∧ BF d C C2 ∧ BG M M2) ∨
     (∃ C2 M2 p', p < p' ∧ f_X1_readFlow C R d = some C2 ∧ (∀ R', f_X8_clause_101 M R' lo = some (1, M2)) ∧ BR C2 M2 T d p' S (f + 1) ∧ BF d C C2 ∧ BG M M2)) := by
  obtain ⟨ht, hW, f7, f8, hS, ⟨k1, k2, k3, k4⟩, hV⟩ := h
  have hk5 := kd_r hd
  have l1 : ln (d + 1) = 8 := (ln5 hk5).1
  have l2 : ln (d + 2) = 8 := (ln5 hk5).2
  -- the lowest d
  obtain ⟨lo, g7, g8, glo⟩ : ∃ lo : Int32, f_X5_nextFrom C R d = some lo ∧ (∀ R', (if M 100 39 = 0 then f_X8_clause_101 M R' 0 else gd (ix (M 100 39 - 1) (ln 141)) (f_X8_clause_101 M R' (M 141 (M 100 39 - 1).toNatClampNeg + 1))) = f_X8_clause_101 M R' lo) ∧ 0 ≤ lo.toInt := by
    by_cases q : f = 0
    · refine ⟨0, ?_, fun R' => ?_, by decide⟩
      · simp only [f_X5_nextFrom, k1, q, if_pos (show nI 0 < 1 by decide)]
      · rw [k2, q, if_pos (by decide)]
    · obtain ⟨g, rfl⟩ : ∃ g, f = g + 1 := ⟨f - 1, by omega⟩
      obtain ⟨a1, a2, a3, a4⟩ := k4 g (by omega)
      have e1 : nI (g + 1) - 1 = nI g := nI_pred g
      refine ⟨M 141 g + 1, ?_, fun R' => ?_, ?_⟩
      · simp only [f_X5_nextFrom, k1, if_neg (show ¬ nI (g + 1) < 1 from nI_nlt (b := 1) (by omega) (by omega)), if_neg (show ¬ (8 : Int32) < nI (g + 1) from nI_nlt (a := 8) (by omega) (by omega)), e1, l1, gd_pos (ix_nI (show g < 8 by omega) (by decide)), nI_clamp (show g < 2 ^ 31 by omega), a1]
      · rw [k2, if_neg (nI_ne0 (by omega) (by omega)), e1, gd_pos (show ix (nI g) (ln 141) from ix_nI (show g < 8 by omega) (by decide)), nI_clamp (show g < 2 ^ 31 by omega)]
      · obtain ⟨v, hv, ev⟩ := nI_of_rg a3
        rw [ev, nI_1, nI_toInt (by omega)]; omega
  refine ⟨lo, g8, ?_⟩
  rcases num_ok (R := R) (lo := lo) (hi := 400) ht f8 with ⟨e, F, v, n1, n2, n3, n4, M2, n5, n6, n7⟩ | ⟨e, v, n1, n2, n3, n4, n5, n6⟩
  · refine Or.inl ⟨p2 (p2 C 8 1 (nI e)) 8 2 (nI F), M2, F, n2, n3, ?_, p2_hit rfl rfl, fun R' => ?_, n6, fun b k h1 h2 h3 h4 h5 => by simp (disch := omega) only [p2_off], fun b k h1 h2 h3 h4 => n7 b k (by omega)⟩
    · have nz : ¬ nI F = 0 := nI_ne0 n2 (by omega)
      simp only [f_X1_readFlow, f_X1_readFlow_31, g7, bd_def, n4, p2_hit, if_neg nz]
    · simp only [f_X8_clause_101, n5 R', bd_def, if_pos]
  · have n3' : 0 ≤ v.toInt := by omega
    have n4' : v.toInt ≤ 400 := n4
    -- the second number
    have hx : ix (nI f) 8 := ix_nI (by omega) (by decide)
    have hcl : (nI f).toNatClampNeg = f := nI_clamp (by omega)
    have ht2 : tx (p2 C 8 1 (nI e)) (p2 (p2 (p2 M 100 32 (nI e)) 100 35 v) 141 f v) T e := by
      obtain ⟨t1, t2, t3, t4, t5, t6, t7⟩ := ht
      unfold tx
      simp (disch := omega) only [p2_off, p2_hit]
      exact ⟨t1, t2, t3, t4, trivial, trivial, n2⟩
    have f82 : p2 (p2 (p2 M 100 32 (nI e)) 100 35 v) 141 f v 100 33 = 0 := by
      simp (disch := omega) only [p2_off]; exact f8
    have c39 : p2 (p2 M 100 32 (nI e)) 100 35 v 100 39 = nI f := by simp (disch := omega) only [p2_off]; exact k2
    have c35 : p2 (p2 M 100 32 (nI e)) 100 35 v 100 35 = v := p2_hit rfl rfl
    have r1 : ∀ R', f_X8_clause_101 M R' lo = bd (f_X8_number (p2 (p2 (p2 M 100 32 (nI e)) 100 35 v) 141 f v) R' 0 500) (fun z_130 => (if z_130.1 = 0 then (some (0, z_130.2)) else (gd (ix (z_130.2 100 39) (ln 142)) (lt (p2 z_130.2 142 (z_130.2 100 39).toNatClampNeg (z_130.2 100 35)) (fun I_150 => lt (p2 I_150 100 39 ((I_150 100 39) + 1)) (fun I_158 => some (1, I_158))))))) := by
      intro R'
      unfold f_X8_clause_101
      simp only [n6 R', bd_def, if_neg i10, c39, c35, hcl, gd_pos (show ix (nI f) (ln 141) from hx), lt_def]
    have c1 : f_X1_readFlow C R d = bd (f_X1_readNumber (p2 C 8 1 (nI e)) R 0 500) (fun z_24 => f_X1_readFlow_31 z_24.2 R d v z_24.1) := by
      have z : p2 C 8 1 (nI e) 8 2 = 0 := by rw [p2_off (by omega)]; exact f7
      simp only [f_X1_readFlow, g7, bd_def, n5, z, if_pos]
    rcases num_ok (R := R) (lo := 0) (hi := 500) ht2 f82 with ⟨e', F, u, m1, m2, m3, m4, M2, m5, m6, m7⟩ | ⟨e', u, m1, m2, m3, m4, m5, m6⟩
    · refine Or.inl ⟨p2 (p2 (p2 C 8 1 (nI e)) 8 1 (nI e')) 8 2 (nI F), M2, F, m2, m3, ?_, p2_hit rfl rfl, fun R' => ?_, m6, fun b k h1 h2 h3 h4 h5 => by simp (disch := omega) only [p2_off], fun b k h1 h2 h3 h4 => ?_⟩
      · have nz : ¬ nI F = 0 := nI_ne0 m2 (by omega)
        simp only [c1, m4, bd_def, f_X1_readFlow_31, p2_hit, if_neg nz]
      · simp only [r1 R', m5 R', bd_def, if_pos]
      · rw [m7 b k (by omega)]; simp (disch := omega) only [p2_off]
    · have m3' : 0 ≤ u.toInt := m3
      have m4' : u.toInt ≤ 500 := m4
      refine Or.inr ⟨p2 (p2 (p2 (p2 (p2 C 8 1 (nI e)) 8 1 (nI e')) (d + 1) f v) (d + 2) f u) d 7 (nI (f + 1)), p2 (p2 (p2 (p2 (p2 (p2 (p2 M 100 32 (nI e)) 100 35 v) 141 f v) 100 32 (nI e')) 100 35 u) 142 f u) 100 39 (nI (f + 1)), e', by omega, ?_, fun R' => ?_, ⟨?_, ?_, ?_, ?_, ?_, ?_, ?_⟩, fun b k h1 h2 h3 h4 h5 => by simp (disch := omega) only [p2_off], fun b k h1 h2 h3 h4 => by simp (disch := omega) only [p2_off]⟩
      · have z : p2 (p2 C 8 1 (nI e)) 8 1 (nI e') 8 2 = 0 := by simp (disch := omega) only [p2_off]; exact f7
        have z7 : p2 (p2 C 8 1 (nI e)) 8 1 (nI e') d 7 = nI f := by simp (disch := omega) only [p2_off]; exact k1
        simp only [c1, m5, bd_def, f_X1_readFlow_31, z, if_pos, f_X5_addFlow, z7, if_neg (nI_pos (show f < 2 ^ 31 by omega)), if_neg (show ¬ (8 : Int32) ≤ nI f from nI_ge (a := f) (b := 8) (by omega) (by omega)), lt_def, hcl, l1, gd_pos hx]
        simp (disch := omega) only [p2_off, k1, l2, gd_pos hx, hcl, nI_1]
        rw [bd_def]
      · rw [r1 R', m6 R', bd_def]
        simp only [if_neg i10, lt_def]
        simp (disch := omega) only [p2_off, p2_hit, k2, hcl, nI_1]
        rw [gd_pos (show ix (nI f) (ln 142) from hx)]
      · obtain ⟨t1, t2, t3, t4, t5, t6, t7⟩ := ht
        unfold tx
        simp (disch := omega) only [p2_off, p2_hit]
        exact ⟨t1, t2, t3, t4, trivial, trivial, m2⟩
      · unfold gW at hW ⊢
        simp (disch := omega) only [p2_off]; exact hW
      · simp (disch := omega) only [p2_off]; exact f7
      · simp (disch := omega) only [p2_off]; exact f8
      · unfold bS at hS ⊢
        simp (disch := omega) only [p2_off]; exact hS
      · refine ⟨p2_hit rfl rfl, p2_hit rfl rfl, by omega, fun k hk => ?_⟩
        by_cases q : k = f
        · subst q
          simp (disch := omega) only [p2_off, p2_hit]
          exact ⟨trivial, trivial, ⟨n3', n4'⟩, m3', m4'⟩
        · have := k4 k (by omega)
          simp (disch := omega) only [p2_off]; exact this
      · unfold bV at hV ⊢
        simp (disch := omega) only [p2_off]; exact hV
theorem lo_rg {w : Nat} : 0 ≤ (loW w).toInt := by
  unfold loW; split <;> decide
theorem bV.set {C M : MI} {d w : Nat} {v : Int32} (h : bV C M d) (hd : d = 23 ∨ d = 26) (hw : w < 5) (h1 : (loW w).toInt ≤ v.toInt) (h2 : v.toInt ≤ (hiW w).toInt) : bV (p2 C d w v) (p2 M 144 w v) d := by
  unfold bV at h ⊢
  rcases (show w = 0 ∨ w = 1 ∨ w = 2 ∨ w = 3 ∨ w = 4 by omega) with e | e | e | e | e <;> subst e <;> simp (disch := omega) only [p2_off, p2_hit]
  · exact ⟨trivial, h.2.1, h.2.2.1, h.2.2.2.1, h.2.2.2.2.1, ⟨h1, h2⟩, h.2.2.2.2.2.2⟩
  · exact ⟨h.1, trivial, h.2.2.1, h.2.2.2.1, h.2.2.2.2.1, h.2.2.2.2.2.1, ⟨h1, h2⟩, h.2.2.2.2.2.2.2⟩
  · exact ⟨h.1, h.2.1, trivial, h.2.2.2.1, h.2.2.2.2.1, h.2.2.2.2.2.1, h.2.2.2.2.2.2.1, ⟨h1, h2⟩, h.2.2.2.2.2.2.2.2⟩
  · exact ⟨h.1, h.2.1, h.2.2.1, trivial, h.2.2.2.2.1, h.2.2.2.2.2.1, h.2.2.2.2.2.2.1, h.2.2.2.2.2.2.2.1, ⟨h1, h2⟩, h.2.2.2.2.2.2.2.2.2⟩
  · exact ⟨h.1, h.2.1, h.2.2.1, h.2.2.2.1, trivial, h.2.2.2.2.2.1, h.2.2.2.2.2.2.1, h.2.2.2.2.2.2.2.1, h.2.2.2.2.2.2.2.2.1, h1, h2⟩
theorem clause_ok {C M : MI} {R : MR} {T d p S f : Nat} (hd : d = 23 ∨ d = 26) (h : BR C M T d p S f) :
    (∃ C2 M2 F, 0 < F ∧ F < 2000 ∧ f_X1_readClause C R d = some C2 ∧ C2 8 2 = nI F ∧ (∀ R', f_X8_clause M R' = some (0, M2)) ∧ M2 100 33 = nI F ∧ BF d C C2 ∧ BG M M2) ∨
    (∃ C2 M2 p' S' f', p < p' ∧ f_X1_readClause C R d = some C2 ∧ (∀ R', f_X8_clause M R' = some (1, M2)) ∧ BR C2 M2 T d p' S' f' ∧ BF d C C2 ∧ BG M M2) := by
  have h0 := h
  obtain ⟨ht, hW, f7, f8, hS, hF, hV⟩ := h
  obtain ⟨s, s1, s2, s3, s4, s5⟩ := ht.see R
  have h3 := ht.2.2.1
  have ht1 := ht.to (e := s) s2
  obtain ⟨m, hm, hword⟩ := word_ok (R := R) ht1 (hW.pM (by omega))
  have e8 : (8 : Int32) = nI 8 := rfl
  have e1' : (1 : Int32) = nI 1 := rfl
  have fl : ∀ k, k < 3 → (1 : Int32) + 8 * nI s + nI k = nI (1 + 8 * s + k) := fun k hk => by rw [e8, e1', pk_mul, nI_add, nI_add]
  have w8 : ∀ R', f_X8_wordHere M R' = f_X8_wordHere_10 1000000 (p2 (p2 M 100 32 (nI s)) 100 45 0) R' := fun R' => by
    unfold f_X8_wordHere
    rw [s5 R', bd_def, lt_def]
  have cc : p2 (p2 C 8 1 (nI s)) 8 1 (nI (s + m)) = p2 C 8 1 (nI (s + m)) := p2_p2
  rw [cc] at hword
  have fz : p2 (p2 M 100 32 (nI s)) 100 45 (nI m) 100 33 = 0 := by simp (disch := omega) only [p2_off]; exact f8
  have fp : p2 (p2 M 100 32 (nI s)) 100 45 (nI m) 100 32 = nI s := by simp (disch := omega) only [p2_off, p2_hit]
  -- the class blames, the reference fails
  have blame : ∀ k, k < 3 → (f_X1_readClause C R d = bd (f_X1_blame (p2 C 8 1 (nI (s + m))) R (nI s) (nI k)) (fun z => some z)) → (∀ R', f_X8_clause M R' = bd (f_X8_fails (p2 (p2 M 100 32 (nI s)) 100 45 (nI m)) R' (nI k) (nI s)) (fun z => gd (z.1 = 0 ∨ z.1 = 1) (some (z.1, z.2)))) →
      (∃ C2 M2 F, 0 < F ∧ F < 2000 ∧ f_X1_readClause C R d = some C2 ∧ C2 8 2 = nI F ∧ (∀ R', f_X8_clause M R' = some (0, M2)) ∧ M2 100 33 = nI F ∧ BF d C C2 ∧ BG M M2) := by
    intro k hk q7 q8
    refine ⟨p2 (p2 C 8 1 (nI (s + m))) 8 2 (nI (1 + 8 * s + k)), p2 (p2 (p2 M 100 32 (nI s)) 100 45 (nI m)) 100 33 (nI (1 + 8 * s + k)), 1 + 8 * s + k, by omega, by omega, ?_, p2_hit rfl rfl, fun R' => ?_, p2_hit rfl rfl, fun b k h1 h2 h3 h4 h5 => by simp (disch := omega) only [p2_off], fun b k h1 h2 h3 h4 => by simp (disch := omega) only [p2_off]⟩
    · rw [q7]
      unfold f_X1_blame
      rw [lt_def, bd_def, fl k hk]
    · rw [q8 R']
      unfold f_X8_fails
      rw [if_pos fz, lt_def, bd_def, fl k hk]
      exact gd_pos (Or.inl rfl)
  rcases hword with ⟨q7, q8⟩ | ⟨w, hw, hm4, q7, q8⟩
  · -- no word
    refine Or.inl (blame 0 (by omega) ?_ (fun R' => ?_))
    · unfold f_X1_readClause
      rw [s4, bd_def, q7, bd_def]
      simp only [if_pos (show (-1 : Int32) < 0 by decide), f_X1_readClause_24, p2_hit]
      rfl
    · unfold f_X8_clause
      rw [w8, q8 R', bd_def]
      simp only [if_neg (show ¬ (0 : Int32) ≤ -1 by decide), fp]
      rfl
  have hcw : cw w < 6 := by unfold cw; split <;> omega
  have n1 : ¬ nI (cw w) < 0 := nI_pos (by omega)
  have n2 : nI (cw w) < 6 := nI_lt (b := 6) (by omega) (by omega)
  have n3 : (0 : Int32) ≤ nI w := nI_pos' (by omega)
  have hsm : tx (p2 C 8 1 (nI (s + m))) (p2 (p2 M 100 45 (nI m)) 100 32 (nI (s + m))) T (s + m) := by
    obtain ⟨t1, t2, t3, t4, t5, t6, t7⟩ := ht
    unfold tx
    simp (disch := omega) only [p2_off, p2_hit]
    exact ⟨t1, t2, t3, t4, trivial, trivial, hm⟩
  have m45 : p2 (p2 M 100 32 (nI s)) 100 45 (nI m) 100 45 = nI m := p2_hit rfl rfl
  by_cases w5 : w = 5
  · subst w5
    have hc0 : cw 5 = 0 := rfl
    rw [hc0] at q7
    have k1 : p2 C 8 1 (nI (s + m)) d 7 = nI f := by rw [p2_off (by omega)]; exact hF.1
    have k2 : p2 (p2 M 100 32 (nI s)) 100 45 (nI m) 100 39 = nI f := by simp (disch := omega) only [p2_off]; exact hF.2.1
    by_cases hf : f = 8
    · refine Or.inl (blame 2 (by omega) ?_ (fun R' => ?_))
      · unfold f_X1_readClause
        rw [s4, bd_def, q7, bd_def]
        simp only [if_neg (show ¬ nI 0 < 0 by decide), if_pos (show nI 0 < 6 by decide), if_pos (show nI 0 = 0 by decide), k1, hf, if_neg (show ¬ nI 8 < 8 by decide), f_X1_readClause_58, p2_hit]
        rfl
      · unfold f_X8_clause
        rw [w8, q8 R', bd_def]
        simp only [if_pos n3, if_pos (show nI 5 = 5 by decide), k2, hf, if_pos (show nI 8 = 8 by decide), f_X8_clause_48, fp]
        rfl
    · have hf8 : f < 8 := by have := hF.2.2.1; omega
      obtain ⟨M1, hM1⟩ : ∃ M1, M1 = p2 (p2 (p2 M 100 32 (nI s)) 100 45 (nI m)) 100 32 (nI (s + m)) := ⟨_, rfl⟩
      have hB1 : BR (p2 C 8 1 (nI (s + m))) M1 T d (s + m) S f := by
        rw [hM1]
        refine ⟨?_, ?_, ?_, ?_, ?_, ?_, ?_⟩
        · obtain ⟨t1, t2, t3, t4, t5, t6, t7⟩ := ht
          unfold tx
          simp (disch := omega) only [p2_off, p2_hit]
          exact ⟨t1, t2, t3, t4, trivial, trivial, hm⟩
        · unfold gW at hW ⊢
          simp (disch := omega) only [p2_off]; exact hW
        · simp (disch := omega) only [p2_off]; exact f7
        · simp (disch := omega) only [p2_off]; exact f8
        · unfold bS at hS ⊢
          simp (disch := omega) only [p2_off]; exact hS
        · unfold bF at hF ⊢
          simp (disch := omega) only [p2_off]; exact hF
        · unfold bV at hV ⊢
          simp (disch := omega) only [p2_off]; exact hV
      have bf1 : BF d C (p2 C 8 1 (nI (s + m))) := fun b k h1 h2 h3 h4 h5 => p2_off (by omega)
      have bg1 : BG M M1 := fun b k h1 h2 h3 h4 => by rw [hM1]; simp (disch := omega) only [p2_off]
      obtain ⟨lo, g8, hcase⟩ := flow_ok (R := R) (x := 0) hd hB1 hf8 trivial
      have cls : f_X1_readClause C R d = bd (f_X1_readFlow (p2 C 8 1 (nI (s + m))) R d) (fun z => some z) := by
        unfold f_X1_readClause
        rw [s4, bd_def, q7, bd_def]
        simp only [if_neg (show ¬ nI 0 < 0 by decide), if_pos (show nI 0 < 6 by decide), if_pos (show nI 0 = 0 by decide), k1, if_pos (show nI f < 8 from nI_lt (b := 8) hf8 (by omega)), f_X1_readClause_67]
      have rfl8 : ∀ R', f_X8_clause M R' = f_X8_clause_101 M1 R' lo := by
        intro R'
        unfold f_X8_clause
        rw [w8, q8 R', bd_def]
        simp only [if_pos n3, if_pos (show nI 5 = 5 by decide), k2, if_neg (show ¬ nI f = 8 from fun z => hf ((nI_eq (b := 8) (by omega) (by omega)).mp z)), f_X8_clause_58, lt_def, fp, m45, nI_add]
        rw [← hM1]
        exact g8 R'
      rcases hcase with ⟨C2, M2, F, a1, a2, a3, a4, a5, a6, a7, a8⟩ | ⟨C2, M2, p', a1, a2, a3, a4, a5, a6⟩
      · exact Or.inl ⟨C2, M2, F, a1, a2, by rw [cls, a3, bd_def], a4, fun R' => (rfl8 R').trans (a5 R'), a6, fun b k h1 h2 h3 h4 h5 => (a7 b k h1 h2 h3 h4 h5).trans (bf1 b k h1 h2 h3 h4 h5), fun b k h1 h2 h3 h4 => (a8 b k h1 h2 h3 h4).trans (bg1 b k h1 h2 h3 h4)⟩
      · exact Or.inr ⟨C2, M2, p', S, f + 1, by omega, by rw [cls, a2, bd_def], fun R' => (rfl8 R').trans (a3 R'), a4, fun b k h1 h2 h3 h4 h5 => (a5 b k h1 h2 h3 h4 h5).trans (bf1 b k h1 h2 h3 h4 h5), fun b k h1 h2 h3 h4 => (a6 b k h1 h2 h3 h4).trans (bg1 b k h1 h2 h3 h4)⟩
  · have hw5 : w < 5 := by omega
    have hcw1 : cw w = w + 1 := by unfold cw; rw [if_neg w5]
    rw [hcw1] at q7 n1 n2
    obtain ⟨hS1, hS2, hS3⟩ := hS
    have nw5 : ¬ nI w = 5 := fun z => w5 ((nI_eq (b := 5) (by omega) (by omega)).mp z)
    have nc0 : ¬ nI (w + 1) = 0 := nI_ne0 (by omega) (by omega)
    have hix9 : ix (nI (w + 1)) (ln 9) := ix_nI (show w + 1 < 6 by omega) (by decide)
    have hcl9 : (nI (w + 1)).toNatClampNeg = w + 1 := nI_clamp (by omega)
    have k9 : p2 C 8 1 (nI (s + m)) 9 (w + 1) = (nI S >>> (nI w &&& 31)) &&& 1 := by rw [p2_off (by omega)]; exact hS3 w hw5
    have k34 : p2 (p2 M 100 32 (nI s)) 100 45 (nI m) 100 34 = nI S := by simp (disch := omega) only [p2_off]; exact hS1
    rcases bits2 S hS2 w hw5 with hbit | hbit
    · -- told for the first time
      obtain ⟨S', hS', eS', bS'⟩ := bits1 S hS2 w hw5
      have cls : f_X1_readClause C R d = bd (f_X1_readNumber (p2 (p2 C 8 1 (nI (s + m))) 9 (w + 1) 1) R (loW w) (hiW w)) (fun z => some (p2 z.2 d w z.1)) := by
        unfold f_X1_readClause
        rw [s4, bd_def, q7, bd_def]
        simp only [if_neg n1, if_pos n2, if_neg nc0, gd_pos hix9, hcl9, k9, hbit, if_pos, f_X1_readClause_67, lt_def, nar_b (show (1 : Int32) = 0 ∨ (1 : Int32) = 1 from Or.inr rfl), set7 hw5]
        cases f_X1_readNumber (p2 (p2 C 8 1 (nI (s + m))) 9 (w + 1) 1) R (loW w) (hiW w) <;> rfl
      obtain ⟨M1, hM1⟩ : ∃ M1, M1 = p2 (p2 (p2 (p2 M 100 32 (nI s)) 100 45 (nI m)) 100 32 (nI (s + m))) 100 34 (nI S') := ⟨_, rfl⟩
      have rf8 : ∀ R', f_X8_clause M R' = f_X8_clause_219 M1 R' (nI w) (hiW w) (loW w) := by
        intro R'
        unfold f_X8_clause
        rw [w8, q8 R', bd_def]
        simp only [if_pos n3, if_neg nw5, k34, hbit, if_neg (show ¬ (0 : Int32) = 1 by decide), set8 hw5, fp, m45, nI_add, eS']
        rw [← hM1]
      have ht1 : tx (p2 (p2 C 8 1 (nI (s + m))) 9 (w + 1) 1) M1 T (s + m) := by
        obtain ⟨t1, t2, t3, t4, t5, t6, t7⟩ := ht
        rw [hM1]
        unfold tx
        simp (disch := omega) only [p2_off, p2_hit]
        exact ⟨t1, t2, t3, t4, trivial, trivial, hm⟩
      have f81 : M1 100 33 = 0 := by rw [hM1]; simp (disch := omega) only [p2_off]; exact f8
      have bg1 : BG M M1 := fun b k h1 h2 h3 h4 => by rw [hM1]; simp (disch := omega) only [p2_off]
      rcases num_ok (R := R) (lo := loW w) (hi := hiW w) ht1 f81 with ⟨e, F, v, a1, a2, a3, a4, M2, a5, a6, a7⟩ | ⟨e, v, a1, a2, a3, a4, a5, a6⟩
      · refine Or.inl ⟨p2 (p2 (p2 (p2 (p2 C 8 1 (nI (s + m))) 9 (w + 1) 1) 8 1 (nI e)) 8 2 (nI F)) d w v, M2, F, a2, a3, by rw [cls, a4, bd_def], ?_, fun R' => ?_, a6, fun b k h1 h2 h3 h4 h5 => by simp (disch := omega) only [p2_off], fun b k h1 h2 h3 h4 => (a7 b k (by omega)).trans (bg1 b k h1 h2 h3 h4)⟩
        · simp (disch := omega) only [p2_off, p2_hit]
        · rw [rf8 R']
          unfold f_X8_clause_219
          rw [a5 R', bd_def]
          simp only [if_pos]
      · refine Or.inr ⟨p2 (p2 (p2 (p2 C 8 1 (nI (s + m))) 9 (w + 1) 1) 8 1 (nI e)) d w v, p2 (p2 (p2 M1 100 32 (nI e)) 100 35 v) 144 w v, e, S', f, by omega, by rw [cls, a5, bd_def], fun R' => ?_, ⟨?_, ?_, ?_, ?_, ⟨?_, hS', fun u hu => ?_⟩, ?_, ?_⟩, fun b k h1 h2 h3 h4 h5 => by simp (disch := omega) only [p2_off], fun b k h1 h2 h3 h4 => by simp (disch := omega) only [p2_off]; exact bg1 b k h1 h2 h3 h4⟩
        · rw [rf8 R']
          unfold f_X8_clause_219
          rw [a6 R', bd_def]
          simp only [if_neg i10, lt_def, p2_hit, nI_clamp (show w < 2 ^ 31 by omega), gd_pos (show ix (nI w) (ln 144) from ix_nI (show w < 5 by omega) (by decide))]
        · obtain ⟨t1, t2, t3, t4, t5, t6, t7⟩ := ht1
          simp (disch := omega) only [p2_off] at t1 t4
          unfold tx
          simp (disch := omega) only [p2_off, p2_hit]
          exact ⟨t1, t2, t3, t4, trivial, trivial, a2⟩
        · unfold gW at hW ⊢
          rw [hM1]
          simp (disch := omega) only [p2_off]; exact hW
        · simp (disch := omega) only [p2_off]; exact f7
        · simp (disch := omega) only [p2_off]; exact f81
        · rw [hM1]
          simp (disch := omega) only [p2_off, p2_hit]
        · rw [bS' u hu]
          by_cases q : u = w
          · subst q
            rw [if_pos rfl]
            simp (disch := omega) only [p2_off, p2_hit]
          · rw [if_neg q]
            simp (disch := omega) only [p2_off]
            exact hS3 u hu
        · rw [hM1]
          unfold bF at hF ⊢
          simp (disch := omega) only [p2_off]; exact hF
        · refine bV.set ?_ hd hw5 a3 a4
          rw [hM1]
          unfold bV at hV ⊢
          simp (disch := omega) only [p2_off]; exact hV
    · refine Or.inl (blame 2 (by omega) ?_ (fun R' => ?_))
      · unfold f_X1_readClause
        rw [s4, bd_def, q7, bd_def]
        simp only [if_neg n1, if_pos n2, if_neg nc0, gd_pos hix9, hcl9, k9, hbit, if_neg i10, f_X1_readClause_58, p2_hit]
        rfl
      · unfold f_X8_clause
        rw [w8, q8 R', bd_def]
        simp only [if_pos n3, if_neg nw5, k34, hbit, if_pos, f_X8_clause_48, fp]
        rfl
