/-! ===== the TEXT: words ===== -/
theorem run_ok {C M : MI} {R : MR} {T s : Nat} (h : tx C M T s) : ∀ (d n nn nn' : Nat), s + n + d = T → d < nn → d < nn' →
    ∃ m, n ≤ m ∧ s + m ≤ T ∧ f_X1_readWord_7 nn (p2 C 8 1 (nI (s + n))) R (nI s) (nI n) = f_X1_readWord_53 1000000 (p2 C 8 1 (nI (s + m))) R (nI s) 0 ∧ ∀ R', f_X8_wordHere_10 nn' (p2 M 100 45 (nI n)) R' = f_X8_wordHere_79 1000000 (p2 M 100 45 (nI m)) R' 0 := by
  intro d
  have h0 := h
  obtain ⟨h1, h2, h3, h4, h5, h6, h7⟩ := h
  induction d with
  | zero =>
    intro n nn nn' hd hn hn'
    obtain ⟨nn, rfl⟩ : ∃ m, nn = m + 1 := ⟨nn - 1, by omega⟩
    obtain ⟨nn', rfl⟩ : ∃ m, nn' = m + 1 := ⟨nn' - 1, by omega⟩
    have ha := at_tx (R := R) (h0.to (e := s + n) (by omega))
    have hs : seen1 (p2 M 100 32 (nI (s + n))) T (s + n) = -1 := if_neg (by omega)
    refine ⟨n, by omega, by omega, ?_, fun R' => ?_⟩
    · rw [f_X1_readWord_7.eq_2]
      by_cases q : (200 : Int32) ≤ nI n
      · rw [if_pos q]
      · rw [if_neg q, p2_hit rfl rfl, ha, bd_def, hs, f1_bt, bd_def, if_pos (by decide)]
    · rw [f_X8_wordHere_10.eq_2, p2_hit rfl rfl, p2_off (by omega), p2_off (by omega), h2, h6, nI_add, if_pos (nI_le (by omega) (by omega))]
  | succ d ih =>
    intro n nn nn' hd hn hn'
    obtain ⟨nn, rfl⟩ : ∃ m, nn = m + 1 := ⟨nn - 1, by omega⟩
    obtain ⟨nn', rfl⟩ : ∃ m, nn' = m + 1 := ⟨nn' - 1, by omega⟩
    have ha := at_tx (R := R) (h0.to (e := s + n) (by omega))
    have hs : seen1 (p2 M 100 32 (nI (s + n))) T (s + n) = M 131 (s + n) &&& 255 := by
      unfold seen1; rw [if_pos (by omega), p2_off (by omega)]
    have hb := (h4 (s + n) (by omega)).2
    have hin := by_in (lo := 97) (hi := 122) hb ⟨by decide, by decide⟩ ⟨by decide, by decide⟩
    have q200 : ¬ (200 : Int32) ≤ nI n := nI_ge (a := n) (b := 200) (by omega) (by omega)
    have hcl : (nI (s + n)).toNatClampNeg = s + n := nI_clamp (by omega)
    have hix : ix (nI (s + n)) (ln 131) := ix_nI (show s + n < 200 by omega) (by decide)
    have c7 : f_X1_readWord_7 (nn + 1) (p2 C 8 1 (nI (s + n))) R (nI s) (nI n) = if wi (M 131 (s + n)) 97 122 = 0 then f_X1_readWord_53 1000000 (p2 C 8 1 (nI (s + n))) R (nI s) 0 else f_X1_readWord_7 nn (p2 C 8 1 (nI (s + (n + 1)))) R (nI s) (nI (n + 1)) := by
      rw [f_X1_readWord_7.eq_2, if_neg q200, p2_hit rfl rfl, ha, bd_def, hs, f1_bt, bd_def, hin, lt_def, p2_p2, nI_1, nI_1]
      rfl
    by_cases q1 : M 131 (s + n) < 97
    · have w0 : wi (M 131 (s + n)) 97 122 = 0 := if_pos q1
      refine ⟨n, by omega, by omega, by rw [c7, if_pos w0], fun R' => ?_⟩
      rw [f_X8_wordHere_10.eq_2, p2_hit rfl rfl, p2_off (by omega), p2_off (by omega), h2, h6, nI_add, if_neg (nI_ge (by omega) (by omega)), gd_pos hix]
      simp only [hcl]
      rw [p2_off (by omega), if_pos q1]
    by_cases q2 : 122 < M 131 (s + n)
    · have w0 : wi (M 131 (s + n)) 97 122 = 0 := by unfold wi; rw [if_neg q1, if_pos q2]
      refine ⟨n, by omega, by omega, by rw [c7, if_pos w0], fun R' => ?_⟩
      rw [f_X8_wordHere_10.eq_2, p2_hit rfl rfl, p2_off (by omega), p2_off (by omega), h2, h6, nI_add, if_neg (nI_ge (by omega) (by omega)), gd_pos hix]
      simp only [hcl]
      rw [p2_off (by omega), if_neg q1, gd_pos hix, if_pos q2]
    have w1 : ¬ wi (M 131 (s + n)) 97 122 = 0 := by unfold wi; rw [if_neg q1, if_neg q2]; decide
    obtain ⟨m, e1, e2, e3, e4⟩ := ih (n + 1) nn nn' (by omega) (by omega) (by omega)
    refine ⟨m, by omega, e2, by rw [c7, if_neg w1, e3], fun R' => ?_⟩
    rw [f_X8_wordHere_10.eq_2, p2_hit rfl rfl, p2_off (by omega), p2_off (by omega), h2, h6, nI_add, if_neg (nI_ge (by omega) (by omega)), gd_pos hix]
    simp only [hcl]
    rw [p2_off (by omega), if_neg q1, gd_pos hix, if_neg q2, lt_def, p2_p2, nI_1, e4 R']
def chS (c i : Nat) : Int32 := (bytS.getD c []).getD i 0
def isW (M : MI) (s m c : Nat) : Prop := m = lenS.getD c 0 ∧ ∀ i, i < m → chS c i = M 131 (s + i)
theorem len_rg : ∀ c, c < 6 → 4 ≤ lenS.getD c 0 ∧ lenS.getD c 0 ≤ 6 := by decide
theorem ch_rg : ∀ c, c < 6 → ∀ i, i < 6 → 0 ≤ (chS c i).toInt ∧ (chS c i).toInt ≤ 127 := by decide +kernel
theorem ch_one : ∀ c, c < 6 → ∀ c', c' < 6 → chS c 0 = chS c' 0 → c = c' := by decide +kernel
theorem isW_one {M : MI} {s m c c' : Nat} (hc : c < 6) (hc' : c' < 6) (h : isW M s m c) (h' : isW M s m c') : c = c' := by
  have := (len_rg c hc).1
  refine ch_one c hc c' hc' ?_
  have hm := h.1
  rw [h.2 0 (by omega), h'.2 0 (by omega)]
theorem isw17 {C M : MI} {R : MR} {T s m c : Nat} (h1 : C 6 1 = nI T) (h3 : T ≤ 200) (h4 : ∀ k, k < 200 → C 7 k = M 131 k ∧ rg (M 131 k) (-128) 127) (hm : s + m ≤ T) (hc : c < 6) (hl : m = lenS.getD c 0) : ∀ (d k nn : Nat), k + d = m → d < nn →
    (f_X1_isWord_17 nn C R c (nI s) (nI k) = some 1 ∧ ∀ i, k ≤ i → i < m → chS c i = M 131 (s + i)) ∨ (f_X1_isWord_17 nn C R c (nI s) (nI k) = some 0 ∧ ∃ i, k ≤ i ∧ i < m ∧ ¬ chS c i = M 131 (s + i)) := by
  intro d
  have hlr := len_rg c hc
  rw [← hl] at hlr
  induction d with
  | zero =>
    intro k nn hk hn
    obtain ⟨nn, rfl⟩ : ∃ m, nn = m + 1 := ⟨nn - 1, by omega⟩
    refine Or.inl ⟨?_, fun i h1 h2 => by omega⟩
    rw [f_X1_isWord_17.eq_2, gd_pos hc, ← hl, if_pos (nI_le (by omega) (by omega))]
  | succ d ih =>
    intro k nn hk hn
    obtain ⟨nn, rfl⟩ : ∃ m, nn = m + 1 := ⟨nn - 1, by omega⟩
    have hb := (h4 (s + k) (by omega)).2
    have e1 := by_eq2 (c := chS c k) hb (ch_rg c hc k (by omega))
    have st : f_X1_isWord_17 (nn + 1) C R c (nI s) (nI k) = if chS c k = (M 131 (s + k) &&& 255) then f_X1_isWord_17 nn C R c (nI s) (nI (k + 1)) else some 0 := by
      rw [f_X1_isWord_17.eq_2, gd_pos hc, ← hl, if_neg (nI_ge (by omega) (by omega)), gd_pos ⟨hc, ix_nI (show k < m by omega) (by omega)⟩, nI_add, at_in h1 h3 (by omega), bd_def, (h4 (s + k) (by omega)).1, nI_1, nI_clamp (by omega)]
      rfl
    by_cases q : chS c k = M 131 (s + k)
    · rw [st, if_pos (e1.mpr q.symm).symm]
      rcases ih (k + 1) nn (by omega) (by omega) with ⟨a, b⟩ | ⟨a, i, b1, b2, b3⟩
      · refine Or.inl ⟨a, fun i h1 h2 => ?_⟩
        by_cases e : i = k
        · rw [e]; exact q
        · exact b i (by omega) h2
      · exact Or.inr ⟨a, i, by omega, b2, b3⟩
    · rw [st, if_neg (fun z => q (e1.mp z.symm).symm)]
      exact Or.inr ⟨rfl, k, by omega, by omega, q⟩
theorem isw_ok {C M : MI} {R : MR} {T s m c : Nat} (h1 : C 6 1 = nI T) (h3 : T ≤ 200) (h4 : ∀ k, k < 200 → C 7 k = M 131 k ∧ rg (M 131 k) (-128) 127) (hm : s + m ≤ T) (h8 : C 8 1 = nI (s + m)) (hc : c < 6) :
    (f_X1_isWord C R c (nI s) = some 1 ∧ isW M s m c) ∨ (f_X1_isWord C R c (nI s) = some 0 ∧ ¬ isW M s m c) := by
  have hlr := len_rg c hc
  have e : nI (s + m) - nI s = nI m := by rw [pk_sub (by omega)]; congr 1; omega
  unfold f_X1_isWord
  rw [gd_pos hc, h8, e]
  by_cases hl : m = lenS.getD c 0
  · rw [if_pos (by rw [hl])]
    rcases isw17 (C := C) (R := R) h1 h3 h4 hm hc hl m 0 1000000 (by omega) (by omega) with ⟨a, b⟩ | ⟨a, i, b1, b2, b3⟩
    · exact Or.inl ⟨a, hl, fun i hi => b i (by omega) hi⟩
    · exact Or.inr ⟨a, fun z => b3 (z.2 i b2)⟩
  · rw [if_neg (fun z => hl ((nI_eq (by omega) (by omega)).mp z).symm)]
    exact Or.inr ⟨rfl, fun z => hl z.1⟩
theorem wt_eq {I : MI} {R : MR} {c : Nat} (hc : c < 6) : f_X1_wordText I R (nI c) = some c := by
  rcases (show c = 0 ∨ c = 1 ∨ c = 2 ∨ c = 3 ∨ c = 4 ∨ c = 5 by omega) with e | e | e | e | e | e <;> subst e <;> rfl
/-- the class finds the word, if there is one -/
theorem w53 {C M : MI} {R : MR} {T s m : Nat} (h1 : C 6 1 = nI T) (h3 : T ≤ 200) (h4 : ∀ k, k < 200 → C 7 k = M 131 k ∧ rg (M 131 k) (-128) 127) (hm : s + m ≤ T) (h8 : C 8 1 = nI (s + m)) :
    (∀ c, c < 6 → isW M s m c → ∀ (d k nn : Nat), k + d = c → d < nn → f_X1_readWord_53 nn C R (nI s) (nI k) = some (nI c, C)) ∧
    ((∀ c, c < 6 → ¬ isW M s m c) → ∀ (d k nn : Nat), k + d = 6 → d < nn → f_X1_readWord_53 nn C R (nI s) (nI k) = some (-1, C)) := by
  have st : ∀ c nn, c < 6 → (isW M s m c → f_X1_readWord_53 (nn + 1) C R (nI s) (nI c) = some (nI c, C)) ∧ (¬ isW M s m c → f_X1_readWord_53 (nn + 1) C R (nI s) (nI c) = f_X1_readWord_53 nn C R (nI s) (nI (c + 1))) := by
    intro c nn hc
    rw [f_X1_readWord_53.eq_2, if_neg (show ¬ (6 : Int32) ≤ nI c from nI_ge (a := c) (b := 6) (by omega) (by omega)), wt_eq hc, bd_def, nI_1]
    rcases isw_ok (R := R) h1 h3 h4 hm h8 hc with ⟨a, b⟩ | ⟨a, b⟩
    · rw [a, bd_def, if_neg i10]
      exact ⟨fun _ => rfl, fun z => absurd b z⟩
    · rw [a, bd_def, if_pos rfl]
      exact ⟨fun z => absurd z b, fun _ => rfl⟩
  refine ⟨fun c hc hw d => ?_, fun hno d => ?_⟩
  · induction d with
    | zero =>
      intro k nn hk hn
      obtain ⟨nn, rfl⟩ : ∃ m, nn = m + 1 := ⟨nn - 1, by omega⟩
      have : k = c := by omega
      subst this
      exact (st k nn hc).1 hw
    | succ d ih =>
      intro k nn hk hn
      obtain ⟨nn, rfl⟩ : ∃ m, nn = m + 1 := ⟨nn - 1, by omega⟩
      rw [(st k nn (by omega)).2 (fun z => by have := isW_one (by omega) hc z hw; omega)]
      exact ih (k + 1) nn (by omega) (by omega)
  · induction d with
    | zero =>
      intro k nn hk hn
      obtain ⟨nn, rfl⟩ : ∃ m, nn = m + 1 := ⟨nn - 1, by omega⟩
      rw [f_X1_readWord_53.eq_2, if_pos (show (6 : Int32) ≤ nI k from nI_le (a := 6) (by omega) (by omega))]
    | succ d ih =>
      intro k nn hk hn
      obtain ⟨nn, rfl⟩ : ∃ m, nn = m + 1 := ⟨nn - 1, by omega⟩
      rw [(st k nn (by omega)).2 (hno k (by omega))]
      exact ih (k + 1) nn (by omega) (by omega)
/-- the number of a word in the class, out of that in the reference -/
def cw (w : Nat) : Nat := if w = 5 then 0 else w + 1
theorem row_ok : ∀ w, w < 6 → ∀ i, i < 6 → (i < lenS.getD (cw w) 0 → wB.getD (6 * w + i) 0 = chS (cw w) i ∧ ¬ wB.getD (6 * w + i) 0 = 0) ∧ (i = lenS.getD (cw w) 0 → wB.getD (6 * w + i) 0 = 0) := by decide +kernel
theorem w96 {M : MI} {R : MR} {k79 : MI → MR → Int32 → Option (Int32 × MI)} {w : Nat} (hW : gW M) (hw : w < 6) : ∀ (d i nn : Nat), i + d = lenS.getD (cw w) 0 → d < nn → f_X8_wordHere_96 k79 nn M R (nI w) (nI i) = f_X8_wordHere_122 k79 M R (nI w) (nI (lenS.getD (cw w) 0)) := by
  have hcw : cw w < 6 := by unfold cw; split <;> omega
  have hlr := len_rg (cw w) hcw
  have e6 : (6 : Int32) = nI 6 := rfl
  intro d
  induction d with
  | zero =>
    intro i nn hi hn
    obtain ⟨nn, rfl⟩ : ∃ m, nn = m + 1 := ⟨nn - 1, by omega⟩
    have hi : i = lenS.getD (cw w) 0 := by omega
    rw [f_X8_wordHere_96.eq_2, e6, pk_mul, nI_add]
    by_cases q : 6 ≤ i
    · rw [if_pos (nI_le q (by omega)), hi]
    · rw [if_neg (nI_ge (by omega) (by omega)), gd_pos (show ix (nI (6 * w + i)) (ln 145) from ix_nI (show 6 * w + i < 36 by omega) (by decide)), nI_clamp (by omega), hW _ (by omega), if_pos ((row_ok w hw i (by omega)).2 hi), hi]
  | succ d ih =>
    intro i nn hi hn
    obtain ⟨nn, rfl⟩ : ∃ m, nn = m + 1 := ⟨nn - 1, by omega⟩
    rw [f_X8_wordHere_96.eq_2, e6, pk_mul, nI_add, if_neg (nI_ge (by omega) (by omega)), gd_pos (show ix (nI (6 * w + i)) (ln 145) from ix_nI (show 6 * w + i < 36 by omega) (by decide)), nI_clamp (by omega), hW _ (by omega), if_neg ((row_ok w hw i (by omega)).1 (by omega)).2, nI_1]
    exact ih (i + 1) nn (by omega) (by omega)
theorem w139_0 {M : MI} {R : MR} {k79 : MI → MR → Int32 → Option (Int32 × MI)} {x1 x2 x4 : Int32} {nn : Nat} : f_X8_wordHere_139 k79 (nn + 1) M R x1 x2 0 x4 = k79 M R (x1 + 1) := by
  rw [f_X8_wordHere_139.eq_2, if_pos rfl]
  unfold f_X8_wordHere_188
  rw [if_pos rfl]
theorem w139 {M : MI} {R : MR} {k79 : MI → MR → Int32 → Option (Int32 × MI)} {T s m w : Nat} (hW : gW M) (hw : w < 6) (h6 : M 100 32 = nI s) (h3 : T ≤ 200) (hm : s + m ≤ T) (hl : m = lenS.getD (cw w) 0) : ∀ (d k nn : Nat), k + d = m → d < nn →
    (f_X8_wordHere_139 k79 nn M R (nI w) (nI m) 1 (nI k) = some (nI w, M) ∧ ∀ i, k ≤ i → i < m → chS (cw w) i = M 131 (s + i)) ∨ (f_X8_wordHere_139 k79 nn M R (nI w) (nI m) 1 (nI k) = k79 M R (nI (w + 1)) ∧ ∃ i, k ≤ i ∧ i < m ∧ ¬ chS (cw w) i = M 131 (s + i)) := by
  have hcw : cw w < 6 := by unfold cw; split <;> omega
  have hlr := len_rg (cw w) hcw
  have e6 : (6 : Int32) = nI 6 := rfl
  intro d
  induction d with
  | zero =>
    intro k nn hk hn
    obtain ⟨nn, rfl⟩ : ∃ m, nn = m + 1 := ⟨nn - 1, by omega⟩
    refine Or.inl ⟨?_, fun i h1 h2 => by omega⟩
    rw [f_X8_wordHere_139.eq_2, if_neg i10, if_pos (nI_le (by omega) (by omega))]
    unfold f_X8_wordHere_188
    rw [if_neg i10]
  | succ d ih =>
    intro k nn hk hn
    obtain ⟨nn, rfl⟩ : ∃ m, nn = m + 1 := ⟨nn - 1, by omega⟩
    have st : f_X8_wordHere_139 k79 (nn + 1) M R (nI w) (nI m) 1 (nI k) = if chS (cw w) k = M 131 (s + k) then f_X8_wordHere_139 k79 nn M R (nI w) (nI m) 1 (nI (k + 1)) else f_X8_wordHere_139 k79 nn M R (nI w) (nI m) 0 (nI (k + 1)) := by
      rw [f_X8_wordHere_139.eq_2, if_neg i10, if_neg (nI_ge (by omega) (by omega)), e6, pk_mul, nI_add, h6, nI_add, gd_pos (show ix (nI (6 * w + k)) (ln 145) from ix_nI (show 6 * w + k < 36 by omega) (by decide)), gd_pos (show ix (nI (s + k)) (ln 131) from ix_nI (show s + k < 200 by omega) (by decide)), nI_clamp (by omega), nI_clamp (by omega), hW _ (by omega), ((row_ok w hw k (by omega)).1 (by omega)).1, nI_1]
    by_cases q : chS (cw w) k = M 131 (s + k)
    · rw [st, if_pos q]
      rcases ih (k + 1) nn (by omega) (by omega) with ⟨a, b⟩ | ⟨a, i, b1, b2, b3⟩
      · refine Or.inl ⟨a, fun i h1 h2 => ?_⟩
        by_cases e : i = k
        · rw [e]; exact q
        · exact b i (by omega) h2
      · exact Or.inr ⟨a, i, by omega, b2, b3⟩
    · obtain ⟨nn, rfl⟩ : ∃ m, nn = m + 1 := ⟨nn - 1, by omega⟩
      rw [st, if_neg q, w139_0, nI_1]
      exact Or.inr ⟨rfl, k, by omega, by omega, q⟩
theorem w79 {M : MI} {R : MR} {T s m : Nat} (hW : gW M) (h6 : M 100 32 = nI s) (h45 : M 100 45 = nI m) (h3 : T ≤ 200) (hm : s + m ≤ T) :
    (∀ w, w < 6 → isW M s m (cw w) → ∀ (d k nn : Nat), k + d = w → d < nn → f_X8_wordHere_79 nn M R (nI k) = some (nI w, M)) ∧
    ((∀ c, c < 6 → ¬ isW M s m c) → ∀ (d k nn : Nat), k + d = 6 → d < nn → f_X8_wordHere_79 nn M R (nI k) = some (-1, M)) := by
  have hcw : ∀ w, w < 6 → cw w < 6 := fun w h => by unfold cw; split <;> omega
  have st : ∀ w nn, w < 6 → m ≤ 6 → (isW M s m (cw w) → f_X8_wordHere_79 (nn + 1) M R (nI w) = some (nI w, M)) ∧ (¬ isW M s m (cw w) → f_X8_wordHere_79 (nn + 1) M R (nI w) = f_X8_wordHere_79 nn M R (nI (w + 1))) := by
    intro w nn hw hm6
    have hlr := len_rg (cw w) (hcw w hw)
    rw [f_X8_wordHere_79.eq_2, if_neg (show ¬ (6 : Int32) ≤ nI w from nI_ge (a := w) (b := 6) (by omega) (by omega)), h45, if_neg (show ¬ (6 : Int32) < nI m from nI_nlt (a := 6) (by omega) (by omega)), show (0 : Int32) = nI 0 from rfl, w96 hW hw _ 0 1000000 (Nat.zero_add _) (by omega)]
    unfold f_X8_wordHere_122
    rw [h45]
    by_cases hl : m = lenS.getD (cw w) 0
    · rw [← hl, if_pos rfl]
      rcases w139 (k79 := f_X8_wordHere_79 nn) (R := R) hW hw h6 h3 hm hl m 0 1000000 (by omega) (by omega) with ⟨a, b⟩ | ⟨a, i, b1, b2, b3⟩
      · have hw1 : isW M s m (cw w) := ⟨hl, fun i hi => b i (by omega) hi⟩
        exact ⟨fun _ => a, fun z => absurd hw1 z⟩
      · exact ⟨fun z => absurd (z.2 i b2) b3, fun _ => a⟩
    · rw [if_neg (fun z => hl ((nI_eq (by omega) (by omega)).mp z).symm), show (1000000 : Nat) = 999999 + 1 from rfl, w139_0, nI_1]
      exact ⟨fun z => absurd z.1 hl, fun _ => rfl⟩
  refine ⟨fun w hw hww d => ?_, fun hno d => ?_⟩
  · have hm6 : m ≤ 6 := by rw [hww.1]; exact (len_rg _ (hcw w hw)).2
    induction d with
    | zero =>
      intro k nn hk hn
      obtain ⟨nn, rfl⟩ : ∃ m, nn = m + 1 := ⟨nn - 1, by omega⟩
      have : k = w := by omega
      subst this
      exact (st k nn hw hm6).1 hww
    | succ d ih =>
      intro k nn hk hn
      obtain ⟨nn, rfl⟩ : ∃ m, nn = m + 1 := ⟨nn - 1, by omega⟩
      rw [(st k nn (by omega) hm6).2 (fun z => by have := isW_one (hcw k (by omega)) (hcw w hw) z hww; unfold cw at this; split at this <;> split at this <;> omega)]
      exact ih (k + 1) nn (by omega) (by omega)
  · induction d with
    | zero =>
      intro k nn hk hn
      obtain ⟨nn, rfl⟩ : ∃ m, nn = m + 1 := ⟨nn - 1, by omega⟩
      rw [f_X8_wordHere_79.eq_2, if_pos (show (6 : Int32) ≤ nI k from nI_le (a := 6) (by omega) (by omega))]
    | succ d ih =>
      intro k nn hk hn
      obtain ⟨nn, rfl⟩ : ∃ m, nn = m + 1 := ⟨nn - 1, by omega⟩
      by_cases hm6 : m ≤ 6
      · rw [(st k nn (by omega) hm6).2 (hno _ (hcw k (by omega)))]
        exact ih (k + 1) nn (by omega) (by omega)
      · rw [f_X8_wordHere_79.eq_2, if_neg (show ¬ (6 : Int32) ≤ nI k from nI_ge (a := k) (b := 6) (by omega) (by omega)), h45, if_pos (show (6 : Int32) < nI m from nI_lt (a := 6) (by omega) (by omega))]
/-- a word, or none: the same on both sides -/
theorem word_ok {C M : MI} {R : MR} {T s : Nat} (h : tx C M T s) (hW : gW M) : ∃ m, s + m ≤ T ∧
    ((f_X1_readWord C R = some (-1, p2 C 8 1 (nI (s + m))) ∧ ∀ R', f_X8_wordHere_10 1000000 (p2 M 100 45 0) R' = some (-1, p2 M 100 45 (nI m))) ∨
     ∃ w, w < 6 ∧ 4 ≤ m ∧ f_X1_readWord C R = some (nI (cw w), p2 C 8 1 (nI (s + m))) ∧ ∀ R', f_X8_wordHere_10 1000000 (p2 M 100 45 0) R' = some (nI w, p2 M 100 45 (nI m))) := by
  obtain ⟨m, e1, e2, e3, e4⟩ := run_ok (R := R) h (T - s) 0 1000000 1000000 (by have := h.2.2.2.2.2.2; omega) (by have := h.2.2.1; omega) (by have := h.2.2.1; omega)
  obtain ⟨h1, h2, h3, h4, h5, h6, h7⟩ := h
  rw [Nat.add_zero, p2_self h5] at e3
  have e3' : f_X1_readWord C R = f_X1_readWord_53 1000000 (p2 C 8 1 (nI (s + m))) R (nI s) (nI 0) := by
    unfold f_X1_readWord; rw [h5]; exact e3
  have a1 : p2 C 8 1 (nI (s + m)) 6 1 = nI T := by rw [p2_off (by omega)]; exact h1
  have a4 : ∀ k, k < 200 → p2 C 8 1 (nI (s + m)) 7 k = M 131 k ∧ rg (M 131 k) (-128) 127 := fun k hk => by rw [p2_off (by omega)]; exact h4 k hk
  obtain ⟨c1, c2⟩ := w53 (R := R) a1 h3 a4 e2 (p2_hit rfl rfl)
  have b : ∀ R', _ := fun R' => w79 (M := p2 M 100 45 (nI m)) (R := R') (s := s) (m := m) (hW.pM (by omega)) (by rw [p2_off (by omega)]; exact h6) (p2_hit rfl rfl) h3 e2
  have iwc : ∀ c, isW (p2 M 100 45 (nI m)) s m c ↔ isW M s m c := fun c => by
    unfold isW
    simp (disch := omega) only [p2_off]
  refine ⟨m, e2, ?_⟩
  by_cases hex : ∃ c, c < 6 ∧ isW M s m c
  · obtain ⟨c, hc, hw⟩ := hex
    obtain ⟨w, hw6, hcw⟩ : ∃ w, w < 6 ∧ cw w = c := by
      by_cases q : c = 0
      · exact ⟨5, by omega, by rw [q]; rfl⟩
      · refine ⟨c - 1, by omega, ?_⟩
        unfold cw; rw [if_neg (by omega)]; omega
    subst hcw
    refine Or.inr ⟨w, hw6, ?_, ?_, fun R' => ?_⟩
    · rw [hw.1]; exact (len_rg _ hc).1
    · rw [e3']
      exact c1 _ hc hw (cw w) 0 1000000 (by omega) (by omega)
    · have := e4 R'
      refine this.trans ?_
      exact (b R').1 w hw6 ((iwc _).mpr hw) w 0 1000000 (by omega) (by omega)
  · have hno : ∀ c, c < 6 → ¬ isW M s m c := fun c hc z => hex ⟨c, hc, z⟩
    refine Or.inl ⟨?_, fun R' => ?_⟩
    · rw [e3']
      exact c2 hno 6 0 1000000 (by omega) (by omega)
    · have := e4 R'
      refine this.trans ?_
      exact (b R').2 (fun c hc z => hno c hc ((iwc c).mp z)) 6 0 1000000 (by omega) (by omega)
