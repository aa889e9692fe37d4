/-! ===== the start ===== -/
def ofL : List Nat := [0, 1, 2, 3, 4, 5, 6, 7, 8, 9, 10, 11, 12, 13, 19, 20, 21, 22, 14, 15, 16, 17, 18, 23, 24, 25, 26, 27, 28, 0, 0, 0, 0, 0, 0, 0, 0, 0, 0, 0, 0, 0, 0, 0, 0, 0, 0, 0, 0, 0, 0, 0, 0, 0, 0, 0, 0, 0, 0, 0, 0, 0, 0, 0, 0, 0, 0, 0, 0, 0, 0, 0, 0, 0, 0, 0, 0, 0, 0, 0, 0, 0, 0, 0, 0, 0, 0, 0, 0, 0, 0, 0, 0, 0, 0, 0, 0, 0, 0, 0, 29, 0, 0, 0, 30, 31, 32, 33, 34, 35, 0, 36, 37, 38, 0, 39, 40, 41, 42, 43, 44, 45, 46, 47, 48, 0, 0, 0, 0, 0, 0, 49, 0, 0, 0, 0, 0, 0, 50, 51, 0, 52, 53, 54, 55, 56, 0, 0, 0, 0, 57, 58, 59, 60, 61, 62, 63]
def qs (sz id : Nat) : Nat := sz + ofL.getD id 0
theorem lt_go {α β : Type} {x : α} {f : α → Option β} {y : Option β} (h : f x = y) : lt x f = y := h
theorem gd_go {P : Prop} [Decidable P] {β : Type} {x y : Option β} (hp : P) (h : x = y) : gd P x = y := (gd_pos hp).trans h
theorem bd_go {α β : Type} {x : Option α} {a : α} {f : α → Option β} {y : Option β} (h : x = some a) (h2 : f a = y) : bd x f = y := by rw [h]; exact h2
def fill1 (a : Nat) : Nat → Nat → MI → MI
  | 0, _, I => I
  | d + 1, k, I => fill1 a d (k + 1) (p2 I a k 1)
theorem i153 {q : Nat → Nat} {R : MR} {al : Nat → Bool} {n : Nat} (hR : R 0 10 = some 4) : ∀ (d k nn : Nat) (I : MI), k + d = 24 → d < nn → f_X7_init_153 q nn I R al n (nI k) = some (fill1 4 d k I, R) := by
  intro d
  induction d with
  | zero =>
    intro k nn I hk hd
    obtain ⟨nn, rfl⟩ : ∃ m, nn = m + 1 := ⟨nn - 1, by omega⟩
    rw [f_X7_init_153.eq_2, if_pos (show (24 : Int32) ≤ nI k from nI_le (a := 24) (by omega) (by omega))]
    rfl
  | succ d ih =>
    intro k nn I hk hd
    obtain ⟨nn, rfl⟩ : ∃ m, nn = m + 1 := ⟨nn - 1, by omega⟩
    rw [f_X7_init_153.eq_2, if_neg (show ¬ (24 : Int32) ≤ nI k from nI_ge (a := k) (b := 24) (by omega) (by omega)), hR, bd_def, gd_pos (show ix (nI k) (ln 4) from ix_nI (show k < 24 by omega) (by decide)), lt_def, nI_clamp (by omega), nI_1]
    exact ih (k + 1) nn _ (by omega) (by omega)
def woL : List Int32 := [10, 10, 85, 20, 1]
def fillW : Nat → Nat → MI → MI
  | 0, _, I => I
  | d + 1, k, I => fillW d (k + 1) (p2 I 143 k (woL.getD k 0))
theorem wo_eq {I : MI} {R : MR} {k : Nat} (hk : k < 5) : f_X8_without I R (nI k) = some (woL.getD k 0) := by
  rcases (show k = 0 ∨ k = 1 ∨ k = 2 ∨ k = 3 ∨ k = 4 by omega) with e | e | e | e | e <;> subst e <;> rfl
theorem i534 {q : Nat → Nat} {R : MR} {al : Nat → Bool} {n : Nat} (hR : R 100 42 = some 143) : ∀ (d k nn : Nat) (I : MI), k + d = 5 → d < nn → f_X8_init_534 q nn I R al n (nI k) = some (fillW d k I, R) := by
  intro d
  induction d with
  | zero =>
    intro k nn I hk hd
    obtain ⟨nn, rfl⟩ : ∃ m, nn = m + 1 := ⟨nn - 1, by omega⟩
    rw [f_X8_init_534.eq_2, if_pos (show (5 : Int32) ≤ nI k from nI_le (a := 5) (by omega) (by omega))]
    rfl
  | succ d ih =>
    intro k nn I hk hd
    obtain ⟨nn, rfl⟩ : ∃ m, nn = m + 1 := ⟨nn - 1, by omega⟩
    rw [f_X8_init_534.eq_2, if_neg (show ¬ (5 : Int32) ≤ nI k from nI_ge (a := k) (b := 5) (by omega) (by omega)), hR, bd_def, wo_eq (by omega), bd_def, gd_pos (show ix (nI k) (ln 143) from ix_nI (show k < 5 by omega) (by decide)), lt_def, nI_clamp (by omega), nI_1]
    exact ih (k + 1) nn _ (by omega) (by omega)
theorem i493 {q : Nat → Nat} {R : MR} {al : Nat → Bool} {n : Nat} (hR : R 100 11 = some 112) (h37 : R 100 37 = some 138) (h38 : R 100 38 = some 139) (h42 : R 100 42 = some 143) : ∀ (d k nn : Nat) (I : MI), k + d = 24 → d < nn → f_X8_init_493 q nn I R al n (nI k) = some (fillW 5 0 (p2 (p2 (p2 (fill1 112 d k I) 100 36 1) 138 0 0) 139 0 20), R) := by
  intro d
  induction d with
  | zero =>
    intro k nn I hk hd
    obtain ⟨nn, rfl⟩ : ∃ m, nn = m + 1 := ⟨nn - 1, by omega⟩
    rw [f_X8_init_493.eq_2, if_pos (show (24 : Int32) ≤ nI k from nI_le (a := 24) (by omega) (by omega)), lt_def, h37, bd_def, gd_pos (show ix 0 (ln 138) from ⟨by decide, by decide⟩), lt_def, h38, bd_def, gd_pos (show ix 0 (ln 139) from ⟨by decide, by decide⟩), lt_def]
    exact i534 h42 5 0 1000000 _ (by omega) (by omega)
  | succ d ih =>
    intro k nn I hk hd
    obtain ⟨nn, rfl⟩ : ∃ m, nn = m + 1 := ⟨nn - 1, by omega⟩
    rw [f_X8_init_493.eq_2, if_neg (show ¬ (24 : Int32) ≤ nI k from nI_ge (a := k) (b := 24) (by omega) (by omega)), hR, bd_def, gd_pos (show ix (nI k) (ln 112) from ix_nI (show k < 24 by omega) (by decide)), lt_def, nI_clamp (by omega), nI_1]
    exact ih (k + 1) nn _ (by omega) (by omega)
theorem alu_ne {al : Nat → Bool} {a b : Nat} (h : b ≠ a) : alu al a b = al b := if_neg h
theorem kd_big {id : Nat} (h : 157 ≤ id) : kd id = 99 := by
  unfold kd
  rw [List.getD_eq_getElem?_getD, List.getElem?_eq_none (show kdL.length ≤ id from h)]
  rfl
theorem fxt_big {id j : Nat} (h : 157 ≤ id) : fxt id j = none := by
  unfold fxt
  rw [List.getD_eq_getElem?_getD (l := fxL), List.getElem?_eq_none (show fxL.length ≤ id from h)]
  rfl
theorem fxt_bigj {id j : Nat} (h : id < 157) (hj : 56 ≤ j) : fxt id j = none := by
  have hl : ∀ i, i < 157 → (fxL.getD i []).length ≤ 56 := by decide +kernel
  unfold fxt
  rw [List.getD_eq_getElem?_getD, List.getElem?_eq_none (show (fxL.getD id []).length ≤ j from Nat.le_trans (hl id h) hj)]
  rfl
def ckI (I : MI) : Prop := (I 0 1 = 0 ∧ I 100 2 = 0 ∧ I 0 3 = 0 ∧ I 100 13 = 0 ∧ I 0 4 = 0) ∧ (I 0 6 = 1 ∧ I 100 9 = 1 ∧ I 0 7 = 15 ∧ I 100 1 = 15 ∧ I 0 8 = 0 ∧ I 100 0 = 0 ∧ I 0 9 = 2 ∧ I 100 29 = 2) ∧ (∀ h, h < 24 → I 4 h = 1 ∧ I 112 h = 1 ∧ I 5 h = 0 ∧ I 113 h = 0) ∧ (I 6 1 = 0 ∧ I 100 31 = 0 ∧ ∀ k, k < 200 → I 7 k = 0 ∧ I 131 k = 0) ∧ (I 10 0 = 0 ∧ I 10 1 = 0 ∧ I 10 2 = 0 ∧ I 10 3 = 0 ∧ I 10 4 = 0 ∧ I 100 24 = 0 ∧ I 100 25 = 0 ∧ I 100 26 = 0 ∧ I 100 27 = 0 ∧ I 100 28 = 0) ∧ (∀ i, i < 4 → I 107 i = 0 ∧ I 108 i = 0 ∧ I 109 i = 0) ∧ (∀ j, j < 60 → I 118 j = 0 ∧ I 123 j = 0 ∧ I 124 j = 0) ∧ (I 111 0 = -1 ∧ I 111 1 = -1) ∧ (I 23 0 = 10 ∧ I 23 1 = 10 ∧ I 23 2 = 85 ∧ I 23 3 = 20 ∧ I 23 4 = 1 ∧ I 23 7 = 0 ∧ I 143 0 = 10 ∧ I 143 1 = 10 ∧ I 143 2 = 85 ∧ I 143 3 = 20 ∧ I 143 4 = 1 ∧ I 100 36 = 1 ∧ I 138 0 = 0 ∧ I 139 0 = 20) ∧ (I 100 46 = 0 ∧ I 11 11 = 0) ∧ (∀ k, k < 36 → I 145 k = wB.getD k 0)
def ckR (R : MR) : Prop := R 3 0 = none ∧ R 3 1 = none ∧ R 0 16 = some 23 ∧ R 0 17 = some 26 ∧ (∀ i, i < 4 → R 1 i = none) ∧ (∀ j, j < 60 → R 2 j = none) ∧ (∀ id, id < 157 → ∀ j, j < 56 → fxt id j = none ∨ R id j = fxt id j)
def ckA (al : Nat → Bool) : Prop := ∀ id, id < 157 → (al id = true ↔ (kd id ≠ 99 ∧ (id < 30 ∨ 100 ≤ id)))
theorem LI_ck {q : Nat → Nat} {al : Nat → Bool} {I : MI} {R : MR} {n : Nat} (hI : ckI I) (hR : ckR R) (hA : ckA al) (hb : ∀ id, 157 ≤ id → al id = false) : LI q al I R n := by
  obtain ⟨⟨s1, s2, s3, s4, s5⟩, ⟨m1, m2, m3, m4, m5, m6, m7, m8⟩, hP, ⟨t1, t2, hT⟩, ⟨l1, l2, l3, l4, l5, l6, l7, l8, l9, l10⟩, hB, hC, ⟨h1, h2⟩, ⟨r0, r1, r2, r3, r4, r7, k0, k1, k2, k3, k4, k36, k138, k139⟩, ⟨n1, n2⟩, hW⟩ := hI
  obtain ⟨q1, q2, q3, q4, q5, q6, q7⟩ := hR
  refine ⟨0, 0, 0, 23, ⟨?_, ?_, ?_, ?_, ?_, ?_, ?_, ?_, ?_, ?_, hW⟩, ?_, ?_, ?_, ?_⟩
  · exact ⟨s1, s2, s3, s4, s5, by omega, by omega, by omega⟩
  · unfold gM
    rw [m1, m2, m3, m4, m5, m6, m7, m8]
    exact ⟨rfl, Or.inl rfl, rfl, ⟨by decide, by decide⟩, rfl, ⟨by decide, by decide⟩, rfl, by decide, by decide⟩
  · intro h hh
    obtain ⟨a, b, c, d⟩ := hP h hh
    rw [a, b, c, d]
    exact ⟨rfl, rfl, Or.inl rfl⟩
  · unfold gT
    rw [t1, t2]
    refine ⟨rfl, ⟨by decide, by decide⟩, fun k hk => ?_⟩
    obtain ⟨a, b⟩ := hT k hk
    rw [a, b]
    exact ⟨rfl, by decide, by decide⟩
  · unfold gL
    rw [l1, l2, l3, l4, l5, l6, l7, l8, l9, l10]
    exact ⟨rfl, rfl, rfl, rfl, rfl⟩
  · exact ⟨fun i hi => by omega, fun i _ hi => hB i hi⟩
  · exact ⟨fun i hi => by omega, fun i hi => by omega, fun i _ hi => (hC i hi).1, fun i _ hi => (hC i hi).2⟩
  · refine ⟨fun h hh => Or.inl ?_, fun _ => q2, fun t a => by rw [q1] at a; cases a⟩
    rcases (show h = 0 ∨ h = 1 by omega) with e | e <;> subst e
    · exact ⟨q1, h1⟩
    · exact ⟨q2, h2⟩
  · refine ⟨q3, Or.inl ⟨rfl, q4⟩, ?_⟩
    unfold rR fR
    rw [r0, r1, r2, r3, r4, r7, k0, k1, k2, k3, k4, k36, k138, k139]
    exact ⟨rfl, rfl, rfl, rfl, rfl, ⟨by decide, by decide⟩, ⟨by decide, by decide⟩, ⟨by decide, by decide⟩, ⟨by decide, by decide⟩, ⟨by decide, by decide⟩, 0, by omega, rfl, Or.inl ⟨rfl, rfl, rfl, rfl⟩⟩
  · exact Or.inl ⟨n1, n2⟩
  · intro id
    by_cases h : id < 157
    · refine (hA id h).trans ⟨fun z => Or.inl z, fun z => ?_⟩
      rcases z with z | z | z
      · exact z
      · omega
      · omega
    · rw [hb id (by omega)]
      refine ⟨fun z => (by cases z), fun z => ?_⟩
      rcases z with z | z | z
      · exact absurd (kd_big (by omega)) z.1
      · omega
      · omega
  · intro id j t _ ht
    by_cases h : id < 157
    · by_cases hj : j < 56
      · rcases q7 id h j hj with z | z
        · rw [z] at ht; cases ht
        · rw [z]; exact ht
      · rw [fxt_bigj h (by omega)] at ht; cases ht
    · rw [fxt_big (by omega)] at ht; cases ht
  · intro i hi
    rw [q5 i hi, if_neg (by omega)]
  · intro j hj
    rw [q6 j hj, if_neg (by omega)]
theorem K_in : LK_in LI := by
  rintro q al I R n ⟨nb, nc, lh, r, hR, hA⟩
  exact ⟨(hA.1 0).mpr (Or.inl ⟨by decide, by omega⟩), (hA.1 100).mpr (Or.inl ⟨by decide, by omega⟩), hA.2.1⟩
set_option maxRecDepth 20000 in
theorem K_st : LK_start LI := by
  intro sz
  refine ⟨qs sz, ?_⟩
  apply Exists.intro
  apply Exists.intro
  refine ⟨rfl, ?_, rfl, ?_, ?_⟩
  · unfold f_X7_init
    refine gd_go ⟨rfl, rfl, rfl, rfl⟩ ?_
    refine lt_go ?_
    refine lt_go ?_
    refine lt_go ?_
    refine lt_go ?_
    refine gd_go ⟨rfl, rfl, rfl, rfl⟩ ?_
    refine lt_go ?_
    refine lt_go ?_
    refine lt_go ?_
    refine lt_go ?_
    refine lt_go ?_
    refine gd_go ⟨rfl, rfl, rfl, rfl⟩ ?_
    refine lt_go ?_
    refine lt_go ?_
    refine lt_go ?_
    refine lt_go ?_
    refine lt_go ?_
    refine lt_go ?_
    refine lt_go ?_
    refine gd_go ⟨rfl, rfl, rfl, rfl⟩ ?_
    refine lt_go ?_
    refine lt_go ?_
    refine lt_go ?_
    refine gd_go ⟨rfl, rfl, rfl, rfl⟩ ?_
    refine lt_go ?_
    refine lt_go ?_
    refine lt_go ?_
    refine gd_go ⟨rfl, rfl, rfl⟩ ?_
    refine lt_go ?_
    refine lt_go ?_
    apply bd_go
    · unfold f_X6_init
      refine gd_go ⟨rfl, rfl, rfl, rfl⟩ ?_
      refine lt_go ?_
      refine lt_go ?_
      refine lt_go ?_
      refine lt_go ?_
      exact rfl
    refine lt_go ?_
    refine gd_go ⟨rfl, rfl, rfl⟩ ?_
    refine lt_go ?_
    refine lt_go ?_
    refine bd_go rfl ?_
    apply bd_go
    · unfold f_X1_init
      refine lt_go ?_
      refine lt_go ?_
      refine gd_go ⟨rfl, rfl, rfl, rfl⟩ ?_
      refine lt_go ?_
      refine lt_go ?_
      refine lt_go ?_
      refine lt_go ?_
      exact rfl
    refine lt_go ?_
    refine gd_go ⟨rfl, rfl, rfl⟩ ?_
    refine lt_go ?_
    refine lt_go ?_
    apply bd_go
    · unfold f_X3_init
      refine lt_go ?_
      refine lt_go ?_
      refine lt_go ?_
      refine lt_go ?_
      refine lt_go ?_
      exact rfl
    refine lt_go ?_
    refine gd_go ⟨rfl, rfl, rfl⟩ ?_
    refine lt_go ?_
    refine lt_go ?_
    apply bd_go
    · unfold f_X4_init
      refine gd_go ⟨rfl, rfl, rfl⟩ ?_
      refine lt_go ?_
      refine lt_go ?_
      apply bd_go
      · unfold f_X2_init
        refine lt_go ?_
        refine lt_go ?_
        refine lt_go ?_
        refine lt_go ?_
        refine lt_go ?_
        refine lt_go ?_
        refine lt_go ?_
        refine lt_go ?_
        refine lt_go ?_
        refine lt_go ?_
        exact rfl
      refine lt_go ?_
      refine gd_go ⟨rfl, rfl, rfl, rfl⟩ ?_
      refine lt_go ?_
      refine lt_go ?_
      refine lt_go ?_
      refine lt_go ?_
      refine lt_go ?_
      refine lt_go ?_
      refine lt_go ?_
      refine gd_go ⟨rfl, rfl, rfl, rfl⟩ ?_
      refine lt_go ?_
      refine lt_go ?_
      refine lt_go ?_
      refine gd_go ⟨rfl, rfl, rfl, rfl⟩ ?_
      refine lt_go ?_
      refine lt_go ?_
      refine lt_go ?_
      refine gd_go ⟨rfl, rfl, rfl, rfl⟩ ?_
      refine lt_go ?_
      refine lt_go ?_
      refine lt_go ?_
      refine gd_go ⟨rfl, rfl, rfl, rfl⟩ ?_
      refine lt_go ?_
      refine lt_go ?_
      refine lt_go ?_
      refine gd_go ⟨rfl, rfl, rfl, rfl⟩ ?_
      refine lt_go ?_
      refine lt_go ?_
      refine lt_go ?_
      refine lt_go ?_
      refine lt_go ?_
      refine bd_go rfl ?_
      refine gd_go ⟨rfl, rfl, rfl⟩ ?_
      refine lt_go ?_
      refine lt_go ?_
      apply bd_go
      · unfold f_X0_init
        refine lt_go ?_
        refine lt_go ?_
        refine lt_go ?_
        refine lt_go ?_
        refine lt_go ?_
        refine lt_go ?_
        exact rfl
      refine gd_go ⟨by decide, by decide⟩ ?_
      refine lt_go ?_
      refine bd_go rfl ?_
      refine gd_go ⟨rfl, rfl, rfl⟩ ?_
      refine lt_go ?_
      refine lt_go ?_
      apply bd_go
      · unfold f_X0_init
        refine lt_go ?_
        refine lt_go ?_
        refine lt_go ?_
        refine lt_go ?_
        refine lt_go ?_
        refine lt_go ?_
        exact rfl
      refine gd_go ⟨by decide, by decide⟩ ?_
      refine lt_go ?_
      refine bd_go rfl ?_
      refine gd_go ⟨rfl, rfl, rfl⟩ ?_
      refine lt_go ?_
      refine lt_go ?_
      apply bd_go
      · unfold f_X0_init
        refine lt_go ?_
        refine lt_go ?_
        refine lt_go ?_
        refine lt_go ?_
        refine lt_go ?_
        refine lt_go ?_
        exact rfl
      refine gd_go ⟨by decide, by decide⟩ ?_
      refine lt_go ?_
      refine bd_go rfl ?_
      refine gd_go ⟨rfl, rfl, rfl⟩ ?_
      refine lt_go ?_
      refine lt_go ?_
      apply bd_go
      · unfold f_X0_init
        refine lt_go ?_
        refine lt_go ?_
        refine lt_go ?_
        refine lt_go ?_
        refine lt_go ?_
        refine lt_go ?_
        exact rfl
      refine gd_go ⟨by decide, by decide⟩ ?_
      refine lt_go ?_
      exact rfl
    refine lt_go ?_
    refine gd_go ⟨rfl, rfl, rfl⟩ ?_
    refine lt_go ?_
    refine lt_go ?_
    apply bd_go
    · unfold f_X5_init
      refine lt_go ?_
      refine lt_go ?_
      refine lt_go ?_
      refine lt_go ?_
      refine lt_go ?_
      refine gd_go ⟨rfl, rfl, rfl, rfl⟩ ?_
      refine lt_go ?_
      refine lt_go ?_
      refine lt_go ?_
      refine gd_go ⟨rfl, rfl, rfl, rfl⟩ ?_
      refine lt_go ?_
      refine lt_go ?_
      refine lt_go ?_
      refine lt_go ?_
      exact rfl
    refine lt_go ?_
    refine gd_go ⟨rfl, rfl, rfl⟩ ?_
    refine lt_go ?_
    refine lt_go ?_
    apply bd_go
    · unfold f_X5_init
      refine lt_go ?_
      refine lt_go ?_
      refine lt_go ?_
      refine lt_go ?_
      refine lt_go ?_
      refine gd_go ⟨rfl, rfl, rfl, rfl⟩ ?_
      refine lt_go ?_
      refine lt_go ?_
      refine lt_go ?_
      refine gd_go ⟨rfl, rfl, rfl, rfl⟩ ?_
      refine lt_go ?_
      refine lt_go ?_
      refine lt_go ?_
      refine lt_go ?_
      exact rfl
    refine lt_go ?_
    exact i153 rfl 24 0 1000000 _ (by omega) (by omega)
  · unfold f_X8_init
    refine lt_go ?_
    refine gd_go ⟨rfl, rfl, rfl, rfl⟩ ?_
    refine lt_go ?_
    refine lt_go ?_
    refine lt_go ?_
    refine gd_go ⟨rfl, rfl, rfl, rfl⟩ ?_
    refine lt_go ?_
    refine lt_go ?_
    refine lt_go ?_
    refine gd_go ⟨rfl, rfl, rfl, rfl⟩ ?_
    refine lt_go ?_
    refine lt_go ?_
    refine lt_go ?_
    refine gd_go ⟨rfl, rfl, rfl, rfl⟩ ?_
    refine lt_go ?_
    refine lt_go ?_
    refine lt_go ?_
    refine gd_go ⟨rfl, rfl, rfl, rfl⟩ ?_
    refine lt_go ?_
    refine lt_go ?_
    refine lt_go ?_
    refine gd_go ⟨rfl, rfl, rfl, rfl⟩ ?_
    refine lt_go ?_
    refine lt_go ?_
    refine lt_go ?_
    refine lt_go ?_
    refine gd_go ⟨rfl, rfl, rfl, rfl⟩ ?_
    refine lt_go ?_
    refine lt_go ?_
    refine gd_go ⟨by decide, by decide⟩ ?_
    refine lt_go ?_
    refine gd_go ⟨by decide, by decide⟩ ?_
    refine lt_go ?_
    refine lt_go ?_
    refine gd_go ⟨rfl, rfl, rfl, rfl⟩ ?_
    refine lt_go ?_
    refine lt_go ?_
    refine lt_go ?_
    refine gd_go ⟨rfl, rfl, rfl, rfl⟩ ?_
    refine lt_go ?_
    refine lt_go ?_
    refine lt_go ?_
    refine gd_go ⟨rfl, rfl, rfl, rfl⟩ ?_
    refine lt_go ?_
    refine lt_go ?_
    refine lt_go ?_
    refine gd_go ⟨rfl, rfl, rfl, rfl⟩ ?_
    refine lt_go ?_
    refine lt_go ?_
    refine lt_go ?_
    refine gd_go ⟨rfl, rfl, rfl, rfl⟩ ?_
    refine lt_go ?_
    refine lt_go ?_
    refine lt_go ?_
    refine gd_go ⟨rfl, rfl, rfl, rfl⟩ ?_
    refine lt_go ?_
    refine lt_go ?_
    refine lt_go ?_
    refine gd_go ⟨rfl, rfl, rfl, rfl⟩ ?_
    refine lt_go ?_
    refine lt_go ?_
    refine lt_go ?_
    refine gd_go ⟨rfl, rfl, rfl, rfl⟩ ?_
    refine lt_go ?_
    refine lt_go ?_
    refine lt_go ?_
    refine gd_go ⟨rfl, rfl, rfl, rfl⟩ ?_
    refine lt_go ?_
    refine lt_go ?_
    refine lt_go ?_
    refine gd_go ⟨rfl, rfl, rfl, rfl⟩ ?_
    refine lt_go ?_
    refine lt_go ?_
    refine lt_go ?_
    refine gd_go ⟨rfl, rfl, rfl, rfl⟩ ?_
    refine lt_go ?_
    refine lt_go ?_
    refine lt_go ?_
    refine gd_go ⟨rfl, rfl, rfl, rfl⟩ ?_
    refine lt_go ?_
    refine lt_go ?_
    refine lt_go ?_
    refine lt_go ?_
    refine gd_go ⟨rfl, rfl, rfl, rfl⟩ ?_
    refine lt_go ?_
    refine lt_go ?_
    refine lt_go ?_
    refine gd_go ⟨rfl, rfl, rfl, rfl⟩ ?_
    refine lt_go ?_
    refine lt_go ?_
    refine lt_go ?_
    refine gd_go ⟨rfl, rfl, rfl, rfl⟩ ?_
    refine lt_go ?_
    refine lt_go ?_
    refine lt_go ?_
    refine gd_go ⟨rfl, rfl, rfl, rfl⟩ ?_
    refine lt_go ?_
    refine lt_go ?_
    refine lt_go ?_
    refine gd_go ⟨rfl, rfl, rfl, rfl⟩ ?_
    refine lt_go ?_
    refine lt_go ?_
    refine lt_go ?_
    refine gd_go ⟨rfl, rfl, rfl, rfl⟩ ?_
    refine lt_go ?_
    refine lt_go ?_
    refine lt_go ?_
    refine gd_go ⟨rfl, rfl, rfl, rfl⟩ ?_
    refine lt_go ?_
    refine lt_go ?_
    refine lt_go ?_
    refine gd_go ⟨rfl, rfl, rfl, rfl⟩ ?_
    refine lt_go ?_
    refine lt_go ?_
    refine gd_go ⟨by decide, by decide⟩ ?_
    refine lt_go ?_
    refine gd_go ⟨by decide, by decide⟩ ?_
    refine lt_go ?_
    refine gd_go ⟨by decide, by decide⟩ ?_
    refine lt_go ?_
    refine gd_go ⟨by decide, by decide⟩ ?_
    refine lt_go ?_
    refine gd_go ⟨by decide, by decide⟩ ?_
    refine lt_go ?_
    refine gd_go ⟨by decide, by decide⟩ ?_
    refine lt_go ?_
    refine gd_go ⟨by decide, by decide⟩ ?_
    refine lt_go ?_
    refine gd_go ⟨by decide, by decide⟩ ?_
    refine lt_go ?_
    refine gd_go ⟨by decide, by decide⟩ ?_
    refine lt_go ?_
    refine gd_go ⟨by decide, by decide⟩ ?_
    refine lt_go ?_
    refine gd_go ⟨by decide, by decide⟩ ?_
    refine lt_go ?_
    refine gd_go ⟨by decide, by decide⟩ ?_
    refine lt_go ?_
    refine gd_go ⟨by decide, by decide⟩ ?_
    refine lt_go ?_
    refine gd_go ⟨by decide, by decide⟩ ?_
    refine lt_go ?_
    refine gd_go ⟨by decide, by decide⟩ ?_
    refine lt_go ?_
    refine gd_go ⟨by decide, by decide⟩ ?_
    refine lt_go ?_
    refine gd_go ⟨by decide, by decide⟩ ?_
    refine lt_go ?_
    refine gd_go ⟨by decide, by decide⟩ ?_
    refine lt_go ?_
    refine gd_go ⟨by decide, by decide⟩ ?_
    refine lt_go ?_
    refine gd_go ⟨by decide, by decide⟩ ?_
    refine lt_go ?_
    refine gd_go ⟨by decide, by decide⟩ ?_
    refine lt_go ?_
    refine gd_go ⟨by decide, by decide⟩ ?_
    refine lt_go ?_
    refine gd_go ⟨by decide, by decide⟩ ?_
    refine lt_go ?_
    refine gd_go ⟨by decide, by decide⟩ ?_
    refine lt_go ?_
    refine gd_go ⟨by decide, by decide⟩ ?_
    refine lt_go ?_
    refine gd_go ⟨by decide, by decide⟩ ?_
    refine lt_go ?_
    refine gd_go ⟨by decide, by decide⟩ ?_
    refine lt_go ?_
    refine gd_go ⟨by decide, by decide⟩ ?_
    refine lt_go ?_
    refine gd_go ⟨by decide, by decide⟩ ?_
    refine lt_go ?_
    refine gd_go ⟨by decide, by decide⟩ ?_
    refine lt_go ?_
    refine gd_go ⟨by decide, by decide⟩ ?_
    refine lt_go ?_
    refine gd_go ⟨by decide, by decide⟩ ?_
    refine lt_go ?_
    refine gd_go ⟨by decide, by decide⟩ ?_
    refine lt_go ?_
    refine gd_go ⟨by decide, by decide⟩ ?_
    refine lt_go ?_
    refine gd_go ⟨by decide, by decide⟩ ?_
    refine lt_go ?_
    refine gd_go ⟨by decide, by decide⟩ ?_
    refine lt_go ?_
    refine lt_go ?_
    refine gd_go ⟨rfl, rfl, rfl, rfl⟩ ?_
    refine lt_go ?_
    refine lt_go ?_
    refine lt_go ?_
    refine gd_go ⟨rfl, rfl, rfl, rfl⟩ ?_
    refine lt_go ?_
    refine lt_go ?_
    refine lt_go ?_
    refine gd_go ⟨rfl, rfl, rfl, rfl⟩ ?_
    refine lt_go ?_
    refine lt_go ?_
    refine lt_go ?_
    refine gd_go ⟨rfl, rfl, rfl, rfl⟩ ?_
    refine lt_go ?_
    refine lt_go ?_
    refine lt_go ?_
    refine gd_go ⟨rfl, rfl, rfl, rfl⟩ ?_
    refine lt_go ?_
    refine lt_go ?_
    refine lt_go ?_
    refine gd_go ⟨rfl, rfl, rfl, rfl⟩ ?_
    refine lt_go ?_
    refine lt_go ?_
    refine lt_go ?_
    refine gd_go ⟨rfl, rfl, rfl, rfl⟩ ?_
    refine lt_go ?_
    refine lt_go ?_
    refine lt_go ?_
    exact i493 rfl rfl rfl rfl 24 0 1000000 _ (by omega) (by omega)
  · refine LI_ck ?_ ?_ ?_ (fun id h => by simp (disch := omega) only [alu_ne])
    · unfold ckI; refine ⟨?_, ?_, ?_, ?_, ?_, ?_, ?_, ?_, ?_, ?_, ?_⟩ <;> decide +kernel
    · unfold ckR; decide +kernel
    · unfold ckA; decide +kernel
