/-! ===== the relation between the class's cells (C) and the reference's (M) ===== -/
def rg (x : Int32) (a b : Int) : Prop := a ≤ x.toInt ∧ x.toInt ≤ b
def gS (C M : MI) (nb nc lh : Nat) : Prop := C 0 1 = nI nb ∧ M 100 2 = nI nb ∧ C 0 3 = nI nc ∧ M 100 13 = nI nc ∧ C 0 4 = nI lh ∧ nb ≤ 4 ∧ nc ≤ 60 ∧ lh ≤ nc
def gM (C M : MI) : Prop := C 0 6 = M 100 9 ∧ (C 0 6 = 1 ∨ C 0 6 = 2) ∧ C 0 7 = M 100 1 ∧ rg (C 0 7) (-30) 50 ∧ C 0 8 = M 100 0 ∧ rg (C 0 8) 0 9999 ∧ C 0 9 = M 100 29 ∧ rg (C 0 9) 0 50
def gP (C M : MI) : Prop := ∀ h, h < 24 → C 4 h = M 112 h ∧ C 5 h = M 113 h ∧ (C 5 h = 0 ∨ C 5 h = 1)
def gT (C M : MI) : Prop := C 6 1 = M 100 31 ∧ rg (C 6 1) 0 200 ∧ ∀ k, k < 200 → C 7 k = M 131 k ∧ rg (C 7 k) (-128) 127
def gL (C M : MI) : Prop := C 10 0 = M 100 24 ∧ C 10 1 = M 100 25 ∧ C 10 2 = M 100 26 ∧ C 10 3 = M 100 27 ∧ C 10 4 = M 100 28
def bR (C M : MI) (i : Nat) : Prop := C (30 + i) 0 = M 104 i ∧ C (30 + i) 1 = M 105 i ∧ C (30 + i) 2 = M 106 i ∧ C (30 + i) 3 = M 107 i ∧ C (30 + i) 4 = M 108 i ∧ C (30 + i) 5 = M 109 i ∧ rg (M 104 i) 1 100 ∧ 0 ≤ (M 105 i).toInt ∧ (M 105 i).toInt ≤ (M 104 i).toInt * 400 ∧ rg (M 106 i) 0 400 ∧ (M 109 i = 0 ∨ M 109 i = 1)
def gB (C M : MI) (nb : Nat) : Prop := (∀ i, i < nb → bR C M i) ∧ ∀ i, nb ≤ i → i < 4 → M 107 i = 0 ∧ M 108 i = 0 ∧ M 109 i = 0
def cR (C M : MI) (j : Nat) : Prop := C (40 + j) 0 = M 115 j ∧ C (40 + j) 1 = M 116 j ∧ C (40 + j) 2 = M 117 j ∧ C (40 + j) 3 = M 119 j ∧ C (40 + j) 4 = M 118 j ∧ C (40 + j) 6 = M 121 j ∧ C (40 + j) 7 = M 122 j ∧ C (40 + j) 8 = M 123 j ∧ C (40 + j) 9 = M 124 j ∧ (M 118 j = 1 → C (40 + j) 5 = M 120 j ∧ rg (M 120 j) 0 3) ∧ (M 118 j ≠ 1 → M 120 j = -1) ∧ rg (M 118 j) 0 4 ∧ rg (M 115 j) 1 20 ∧ rg (M 117 j) 1 300 ∧ 0 ≤ (M 116 j).toInt ∧ (M 116 j).toInt ≤ (M 115 j).toInt * (M 117 j).toInt ∧ rg (M 119 j) (-300) 2000 ∧ (M 124 j = 0 ∨ M 124 j = 1)
def gC (C M : MI) (nc lh : Nat) : Prop := (∀ j, j < nc → cR C M j) ∧ (∀ j, j < lh → M 118 j ≠ 0) ∧ (∀ j, lh ≤ j → j < 60 → M 118 j = 0) ∧ ∀ j, nc ≤ j → j < 60 → M 123 j = 0 ∧ M 124 j = 0
def gH (C M : MI) (R : MR) (lh : Nat) : Prop := (∀ h, h < 2 → (R 3 h = none ∧ M 111 h = -1) ∨ ∃ j, j < lh ∧ R 3 h = some (40 + j) ∧ M 111 h = nI j ∧ M 118 j = 1) ∧ (M 100 9 = 1 → R 3 1 = none) ∧ ∀ t, R 3 0 = some t → R 3 1 = some t → False
def fR (C M : MI) (r : Nat) : Prop := ∃ f, f ≤ 8 ∧ C r 7 = nI f ∧ ((f = 0 ∧ M 100 36 = nI 1 ∧ M 138 0 = 0 ∧ M 139 0 = 20) ∨ (0 < f ∧ M 100 36 = nI f ∧ ∀ k, k < f → C (r + 1) k = M 138 k ∧ C (r + 2) k = M 139 k ∧ rg (M 138 k) 0 400 ∧ rg (M 139 k) 0 500))
def rR (C M : MI) (r : Nat) : Prop := C r 0 = M 143 0 ∧ C r 1 = M 143 1 ∧ C r 2 = M 143 2 ∧ C r 3 = M 143 3 ∧ C r 4 = M 143 4 ∧ rg (M 143 0) 0 100 ∧ rg (M 143 1) 1 100 ∧ rg (M 143 2) 0 200 ∧ rg (M 143 3) 0 500 ∧ rg (M 143 4) 1 500 ∧ fR C M r
def gR (C M : MI) (R : MR) (r : Nat) : Prop := R 0 16 = some r ∧ ((r = 23 ∧ R 0 17 = some 26) ∨ (r = 26 ∧ R 0 17 = some 23)) ∧ rR C M r
def gN (C M : MI) : Prop := (M 100 46 = 0 ∧ C 11 11 = 0) ∨ (M 100 46 = 1 ∧ ∃ t, 1 ≤ t ∧ t ≤ 6 ∧ C 11 11 = nI t ∧ M 100 47 = nI t ∧ ∀ k, k < t → C 20 k = M 150 k ∧ C 21 k = M 151 k)
def wB : List Int32 := [119, 97, 114, 109, 0, 0, 99, 111, 111, 108, 0, 0, 108, 105, 109, 105, 116, 0, 112, 114, 101, 115, 115, 0, 115, 119, 105, 116, 99, 104, 102, 108, 111, 119, 0, 0]
def gW (M : MI) : Prop := ∀ k, k < 36 → M 145 k = wB.getD k 0
def fixedId (id : Nat) : Prop := kd id ≠ 99 ∧ (id < 30 ∨ 100 ≤ id)
def gA (al : Nat → Bool) (R : MR) (nb nc : Nat) : Prop := (∀ id, al id = true ↔ (fixedId id ∨ (30 ≤ id ∧ id < 30 + nb) ∨ (40 ≤ id ∧ id < 40 + nc))) ∧ Fx al R ∧ (∀ i, i < 4 → R 1 i = if i < nb then some (30 + i) else none) ∧ ∀ j, j < 60 → R 2 j = if j < nc then some (40 + j) else none
def Rel (C M : MI) (R : MR) (nb nc lh r : Nat) : Prop := gS C M nb nc lh ∧ gM C M ∧ gP C M ∧ gT C M ∧ gL C M ∧ gB C M nb ∧ gC C M nc lh ∧ gH C M R lh ∧ gR C M R r ∧ gN C M ∧ gW M
def LI (_ : Nat → Nat) (al : Nat → Bool) (I : MI) (R : MR) (_ : Nat) : Prop := ∃ nb nc lh r, Rel I I R nb nc lh r ∧ gA al R nb nc
/-- the two sides keep to their own cells -/
def fc (C C2 : MI) : Prop := ∀ id j, 100 ≤ id → C2 id j = C id j
def fm (M M2 : MI) : Prop := ∀ id j, id < 100 → M2 id j = M id j
theorem fc.rf {C : MI} : fc C C := fun _ _ _ => rfl
theorem fm.rf {M : MI} : fm M M := fun _ _ _ => rfl
theorem fc.tr {A B C : MI} (h1 : fc A B) (h2 : fc B C) : fc A C := fun id j h => (h2 id j h).trans (h1 id j h)
theorem fm.tr {A B C : MI} (h1 : fm A B) (h2 : fm B C) : fm A C := fun id j h => (h2 id j h).trans (h1 id j h)
theorem fc.p2 {C C2 : MI} (h : fc C C2) {a k : Nat} {v : Int32} (ha : a < 100) : fc C (p2 C2 a k v) := fun id j hi => (p2_ne (by omega)).trans (h id j hi)
theorem fm.p2 {M M2 : MI} (h : fm M M2) {a k : Nat} {v : Int32} (ha : 100 ≤ a) : fm M (p2 M2 a k v) := fun id j hi => (p2_ne (by omega)).trans (h id j hi)
theorem Rel.congM {C M M2 : MI} {R : MR} {nb nc lh r : Nat} (h : Rel C M R nb nc lh r) (e : ∀ id j, 100 ≤ id → M2 id j = M id j) : Rel C M2 R nb nc lh r := by
  have e' : ∀ a j, M2 (100 + a) j = M (100 + a) j := fun a j => e _ j (by omega)
  have e0 := e' 0; have e4 := e' 4; have e5 := e' 5; have e6 := e' 6; have e7 := e' 7; have e8 := e' 8; have e9 := e' 9; have e11 := e' 11; have e12 := e' 12; have e13 := e' 13; have e15 := e' 15; have e16 := e' 16; have e17 := e' 17; have e18 := e' 18; have e19 := e' 19; have e20 := e' 20; have e21 := e' 21; have e22 := e' 22; have e23 := e' 23; have e24 := e' 24; have e31 := e' 31; have e38 := e' 38; have e39 := e' 39; have e43 := e' 43; have e45 := e' 45; have e50 := e' 50; have e51 := e' 51
  simp only [Nat.reduceAdd] at e0 e4 e5 e6 e7 e8 e9 e11 e12 e13 e15 e16 e17 e18 e19 e20 e21 e22 e23 e24 e31 e38 e39 e43 e45 e50 e51
  unfold Rel gS gM gP gT gL gB bR gC cR gH gR rR fR gN gW at h ⊢
  simp only [e0, e4, e5, e6, e7, e8, e9, e11, e12, e13, e15, e16, e17, e18, e19, e20, e21, e22, e23, e24, e31, e38, e39, e43, e45, e50, e51]
  exact h
theorem Rel.congC {C C2 M : MI} {R : MR} {nb nc lh r : Nat} (h : Rel C M R nb nc lh r) (e : ∀ id j, id < 100 → C2 id j = C id j) : Rel C2 M R nb nc lh r := by
  obtain ⟨h1, h2, h3, h4, h5, h6, h7, h8, h9, h10, h11⟩ := h
  have hr : r = 23 ∨ r = 26 := by rcases h9.2.1 with q | q <;> omega
  have hnb := h1.2.2.2.2.2.1
  have hnc := h1.2.2.2.2.2.2.1
  refine ⟨?_, ?_, ?_, ?_, ?_, ⟨fun i hi => ?_, h6.2⟩, ⟨fun j hj => ?_, h7.2⟩, h8, ⟨h9.1, h9.2.1, ?_⟩, ?_, h11⟩
  · unfold gS at h1 ⊢; simp only [e 0 _ (by omega)]; exact h1
  · unfold gM at h2 ⊢; simp only [e 0 _ (by omega)]; exact h2
  · unfold gP at h3 ⊢; simp only [e 4 _ (by omega), e 5 _ (by omega)]; exact h3
  · unfold gT at h4 ⊢; simp only [e 6 _ (by omega), e 7 _ (by omega)]; exact h4
  · unfold gL at h5 ⊢; simp only [e 10 _ (by omega)]; exact h5
  · have := h6.1 i hi
    unfold bR at this ⊢; simp only [e (30 + i) _ (by omega)]; exact this
  · have := h7.1 j hj
    unfold cR at this ⊢; simp only [e (40 + j) _ (by omega)]; exact this
  · have := h9.2.2
    unfold rR fR at this ⊢
    simp only [e r _ (by omega), e (r + 1) _ (by omega), e (r + 2) _ (by omega)]; exact this
  · unfold gN at h10 ⊢; simp only [e 11 _ (by omega), e 20 _ (by omega), e 21 _ (by omega)]; exact h10
/-- a call that makes nothing and changes no link, out of steps of the two sides on their own -/
theorem LK_of {f7 : MI → MR → Option (Int32 × MI)} {f8 : MI → MR → Option (Int32 × MI)} (h : ∀ (C M : MI) (R : MR) (al : Nat → Bool) (nb nc lh r : Nat), Rel C M R nb nc lh r → gA al R nb nc → ∃ v C2 M2 nb2 nc2 lh2, f7 C R = some (v, C2) ∧ f8 M R = some (v, M2) ∧ Rel C2 M2 R nb2 nc2 lh2 r ∧ gA al R nb2 nc2 ∧ fc C C2 ∧ fm M M2) :
    ∀ (q : Nat → Nat) (al : Nat → Bool) (I : MI) (R : MR) (n : Nat), LI q al I R n → ∃ (z1 z2 : Int32 × MI), f7 I R = some z1 ∧ f8 z1.2 R = some z2 ∧ z1.1 = z2.1 ∧ LI q al z2.2 R n := by
  rintro q al I R n ⟨nb, nc, lh, r, hR, hA⟩
  obtain ⟨v, C2, M2, nb2, nc2, lh2, e7, e8, hR2, hA2, hc, hm⟩ := h I I R al nb nc lh r hR hA
  obtain ⟨v', C3, M3, nb3, nc3, lh3, e7', e8', hR3, hA3, hc', hm'⟩ := h I C2 R al nb nc lh r (hR.congM hc) hA
  rw [e7] at e7'
  have e := Option.some.inj e7'
  have e1 : v = v' := congrArg Prod.fst e
  have e2 : C2 = C3 := congrArg Prod.snd e
  subst e1; subst e2
  exact ⟨(v, C2), (v, M3), e7, e8', rfl, nb3, nc3, lh3, r, hR3.congC hm', hA3⟩
/-- a call that only answers -/
theorem LK_ofP {f7 f8 : MI → MR → Option Int32} (h : ∀ (C M : MI) (R : MR) (al : Nat → Bool) (nb nc lh r : Nat), Rel C M R nb nc lh r → gA al R nb nc → ∃ v, f7 C R = some v ∧ f8 M R = some v) :
    ∀ (q : Nat → Nat) (al : Nat → Bool) (I : MI) (R : MR) (n : Nat), LI q al I R n → ∃ (z1 z2 : Int32), f7 I R = some z1 ∧ f8 I R = some z2 ∧ z1 = z2 ∧ LI q al I R n := by
  rintro q al I R n ⟨nb, nc, lh, r, hR, hA⟩
  obtain ⟨v, e7, e8⟩ := h I I R al nb nc lh r hR hA
  exact ⟨v, v, e7, e8, rfl, nb, nc, lh, r, hR, hA⟩
/-! small things -/
theorem gd_pos {P : Prop} [Decidable P] {β : Type} {x : Option β} (h : P) : gd P x = x := if_pos h
theorem lt_def {α β : Type} {x : α} {f : α → Option β} : lt x f = f x := rfl
theorem bd_def {α β : Type} {x : α} {f : α → Option β} : bd (some x) f = f x := rfl
theorem mt_none {β : Type} {x : Option β} {f : Nat → Option β} : mt none x f = x := rfl
theorem mt_def {β : Type} {t : Nat} {x : Option β} {f : Nat → Option β} : mt (some t) x f = f t := rfl
theorem tI_lt {a b : Int32} : a < b ↔ a.toInt < b.toInt := Int32.lt_iff_toInt_lt
theorem tI_le {a b : Int32} : a ≤ b ↔ a.toInt ≤ b.toInt := Int32.le_iff_toInt_le
theorem tI_eq {a b : Int32} : a = b ↔ a.toInt = b.toInt := Int32.toInt_inj.symm
def wi (a lo hi : Int32) : Int32 := if a < lo then 0 else if hi < a then 0 else 1
theorem f7_in (I : MI) (R : MR) (a lo hi : Int32) : f_X7_within I R a lo hi = some (wi a lo hi) := by
  unfold f_X7_within wi
  by_cases h1 : a < lo
  · rw [if_pos h1, if_pos h1]
  · rw [if_neg h1, if_neg h1]
    by_cases h2 : hi < a
    · rw [if_pos h2, if_pos h2]
    · rw [if_neg h2, if_neg h2]
theorem f8_in (I : MI) (R : MR) (a lo hi : Int32) : f_X8_in I R a lo hi = some (wi a lo hi) := f7_in I R a lo hi
theorem wi_cases (a lo hi : Int32) : (wi a lo hi = 0 ∧ ¬ (lo.toInt ≤ a.toInt ∧ a.toInt ≤ hi.toInt)) ∨ (wi a lo hi = 1 ∧ lo.toInt ≤ a.toInt ∧ a.toInt ≤ hi.toInt) := by
  unfold wi
  by_cases h1 : a < lo
  · rw [if_pos h1]; rw [tI_lt] at h1; exact Or.inl ⟨rfl, by omega⟩
  · rw [if_neg h1]; rw [tI_lt] at h1
    by_cases h2 : hi < a
    · rw [if_pos h2]; rw [tI_lt] at h2; exact Or.inl ⟨rfl, by omega⟩
    · rw [if_neg h2]; rw [tI_lt] at h2; exact Or.inr ⟨rfl, by omega⟩
theorem wi_01 (a lo hi : Int32) : wi a lo hi = 0 ∨ wi a lo hi = 1 := by rcases wi_cases a lo hi with h | h <;> simp [h.1]
theorem i10 : ¬ (1 : Int32) = 0 := by decide
theorem cl_of {x : Int32} {k : Nat} (h : x = nI k) (hk : k < 2 ^ 31) : x.toNatClampNeg = k := by rw [h]; exact nI_clamp hk
theorem ix_nI {j k : Nat} (h : j < k) (hk : k < 2 ^ 31) : ix (nI j) k := ⟨nI_pos (by omega), by rw [nI_clamp (by omega)]; exact h⟩
/-- a number between two bounds is a small Nat -/
theorem nI_rg {x : Int32} {k : Nat} (h1 : 0 ≤ x.toInt) (h2 : x.toInt < k) (hk : k ≤ 2 ^ 31) : ∃ j, j < k ∧ x = nI j := by
  refine ⟨x.toInt.toNat, by omega, ?_⟩
  rw [tI_eq, nI_toInt (by omega)]
  omega
