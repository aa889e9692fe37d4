/-! ===== BEST: a row of BANKS as a plain function ===== -/
abbrev PS : Type := Nat × Int32 × (Nat → Nat)
abbrev KS : Type := Int32 × (Nat → Int32) × (Nat → Int32) × (Nat → Int32)
def vV (M : MI) (k : Nat) : Nat := (M 104 k).toNatClampNeg
def vB (M : MI) (k : Nat) : Nat := (M 105 k).toNatClampNeg
def uN (M : MI) (W X k : Nat) (s : PS) : Nat := ((f_X8_units M (fun _ _ => none) (nI (vV M k)) (nI (vB M k - s.2.2 k)) (nI W) (nI s.1) (nI X) s.2.1).getD 0).toNatClampNeg
def up (f : Nat → Nat) (k v : Nat) : Nat → Nat := fun j => if j = k then v else f j
theorem up_hit {f : Nat → Nat} {k v j : Nat} (h : j = k) : up f k v j = v := if_pos h
theorem up_off {f : Nat → Nat} {k v j : Nat} (h : j ≠ k) : up f k v j = f j := if_neg h
def clW (M : MI) (w : Int32) : Int32 := w - (w - 10 * M 100 1) / M 143 1
def sN (M : MI) (W X k : Nat) (s : PS) : PS := (s.1 + uN M W X k s, clW M (s.2.1 + nI (uN M W X k s) * M 143 0 / nI W), up s.2.2 k (s.2.2 k + uN M W X k s))
def st (M : MI) (W X c0 : Nat) (pr : Nat → Nat) : Nat → PS
  | 0 => (c0, 10 * M 100 1, fun _ => 0)
  | i + 1 => sN M W X (pr i) (st M W X c0 pr i)
def okS (M : MI) (W X nb : Nat) (s : PS) : Prop := s.1 ≤ W * X ∧ rg s.2.1 (-300) 2000 ∧ ∀ k, k < nb → s.2.2 k ≤ vB M k
/-- the reference's rules and BANKS, and the measures of the CAR, are as they may be -/
def Hy (C M : MI) (r W X nb : Nat) : Prop := (r = 23 ∨ r = 26) ∧ rR C M r ∧ rg (M 100 1) (-30) 50 ∧ 1 ≤ W ∧ W ≤ 20 ∧ X ≤ 300 ∧ nb ≤ 4 ∧ ∀ k, k < nb → M 104 k = nI (vV M k) ∧ M 105 k = nI (vB M k) ∧ 1 ≤ vV M k ∧ vV M k ≤ 100 ∧ vB M k ≤ 40000
/-- the cells of the rules -/
def sameR (M M' : MI) : Prop := M' 100 36 = M 100 36 ∧ (∀ k, M' 138 k = M 138 k) ∧ (∀ k, M' 139 k = M 139 k) ∧ ∀ k, M' 143 k = M 143 k
theorem rR.sm {C M M' : MI} {r : Nat} (h : rR C M r) (e : sameR M M') : rR C M' r := by
  obtain ⟨e1, e2, e3, e4⟩ := e
  unfold rR fR at h ⊢
  simp only [e1, e2, e3, e4]; exact h
theorem un_st {C0 M : MI} {r W X nb k : Nat} {s : PS} (hy : Hy C0 M r W X nb) (hs : okS M W X nb s) (hk : k < nb) :
    uN M W X k s ≤ 500 ∧ uN M W X k s ≤ vB M k - s.2.2 k ∧ s.1 + uN M W X k s ≤ W * X ∧ okS M W X nb (sN M W X k s) ∧
    (∀ (C : MI) (R : MR) (o1 o2 : Nat), rR C M r → C o1 0 = nI (vV M k) → C o1 1 = nI (vB M k - s.2.2 k) → C o2 0 = nI W → C o2 1 = nI s.1 → C o2 2 = nI X → C o2 3 = s.2.1 → f_X5_unitsOver C R r o1 o2 = some (nI (uN M W X k s))) ∧
    (∀ (M' : MI) (R' : MR), sameR M M' → f_X8_units M' R' (nI (vV M k)) (nI (vB M k - s.2.2 k)) (nI W) (nI s.1) (nI X) s.2.1 = some (nI (uN M W X k s))) ∧
    (∃ x f, uN M W X k s ≤ f ∧ f ≤ 500 ∧ ∀ R', f_X8_flowAt M R' x = some (nI f)) := by
  obtain ⟨hr, hG, ha, w1, w2, x2, nb4, hbk⟩ := hy
  obtain ⟨c1, wr, cd⟩ := hs
  obtain ⟨eV, eB, v1, v2, b4⟩ := hbk k hk
  have hb : vB M k - s.2.2 k ≤ 40000 := by omega
  -- a memory of the class with these numbers in it
  obtain ⟨C', hC'⟩ : ∃ C', C' = p2 (p2 (p2 (p2 (p2 (p2 C0 14 0 (nI (vV M k))) 14 1 (nI (vB M k - s.2.2 k))) 12 0 (nI W)) 12 1 (nI s.1)) 12 2 (nI X)) 12 3 s.2.1 := ⟨_, rfl⟩
  have hGC : rR C' M r := by
    rw [hC']
    exact (((((hG.pC (by omega)).pC (by omega)).pC (by omega)).pC (by omega)).pC (by omega)).pC (by omega)
  have k0 : C' 14 0 = nI (vV M k) := by rw [hC']; simp (disch := omega) only [p2_off, p2_hit]
  have k1 : C' 14 1 = nI (vB M k - s.2.2 k) := by rw [hC']; simp (disch := omega) only [p2_off, p2_hit]
  have k2 : C' 12 0 = nI W := by rw [hC']; simp (disch := omega) only [p2_off, p2_hit]
  have k3 : C' 12 1 = nI s.1 := by rw [hC']; simp (disch := omega) only [p2_off, p2_hit]
  have k4 : C' 12 2 = nI X := by rw [hC']; simp (disch := omega) only [p2_off, p2_hit]
  have k5 : C' 12 3 = s.2.1 := by rw [hC']; simp (disch := omega) only [p2_hit]
  obtain ⟨u, G, f, q5, q8, u1, u2, u3, g0, g8, gg, u4, uf, f5, x, hx⟩ := un_eq (R := fun _ _ => none) hGC hr (o1 := 14) (o2 := 12) k0 k1 k2 k3 k4 k5 v1 v2 hb w1 w2 x2 c1 wr.1 wr.2
  have eu : uN M W X k s = u := by
    unfold uN
    rw [q8 (fun _ _ => none)]
    exact nI_clamp (by omega)
  rw [eu]
  refine ⟨u1, u2, u3, ⟨?_, ?_, fun j hj => ?_⟩, fun C R o1 o2 hGc a0 a1 a2 a3 a4 a5 => ?_, fun M' R' hsm => ?_, x, f, uf, f5, fun R' => ?_⟩
  · show s.1 + uN M W X k s ≤ W * X
    rw [eu]; exact u3
  · show rg (clW M (s.2.1 + nI (uN M W X k s) * M 143 0 / nI W)) (-300) 2000
    rw [eu]
    obtain ⟨-, -, -, -, -, -, rc, -⟩ := hG
    refine cool_rg ?_ ha rc
    have huG : u * G ≤ 500 * 100 := Nat.mul_le_mul u1 gg
    have nnq : 0 ≤ ((u * G / W : Nat) : Int) := Int.natCast_nonneg _
    have hdl : u * G / W ≤ u * G := Nat.div_le_self _ _
    obtain ⟨wr1, wr2⟩ := wr
    unfold rg
    rw [g8, pk_mul, pk_div (by omega) (by omega) (by omega), Int32.toInt_add, nI_toInt (by omega), Int.bmod_eq_of_le (by omega) (by omega)]
    omega
  · show up s.2.2 k (s.2.2 k + uN M W X k s) j ≤ vB M j
    by_cases e : j = k
    · rw [up_hit e, eu, e]
      have := cd k hk
      omega
    · rw [up_off e]; exact cd j hj
  · obtain ⟨u', G', f', q5', q8', -⟩ := un_eq (R := R) hGc hr (o1 := o1) (o2 := o2) a0 a1 a2 a3 a4 a5 v1 v2 hb w1 w2 x2 c1 wr.1 wr.2
    have e := (q8' (fun _ _ => none)).symm.trans (q8 (fun _ _ => none))
    rw [q5', Option.some.inj e]
  · obtain ⟨u', G', f', q5', q8', -⟩ := un_eq (R := fun _ _ => none) (hGC.sm hsm) hr (o1 := 14) (o2 := 12) k0 k1 k2 k3 k4 k5 v1 v2 hb w1 w2 x2 c1 wr.1 wr.2
    have e := q5'.symm.trans q5
    rw [q8' R', Option.some.inj e]
  · obtain ⟨v, a5, a8, -⟩ := fl_eqR (R := fun _ _ => none) hGC hr x
    rw [a8 R', ← a5, hx]
theorem st_up {M : MI} {W X c0 : Nat} {pr : Nat → Nat} {d k : Nat} : ∀ i, i ≤ d → st M W X c0 (up pr d k) i = st M W X c0 pr i
  | 0, _ => rfl
  | i + 1, h => by
    show sN M W X (up pr d k i) (st M W X c0 (up pr d k) i) = sN M W X (pr i) (st M W X c0 pr i)
    rw [st_up i (by omega), up_off (by omega)]
theorem st_dn {M : MI} {W X c0 : Nat} {pr : Nat → Nat} {d k : Nat} : st M W X c0 (up pr d k) (d + 1) = sN M W X k (st M W X c0 pr d) := by
  show sN M W X (up pr d k d) (st M W X c0 (up pr d k) d) = _
  rw [st_up d (by omega), up_hit rfl]
theorem st_ok {C0 M : MI} {r W X nb c0 : Nat} {pr : Nat → Nat} (hy : Hy C0 M r W X nb) (hc : c0 ≤ W * X) : ∀ i, (∀ j, j < i → pr j < nb) → okS M W X nb (st M W X c0 pr i)
  | 0, _ => by
    refine ⟨hc, ?_, fun k _ => Nat.zero_le _⟩
    obtain ⟨-, -, ⟨a1, a2⟩, -⟩ := hy
    show rg (10 * M 100 1) (-300) 2000
    unfold rg
    rw [Int32.toInt_mul, show (10 : Int32).toInt = 10 by decide, Int.bmod_eq_of_le (by omega) (by omega)]
    omega
  | i + 1, h => (un_st hy (st_ok hy hc i (fun j hj => h j (by omega))) (h i (by omega))).2.2.2.1
/-! which row is kept -/
def lx (dr : Nat → Nat) (kd : Nat → Int32) : Nat → Bool
  | 0 => false
  | k + 1 => if nI (dr k) = kd k then lx dr kd k else decide (nI (dr k) < kd k)
def bet (nb c : Nat) (dr : Nat → Nat) (K : KS) : Bool := if nI c = K.1 then lx dr K.2.1 nb else decide (K.1 < nI c)
theorem nI_mono {a b : Nat} (h : a ≤ b) (hb : b < 2 ^ 31) : (nI a).toInt ≤ (nI b).toInt := by rw [nI_toInt (by omega), nI_toInt hb]; omega
theorem lx_mono {dr dr' : Nat → Nat} {kd : Nat → Int32} : ∀ n, (∀ k, k < n → dr k ≤ dr' k ∧ dr' k < 2 ^ 31) → lx dr kd n = false → lx dr' kd n = false
  | 0, _, _ => rfl
  | n + 1, h, hf => by
    have hm := nI_mono (h n (by omega)).1 (h n (by omega)).2
    unfold lx at hf ⊢
    by_cases e : nI (dr n) = kd n
    · rw [if_pos e] at hf
      by_cases e' : nI (dr' n) = kd n
      · rw [if_pos e']
        exact lx_mono n (fun k hk => h k (by omega)) hf
      · rw [if_neg e', decide_eq_false]
        rw [tI_lt, ← e]; omega
    · rw [if_neg e] at hf
      have hf := of_decide_eq_false hf
      rw [tI_lt] at hf
      rw [tI_eq] at e
      rw [if_neg (by rw [tI_eq]; omega), decide_eq_false]
      rw [tI_lt]; omega
theorem bet_mono {nb c c' : Nat} {dr dr' : Nat → Nat} {K : KS} (hc : c' ≤ c) (hc2 : c < 2 ^ 31) (h : ∀ k, k < nb → dr k ≤ dr' k ∧ dr' k < 2 ^ 31) (hf : bet nb c dr K = false) : bet nb c' dr' K = false := by
  have hm := nI_mono hc hc2
  unfold bet at hf ⊢
  by_cases e : nI c = K.1
  · rw [if_pos e] at hf
    by_cases e' : nI c' = K.1
    · rw [if_pos e']; exact lx_mono nb h hf
    · rw [if_neg e', decide_eq_false]
      rw [tI_lt, ← e]; omega
  · rw [if_neg e] at hf
    have hf := of_decide_eq_false hf
    rw [tI_lt] at hf
    rw [tI_eq] at e
    rw [if_neg (by rw [tI_eq]; omega), decide_eq_false]
    rw [tI_lt]; omega
def each (M : MI) (f : Nat → KS → KS) : Nat → Nat → KS → KS
  | 0, _, K => K
  | n + 1, k, K => each M f n (k + 1) (if M 109 k = 0 then f k K else K)
def kp (M : MI) (W X c0 : Nat) (pr : Nat → Nat) (t : Nat) : KS := (nI (st M W X c0 pr t).1, (fun k => nI ((st M W X c0 pr t).2.2 k)), (fun i => nI (pr i)), fun i => nI (uN M W X (pr i) (st M W X c0 pr i)))
def dfs (M : MI) (W X c0 nb t : Nat) : Nat → (Nat → Nat) → KS → KS
  | 0, pr, K => if bet nb (st M W X c0 pr t).1 (st M W X c0 pr t).2.2 K = true then kp M W X c0 pr t else K
  | m + 1, pr, K => each M (fun k K => dfs M W X c0 nb t m (up pr (t - (m + 1)) k) K) nb 0 K
theorem each_id {M : MI} {f : Nat → KS → KS} : ∀ (n k : Nat) (K : KS), (∀ j, k ≤ j → j < k + n → M 109 j = 0 → f j K = K) → each M f n k K = K
  | 0, _, _, _ => rfl
  | n + 1, k, K, h => by
    unfold each
    by_cases e : M 109 k = 0
    · rw [if_pos e, h k (by omega) (by omega) e]
      exact each_id n (k + 1) K (fun j h1 h2 => h j (by omega) (by omega))
    · rw [if_neg e]
      exact each_id n (k + 1) K (fun j h1 h2 => h j (by omega) (by omega))
/-- what is not better so far is not better at its end -/
theorem prune {C0 M : MI} {r W X nb c0 t F : Nat} (hy : Hy C0 M r W X nb) (hc : c0 ≤ W * X) (hF : ∀ x f, f ≤ 500 → (∀ R', f_X8_flowAt M R' x = some (nI f)) → f ≤ F) : ∀ (m : Nat) (pr : Nat → Nat) (K : KS), m ≤ t → (∀ j, j < t - m → pr j < nb) →
    bet nb ((st M W X c0 pr (t - m)).1 + min (m * F) (W * X - (st M W X c0 pr (t - m)).1)) (st M W X c0 pr (t - m)).2.2 K = false → dfs M W X c0 nb t m pr K = K
  | 0, pr, K, _, _, h => by
    unfold dfs
    rw [Nat.zero_mul, Nat.zero_min, Nat.add_zero, Nat.sub_zero] at h
    rw [h]
    rfl
  | m + 1, pr, K, hm, hpr, h => by
    unfold dfs
    refine each_id nb 0 K (fun k _ hk _ => ?_)
    have hWX : W * X ≤ 20 * 300 := Nat.mul_le_mul hy.2.2.2.2.1 hy.2.2.2.2.2.1
    have e1 : t - m = t - (m + 1) + 1 := by omega
    have hok := st_ok (c0 := c0) (pr := pr) hy hc (t - (m + 1)) hpr
    obtain ⟨u1, u2, u3, u4, -, -, x, f, uf, f5, hx⟩ := un_st hy hok (show k < nb by omega)
    have huF : uN M W X k (st M W X c0 pr (t - (m + 1))) ≤ F := Nat.le_trans uf (hF x f f5 hx)
    refine prune hy hc hF m (up pr (t - (m + 1)) k) K (by omega) (fun j hj => ?_) ?_
    · by_cases e : j = t - (m + 1)
      · rw [up_hit e]; omega
      · rw [up_off e]; exact hpr j (by omega)
    · rw [e1, st_dn]
      refine bet_mono ?_ ?_ (fun j hj => ?_) h
      · show _ + uN M W X k _ + min (m * F) (W * X - (_ + uN M W X k _)) ≤ _
        have : (m + 1) * F = m * F + F := Nat.succ_mul m F
        omega
      · have := hok.1
        omega
      · have h4 := u4.2.2 j hj
        have := (hy.2.2.2.2.2.2.2 j hj).2.2.2.2
        refine ⟨?_, by omega⟩
        show _ ≤ up _ k _ j
        by_cases e : j = k
        · rw [up_hit e, e]; omega
        · rw [up_off e]; omega
/-- something is kept -/
theorem each_ne {M : MI} {f : Nat → KS → KS} : ∀ (n k : Nat) (K : KS), (∀ j, k ≤ j → j < k + n → ∀ K, (f j K).1 ≠ -1) → (K.1 ≠ -1 ∨ ∃ j, k ≤ j ∧ j < k + n ∧ M 109 j = 0) → (each M f n k K).1 ≠ -1
  | 0, k, K, _, h => by
    rcases h with h | ⟨j, h1, h2, -⟩
    · exact h
    · omega
  | n + 1, k, K, hf, h => by
    unfold each
    refine each_ne n (k + 1) _ (fun j h1 h2 => hf j (by omega) (by omega)) ?_
    by_cases e : M 109 k = 0
    · rw [if_pos e]; exact Or.inl (hf k (by omega) (by omega) K)
    · rw [if_neg e]
      rcases h with h | ⟨j, h1, h2, h3⟩
      · exact Or.inl h
      · by_cases q : j = k
        · rw [q] at h3; exact absurd h3 e
        · exact Or.inr ⟨j, by omega, by omega, h3⟩
theorem dfs_ne {C0 M : MI} {r W X nb c0 t : Nat} (hy : Hy C0 M r W X nb) (hc : c0 ≤ W * X) (hl : ∃ j, j < nb ∧ M 109 j = 0) : ∀ (m : Nat) (pr : Nat → Nat) (K : KS), m ≤ t → (∀ j, j < t - m → pr j < nb) → (dfs M W X c0 nb t m pr K).1 ≠ -1
  | 0, pr, K, _, hpr => by
    have hWX : W * X ≤ 20 * 300 := Nat.mul_le_mul hy.2.2.2.2.1 hy.2.2.2.2.2.1
    have hcb := (st_ok (c0 := c0) hy hc t hpr).1
    have hcb : (st M W X c0 pr t).1 < 2 ^ 31 := by omega
    unfold dfs
    by_cases e : bet nb (st M W X c0 pr t).1 (st M W X c0 pr t).2.2 K = true
    · rw [if_pos e]; exact nIm1 hcb
    · rw [if_neg e]
      intro z
      apply e
      unfold bet
      rw [z, if_neg (nIm1 hcb), decide_eq_true]
      rw [tI_lt, nI_toInt hcb]
      have : (-1 : Int32).toInt = -1 := by decide
      omega
  | m + 1, pr, K, hm, hpr => by
    unfold dfs
    obtain ⟨j, h1, h2⟩ := hl
    refine each_ne nb 0 K (fun k _ hk K => dfs_ne hy hc ⟨j, h1, h2⟩ m _ K (by omega) (fun i hi => ?_)) (Or.inr ⟨j, by omega, by omega, h2⟩)
    by_cases e : i = t - (m + 1)
    · rw [up_hit e]; omega
    · rw [up_off e]; exact hpr i (by omega)
