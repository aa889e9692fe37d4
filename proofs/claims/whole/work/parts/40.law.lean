abbrev LIt : Type := (Nat → Nat) → (Nat → Bool) → MI → MR → Nat → Prop
/-- what a relation between class and reference must keep, call by call -/
def LK_bank (LI : LIt) : Prop := (∀ (q : Nat → Nat) (al : Nat → Bool) (I : MI) (R : MR) (n : Nat) (y0 y1 y2 : Int32), LI q al I R n → ∃ (q2 : Nat → Nat) (z1 : Int32 × MI × MR × (Nat → Bool) × Nat) (z2 : Int32 × MI), (∀ t, al t = true → q2 t = q t) ∧ f_X7_bank q2 I R al n y0 y1 y2 = some z1 ∧ f_X8_bank z1.2.1 z1.2.2.1 y0 y1 y2 = some z2 ∧ z1.1 = z2.1 ∧ LI q2 z1.2.2.2.1 z2.2 z1.2.2.1 z1.2.2.2.2)
def LK_target (LI : LIt) : Prop := (∀ (q : Nat → Nat) (al : Nat → Bool) (I : MI) (R : MR) (n : Nat) (y0 y1 : Int32), LI q al I R n → ∃ (z1 : Int32 × MI) (z2 : Int32 × MI), f_X7_target I R y0 y1 = some z1 ∧ f_X8_target z1.2 R y0 y1 = some z2 ∧ z1.1 = z2.1 ∧ LI q al z2.2 R n)
def LK_air (LI : LIt) : Prop := (∀ (q : Nat → Nat) (al : Nat → Bool) (I : MI) (R : MR) (n : Nat) (y0 : Int32), LI q al I R n → ∃ (z1 : Int32 × MI) (z2 : Int32 × MI), f_X7_air I R y0 = some z1 ∧ f_X8_air z1.2 R y0 = some z2 ∧ z1.1 = z2.1 ∧ LI q al z2.2 R n)
def LK_hoses (LI : LIt) : Prop := (∀ (q : Nat → Nat) (al : Nat → Bool) (I : MI) (R : MR) (n : Nat) (y0 : Int32), LI q al I R n → ∃ (z1 : Int32 × MI) (z2 : Int32 × MI), f_X7_hoses I R y0 = some z1 ∧ f_X8_hoses z1.2 R y0 = some z2 ∧ z1.1 = z2.1 ∧ LI q al z2.2 R n)
def LK_feed (LI : LIt) : Prop := (∀ (q : Nat → Nat) (al : Nat → Bool) (I : MI) (R : MR) (n : Nat) (y0 y1 y2 y3 y4 : Int32), LI q al I R n → ∃ (z1 : Int32 × MI) (z2 : Int32 × MI), f_X7_feed I R y0 y1 y2 y3 y4 = some z1 ∧ f_X8_feed z1.2 R y0 y1 y2 y3 y4 = some z2 ∧ z1.1 = z2.1 ∧ LI q al z2.2 R n)
def LK_end (LI : LIt) : Prop := (∀ (q : Nat → Nat) (al : Nat → Bool) (I : MI) (R : MR) (n : Nat) (y0 : Int32), LI q al I R n → ∃ (z1 : Int32 × MI) (z2 : Int32 × MI), f_X7_end I R y0 = some z1 ∧ f_X8_end z1.2 R y0 = some z2 ∧ z1.1 = z2.1 ∧ LI q al z2.2 R n)
def LK_book (LI : LIt) : Prop := (∀ (q : Nat → Nat) (al : Nat → Bool) (I : MI) (R : MR) (n : Nat), LI q al I R n → ∃ (z1 : Int32 × MI × MR) (z2 : Int32 × MI), f_X7_book I R  = some z1 ∧ f_X8_book z1.2.1 z1.2.2  = some z2 ∧ z1.1 = z2.1 ∧ LI q al z2.2 z1.2.2 n)
def LK_flow (LI : LIt) : Prop := (∀ (q : Nat → Nat) (al : Nat → Bool) (I : MI) (R : MR) (n : Nat) (y0 : Int32), LI q al I R n → ∃ (z1 : Int32) (z2 : Int32), f_X7_flow I R y0 = some z1 ∧ f_X8_flow I R y0 = some z2 ∧ z1 = z2 ∧ LI q al I R n)
def LK_price (LI : LIt) : Prop := (∀ (q : Nat → Nat) (al : Nat → Bool) (I : MI) (R : MR) (n : Nat) (y0 y1 : Int32), LI q al I R n → ∃ (z1 : Int32 × MI) (z2 : Int32 × MI), f_X7_price I R y0 y1 = some z1 ∧ f_X8_price z1.2 R y0 y1 = some z2 ∧ z1.1 = z2.1 ∧ LI q al z2.2 R n)
def LK_closed (LI : LIt) : Prop := (∀ (q : Nat → Nat) (al : Nat → Bool) (I : MI) (R : MR) (n : Nat) (y0 y1 : Int32), (y1 = 0 ∨ y1 = 1) → LI q al I R n → ∃ (z1 : Int32 × MI) (z2 : Int32 × MI), f_X7_closed I R y0 y1 = some z1 ∧ f_X8_closed z1.2 R y0 y1 = some z2 ∧ z1.1 = z2.1 ∧ LI q al z2.2 R n)
def LK_sensor (LI : LIt) : Prop := (∀ (q : Nat → Nat) (al : Nat → Bool) (I : MI) (R : MR) (n : Nat) (y0 y1 y2 : Int32), (y2 = 0 ∨ y2 = 1) → LI q al I R n → ∃ (z1 : Int32 × MI) (z2 : Int32 × MI), f_X7_sensor I R y0 y1 y2 = some z1 ∧ f_X8_sensor z1.2 R y0 y1 y2 = some z2 ∧ z1.1 = z2.1 ∧ LI q al z2.2 R n)
def LK_car (LI : LIt) : Prop := (∀ (q : Nat → Nat) (al : Nat → Bool) (I : MI) (R : MR) (n : Nat) (y0 y1 y2 : Int32), LI q al I R n → ∃ (q2 : Nat → Nat) (z1 : Int32 × MI × MR × (Nat → Bool) × Nat) (z2 : Int32 × MI), (∀ t, al t = true → q2 t = q t) ∧ f_X7_car q2 I R al n y0 y1 y2 = some z1 ∧ f_X8_car z1.2.1 z1.2.2.1 y0 y1 y2 = some z2 ∧ z1.1 = z2.1 ∧ LI q2 z1.2.2.2.1 z2.2 z1.2.2.1 z1.2.2.2.2)
def LK_pass (LI : LIt) : Prop := (∀ (q : Nat → Nat) (al : Nat → Bool) (I : MI) (R : MR) (n : Nat) (y0 : Int32), LI q al I R n → ∃ (z1 : Int32 × MI × MR) (z2 : Int32 × MI), f_X7_pass I R y0 = some z1 ∧ f_X8_pass z1.2.1 z1.2.2 y0 = some z2 ∧ z1.1 = z2.1 ∧ LI q al z2.2 z1.2.2 n)
def LK_reading (LI : LIt) : Prop := (∀ (q : Nat → Nat) (al : Nat → Bool) (I : MI) (R : MR) (n : Nat) (y0 y1 : Int32), LI q al I R n → ∃ (z1 : Int32 × MI) (z2 : Int32 × MI), f_X7_reading I R y0 y1 = some z1 ∧ f_X8_reading z1.2 R y0 y1 = some z2 ∧ z1.1 = z2.1 ∧ LI q al z2.2 R n)
def LK_slip (LI : LIt) : Prop := (∀ (q : Nat → Nat) (al : Nat → Bool) (I : MI) (R : MR) (n : Nat) (y0 : Int32), LI q al I R n → ∃ (z1 : Int32 × MI) (z2 : Int32 × MI), f_X7_slip I R y0 = some z1 ∧ f_X8_slip z1.2 R y0 = some z2 ∧ z1.1 = z2.1 ∧ LI q al z2.2 R n)
def LK_best (LI : LIt) : Prop := (∀ (q : Nat → Nat) (al : Nat → Bool) (I : MI) (R : MR) (n : Nat) (y0 y1 y2 y3 : Int32), LI q al I R n → ∃ (z1 : Int32 × MI) (z2 : Int32 × MI), f_X7_best I R y0 y1 y2 y3 = some z1 ∧ f_X8_best z1.2 R y0 y1 y2 y3 = some z2 ∧ z1.1 = z2.1 ∧ LI q al z2.2 R n)
def LK_bestOf (LI : LIt) : Prop := (∀ (q : Nat → Nat) (al : Nat → Bool) (I : MI) (R : MR) (n : Nat) (y0 y1 : Int32), LI q al I R n → ∃ (z1 : Int32) (z2 : Int32), f_X7_bestOf I R y0 y1 = some z1 ∧ f_X8_bestOf I R y0 y1 = some z2 ∧ z1 = z2 ∧ LI q al I R n)
def LK_banks (LI : LIt) : Prop := (∀ (q : Nat → Nat) (al : Nat → Bool) (I : MI) (R : MR) (n : Nat) (y0 y1 : Int32), LI q al I R n → ∃ (z1 : Int32) (z2 : Int32), f_X7_banks I R y0 y1 = some z1 ∧ f_X8_banks I R y0 y1 = some z2 ∧ z1 = z2 ∧ LI q al I R n)
def LK_cars (LI : LIt) : Prop := (∀ (q : Nat → Nat) (al : Nat → Bool) (I : MI) (R : MR) (n : Nat) (y0 y1 : Int32), LI q al I R n → ∃ (z1 : Int32) (z2 : Int32), f_X7_cars I R y0 y1 = some z1 ∧ f_X8_cars I R y0 y1 = some z2 ∧ z1 = z2 ∧ LI q al I R n)
def LK_count (LI : LIt) : Prop := (∀ (q : Nat → Nat) (al : Nat → Bool) (I : MI) (R : MR) (n : Nat) (y0 : Int32), LI q al I R n → ∃ (z1 : Int32) (z2 : Int32), f_X7_count I R y0 = some z1 ∧ f_X8_count I R y0 = some z2 ∧ z1 = z2 ∧ LI q al I R n)
def LK_in (LI : LIt) : Prop := ∀ (q : Nat → Nat) (al : Nat → Bool) (I : MI) (R : MR) (n : Nat), LI q al I R n → al 0 = true ∧ al 100 = true ∧ Fx al R
/-- the cells' addresses may change where no cell is -/
theorem Wd.req {E : EV} {q q2 : Nat → Nat} {al : Nat → Bool} {H0 : Heap} {I : MI} {R : MR} {n : Nat} {H : Heap} {locs : List Loc} (h : Wd E q al H0 I R n H locs) (hq : ∀ t, al t = true → q2 t = q t) : Wd E q2 al H0 I R n H locs := by
  obtain ⟨⟨h1, ⟨o1, o2, o3⟩, h3⟩, h4⟩ := h
  refine ⟨⟨fun id hid => ?_, ⟨fun i j hi hj e => o1 i j hi hj (by rw [← hq i hi, ← hq j hj]; exact e), fun i hi => by rw [hq i hi]; exact o2 i hi, o3⟩, h3⟩, h4⟩
  refine (h1 id hid).cong (hq id hid) (fun _ => rfl) (fun j => ?_)
  cases hr : R id j with
  | none => rfl
  | some t => simp [hq t (o3 id j t hid hr).1]
theorem lw_stop {i L : Nat} (hL : L ≤ 3072) (hi : i ≤ 4000) (h : ¬ Int32.ofNat L - 6 < nI i) : i + 6 ≤ L := by
  rw [Int32.lt_iff_toInt_lt] at h
  have h1 : (Int32.ofNat L - 6).toInt = (L : Int) - 6 := by
    have e : (Int32.ofNat L).toInt = (L : Int) := nI_toInt (n := L) (by omega)
    have e6 : (6 : Int32).toInt = 6 := by decide
    rw [Int32.toInt_sub, e, e6]
    exact Int.bmod_eq_of_le (by omega) (by omega)
  rw [h1, nI_toInt (by omega)] at h
  omega
theorem lw_ix {i j L : Nat} (hL : L ≤ 3072) (h : i + j < L) {y : Int32} (hy : y = nI j) : vp_in (nI i + y) L := by
  rw [hy, nI_add]
  exact vp_in_nI h (by omega)
set_option maxHeartbeats 4000000 in
set_option maxRecDepth 100000 in
theorem law_bank {p : Program} {e : Env} {s : State} {m : MethodId} {below : List Frame} {meth : Method} {c : Code} {l : Launch} {b L : Nat} {xs : Nat → Int32} (hL : L ≤ 3072) (hX : va_X b L xs s s.heap) (hbl : b < s.heap.size) {E : EV} (hE : E.2.2.2.2 = s.heap.size) (C : CX p s m #[Value.ref b] meth c E code RL 4 ret) (LI : LIt) (Kin : LK_in LI) (Kbank : LK_bank LI) (nn : Nat) (ih : ∀ (i : Nat) {q : Nat → Nat} {al : Nat → Bool} {I : MI} {R : MR} {n cells slots : Nat} {H : Heap} {locs : List Loc} {ls : Array Slot} (hI : LI q al I R n) (hi : i ≤ L + 6) (hn : L + 6 < i + 6 * nn) (hc : cells + nn ≤ 600000) (hs : slots + 10 * nn ≤ 7302250) (hW : Wd E q al s.heap I R n H locs) (hl : lv_has ls 4 [(0, .ref b), (1, .ref (q 0)), (2, .ref (q 100)), (3, .int (nI i))]), W p l e room_1 s m #[Value.ref b] below meth c H locs cells slots (lw_Z below #[Value.ref b] s) (F0 m 18 ls [])) {i : Nat} {q : Nat → Nat} {al : Nat → Bool} {I : MI} {R : MR} {n cells slots : Nat} {H : Heap} {locs : List Loc} {ls : Array Slot} (hI : LI q al I R n) (hlt : i + 6 ≤ L) (hn : L + 6 < i + 6 * (nn + 1)) (hc : cells + (nn + 1) ≤ 600000) (hs : slots + 10 * (nn + 1) ≤ 7302250) (hW : Wd E q al s.heap I R n H locs) (hl : lv_has ls 4 [(0, .ref b), (1, .ref (q 0)), (2, .ref (q 100)), (3, .int (nI i))]) : W p l e room_1 s m #[Value.ref b] below meth c H locs cells slots (lw_Z below #[Value.ref b] s) (F0 m 128 ls []) := by
  have hx := C.1
  have hb := C.2.1
  have hbA : ¬ Bs E b := by show ¬ E.2.2.2.2 ≤ b; omega
  have hS : ∀ {q : Nat → Nat} {al : Nat → Bool} {I : MI} {R : MR} {n : Nat} {H : Heap} {locs : List Loc}, Wd E q al s.heap I R n H locs → va_S (Bs E) s.heap H locs := fun h => h.2
  obtain ⟨a_0, a_100, hF⟩ := Kin _ _ _ _ _ hI
  refine lv_aload_n hx hb dL_law_128 rfl (lv_at hl 1 rfl) ?_
  refine lv_aload_n hx hb dL_law_129 rfl (lv_at hl 0 rfl) ?_
  refine lv_iload_n hx hb dL_law_130 rfl (lv_at hl 3 rfl) ?_
  refine lv_iconst (v := 1) hx hb dL_law_131 (by decide) ?_
  refine lv_iadd hx hb dL_law_132 ?_
  refine va_sld hx hb hX hbl hbA (hS hW) (lw_ix (j := 1) hL (by omega) rfl) dL_law_133 ?_
  refine lv_aload_n hx hb dL_law_134 rfl (lv_at hl 0 rfl) ?_
  refine lv_iload_n hx hb dL_law_135 rfl (lv_at hl 3 rfl) ?_
  refine lv_iconst (v := 2) hx hb dL_law_136 (by decide) ?_
  refine lv_iadd hx hb dL_law_137 ?_
  refine va_sld hx hb hX hbl hbA (hS hW) (lw_ix (j := 2) hL (by omega) rfl) dL_law_138 ?_
  refine lv_aload_n hx hb dL_law_139 rfl (lv_at hl 0 rfl) ?_
  refine lv_iload_n hx hb dL_law_140 rfl (lv_at hl 3 rfl) ?_
  refine lv_iconst (v := 3) hx hb dL_law_141 (by decide) ?_
  refine lv_iadd hx hb dL_law_142 ?_
  refine va_sld hx hb hX hbl hbA (hS hW) (lw_ix (j := 3) hL (by omega) rfl) dL_law_143 ?_
  obtain ⟨q2, z1, z2, hq2, e1, e2, hr12, hI2⟩ := Kbank q al I R n (xs (nI i + 1).toNatClampNeg) (xs (nI i + 2).toNatClampNeg) (xs (nI i + 3).toNatClampNeg)  hI
  obtain ⟨b_0, b_100, hF2⟩ := Kin _ _ _ _ _ hI2
  have hW := hW.req hq2
  rw [← hq2 0 a_0, ← hq2 100 a_100] at hl
  rw [← hq2 0 a_0]
  refine r_callV (q := q2) (v := (some (.int z1.1))) (As := [.int (xs (nI i + 1).toNatClampNeg), .int (xs (nI i + 2).toNatClampNeg), .int (xs (nI i + 3).toNatClampNeg)]) (rest := []) C ml_X7_bank gm_317 gm_318 gm_319 (ci := 7) rfl hW a_0 rfl hl.1 (c_X7_bank a_0 hF e1) rfl ⟨by decide, by decide⟩ ⟨by show _ ≤ 600000; omega, by show _ ≤ 7302250; omega⟩ rfl (Nat.le_of_ble_eq_true rfl) dL_law_144 (fun H locs hW => ?_)
  refine lv_aload_n hx hb dL_law_147 rfl (lv_at hl 2 rfl) ?_
  refine lv_aload_n hx hb dL_law_148 rfl (lv_at hl 0 rfl) ?_
  refine lv_iload_n hx hb dL_law_149 rfl (lv_at hl 3 rfl) ?_
  refine lv_iconst (v := 1) hx hb dL_law_150 (by decide) ?_
  refine lv_iadd hx hb dL_law_151 ?_
  refine va_sld hx hb hX hbl hbA (hS hW) (lw_ix (j := 1) hL (by omega) rfl) dL_law_152 ?_
  refine lv_aload_n hx hb dL_law_153 rfl (lv_at hl 0 rfl) ?_
  refine lv_iload_n hx hb dL_law_154 rfl (lv_at hl 3 rfl) ?_
  refine lv_iconst (v := 2) hx hb dL_law_155 (by decide) ?_
  refine lv_iadd hx hb dL_law_156 ?_
  refine va_sld hx hb hX hbl hbA (hS hW) (lw_ix (j := 2) hL (by omega) rfl) dL_law_157 ?_
  refine lv_aload_n hx hb dL_law_158 rfl (lv_at hl 0 rfl) ?_
  refine lv_iload_n hx hb dL_law_159 rfl (lv_at hl 3 rfl) ?_
  refine lv_iconst (v := 3) hx hb dL_law_160 (by decide) ?_
  refine lv_iadd hx hb dL_law_161 ?_
  refine va_sld hx hb hX hbl hbA (hS hW) (lw_ix (j := 3) hL (by omega) rfl) dL_law_162 ?_
  refine r_callV (q := q2) (v := (some (.int z2.1))) (As := [.int (xs (nI i + 1).toNatClampNeg), .int (xs (nI i + 2).toNatClampNeg), .int (xs (nI i + 3).toNatClampNeg)]) (rest := [.int z1.1]) C ml_X8_bank gm_877 gm_878 gm_879 (ci := 8) rfl hW b_100 rfl hl.1 (c_X8_bank b_100 hF2 e2) rfl ⟨by decide, by decide⟩ ⟨by show _ ≤ 600000; omega, by show _ ≤ 7302250; omega⟩ rfl (Nat.le_of_ble_eq_true rfl) dL_law_163 (fun H locs hW => ?_)
  refine lv_icmp_eq (tgt := 810) hx hb dL_law_166 (by decide) (fun _ => ?_) (fun z => absurd hr12 z)
  refine lv_iinc (v := nI (i + 6)) (lv' := [(3, .int (nI (i + 6))), (0, .ref b), (1, .ref (q2 0)), (2, .ref (q2 100))]) hx hb dL_law_810 hl (k := 3) rfl (nI_add i 6) (by decide) rfl (fun ls hl => ?_)
  refine lv_goto (tgt := 18) hx hb dL_law_813 (by decide) ?_
  exact ih (i + 6) hI2 (by omega) (by omega) (by omega) (by omega) hW (lv_sub hl [1, 2, 3, 0] rfl)
set_option maxHeartbeats 4000000 in
set_option maxRecDepth 100000 in
theorem law_target {p : Program} {e : Env} {s : State} {m : MethodId} {below : List Frame} {meth : Method} {c : Code} {l : Launch} {b L : Nat} {xs : Nat → Int32} (hL : L ≤ 3072) (hX : va_X b L xs s s.heap) (hbl : b < s.heap.size) {E : EV} (hE : E.2.2.2.2 = s.heap.size) (C : CX p s m #[Value.ref b] meth c E code RL 4 ret) (LI : LIt) (Kin : LK_in LI) (Ktarget : LK_target LI) (nn : Nat) (ih : ∀ (i : Nat) {q : Nat → Nat} {al : Nat → Bool} {I : MI} {R : MR} {n cells slots : Nat} {H : Heap} {locs : List Loc} {ls : Array Slot} (hI : LI q al I R n) (hi : i ≤ L + 6) (hn : L + 6 < i + 6 * nn) (hc : cells + nn ≤ 600000) (hs : slots + 10 * nn ≤ 7302250) (hW : Wd E q al s.heap I R n H locs) (hl : lv_has ls 4 [(0, .ref b), (1, .ref (q 0)), (2, .ref (q 100)), (3, .int (nI i))]), W p l e room_1 s m #[Value.ref b] below meth c H locs cells slots (lw_Z below #[Value.ref b] s) (F0 m 18 ls [])) {i : Nat} {q : Nat → Nat} {al : Nat → Bool} {I : MI} {R : MR} {n cells slots : Nat} {H : Heap} {locs : List Loc} {ls : Array Slot} (hI : LI q al I R n) (hlt : i + 6 ≤ L) (hn : L + 6 < i + 6 * (nn + 1)) (hc : cells + (nn + 1) ≤ 600000) (hs : slots + 10 * (nn + 1) ≤ 7302250) (hW : Wd E q al s.heap I R n H locs) (hl : lv_has ls 4 [(0, .ref b), (1, .ref (q 0)), (2, .ref (q 100)), (3, .int (nI i))]) : W p l e room_1 s m #[Value.ref b] below meth c H locs cells slots (lw_Z below #[Value.ref b] s) (F0 m 171 ls []) := by
  have hx := C.1
  have hb := C.2.1
  have hbA : ¬ Bs E b := by show ¬ E.2.2.2.2 ≤ b; omega
  have hS : ∀ {q : Nat → Nat} {al : Nat → Bool} {I : MI} {R : MR} {n : Nat} {H : Heap} {locs : List Loc}, Wd E q al s.heap I R n H locs → va_S (Bs E) s.heap H locs := fun h => h.2
  obtain ⟨a_0, a_100, hF⟩ := Kin _ _ _ _ _ hI
  refine lv_aload_n hx hb dL_law_171 rfl (lv_at hl 1 rfl) ?_
  refine lv_aload_n hx hb dL_law_172 rfl (lv_at hl 0 rfl) ?_
  refine lv_iload_n hx hb dL_law_173 rfl (lv_at hl 3 rfl) ?_
  refine lv_iconst (v := 1) hx hb dL_law_174 (by decide) ?_
  refine lv_iadd hx hb dL_law_175 ?_
  refine va_sld hx hb hX hbl hbA (hS hW) (lw_ix (j := 1) hL (by omega) rfl) dL_law_176 ?_
  refine lv_aload_n hx hb dL_law_177 rfl (lv_at hl 0 rfl) ?_
  refine lv_iload_n hx hb dL_law_178 rfl (lv_at hl 3 rfl) ?_
  refine lv_iconst (v := 2) hx hb dL_law_179 (by decide) ?_
  refine lv_iadd hx hb dL_law_180 ?_
  refine va_sld hx hb hX hbl hbA (hS hW) (lw_ix (j := 2) hL (by omega) rfl) dL_law_181 ?_
  obtain ⟨z1, z2, e1, e2, hr12, hI2⟩ := Ktarget q al I R n (xs (nI i + 1).toNatClampNeg) (xs (nI i + 2).toNatClampNeg)  hI
  obtain ⟨b_0, b_100, hF2⟩ := Kin _ _ _ _ _ hI2
  refine r_callV (q := q) (v := (some (.int z1.1))) (As := [.int (xs (nI i + 1).toNatClampNeg), .int (xs (nI i + 2).toNatClampNeg)]) (rest := []) C ml_X7_target gm_325 gm_326 gm_327 (ci := 7) rfl hW a_0 rfl hl.1 (c_X7_target a_0 hF e1) rfl ⟨by decide, by decide⟩ ⟨by show _ ≤ 600000; omega, by show _ ≤ 7302250; omega⟩ rfl (Nat.le_of_ble_eq_true rfl) dL_law_182 (fun H locs hW => ?_)
  refine lv_aload_n hx hb dL_law_185 rfl (lv_at hl 2 rfl) ?_
  refine lv_aload_n hx hb dL_law_186 rfl (lv_at hl 0 rfl) ?_
  refine lv_iload_n hx hb dL_law_187 rfl (lv_at hl 3 rfl) ?_
  refine lv_iconst (v := 1) hx hb dL_law_188 (by decide) ?_
  refine lv_iadd hx hb dL_law_189 ?_
  refine va_sld hx hb hX hbl hbA (hS hW) (lw_ix (j := 1) hL (by omega) rfl) dL_law_190 ?_
  refine lv_aload_n hx hb dL_law_191 rfl (lv_at hl 0 rfl) ?_
  refine lv_iload_n hx hb dL_law_192 rfl (lv_at hl 3 rfl) ?_
  refine lv_iconst (v := 2) hx hb dL_law_193 (by decide) ?_
  refine lv_iadd hx hb dL_law_194 ?_
  refine va_sld hx hb hX hbl hbA (hS hW) (lw_ix (j := 2) hL (by omega) rfl) dL_law_195 ?_
  refine r_callV (q := q) (v := (some (.int z2.1))) (As := [.int (xs (nI i + 1).toNatClampNeg), .int (xs (nI i + 2).toNatClampNeg)]) (rest := [.int z1.1]) C ml_X8_target gm_884 gm_885 gm_886 (ci := 8) rfl hW b_100 rfl hl.1 (c_X8_target b_100 hF2 e2) rfl ⟨by decide, by decide⟩ ⟨by show _ ≤ 600000; omega, by show _ ≤ 7302250; omega⟩ rfl (Nat.le_of_ble_eq_true rfl) dL_law_196 (fun H locs hW => ?_)
  refine lv_icmp_eq (tgt := 810) hx hb dL_law_199 (by decide) (fun _ => ?_) (fun z => absurd hr12 z)
  refine lv_iinc (v := nI (i + 6)) (lv' := [(3, .int (nI (i + 6))), (0, .ref b), (1, .ref (q 0)), (2, .ref (q 100))]) hx hb dL_law_810 hl (k := 3) rfl (nI_add i 6) (by decide) rfl (fun ls hl => ?_)
  refine lv_goto (tgt := 18) hx hb dL_law_813 (by decide) ?_
  exact ih (i + 6) hI2 (by omega) (by omega) (by omega) (by omega) hW (lv_sub hl [1, 2, 3, 0] rfl)
set_option maxHeartbeats 4000000 in
set_option maxRecDepth 100000 in
theorem law_air {p : Program} {e : Env} {s : State} {m : MethodId} {below : List Frame} {meth : Method} {c : Code} {l : Launch} {b L : Nat} {xs : Nat → Int32} (hL : L ≤ 3072) (hX : va_X b L xs s s.heap) (hbl : b < s.heap.size) {E : EV} (hE : E.2.2.2.2 = s.heap.size) (C : CX p s m #[Value.ref b] meth c E code RL 4 ret) (LI : LIt) (Kin : LK_in LI) (Kair : LK_air LI) (nn : Nat) (ih : ∀ (i : Nat) {q : Nat → Nat} {al : Nat → Bool} {I : MI} {R : MR} {n cells slots : Nat} {H : Heap} {locs : List Loc} {ls : Array Slot} (hI : LI q al I R n) (hi : i ≤ L + 6) (hn : L + 6 < i + 6 * nn) (hc : cells + nn ≤ 600000) (hs : slots + 10 * nn ≤ 7302250) (hW : Wd E q al s.heap I R n H locs) (hl : lv_has ls 4 [(0, .ref b), (1, .ref (q 0)), (2, .ref (q 100)), (3, .int (nI i))]), W p l e room_1 s m #[Value.ref b] below meth c H locs cells slots (lw_Z below #[Value.ref b] s) (F0 m 18 ls [])) {i : Nat} {q : Nat → Nat} {al : Nat → Bool} {I : MI} {R : MR} {n cells slots : Nat} {H : Heap} {locs : List Loc} {ls : Array Slot} (hI : LI q al I R n) (hlt : i + 6 ≤ L) (hn : L + 6 < i + 6 * (nn + 1)) (hc : cells + (nn + 1) ≤ 600000) (hs : slots + 10 * (nn + 1) ≤ 7302250) (hW : Wd E q al s.heap I R n H locs) (hl : lv_has ls 4 [(0, .ref b), (1, .ref (q 0)), (2, .ref (q 100)), (3, .int (nI i))]) : W p l e room_1 s m #[Value.ref b] below meth c H locs cells slots (lw_Z below #[Value.ref b] s) (F0 m 204 ls []) := by
  have hx := C.1
  have hb := C.2.1
  have hbA : ¬ Bs E b := by show ¬ E.2.2.2.2 ≤ b; omega
  have hS : ∀ {q : Nat → Nat} {al : Nat → Bool} {I : MI} {R : MR} {n : Nat} {H : Heap} {locs : List Loc}, Wd E q al s.heap I R n H locs → va_S (Bs E) s.heap H locs := fun h => h.2
  obtain ⟨a_0, a_100, hF⟩ := Kin _ _ _ _ _ hI
  refine lv_aload_n hx hb dL_law_204 rfl (lv_at hl 1 rfl) ?_
  refine lv_aload_n hx hb dL_law_205 rfl (lv_at hl 0 rfl) ?_
  refine lv_iload_n hx hb dL_law_206 rfl (lv_at hl 3 rfl) ?_
  refine lv_iconst (v := 1) hx hb dL_law_207 (by decide) ?_
  refine lv_iadd hx hb dL_law_208 ?_
  refine va_sld hx hb hX hbl hbA (hS hW) (lw_ix (j := 1) hL (by omega) rfl) dL_law_209 ?_
  obtain ⟨z1, z2, e1, e2, hr12, hI2⟩ := Kair q al I R n (xs (nI i + 1).toNatClampNeg)  hI
  obtain ⟨b_0, b_100, hF2⟩ := Kin _ _ _ _ _ hI2
  refine r_callV (q := q) (v := (some (.int z1.1))) (As := [.int (xs (nI i + 1).toNatClampNeg)]) (rest := []) C ml_X7_air gm_333 gm_334 gm_335 (ci := 7) rfl hW a_0 rfl hl.1 (c_X7_air a_0 e1) rfl ⟨by decide, by decide⟩ ⟨by show _ ≤ 600000; omega, by show _ ≤ 7302250; omega⟩ rfl (Nat.le_of_ble_eq_true rfl) dL_law_210 (fun H locs hW => ?_)
  refine lv_aload_n hx hb dL_law_213 rfl (lv_at hl 2 rfl) ?_
  refine lv_aload_n hx hb dL_law_214 rfl (lv_at hl 0 rfl) ?_
  refine lv_iload_n hx hb dL_law_215 rfl (lv_at hl 3 rfl) ?_
  refine lv_iconst (v := 1) hx hb dL_law_216 (by decide) ?_
  refine lv_iadd hx hb dL_law_217 ?_
  refine va_sld hx hb hX hbl hbA (hS hW) (lw_ix (j := 1) hL (by omega) rfl) dL_law_218 ?_
  refine r_callV (q := q) (v := (some (.int z2.1))) (As := [.int (xs (nI i + 1).toNatClampNeg)]) (rest := [.int z1.1]) C ml_X8_air gm_892 gm_893 gm_894 (ci := 8) rfl hW b_100 rfl hl.1 (c_X8_air b_100 e2) rfl ⟨by decide, by decide⟩ ⟨by show _ ≤ 600000; omega, by show _ ≤ 7302250; omega⟩ rfl (Nat.le_of_ble_eq_true rfl) dL_law_219 (fun H locs hW => ?_)
  refine lv_icmp_eq (tgt := 810) hx hb dL_law_222 (by decide) (fun _ => ?_) (fun z => absurd hr12 z)
  refine lv_iinc (v := nI (i + 6)) (lv' := [(3, .int (nI (i + 6))), (0, .ref b), (1, .ref (q 0)), (2, .ref (q 100))]) hx hb dL_law_810 hl (k := 3) rfl (nI_add i 6) (by decide) rfl (fun ls hl => ?_)
  refine lv_goto (tgt := 18) hx hb dL_law_813 (by decide) ?_
  exact ih (i + 6) hI2 (by omega) (by omega) (by omega) (by omega) hW (lv_sub hl [1, 2, 3, 0] rfl)
set_option maxHeartbeats 4000000 in
set_option maxRecDepth 100000 in
theorem law_hoses {p : Program} {e : Env} {s : State} {m : MethodId} {below : List Frame} {meth : Method} {c : Code} {l : Launch} {b L : Nat} {xs : Nat → Int32} (hL : L ≤ 3072) (hX : va_X b L xs s s.heap) (hbl : b < s.heap.size) {E : EV} (hE : E.2.2.2.2 = s.heap.size) (C : CX p s m #[Value.ref b] meth c E code RL 4 ret) (LI : LIt) (Kin : LK_in LI) (Khoses : LK_hoses LI) (nn : Nat) (ih : ∀ (i : Nat) {q : Nat → Nat} {al : Nat → Bool} {I : MI} {R : MR} {n cells slots : Nat} {H : Heap} {locs : List Loc} {ls : Array Slot} (hI : LI q al I R n) (hi : i ≤ L + 6) (hn : L + 6 < i + 6 * nn) (hc : cells + nn ≤ 600000) (hs : slots + 10 * nn ≤ 7302250) (hW : Wd E q al s.heap I R n H locs) (hl : lv_has ls 4 [(0, .ref b), (1, .ref (q 0)), (2, .ref (q 100)), (3, .int (nI i))]), W p l e room_1 s m #[Value.ref b] below meth c H locs cells slots (lw_Z below #[Value.ref b] s) (F0 m 18 ls [])) {i : Nat} {q : Nat → Nat} {al : Nat → Bool} {I : MI} {R : MR} {n cells slots : Nat} {H : Heap} {locs : List Loc} {ls : Array Slot} (hI : LI q al I R n) (hlt : i + 6 ≤ L) (hn : L + 6 < i + 6 * (nn + 1)) (hc : cells + (nn + 1) ≤ 600000) (hs : slots + 10 * (nn + 1) ≤ 7302250) (hW : Wd E q al s.heap I R n H locs) (hl : lv_has ls 4 [(0, .ref b), (1, .ref (q 0)), (2, .ref (q 100)), (3, .int (nI i))]) : W p l e room_1 s m #[Value.ref b] below meth c H locs cells slots (lw_Z below #[Value.ref b] s) (F0 m 227 ls []) := by
  have hx := C.1
  have hb := C.2.1
  have hbA : ¬ Bs E b := by show ¬ E.2.2.2.2 ≤ b; omega
  have hS : ∀ {q : Nat → Nat} {al : Nat → Bool} {I : MI} {R : MR} {n : Nat} {H : Heap} {locs : List Loc}, Wd E q al s.heap I R n H locs → va_S (Bs E) s.heap H locs := fun h => h.2
  obtain ⟨a_0, a_100, hF⟩ := Kin _ _ _ _ _ hI
  refine lv_aload_n hx hb dL_law_227 rfl (lv_at hl 1 rfl) ?_
  refine lv_aload_n hx hb dL_law_228 rfl (lv_at hl 0 rfl) ?_
  refine lv_iload_n hx hb dL_law_229 rfl (lv_at hl 3 rfl) ?_
  refine lv_iconst (v := 1) hx hb dL_law_230 (by decide) ?_
  refine lv_iadd hx hb dL_law_231 ?_
  refine va_sld hx hb hX hbl hbA (hS hW) (lw_ix (j := 1) hL (by omega) rfl) dL_law_232 ?_
  obtain ⟨z1, z2, e1, e2, hr12, hI2⟩ := Khoses q al I R n (xs (nI i + 1).toNatClampNeg)  hI
  obtain ⟨b_0, b_100, hF2⟩ := Kin _ _ _ _ _ hI2
  refine r_callV (q := q) (v := (some (.int z1.1))) (As := [.int (xs (nI i + 1).toNatClampNeg)]) (rest := []) C ml_X7_hoses gm_337 gm_338 gm_339 (ci := 7) rfl hW a_0 rfl hl.1 (c_X7_hoses a_0 hF e1) rfl ⟨by decide, by decide⟩ ⟨by show _ ≤ 600000; omega, by show _ ≤ 7302250; omega⟩ rfl (Nat.le_of_ble_eq_true rfl) dL_law_233 (fun H locs hW => ?_)
  refine lv_aload_n hx hb dL_law_236 rfl (lv_at hl 2 rfl) ?_
  refine lv_aload_n hx hb dL_law_237 rfl (lv_at hl 0 rfl) ?_
  refine lv_iload_n hx hb dL_law_238 rfl (lv_at hl 3 rfl) ?_
  refine lv_iconst (v := 1) hx hb dL_law_239 (by decide) ?_
  refine lv_iadd hx hb dL_law_240 ?_
  refine va_sld hx hb hX hbl hbA (hS hW) (lw_ix (j := 1) hL (by omega) rfl) dL_law_241 ?_
  refine r_callV (q := q) (v := (some (.int z2.1))) (As := [.int (xs (nI i + 1).toNatClampNeg)]) (rest := [.int z1.1]) C ml_X8_hoses gm_896 gm_897 gm_898 (ci := 8) rfl hW b_100 rfl hl.1 (c_X8_hoses b_100 hF2 e2) rfl ⟨by decide, by decide⟩ ⟨by show _ ≤ 600000; omega, by show _ ≤ 7302250; omega⟩ rfl (Nat.le_of_ble_eq_true rfl) dL_law_242 (fun H locs hW => ?_)
  refine lv_icmp_eq (tgt := 810) hx hb dL_law_245 (by decide) (fun _ => ?_) (fun z => absurd hr12 z)
  refine lv_iinc (v := nI (i + 6)) (lv' := [(3, .int (nI (i + 6))), (0, .ref b), (1, .ref (q 0)), (2, .ref (q 100))]) hx hb dL_law_810 hl (k := 3) rfl (nI_add i 6) (by decide) rfl (fun ls hl => ?_)
  refine lv_goto (tgt := 18) hx hb dL_law_813 (by decide) ?_
  exact ih (i + 6) hI2 (by omega) (by omega) (by omega) (by omega) hW (lv_sub hl [1, 2, 3, 0] rfl)
set_option maxHeartbeats 4000000 in
set_option maxRecDepth 100000 in
theorem law_feed {p : Program} {e : Env} {s : State} {m : MethodId} {below : List Frame} {meth : Method} {c : Code} {l : Launch} {b L : Nat} {xs : Nat → Int32} (hL : L ≤ 3072) (hX : va_X b L xs s s.heap) (hbl : b < s.heap.size) {E : EV} (hE : E.2.2.2.2 = s.heap.size) (C : CX p s m #[Value.ref b] meth c E code RL 4 ret) (LI : LIt) (Kin : LK_in LI) (Kfeed : LK_feed LI) (nn : Nat) (ih : ∀ (i : Nat) {q : Nat → Nat} {al : Nat → Bool} {I : MI} {R : MR} {n cells slots : Nat} {H : Heap} {locs : List Loc} {ls : Array Slot} (hI : LI q al I R n) (hi : i ≤ L + 6) (hn : L + 6 < i + 6 * nn) (hc : cells + nn ≤ 600000) (hs : slots + 10 * nn ≤ 7302250) (hW : Wd E q al s.heap I R n H locs) (hl : lv_has ls 4 [(0, .ref b), (1, .ref (q 0)), (2, .ref (q 100)), (3, .int (nI i))]), W p l e room_1 s m #[Value.ref b] below meth c H locs cells slots (lw_Z below #[Value.ref b] s) (F0 m 18 ls [])) {i : Nat} {q : Nat → Nat} {al : Nat → Bool} {I : MI} {R : MR} {n cells slots : Nat} {H : Heap} {locs : List Loc} {ls : Array Slot} (hI : LI q al I R n) (hlt : i + 6 ≤ L) (hn : L + 6 < i + 6 * (nn + 1)) (hc : cells + (nn + 1) ≤ 600000) (hs : slots + 10 * (nn + 1) ≤ 7302250) (hW : Wd E q al s.heap I R n H locs) (hl : lv_has ls 4 [(0, .ref b), (1, .ref (q 0)), (2, .ref (q 100)), (3, .int (nI i))]) : W p l e room_1 s m #[Value.ref b] below meth c H locs cells slots (lw_Z below #[Value.ref b] s) (F0 m 250 ls []) := by
  have hx := C.1
  have hb := C.2.1
  have hbA : ¬ Bs E b := by show ¬ E.2.2.2.2 ≤ b; omega
  have hS : ∀ {q : Nat → Nat} {al : Nat → Bool} {I : MI} {R : MR} {n : Nat} {H : Heap} {locs : List Loc}, Wd E q al s.heap I R n H locs → va_S (Bs E) s.heap H locs := fun h => h.2
  obtain ⟨a_0, a_100, hF⟩ := Kin _ _ _ _ _ hI
  refine lv_aload_n hx hb dL_law_250 rfl (lv_at hl 1 rfl) ?_
  refine lv_aload_n hx hb dL_law_251 rfl (lv_at hl 0 rfl) ?_
  refine lv_iload_n hx hb dL_law_252 rfl (lv_at hl 3 rfl) ?_
  refine lv_iconst (v := 1) hx hb dL_law_253 (by decide) ?_
  refine lv_iadd hx hb dL_law_254 ?_
  refine va_sld hx hb hX hbl hbA (hS hW) (lw_ix (j := 1) hL (by omega) rfl) dL_law_255 ?_
  refine lv_aload_n hx hb dL_law_256 rfl (lv_at hl 0 rfl) ?_
  refine lv_iload_n hx hb dL_law_257 rfl (lv_at hl 3 rfl) ?_
  refine lv_iconst (v := 2) hx hb dL_law_258 (by decide) ?_
  refine lv_iadd hx hb dL_law_259 ?_
  refine va_sld hx hb hX hbl hbA (hS hW) (lw_ix (j := 2) hL (by omega) rfl) dL_law_260 ?_
  refine lv_aload_n hx hb dL_law_261 rfl (lv_at hl 0 rfl) ?_
  refine lv_iload_n hx hb dL_law_262 rfl (lv_at hl 3 rfl) ?_
  refine lv_iconst (v := 3) hx hb dL_law_263 (by decide) ?_
  refine lv_iadd hx hb dL_law_264 ?_
  refine va_sld hx hb hX hbl hbA (hS hW) (lw_ix (j := 3) hL (by omega) rfl) dL_law_265 ?_
  refine lv_aload_n hx hb dL_law_266 rfl (lv_at hl 0 rfl) ?_
  refine lv_iload_n hx hb dL_law_267 rfl (lv_at hl 3 rfl) ?_
  refine lv_iconst (v := 4) hx hb dL_law_268 (by decide) ?_
  refine lv_iadd hx hb dL_law_269 ?_
  refine va_sld hx hb hX hbl hbA (hS hW) (lw_ix (j := 4) hL (by omega) rfl) dL_law_270 ?_
  refine lv_aload_n hx hb dL_law_271 rfl (lv_at hl 0 rfl) ?_
  refine lv_iload_n hx hb dL_law_272 rfl (lv_at hl 3 rfl) ?_
  refine lv_iconst (v := 5) hx hb dL_law_273 (by decide) ?_
  refine lv_iadd hx hb dL_law_274 ?_
  refine va_sld hx hb hX hbl hbA (hS hW) (lw_ix (j := 5) hL (by omega) rfl) dL_law_275 ?_
  obtain ⟨z1, z2, e1, e2, hr12, hI2⟩ := Kfeed q al I R n (xs (nI i + 1).toNatClampNeg) (xs (nI i + 2).toNatClampNeg) (xs (nI i + 3).toNatClampNeg) (xs (nI i + 4).toNatClampNeg) (xs (nI i + 5).toNatClampNeg)  hI
  obtain ⟨b_0, b_100, hF2⟩ := Kin _ _ _ _ _ hI2
  refine r_callV (q := q) (v := (some (.int z1.1))) (As := [.int (xs (nI i + 1).toNatClampNeg), .int (xs (nI i + 2).toNatClampNeg), .int (xs (nI i + 3).toNatClampNeg), .int (xs (nI i + 4).toNatClampNeg), .int (xs (nI i + 5).toNatClampNeg)]) (rest := []) C ml_X7_feed gm_341 gm_342 gm_343 (ci := 7) rfl hW a_0 rfl hl.1 (c_X7_feed a_0 hF e1) rfl ⟨by decide, by decide⟩ ⟨by show _ ≤ 600000; omega, by show _ ≤ 7302250; omega⟩ rfl (Nat.le_of_ble_eq_true rfl) dL_law_276 (fun H locs hW => ?_)
  refine lv_aload_n hx hb dL_law_279 rfl (lv_at hl 2 rfl) ?_
  refine lv_aload_n hx hb dL_law_280 rfl (lv_at hl 0 rfl) ?_
  refine lv_iload_n hx hb dL_law_281 rfl (lv_at hl 3 rfl) ?_
  refine lv_iconst (v := 1) hx hb dL_law_282 (by decide) ?_
  refine lv_iadd hx hb dL_law_283 ?_
  refine va_sld hx hb hX hbl hbA (hS hW) (lw_ix (j := 1) hL (by omega) rfl) dL_law_284 ?_
  refine lv_aload_n hx hb dL_law_285 rfl (lv_at hl 0 rfl) ?_
  refine lv_iload_n hx hb dL_law_286 rfl (lv_at hl 3 rfl) ?_
  refine lv_iconst (v := 2) hx hb dL_law_287 (by decide) ?_
  refine lv_iadd hx hb dL_law_288 ?_
  refine va_sld hx hb hX hbl hbA (hS hW) (lw_ix (j := 2) hL (by omega) rfl) dL_law_289 ?_
  refine lv_aload_n hx hb dL_law_290 rfl (lv_at hl 0 rfl) ?_
  refine lv_iload_n hx hb dL_law_291 rfl (lv_at hl 3 rfl) ?_
  refine lv_iconst (v := 3) hx hb dL_law_292 (by decide) ?_
  refine lv_iadd hx hb dL_law_293 ?_
  refine va_sld hx hb hX hbl hbA (hS hW) (lw_ix (j := 3) hL (by omega) rfl) dL_law_294 ?_
  refine lv_aload_n hx hb dL_law_295 rfl (lv_at hl 0 rfl) ?_
  refine lv_iload_n hx hb dL_law_296 rfl (lv_at hl 3 rfl) ?_
  refine lv_iconst (v := 4) hx hb dL_law_297 (by decide) ?_
  refine lv_iadd hx hb dL_law_298 ?_
  refine va_sld hx hb hX hbl hbA (hS hW) (lw_ix (j := 4) hL (by omega) rfl) dL_law_299 ?_
  refine lv_aload_n hx hb dL_law_300 rfl (lv_at hl 0 rfl) ?_
  refine lv_iload_n hx hb dL_law_301 rfl (lv_at hl 3 rfl) ?_
  refine lv_iconst (v := 5) hx hb dL_law_302 (by decide) ?_
  refine lv_iadd hx hb dL_law_303 ?_
  refine va_sld hx hb hX hbl hbA (hS hW) (lw_ix (j := 5) hL (by omega) rfl) dL_law_304 ?_
  refine r_callV (q := q) (v := (some (.int z2.1))) (As := [.int (xs (nI i + 1).toNatClampNeg), .int (xs (nI i + 2).toNatClampNeg), .int (xs (nI i + 3).toNatClampNeg), .int (xs (nI i + 4).toNatClampNeg), .int (xs (nI i + 5).toNatClampNeg)]) (rest := [.int z1.1]) C ml_X8_feed gm_900 gm_901 gm_902 (ci := 8) rfl hW b_100 rfl hl.1 (c_X8_feed b_100 hF2 e2) rfl ⟨by decide, by decide⟩ ⟨by show _ ≤ 600000; omega, by show _ ≤ 7302250; omega⟩ rfl (Nat.le_of_ble_eq_true rfl) dL_law_305 (fun H locs hW => ?_)
  refine lv_icmp_eq (tgt := 810) hx hb dL_law_308 (by decide) (fun _ => ?_) (fun z => absurd hr12 z)
  refine lv_iinc (v := nI (i + 6)) (lv' := [(3, .int (nI (i + 6))), (0, .ref b), (1, .ref (q 0)), (2, .ref (q 100))]) hx hb dL_law_810 hl (k := 3) rfl (nI_add i 6) (by decide) rfl (fun ls hl => ?_)
  refine lv_goto (tgt := 18) hx hb dL_law_813 (by decide) ?_
  exact ih (i + 6) hI2 (by omega) (by omega) (by omega) (by omega) hW (lv_sub hl [1, 2, 3, 0] rfl)
set_option maxHeartbeats 4000000 in
set_option maxRecDepth 100000 in
theorem law_end {p : Program} {e : Env} {s : State} {m : MethodId} {below : List Frame} {meth : Method} {c : Code} {l : Launch} {b L : Nat} {xs : Nat → Int32} (hL : L ≤ 3072) (hX : va_X b L xs s s.heap) (hbl : b < s.heap.size) {E : EV} (hE : E.2.2.2.2 = s.heap.size) (C : CX p s m #[Value.ref b] meth c E code RL 4 ret) (LI : LIt) (Kin : LK_in LI) (Kend : LK_end LI) (nn : Nat) (ih : ∀ (i : Nat) {q : Nat → Nat} {al : Nat → Bool} {I : MI} {R : MR} {n cells slots : Nat} {H : Heap} {locs : List Loc} {ls : Array Slot} (hI : LI q al I R n) (hi : i ≤ L + 6) (hn : L + 6 < i + 6 * nn) (hc : cells + nn ≤ 600000) (hs : slots + 10 * nn ≤ 7302250) (hW : Wd E q al s.heap I R n H locs) (hl : lv_has ls 4 [(0, .ref b), (1, .ref (q 0)), (2, .ref (q 100)), (3, .int (nI i))]), W p l e room_1 s m #[Value.ref b] below meth c H locs cells slots (lw_Z below #[Value.ref b] s) (F0 m 18 ls [])) {i : Nat} {q : Nat → Nat} {al : Nat → Bool} {I : MI} {R : MR} {n cells slots : Nat} {H : Heap} {locs : List Loc} {ls : Array Slot} (hI : LI q al I R n) (hlt : i + 6 ≤ L) (hn : L + 6 < i + 6 * (nn + 1)) (hc : cells + (nn + 1) ≤ 600000) (hs : slots + 10 * (nn + 1) ≤ 7302250) (hW : Wd E q al s.heap I R n H locs) (hl : lv_has ls 4 [(0, .ref b), (1, .ref (q 0)), (2, .ref (q 100)), (3, .int (nI i))]) : W p l e room_1 s m #[Value.ref b] below meth c H locs cells slots (lw_Z below #[Value.ref b] s) (F0 m 313 ls []) := by
  have hx := C.1
  have hb := C.2.1
  have hbA : ¬ Bs E b := by show ¬ E.2.2.2.2 ≤ b; omega
  have hS : ∀ {q : Nat → Nat} {al : Nat → Bool} {I : MI} {R : MR} {n : Nat} {H : Heap} {locs : List Loc}, Wd E q al s.heap I R n H locs → va_S (Bs E) s.heap H locs := fun h => h.2
  obtain ⟨a_0, a_100, hF⟩ := Kin _ _ _ _ _ hI
  refine lv_aload_n hx hb dL_law_313 rfl (lv_at hl 1 rfl) ?_
  refine lv_aload_n hx hb dL_law_314 rfl (lv_at hl 0 rfl) ?_
  refine lv_iload_n hx hb dL_law_315 rfl (lv_at hl 3 rfl) ?_
  refine lv_iconst (v := 1) hx hb dL_law_316 (by decide) ?_
  refine lv_iadd hx hb dL_law_317 ?_
  refine va_sld hx hb hX hbl hbA (hS hW) (lw_ix (j := 1) hL (by omega) rfl) dL_law_318 ?_
  obtain ⟨z1, z2, e1, e2, hr12, hI2⟩ := Kend q al I R n (xs (nI i + 1).toNatClampNeg)  hI
  obtain ⟨b_0, b_100, hF2⟩ := Kin _ _ _ _ _ hI2
  refine r_callV (q := q) (v := (some (.int z1.1))) (As := [.int (xs (nI i + 1).toNatClampNeg)]) (rest := []) C ml_X7_end gm_349 gm_350 gm_351 (ci := 7) rfl hW a_0 rfl hl.1 (c_X7_end a_0 hF e1) rfl ⟨by decide, by decide⟩ ⟨by show _ ≤ 600000; omega, by show _ ≤ 7302250; omega⟩ rfl (Nat.le_of_ble_eq_true rfl) dL_law_319 (fun H locs hW => ?_)
  refine lv_aload_n hx hb dL_law_322 rfl (lv_at hl 2 rfl) ?_
  refine lv_aload_n hx hb dL_law_323 rfl (lv_at hl 0 rfl) ?_
  refine lv_iload_n hx hb dL_law_324 rfl (lv_at hl 3 rfl) ?_
  refine lv_iconst (v := 1) hx hb dL_law_325 (by decide) ?_
  refine lv_iadd hx hb dL_law_326 ?_
  refine va_sld hx hb hX hbl hbA (hS hW) (lw_ix (j := 1) hL (by omega) rfl) dL_law_327 ?_
  refine r_callV (q := q) (v := (some (.int z2.1))) (As := [.int (xs (nI i + 1).toNatClampNeg)]) (rest := [.int z1.1]) C ml_X8_end gm_908 gm_909 gm_910 (ci := 8) rfl hW b_100 rfl hl.1 (c_X8_end b_100 e2) rfl ⟨by decide, by decide⟩ ⟨by show _ ≤ 600000; omega, by show _ ≤ 7302250; omega⟩ rfl (Nat.le_of_ble_eq_true rfl) dL_law_328 (fun H locs hW => ?_)
  refine lv_icmp_eq (tgt := 810) hx hb dL_law_331 (by decide) (fun _ => ?_) (fun z => absurd hr12 z)
  refine lv_iinc (v := nI (i + 6)) (lv' := [(3, .int (nI (i + 6))), (0, .ref b), (1, .ref (q 0)), (2, .ref (q 100))]) hx hb dL_law_810 hl (k := 3) rfl (nI_add i 6) (by decide) rfl (fun ls hl => ?_)
  refine lv_goto (tgt := 18) hx hb dL_law_813 (by decide) ?_
  exact ih (i + 6) hI2 (by omega) (by omega) (by omega) (by omega) hW (lv_sub hl [1, 2, 3, 0] rfl)
set_option maxHeartbeats 4000000 in
set_option maxRecDepth 100000 in
theorem law_book {p : Program} {e : Env} {s : State} {m : MethodId} {below : List Frame} {meth : Method} {c : Code} {l : Launch} {b L : Nat} {xs : Nat → Int32} (hL : L ≤ 3072) (hX : va_X b L xs s s.heap) (hbl : b < s.heap.size) {E : EV} (hE : E.2.2.2.2 = s.heap.size) (C : CX p s m #[Value.ref b] meth c E code RL 4 ret) (LI : LIt) (Kin : LK_in LI) (Kbook : LK_book LI) (nn : Nat) (ih : ∀ (i : Nat) {q : Nat → Nat} {al : Nat → Bool} {I : MI} {R : MR} {n cells slots : Nat} {H : Heap} {locs : List Loc} {ls : Array Slot} (hI : LI q al I R n) (hi : i ≤ L + 6) (hn : L + 6 < i + 6 * nn) (hc : cells + nn ≤ 600000) (hs : slots + 10 * nn ≤ 7302250) (hW : Wd E q al s.heap I R n H locs) (hl : lv_has ls 4 [(0, .ref b), (1, .ref (q 0)), (2, .ref (q 100)), (3, .int (nI i))]), W p l e room_1 s m #[Value.ref b] below meth c H locs cells slots (lw_Z below #[Value.ref b] s) (F0 m 18 ls [])) {i : Nat} {q : Nat → Nat} {al : Nat → Bool} {I : MI} {R : MR} {n cells slots : Nat} {H : Heap} {locs : List Loc} {ls : Array Slot} (hI : LI q al I R n) (hlt : i + 6 ≤ L) (hn : L + 6 < i + 6 * (nn + 1)) (hc : cells + (nn + 1) ≤ 600000) (hs : slots + 10 * (nn + 1) ≤ 7302250) (hW : Wd E q al s.heap I R n H locs) (hl : lv_has ls 4 [(0, .ref b), (1, .ref (q 0)), (2, .ref (q 100)), (3, .int (nI i))]) : W p l e room_1 s m #[Value.ref b] below meth c H locs cells slots (lw_Z below #[Value.ref b] s) (F0 m 336 ls []) := by
  have hx := C.1
  have hb := C.2.1
  have hbA : ¬ Bs E b := by show ¬ E.2.2.2.2 ≤ b; omega
  have hS : ∀ {q : Nat → Nat} {al : Nat → Bool} {I : MI} {R : MR} {n : Nat} {H : Heap} {locs : List Loc}, Wd E q al s.heap I R n H locs → va_S (Bs E) s.heap H locs := fun h => h.2
  obtain ⟨a_0, a_100, hF⟩ := Kin _ _ _ _ _ hI
  refine lv_aload_n hx hb dL_law_336 rfl (lv_at hl 1 rfl) ?_
  obtain ⟨z1, z2, e1, e2, hr12, hI2⟩ := Kbook q al I R n   hI
  obtain ⟨b_0, b_100, hF2⟩ := Kin _ _ _ _ _ hI2
  refine r_callV (q := q) (v := (some (.int z1.1))) (As := []) (rest := []) C ml_X7_book gm_353 gm_354 gm_355 (ci := 7) rfl hW a_0 rfl hl.1 (c_X7_book a_0 hF e1) rfl ⟨by decide, by decide⟩ ⟨by show _ ≤ 600000; omega, by show _ ≤ 7302250; omega⟩ rfl (Nat.le_of_ble_eq_true rfl) dL_law_337 (fun H locs hW => ?_)
  refine lv_aload_n hx hb dL_law_340 rfl (lv_at hl 2 rfl) ?_
  refine r_callV (q := q) (v := (some (.int z2.1))) (As := []) (rest := [.int z1.1]) C ml_X8_book gm_912 gm_913 gm_914 (ci := 8) rfl hW b_100 rfl hl.1 (c_X8_book b_100 hF2 e2) rfl ⟨by decide, by decide⟩ ⟨by show _ ≤ 600000; omega, by show _ ≤ 7302250; omega⟩ rfl (Nat.le_of_ble_eq_true rfl) dL_law_341 (fun H locs hW => ?_)
  refine lv_icmp_eq (tgt := 810) hx hb dL_law_344 (by decide) (fun _ => ?_) (fun z => absurd hr12 z)
  refine lv_iinc (v := nI (i + 6)) (lv' := [(3, .int (nI (i + 6))), (0, .ref b), (1, .ref (q 0)), (2, .ref (q 100))]) hx hb dL_law_810 hl (k := 3) rfl (nI_add i 6) (by decide) rfl (fun ls hl => ?_)
  refine lv_goto (tgt := 18) hx hb dL_law_813 (by decide) ?_
  exact ih (i + 6) hI2 (by omega) (by omega) (by omega) (by omega) hW (lv_sub hl [1, 2, 3, 0] rfl)
set_option maxHeartbeats 4000000 in
set_option maxRecDepth 100000 in
theorem law_flow {p : Program} {e : Env} {s : State} {m : MethodId} {below : List Frame} {meth : Method} {c : Code} {l : Launch} {b L : Nat} {xs : Nat → Int32} (hL : L ≤ 3072) (hX : va_X b L xs s s.heap) (hbl : b < s.heap.size) {E : EV} (hE : E.2.2.2.2 = s.heap.size) (C : CX p s m #[Value.ref b] meth c E code RL 4 ret) (LI : LIt) (Kin : LK_in LI) (Kflow : LK_flow LI) (nn : Nat) (ih : ∀ (i : Nat) {q : Nat → Nat} {al : Nat → Bool} {I : MI} {R : MR} {n cells slots : Nat} {H : Heap} {locs : List Loc} {ls : Array Slot} (hI : LI q al I R n) (hi : i ≤ L + 6) (hn : L + 6 < i + 6 * nn) (hc : cells + nn ≤ 600000) (hs : slots + 10 * nn ≤ 7302250) (hW : Wd E q al s.heap I R n H locs) (hl : lv_has ls 4 [(0, .ref b), (1, .ref (q 0)), (2, .ref (q 100)), (3, .int (nI i))]), W p l e room_1 s m #[Value.ref b] below meth c H locs cells slots (lw_Z below #[Value.ref b] s) (F0 m 18 ls [])) {i : Nat} {q : Nat → Nat} {al : Nat → Bool} {I : MI} {R : MR} {n cells slots : Nat} {H : Heap} {locs : List Loc} {ls : Array Slot} (hI : LI q al I R n) (hlt : i + 6 ≤ L) (hn : L + 6 < i + 6 * (nn + 1)) (hc : cells + (nn + 1) ≤ 600000) (hs : slots + 10 * (nn + 1) ≤ 7302250) (hW : Wd E q al s.heap I R n H locs) (hl : lv_has ls 4 [(0, .ref b), (1, .ref (q 0)), (2, .ref (q 100)), (3, .int (nI i))]) : W p l e room_1 s m #[Value.ref b] below meth c H locs cells slots (lw_Z below #[Value.ref b] s) (F0 m 349 ls []) := by
  have hx := C.1
  have hb := C.2.1
  have hbA : ¬ Bs E b := by show ¬ E.2.2.2.2 ≤ b; omega
  have hS : ∀ {q : Nat → Nat} {al : Nat → Bool} {I : MI} {R : MR} {n : Nat} {H : Heap} {locs : List Loc}, Wd E q al s.heap I R n H locs → va_S (Bs E) s.heap H locs := fun h => h.2
  obtain ⟨a_0, a_100, hF⟩ := Kin _ _ _ _ _ hI
  refine lv_aload_n hx hb dL_law_349 rfl (lv_at hl 1 rfl) ?_
  refine lv_aload_n hx hb dL_law_350 rfl (lv_at hl 0 rfl) ?_
  refine lv_iload_n hx hb dL_law_351 rfl (lv_at hl 3 rfl) ?_
  refine lv_iconst (v := 1) hx hb dL_law_352 (by decide) ?_
  refine lv_iadd hx hb dL_law_353 ?_
  refine va_sld hx hb hX hbl hbA (hS hW) (lw_ix (j := 1) hL (by omega) rfl) dL_law_354 ?_
  obtain ⟨z1, z2, e1, e2, hr12, hI2⟩ := Kflow q al I R n (xs (nI i + 1).toNatClampNeg)  hI
  obtain ⟨b_0, b_100, hF2⟩ := Kin _ _ _ _ _ hI2
  refine r_callV (q := q) (v := (some (.int z1))) (As := [.int (xs (nI i + 1).toNatClampNeg)]) (rest := []) C ml_X7_flow gm_482 gm_483 gm_484 (ci := 7) rfl hW a_0 rfl hl.1 (c_X7_flow a_0 hF e1) rfl ⟨by decide, by decide⟩ ⟨by show _ ≤ 600000; omega, by show _ ≤ 7302250; omega⟩ rfl (Nat.le_of_ble_eq_true rfl) dL_law_355 (fun H locs hW => ?_)
  refine lv_aload_n hx hb dL_law_358 rfl (lv_at hl 2 rfl) ?_
  refine lv_aload_n hx hb dL_law_359 rfl (lv_at hl 0 rfl) ?_
  refine lv_iload_n hx hb dL_law_360 rfl (lv_at hl 3 rfl) ?_
  refine lv_iconst (v := 1) hx hb dL_law_361 (by decide) ?_
  refine lv_iadd hx hb dL_law_362 ?_
  refine va_sld hx hb hX hbl hbA (hS hW) (lw_ix (j := 1) hL (by omega) rfl) dL_law_363 ?_
  refine r_callV (q := q) (v := (some (.int z2))) (As := [.int (xs (nI i + 1).toNatClampNeg)]) (rest := [.int z1]) C ml_X8_flow gm_936 gm_937 gm_938 (ci := 8) rfl hW b_100 rfl hl.1 (c_X8_flow b_100 hF2 e2) rfl ⟨by decide, by decide⟩ ⟨by show _ ≤ 600000; omega, by show _ ≤ 7302250; omega⟩ rfl (Nat.le_of_ble_eq_true rfl) dL_law_364 (fun H locs hW => ?_)
  refine lv_icmp_eq (tgt := 810) hx hb dL_law_367 (by decide) (fun _ => ?_) (fun z => absurd hr12 z)
  refine lv_iinc (v := nI (i + 6)) (lv' := [(3, .int (nI (i + 6))), (0, .ref b), (1, .ref (q 0)), (2, .ref (q 100))]) hx hb dL_law_810 hl (k := 3) rfl (nI_add i 6) (by decide) rfl (fun ls hl => ?_)
  refine lv_goto (tgt := 18) hx hb dL_law_813 (by decide) ?_
  exact ih (i + 6) hI2 (by omega) (by omega) (by omega) (by omega) hW (lv_sub hl [1, 2, 3, 0] rfl)
set_option maxHeartbeats 4000000 in
set_option maxRecDepth 100000 in
theorem law_price {p : Program} {e : Env} {s : State} {m : MethodId} {below : List Frame} {meth : Method} {c : Code} {l : Launch} {b L : Nat} {xs : Nat → Int32} (hL : L ≤ 3072) (hX : va_X b L xs s s.heap) (hbl : b < s.heap.size) {E : EV} (hE : E.2.2.2.2 = s.heap.size) (C : CX p s m #[Value.ref b] meth c E code RL 4 ret) (LI : LIt) (Kin : LK_in LI) (Kprice : LK_price LI) (nn : Nat) (ih : ∀ (i : Nat) {q : Nat → Nat} {al : Nat → Bool} {I : MI} {R : MR} {n cells slots : Nat} {H : Heap} {locs : List Loc} {ls : Array Slot} (hI : LI q al I R n) (hi : i ≤ L + 6) (hn : L + 6 < i + 6 * nn) (hc : cells + nn ≤ 600000) (hs : slots + 10 * nn ≤ 7302250) (hW : Wd E q al s.heap I R n H locs) (hl : lv_has ls 4 [(0, .ref b), (1, .ref (q 0)), (2, .ref (q 100)), (3, .int (nI i))]), W p l e room_1 s m #[Value.ref b] below meth c H locs cells slots (lw_Z below #[Value.ref b] s) (F0 m 18 ls [])) {i : Nat} {q : Nat → Nat} {al : Nat → Bool} {I : MI} {R : MR} {n cells slots : Nat} {H : Heap} {locs : List Loc} {ls : Array Slot} (hI : LI q al I R n) (hlt : i + 6 ≤ L) (hn : L + 6 < i + 6 * (nn + 1)) (hc : cells + (nn + 1) ≤ 600000) (hs : slots + 10 * (nn + 1) ≤ 7302250) (hW : Wd E q al s.heap I R n H locs) (hl : lv_has ls 4 [(0, .ref b), (1, .ref (q 0)), (2, .ref (q 100)), (3, .int (nI i))]) : W p l e room_1 s m #[Value.ref b] below meth c H locs cells slots (lw_Z below #[Value.ref b] s) (F0 m 372 ls []) := by
  have hx := C.1
  have hb := C.2.1
  have hbA : ¬ Bs E b := by show ¬ E.2.2.2.2 ≤ b; omega
  have hS : ∀ {q : Nat → Nat} {al : Nat → Bool} {I : MI} {R : MR} {n : Nat} {H : Heap} {locs : List Loc}, Wd E q al s.heap I R n H locs → va_S (Bs E) s.heap H locs := fun h => h.2
  obtain ⟨a_0, a_100, hF⟩ := Kin _ _ _ _ _ hI
  refine lv_aload_n hx hb dL_law_372 rfl (lv_at hl 1 rfl) ?_
  refine lv_aload_n hx hb dL_law_373 rfl (lv_at hl 0 rfl) ?_
  refine lv_iload_n hx hb dL_law_374 rfl (lv_at hl 3 rfl) ?_
  refine lv_iconst (v := 1) hx hb dL_law_375 (by decide) ?_
  refine lv_iadd hx hb dL_law_376 ?_
  refine va_sld hx hb hX hbl hbA (hS hW) (lw_ix (j := 1) hL (by omega) rfl) dL_law_377 ?_
  refine lv_aload_n hx hb dL_law_378 rfl (lv_at hl 0 rfl) ?_
  refine lv_iload_n hx hb dL_law_379 rfl (lv_at hl 3 rfl) ?_
  refine lv_iconst (v := 2) hx hb dL_law_380 (by decide) ?_
  refine lv_iadd hx hb dL_law_381 ?_
  refine va_sld hx hb hX hbl hbA (hS hW) (lw_ix (j := 2) hL (by omega) rfl) dL_law_382 ?_
  obtain ⟨z1, z2, e1, e2, hr12, hI2⟩ := Kprice q al I R n (xs (nI i + 1).toNatClampNeg) (xs (nI i + 2).toNatClampNeg)  hI
  obtain ⟨b_0, b_100, hF2⟩ := Kin _ _ _ _ _ hI2
  refine r_callV (q := q) (v := (some (.int z1.1))) (As := [.int (xs (nI i + 1).toNatClampNeg), .int (xs (nI i + 2).toNatClampNeg)]) (rest := []) C ml_X7_price gm_490 gm_491 gm_492 (ci := 7) rfl hW a_0 rfl hl.1 (c_X7_price a_0 hF e1) rfl ⟨by decide, by decide⟩ ⟨by show _ ≤ 600000; omega, by show _ ≤ 7302250; omega⟩ rfl (Nat.le_of_ble_eq_true rfl) dL_law_383 (fun H locs hW => ?_)
  refine lv_aload_n hx hb dL_law_386 rfl (lv_at hl 2 rfl) ?_
  refine lv_aload_n hx hb dL_law_387 rfl (lv_at hl 0 rfl) ?_
  refine lv_iload_n hx hb dL_law_388 rfl (lv_at hl 3 rfl) ?_
  refine lv_iconst (v := 1) hx hb dL_law_389 (by decide) ?_
  refine lv_iadd hx hb dL_law_390 ?_
  refine va_sld hx hb hX hbl hbA (hS hW) (lw_ix (j := 1) hL (by omega) rfl) dL_law_391 ?_
  refine lv_aload_n hx hb dL_law_392 rfl (lv_at hl 0 rfl) ?_
  refine lv_iload_n hx hb dL_law_393 rfl (lv_at hl 3 rfl) ?_
  refine lv_iconst (v := 2) hx hb dL_law_394 (by decide) ?_
  refine lv_iadd hx hb dL_law_395 ?_
  refine va_sld hx hb hX hbl hbA (hS hW) (lw_ix (j := 2) hL (by omega) rfl) dL_law_396 ?_
  refine r_callV (q := q) (v := (some (.int z2.1))) (As := [.int (xs (nI i + 1).toNatClampNeg), .int (xs (nI i + 2).toNatClampNeg)]) (rest := [.int z1.1]) C ml_X8_price gm_944 gm_945 gm_946 (ci := 8) rfl hW b_100 rfl hl.1 (c_X8_price b_100 hF2 e2) rfl ⟨by decide, by decide⟩ ⟨by show _ ≤ 600000; omega, by show _ ≤ 7302250; omega⟩ rfl (Nat.le_of_ble_eq_true rfl) dL_law_397 (fun H locs hW => ?_)
  refine lv_icmp_eq (tgt := 810) hx hb dL_law_400 (by decide) (fun _ => ?_) (fun z => absurd hr12 z)
  refine lv_iinc (v := nI (i + 6)) (lv' := [(3, .int (nI (i + 6))), (0, .ref b), (1, .ref (q 0)), (2, .ref (q 100))]) hx hb dL_law_810 hl (k := 3) rfl (nI_add i 6) (by decide) rfl (fun ls hl => ?_)
  refine lv_goto (tgt := 18) hx hb dL_law_813 (by decide) ?_
  exact ih (i + 6) hI2 (by omega) (by omega) (by omega) (by omega) hW (lv_sub hl [1, 2, 3, 0] rfl)
set_option maxHeartbeats 4000000 in
set_option maxRecDepth 100000 in
theorem law_closed {p : Program} {e : Env} {s : State} {m : MethodId} {below : List Frame} {meth : Method} {c : Code} {l : Launch} {b L : Nat} {xs : Nat → Int32} (hL : L ≤ 3072) (hX : va_X b L xs s s.heap) (hbl : b < s.heap.size) {E : EV} (hE : E.2.2.2.2 = s.heap.size) (C : CX p s m #[Value.ref b] meth c E code RL 4 ret) (LI : LIt) (Kin : LK_in LI) (Kclosed : LK_closed LI) (nn : Nat) (ih : ∀ (i : Nat) {q : Nat → Nat} {al : Nat → Bool} {I : MI} {R : MR} {n cells slots : Nat} {H : Heap} {locs : List Loc} {ls : Array Slot} (hI : LI q al I R n) (hi : i ≤ L + 6) (hn : L + 6 < i + 6 * nn) (hc : cells + nn ≤ 600000) (hs : slots + 10 * nn ≤ 7302250) (hW : Wd E q al s.heap I R n H locs) (hl : lv_has ls 4 [(0, .ref b), (1, .ref (q 0)), (2, .ref (q 100)), (3, .int (nI i))]), W p l e room_1 s m #[Value.ref b] below meth c H locs cells slots (lw_Z below #[Value.ref b] s) (F0 m 18 ls [])) {i : Nat} {q : Nat → Nat} {al : Nat → Bool} {I : MI} {R : MR} {n cells slots : Nat} {H : Heap} {locs : List Loc} {ls : Array Slot} (hI : LI q al I R n) (hlt : i + 6 ≤ L) (hn : L + 6 < i + 6 * (nn + 1)) (hc : cells + (nn + 1) ≤ 600000) (hs : slots + 10 * (nn + 1) ≤ 7302250) (hW : Wd E q al s.heap I R n H locs) (hl : lv_has ls 4 [(0, .ref b), (1, .ref (q 0)), (2, .ref (q 100)), (3, .int (nI i))]) : W p l e room_1 s m #[Value.ref b] below meth c H locs cells slots (lw_Z below #[Value.ref b] s) (F0 m 405 ls []) := by
  have hx := C.1
  have hb := C.2.1
  have hbA : ¬ Bs E b := by show ¬ E.2.2.2.2 ≤ b; omega
  have hS : ∀ {q : Nat → Nat} {al : Nat → Bool} {I : MI} {R : MR} {n : Nat} {H : Heap} {locs : List Loc}, Wd E q al s.heap I R n H locs → va_S (Bs E) s.heap H locs := fun h => h.2
  obtain ⟨a_0, a_100, hF⟩ := Kin _ _ _ _ _ hI
  refine lv_aload_n hx hb dL_law_405 rfl (lv_at hl 1 rfl) ?_
  refine lv_aload_n hx hb dL_law_406 rfl (lv_at hl 0 rfl) ?_
  refine lv_iload_n hx hb dL_law_407 rfl (lv_at hl 3 rfl) ?_
  refine lv_iconst (v := 1) hx hb dL_law_408 (by decide) ?_
  refine lv_iadd hx hb dL_law_409 ?_
  refine va_sld hx hb hX hbl hbA (hS hW) (lw_ix (j := 1) hL (by omega) rfl) dL_law_410 ?_
  refine lv_aload_n hx hb dL_law_411 rfl (lv_at hl 0 rfl) ?_
  refine lv_iload_n hx hb dL_law_412 rfl (lv_at hl 3 rfl) ?_
  refine lv_iconst (v := 2) hx hb dL_law_413 (by decide) ?_
  refine lv_iadd hx hb dL_law_414 ?_
  refine va_sld hx hb hX hbl hbA (hS hW) (lw_ix (j := 2) hL (by omega) rfl) dL_law_415 ?_
  refine lv_if_eq (tgt := 423) hx hb dL_law_416 (by decide) (fun c_2 => ?_) (fun c_2 => ?_)
  · refine lv_iconst (v := 0) hx hb dL_law_423 (by decide) ?_
    obtain ⟨z1, z2, e1, e2, hr12, hI2⟩ := Kclosed q al I R n (xs (nI i + 1).toNatClampNeg) 0 (Or.inl rfl) hI
    obtain ⟨b_0, b_100, hF2⟩ := Kin _ _ _ _ _ hI2
    refine r_callV (q := q) (v := (some (.int z1.1))) (As := [.int (xs (nI i + 1).toNatClampNeg), .int 0]) (rest := []) C ml_X7_closed gm_494 gm_495 gm_496 (ci := 7) rfl hW a_0 rfl hl.1 (c_X7_closed a_0 hF e1) rfl ⟨by decide, by decide⟩ ⟨by show _ ≤ 600000; omega, by show _ ≤ 7302250; omega⟩ rfl (Nat.le_of_ble_eq_true rfl) dL_law_424 (fun H locs hW => ?_)
    refine lv_aload_n hx hb dL_law_427 rfl (lv_at hl 2 rfl) ?_
    refine lv_aload_n hx hb dL_law_428 rfl (lv_at hl 0 rfl) ?_
    refine lv_iload_n hx hb dL_law_429 rfl (lv_at hl 3 rfl) ?_
    refine lv_iconst (v := 1) hx hb dL_law_430 (by decide) ?_
    refine lv_iadd hx hb dL_law_431 ?_
    refine va_sld hx hb hX hbl hbA (hS hW) (lw_ix (j := 1) hL (by omega) rfl) dL_law_432 ?_
    refine lv_aload_n hx hb dL_law_433 rfl (lv_at hl 0 rfl) ?_
    refine lv_iload_n hx hb dL_law_434 rfl (lv_at hl 3 rfl) ?_
    refine lv_iconst (v := 2) hx hb dL_law_435 (by decide) ?_
    refine lv_iadd hx hb dL_law_436 ?_
    refine va_sld hx hb hX hbl hbA (hS hW) (lw_ix (j := 2) hL (by omega) rfl) dL_law_437 ?_
    refine lv_if_eq (tgt := 445) hx hb dL_law_438 (by decide) (fun _ => ?_) (fun z => absurd c_2 z)
    refine lv_iconst (v := 0) hx hb dL_law_445 (by decide) ?_
    refine r_callV (q := q) (v := (some (.int z2.1))) (As := [.int (xs (nI i + 1).toNatClampNeg), .int 0]) (rest := [.int z1.1]) C ml_X8_closed gm_948 gm_949 gm_950 (ci := 8) rfl hW b_100 rfl hl.1 (c_X8_closed b_100 hF2 e2) rfl ⟨by decide, by decide⟩ ⟨by show _ ≤ 600000; omega, by show _ ≤ 7302250; omega⟩ rfl (Nat.le_of_ble_eq_true rfl) dL_law_446 (fun H locs hW => ?_)
    refine lv_icmp_eq (tgt := 810) hx hb dL_law_449 (by decide) (fun _ => ?_) (fun z => absurd hr12 z)
    refine lv_iinc (v := nI (i + 6)) (lv' := [(3, .int (nI (i + 6))), (0, .ref b), (1, .ref (q 0)), (2, .ref (q 100))]) hx hb dL_law_810 hl (k := 3) rfl (nI_add i 6) (by decide) rfl (fun ls hl => ?_)
    refine lv_goto (tgt := 18) hx hb dL_law_813 (by decide) ?_
    exact ih (i + 6) hI2 (by omega) (by omega) (by omega) (by omega) hW (lv_sub hl [1, 2, 3, 0] rfl)
  · refine lv_iconst (v := 1) hx hb dL_law_419 (by decide) ?_
    refine lv_goto (tgt := 424) hx hb dL_law_420 (by decide) ?_
    obtain ⟨z1, z2, e1, e2, hr12, hI2⟩ := Kclosed q al I R n (xs (nI i + 1).toNatClampNeg) 1 (Or.inr rfl) hI
    obtain ⟨b_0, b_100, hF2⟩ := Kin _ _ _ _ _ hI2
    refine r_callV (q := q) (v := (some (.int z1.1))) (As := [.int (xs (nI i + 1).toNatClampNeg), .int 1]) (rest := []) C ml_X7_closed gm_494 gm_495 gm_496 (ci := 7) rfl hW a_0 rfl hl.1 (c_X7_closed a_0 hF e1) rfl ⟨by decide, by decide⟩ ⟨by show _ ≤ 600000; omega, by show _ ≤ 7302250; omega⟩ rfl (Nat.le_of_ble_eq_true rfl) dL_law_424 (fun H locs hW => ?_)
    refine lv_aload_n hx hb dL_law_427 rfl (lv_at hl 2 rfl) ?_
    refine lv_aload_n hx hb dL_law_428 rfl (lv_at hl 0 rfl) ?_
    refine lv_iload_n hx hb dL_law_429 rfl (lv_at hl 3 rfl) ?_
    refine lv_iconst (v := 1) hx hb dL_law_430 (by decide) ?_
    refine lv_iadd hx hb dL_law_431 ?_
    refine va_sld hx hb hX hbl hbA (hS hW) (lw_ix (j := 1) hL (by omega) rfl) dL_law_432 ?_
    refine lv_aload_n hx hb dL_law_433 rfl (lv_at hl 0 rfl) ?_
    refine lv_iload_n hx hb dL_law_434 rfl (lv_at hl 3 rfl) ?_
    refine lv_iconst (v := 2) hx hb dL_law_435 (by decide) ?_
    refine lv_iadd hx hb dL_law_436 ?_
    refine va_sld hx hb hX hbl hbA (hS hW) (lw_ix (j := 2) hL (by omega) rfl) dL_law_437 ?_
    refine lv_if_eq (tgt := 445) hx hb dL_law_438 (by decide) (fun z => absurd z c_2) (fun _ => ?_)
    refine lv_iconst (v := 1) hx hb dL_law_441 (by decide) ?_
    refine lv_goto (tgt := 446) hx hb dL_law_442 (by decide) ?_
    refine r_callV (q := q) (v := (some (.int z2.1))) (As := [.int (xs (nI i + 1).toNatClampNeg), .int 1]) (rest := [.int z1.1]) C ml_X8_closed gm_948 gm_949 gm_950 (ci := 8) rfl hW b_100 rfl hl.1 (c_X8_closed b_100 hF2 e2) rfl ⟨by decide, by decide⟩ ⟨by show _ ≤ 600000; omega, by show _ ≤ 7302250; omega⟩ rfl (Nat.le_of_ble_eq_true rfl) dL_law_446 (fun H locs hW => ?_)
    refine lv_icmp_eq (tgt := 810) hx hb dL_law_449 (by decide) (fun _ => ?_) (fun z => absurd hr12 z)
    refine lv_iinc (v := nI (i + 6)) (lv' := [(3, .int (nI (i + 6))), (0, .ref b), (1, .ref (q 0)), (2, .ref (q 100))]) hx hb dL_law_810 hl (k := 3) rfl (nI_add i 6) (by decide) rfl (fun ls hl => ?_)
    refine lv_goto (tgt := 18) hx hb dL_law_813 (by decide) ?_
    exact ih (i + 6) hI2 (by omega) (by omega) (by omega) (by omega) hW (lv_sub hl [1, 2, 3, 0] rfl)
set_option maxHeartbeats 4000000 in
set_option maxRecDepth 100000 in
theorem law_sensor {p : Program} {e : Env} {s : State} {m : MethodId} {below : List Frame} {meth : Method} {c : Code} {l : Launch} {b L : Nat} {xs : Nat → Int32} (hL : L ≤ 3072) (hX : va_X b L xs s s.heap) (hbl : b < s.heap.size) {E : EV} (hE : E.2.2.2.2 = s.heap.size) (C : CX p s m #[Value.ref b] meth c E code RL 4 ret) (LI : LIt) (Kin : LK_in LI) (Ksensor : LK_sensor LI) (nn : Nat) (ih : ∀ (i : Nat) {q : Nat → Nat} {al : Nat → Bool} {I : MI} {R : MR} {n cells slots : Nat} {H : Heap} {locs : List Loc} {ls : Array Slot} (hI : LI q al I R n) (hi : i ≤ L + 6) (hn : L + 6 < i + 6 * nn) (hc : cells + nn ≤ 600000) (hs : slots + 10 * nn ≤ 7302250) (hW : Wd E q al s.heap I R n H locs) (hl : lv_has ls 4 [(0, .ref b), (1, .ref (q 0)), (2, .ref (q 100)), (3, .int (nI i))]), W p l e room_1 s m #[Value.ref b] below meth c H locs cells slots (lw_Z below #[Value.ref b] s) (F0 m 18 ls [])) {i : Nat} {q : Nat → Nat} {al : Nat → Bool} {I : MI} {R : MR} {n cells slots : Nat} {H : Heap} {locs : List Loc} {ls : Array Slot} (hI : LI q al I R n) (hlt : i + 6 ≤ L) (hn : L + 6 < i + 6 * (nn + 1)) (hc : cells + (nn + 1) ≤ 600000) (hs : slots + 10 * (nn + 1) ≤ 7302250) (hW : Wd E q al s.heap I R n H locs) (hl : lv_has ls 4 [(0, .ref b), (1, .ref (q 0)), (2, .ref (q 100)), (3, .int (nI i))]) : W p l e room_1 s m #[Value.ref b] below meth c H locs cells slots (lw_Z below #[Value.ref b] s) (F0 m 454 ls []) := by
  have hx := C.1
  have hb := C.2.1
  have hbA : ¬ Bs E b := by show ¬ E.2.2.2.2 ≤ b; omega
  have hS : ∀ {q : Nat → Nat} {al : Nat → Bool} {I : MI} {R : MR} {n : Nat} {H : Heap} {locs : List Loc}, Wd E q al s.heap I R n H locs → va_S (Bs E) s.heap H locs := fun h => h.2
  obtain ⟨a_0, a_100, hF⟩ := Kin _ _ _ _ _ hI
  refine lv_aload_n hx hb dL_law_454 rfl (lv_at hl 1 rfl) ?_
  refine lv_aload_n hx hb dL_law_455 rfl (lv_at hl 0 rfl) ?_
  refine lv_iload_n hx hb dL_law_456 rfl (lv_at hl 3 rfl) ?_
  refine lv_iconst (v := 1) hx hb dL_law_457 (by decide) ?_
  refine lv_iadd hx hb dL_law_458 ?_
  refine va_sld hx hb hX hbl hbA (hS hW) (lw_ix (j := 1) hL (by omega) rfl) dL_law_459 ?_
  refine lv_aload_n hx hb dL_law_460 rfl (lv_at hl 0 rfl) ?_
  refine lv_iload_n hx hb dL_law_461 rfl (lv_at hl 3 rfl) ?_
  refine lv_iconst (v := 2) hx hb dL_law_462 (by decide) ?_
  refine lv_iadd hx hb dL_law_463 ?_
  refine va_sld hx hb hX hbl hbA (hS hW) (lw_ix (j := 2) hL (by omega) rfl) dL_law_464 ?_
  refine lv_aload_n hx hb dL_law_465 rfl (lv_at hl 0 rfl) ?_
  refine lv_iload_n hx hb dL_law_466 rfl (lv_at hl 3 rfl) ?_
  refine lv_iconst (v := 3) hx hb dL_law_467 (by decide) ?_
  refine lv_iadd hx hb dL_law_468 ?_
  refine va_sld hx hb hX hbl hbA (hS hW) (lw_ix (j := 3) hL (by omega) rfl) dL_law_469 ?_
  refine lv_if_eq (tgt := 477) hx hb dL_law_470 (by decide) (fun c_3 => ?_) (fun c_3 => ?_)
  · refine lv_iconst (v := 0) hx hb dL_law_477 (by decide) ?_
    obtain ⟨z1, z2, e1, e2, hr12, hI2⟩ := Ksensor q al I R n (xs (nI i + 1).toNatClampNeg) (xs (nI i + 2).toNatClampNeg) 0 (Or.inl rfl) hI
    obtain ⟨b_0, b_100, hF2⟩ := Kin _ _ _ _ _ hI2
    refine r_callV (q := q) (v := (some (.int z1.1))) (As := [.int (xs (nI i + 1).toNatClampNeg), .int (xs (nI i + 2).toNatClampNeg), .int 0]) (rest := []) C ml_X7_sensor gm_498 gm_499 gm_500 (ci := 7) rfl hW a_0 rfl hl.1 (c_X7_sensor a_0 hF e1) rfl ⟨by decide, by decide⟩ ⟨by show _ ≤ 600000; omega, by show _ ≤ 7302250; omega⟩ rfl (Nat.le_of_ble_eq_true rfl) dL_law_478 (fun H locs hW => ?_)
    refine lv_aload_n hx hb dL_law_481 rfl (lv_at hl 2 rfl) ?_
    refine lv_aload_n hx hb dL_law_482 rfl (lv_at hl 0 rfl) ?_
    refine lv_iload_n hx hb dL_law_483 rfl (lv_at hl 3 rfl) ?_
    refine lv_iconst (v := 1) hx hb dL_law_484 (by decide) ?_
    refine lv_iadd hx hb dL_law_485 ?_
    refine va_sld hx hb hX hbl hbA (hS hW) (lw_ix (j := 1) hL (by omega) rfl) dL_law_486 ?_
    refine lv_aload_n hx hb dL_law_487 rfl (lv_at hl 0 rfl) ?_
    refine lv_iload_n hx hb dL_law_488 rfl (lv_at hl 3 rfl) ?_
    refine lv_iconst (v := 2) hx hb dL_law_489 (by decide) ?_
    refine lv_iadd hx hb dL_law_490 ?_
    refine va_sld hx hb hX hbl hbA (hS hW) (lw_ix (j := 2) hL (by omega) rfl) dL_law_491 ?_
    refine lv_aload_n hx hb dL_law_492 rfl (lv_at hl 0 rfl) ?_
    refine lv_iload_n hx hb dL_law_493 rfl (lv_at hl 3 rfl) ?_
    refine lv_iconst (v := 3) hx hb dL_law_494 (by decide) ?_
    refine lv_iadd hx hb dL_law_495 ?_
    refine va_sld hx hb hX hbl hbA (hS hW) (lw_ix (j := 3) hL (by omega) rfl) dL_law_496 ?_
    refine lv_if_eq (tgt := 504) hx hb dL_law_497 (by decide) (fun _ => ?_) (fun z => absurd c_3 z)
    refine lv_iconst (v := 0) hx hb dL_law_504 (by decide) ?_
    refine r_callV (q := q) (v := (some (.int z2.1))) (As := [.int (xs (nI i + 1).toNatClampNeg), .int (xs (nI i + 2).toNatClampNeg), .int 0]) (rest := [.int z1.1]) C ml_X8_sensor gm_952 gm_953 gm_954 (ci := 8) rfl hW b_100 rfl hl.1 (c_X8_sensor b_100 hF2 e2) rfl ⟨by decide, by decide⟩ ⟨by show _ ≤ 600000; omega, by show _ ≤ 7302250; omega⟩ rfl (Nat.le_of_ble_eq_true rfl) dL_law_505 (fun H locs hW => ?_)
    refine lv_icmp_eq (tgt := 810) hx hb dL_law_508 (by decide) (fun _ => ?_) (fun z => absurd hr12 z)
    refine lv_iinc (v := nI (i + 6)) (lv' := [(3, .int (nI (i + 6))), (0, .ref b), (1, .ref (q 0)), (2, .ref (q 100))]) hx hb dL_law_810 hl (k := 3) rfl (nI_add i 6) (by decide) rfl (fun ls hl => ?_)
    refine lv_goto (tgt := 18) hx hb dL_law_813 (by decide) ?_
    exact ih (i + 6) hI2 (by omega) (by omega) (by omega) (by omega) hW (lv_sub hl [1, 2, 3, 0] rfl)
  · refine lv_iconst (v := 1) hx hb dL_law_473 (by decide) ?_
    refine lv_goto (tgt := 478) hx hb dL_law_474 (by decide) ?_
    obtain ⟨z1, z2, e1, e2, hr12, hI2⟩ := Ksensor q al I R n (xs (nI i + 1).toNatClampNeg) (xs (nI i + 2).toNatClampNeg) 1 (Or.inr rfl) hI
    obtain ⟨b_0, b_100, hF2⟩ := Kin _ _ _ _ _ hI2
    refine r_callV (q := q) (v := (some (.int z1.1))) (As := [.int (xs (nI i + 1).toNatClampNeg), .int (xs (nI i + 2).toNatClampNeg), .int 1]) (rest := []) C ml_X7_sensor gm_498 gm_499 gm_500 (ci := 7) rfl hW a_0 rfl hl.1 (c_X7_sensor a_0 hF e1) rfl ⟨by decide, by decide⟩ ⟨by show _ ≤ 600000; omega, by show _ ≤ 7302250; omega⟩ rfl (Nat.le_of_ble_eq_true rfl) dL_law_478 (fun H locs hW => ?_)
    refine lv_aload_n hx hb dL_law_481 rfl (lv_at hl 2 rfl) ?_
    refine lv_aload_n hx hb dL_law_482 rfl (lv_at hl 0 rfl) ?_
    refine lv_iload_n hx hb dL_law_483 rfl (lv_at hl 3 rfl) ?_
    refine lv_iconst (v := 1) hx hb dL_law_484 (by decide) ?_
    refine lv_iadd hx hb dL_law_485 ?_
    refine va_sld hx hb hX hbl hbA (hS hW) (lw_ix (j := 1) hL (by omega) rfl) dL_law_486 ?_
    refine lv_aload_n hx hb dL_law_487 rfl (lv_at hl 0 rfl) ?_
    refine lv_iload_n hx hb dL_law_488 rfl (lv_at hl 3 rfl) ?_
    refine lv_iconst (v := 2) hx hb dL_law_489 (by decide) ?_
    refine lv_iadd hx hb dL_law_490 ?_
    refine va_sld hx hb hX hbl hbA (hS hW) (lw_ix (j := 2) hL (by omega) rfl) dL_law_491 ?_
    refine lv_aload_n hx hb dL_law_492 rfl (lv_at hl 0 rfl) ?_
    refine lv_iload_n hx hb dL_law_493 rfl (lv_at hl 3 rfl) ?_
    refine lv_iconst (v := 3) hx hb dL_law_494 (by decide) ?_
    refine lv_iadd hx hb dL_law_495 ?_
    refine va_sld hx hb hX hbl hbA (hS hW) (lw_ix (j := 3) hL (by omega) rfl) dL_law_496 ?_
    refine lv_if_eq (tgt := 504) hx hb dL_law_497 (by decide) (fun z => absurd z c_3) (fun _ => ?_)
    refine lv_iconst (v := 1) hx hb dL_law_500 (by decide) ?_
    refine lv_goto (tgt := 505) hx hb dL_law_501 (by decide) ?_
    refine r_callV (q := q) (v := (some (.int z2.1))) (As := [.int (xs (nI i + 1).toNatClampNeg), .int (xs (nI i + 2).toNatClampNeg), .int 1]) (rest := [.int z1.1]) C ml_X8_sensor gm_952 gm_953 gm_954 (ci := 8) rfl hW b_100 rfl hl.1 (c_X8_sensor b_100 hF2 e2) rfl ⟨by decide, by decide⟩ ⟨by show _ ≤ 600000; omega, by show _ ≤ 7302250; omega⟩ rfl (Nat.le_of_ble_eq_true rfl) dL_law_505 (fun H locs hW => ?_)
    refine lv_icmp_eq (tgt := 810) hx hb dL_law_508 (by decide) (fun _ => ?_) (fun z => absurd hr12 z)
    refine lv_iinc (v := nI (i + 6)) (lv' := [(3, .int (nI (i + 6))), (0, .ref b), (1, .ref (q 0)), (2, .ref (q 100))]) hx hb dL_law_810 hl (k := 3) rfl (nI_add i 6) (by decide) rfl (fun ls hl => ?_)
    refine lv_goto (tgt := 18) hx hb dL_law_813 (by decide) ?_
    exact ih (i + 6) hI2 (by omega) (by omega) (by omega) (by omega) hW (lv_sub hl [1, 2, 3, 0] rfl)
set_option maxHeartbeats 4000000 in
set_option maxRecDepth 100000 in
theorem law_car {p : Program} {e : Env} {s : State} {m : MethodId} {below : List Frame} {meth : Method} {c : Code} {l : Launch} {b L : Nat} {xs : Nat → Int32} (hL : L ≤ 3072) (hX : va_X b L xs s s.heap) (hbl : b < s.heap.size) {E : EV} (hE : E.2.2.2.2 = s.heap.size) (C : CX p s m #[Value.ref b] meth c E code RL 4 ret) (LI : LIt) (Kin : LK_in LI) (Kcar : LK_car LI) (nn : Nat) (ih : ∀ (i : Nat) {q : Nat → Nat} {al : Nat → Bool} {I : MI} {R : MR} {n cells slots : Nat} {H : Heap} {locs : List Loc} {ls : Array Slot} (hI : LI q al I R n) (hi : i ≤ L + 6) (hn : L + 6 < i + 6 * nn) (hc : cells + nn ≤ 600000) (hs : slots + 10 * nn ≤ 7302250) (hW : Wd E q al s.heap I R n H locs) (hl : lv_has ls 4 [(0, .ref b), (1, .ref (q 0)), (2, .ref (q 100)), (3, .int (nI i))]), W p l e room_1 s m #[Value.ref b] below meth c H locs cells slots (lw_Z below #[Value.ref b] s) (F0 m 18 ls [])) {i : Nat} {q : Nat → Nat} {al : Nat → Bool} {I : MI} {R : MR} {n cells slots : Nat} {H : Heap} {locs : List Loc} {ls : Array Slot} (hI : LI q al I R n) (hlt : i + 6 ≤ L) (hn : L + 6 < i + 6 * (nn + 1)) (hc : cells + (nn + 1) ≤ 600000) (hs : slots + 10 * (nn + 1) ≤ 7302250) (hW : Wd E q al s.heap I R n H locs) (hl : lv_has ls 4 [(0, .ref b), (1, .ref (q 0)), (2, .ref (q 100)), (3, .int (nI i))]) : W p l e room_1 s m #[Value.ref b] below meth c H locs cells slots (lw_Z below #[Value.ref b] s) (F0 m 513 ls []) := by
  have hx := C.1
  have hb := C.2.1
  have hbA : ¬ Bs E b := by show ¬ E.2.2.2.2 ≤ b; omega
  have hS : ∀ {q : Nat → Nat} {al : Nat → Bool} {I : MI} {R : MR} {n : Nat} {H : Heap} {locs : List Loc}, Wd E q al s.heap I R n H locs → va_S (Bs E) s.heap H locs := fun h => h.2
  obtain ⟨a_0, a_100, hF⟩ := Kin _ _ _ _ _ hI
  refine lv_aload_n hx hb dL_law_513 rfl (lv_at hl 1 rfl) ?_
  refine lv_aload_n hx hb dL_law_514 rfl (lv_at hl 0 rfl) ?_
  refine lv_iload_n hx hb dL_law_515 rfl (lv_at hl 3 rfl) ?_
  refine lv_iconst (v := 1) hx hb dL_law_516 (by decide) ?_
  refine lv_iadd hx hb dL_law_517 ?_
  refine va_sld hx hb hX hbl hbA (hS hW) (lw_ix (j := 1) hL (by omega) rfl) dL_law_518 ?_
  refine lv_aload_n hx hb dL_law_519 rfl (lv_at hl 0 rfl) ?_
  refine lv_iload_n hx hb dL_law_520 rfl (lv_at hl 3 rfl) ?_
  refine lv_iconst (v := 2) hx hb dL_law_521 (by decide) ?_
  refine lv_iadd hx hb dL_law_522 ?_
  refine va_sld hx hb hX hbl hbA (hS hW) (lw_ix (j := 2) hL (by omega) rfl) dL_law_523 ?_
  refine lv_aload_n hx hb dL_law_524 rfl (lv_at hl 0 rfl) ?_
  refine lv_iload_n hx hb dL_law_525 rfl (lv_at hl 3 rfl) ?_
  refine lv_iconst (v := 3) hx hb dL_law_526 (by decide) ?_
  refine lv_iadd hx hb dL_law_527 ?_
  refine va_sld hx hb hX hbl hbA (hS hW) (lw_ix (j := 3) hL (by omega) rfl) dL_law_528 ?_
  obtain ⟨q2, z1, z2, hq2, e1, e2, hr12, hI2⟩ := Kcar q al I R n (xs (nI i + 1).toNatClampNeg) (xs (nI i + 2).toNatClampNeg) (xs (nI i + 3).toNatClampNeg)  hI
  obtain ⟨b_0, b_100, hF2⟩ := Kin _ _ _ _ _ hI2
  have hW := hW.req hq2
  rw [← hq2 0 a_0, ← hq2 100 a_100] at hl
  rw [← hq2 0 a_0]
  refine r_callV (q := q2) (v := (some (.int z1.1))) (As := [.int (xs (nI i + 1).toNatClampNeg), .int (xs (nI i + 2).toNatClampNeg), .int (xs (nI i + 3).toNatClampNeg)]) (rest := []) C ml_X7_car gm_516 gm_517 gm_518 (ci := 7) rfl hW a_0 rfl hl.1 (c_X7_car a_0 hF e1) rfl ⟨by decide, by decide⟩ ⟨by show _ ≤ 600000; omega, by show _ ≤ 7302250; omega⟩ rfl (Nat.le_of_ble_eq_true rfl) dL_law_529 (fun H locs hW => ?_)
  refine lv_aload_n hx hb dL_law_532 rfl (lv_at hl 2 rfl) ?_
  refine lv_aload_n hx hb dL_law_533 rfl (lv_at hl 0 rfl) ?_
  refine lv_iload_n hx hb dL_law_534 rfl (lv_at hl 3 rfl) ?_
  refine lv_iconst (v := 1) hx hb dL_law_535 (by decide) ?_
  refine lv_iadd hx hb dL_law_536 ?_
  refine va_sld hx hb hX hbl hbA (hS hW) (lw_ix (j := 1) hL (by omega) rfl) dL_law_537 ?_
  refine lv_aload_n hx hb dL_law_538 rfl (lv_at hl 0 rfl) ?_
  refine lv_iload_n hx hb dL_law_539 rfl (lv_at hl 3 rfl) ?_
  refine lv_iconst (v := 2) hx hb dL_law_540 (by decide) ?_
  refine lv_iadd hx hb dL_law_541 ?_
  refine va_sld hx hb hX hbl hbA (hS hW) (lw_ix (j := 2) hL (by omega) rfl) dL_law_542 ?_
  refine lv_aload_n hx hb dL_law_543 rfl (lv_at hl 0 rfl) ?_
  refine lv_iload_n hx hb dL_law_544 rfl (lv_at hl 3 rfl) ?_
  refine lv_iconst (v := 3) hx hb dL_law_545 (by decide) ?_
  refine lv_iadd hx hb dL_law_546 ?_
  refine va_sld hx hb hX hbl hbA (hS hW) (lw_ix (j := 3) hL (by omega) rfl) dL_law_547 ?_
  refine r_callV (q := q2) (v := (some (.int z2.1))) (As := [.int (xs (nI i + 1).toNatClampNeg), .int (xs (nI i + 2).toNatClampNeg), .int (xs (nI i + 3).toNatClampNeg)]) (rest := [.int z1.1]) C ml_X8_car gm_960 gm_961 gm_962 (ci := 8) rfl hW b_100 rfl hl.1 (c_X8_car b_100 hF2 e2) rfl ⟨by decide, by decide⟩ ⟨by show _ ≤ 600000; omega, by show _ ≤ 7302250; omega⟩ rfl (Nat.le_of_ble_eq_true rfl) dL_law_548 (fun H locs hW => ?_)
  refine lv_icmp_eq (tgt := 810) hx hb dL_law_551 (by decide) (fun _ => ?_) (fun z => absurd hr12 z)
  refine lv_iinc (v := nI (i + 6)) (lv' := [(3, .int (nI (i + 6))), (0, .ref b), (1, .ref (q2 0)), (2, .ref (q2 100))]) hx hb dL_law_810 hl (k := 3) rfl (nI_add i 6) (by decide) rfl (fun ls hl => ?_)
  refine lv_goto (tgt := 18) hx hb dL_law_813 (by decide) ?_
  exact ih (i + 6) hI2 (by omega) (by omega) (by omega) (by omega) hW (lv_sub hl [1, 2, 3, 0] rfl)
set_option maxHeartbeats 4000000 in
set_option maxRecDepth 100000 in
theorem law_pass {p : Program} {e : Env} {s : State} {m : MethodId} {below : List Frame} {meth : Method} {c : Code} {l : Launch} {b L : Nat} {xs : Nat → Int32} (hL : L ≤ 3072) (hX : va_X b L xs s s.heap) (hbl : b < s.heap.size) {E : EV} (hE : E.2.2.2.2 = s.heap.size) (C : CX p s m #[Value.ref b] meth c E code RL 4 ret) (LI : LIt) (Kin : LK_in LI) (Kpass : LK_pass LI) (nn : Nat) (ih : ∀ (i : Nat) {q : Nat → Nat} {al : Nat → Bool} {I : MI} {R : MR} {n cells slots : Nat} {H : Heap} {locs : List Loc} {ls : Array Slot} (hI : LI q al I R n) (hi : i ≤ L + 6) (hn : L + 6 < i + 6 * nn) (hc : cells + nn ≤ 600000) (hs : slots + 10 * nn ≤ 7302250) (hW : Wd E q al s.heap I R n H locs) (hl : lv_has ls 4 [(0, .ref b), (1, .ref (q 0)), (2, .ref (q 100)), (3, .int (nI i))]), W p l e room_1 s m #[Value.ref b] below meth c H locs cells slots (lw_Z below #[Value.ref b] s) (F0 m 18 ls [])) {i : Nat} {q : Nat → Nat} {al : Nat → Bool} {I : MI} {R : MR} {n cells slots : Nat} {H : Heap} {locs : List Loc} {ls : Array Slot} (hI : LI q al I R n) (hlt : i + 6 ≤ L) (hn : L + 6 < i + 6 * (nn + 1)) (hc : cells + (nn + 1) ≤ 600000) (hs : slots + 10 * (nn + 1) ≤ 7302250) (hW : Wd E q al s.heap I R n H locs) (hl : lv_has ls 4 [(0, .ref b), (1, .ref (q 0)), (2, .ref (q 100)), (3, .int (nI i))]) : W p l e room_1 s m #[Value.ref b] below meth c H locs cells slots (lw_Z below #[Value.ref b] s) (F0 m 556 ls []) := by
  have hx := C.1
  have hb := C.2.1
  have hbA : ¬ Bs E b := by show ¬ E.2.2.2.2 ≤ b; omega
  have hS : ∀ {q : Nat → Nat} {al : Nat → Bool} {I : MI} {R : MR} {n : Nat} {H : Heap} {locs : List Loc}, Wd E q al s.heap I R n H locs → va_S (Bs E) s.heap H locs := fun h => h.2
  obtain ⟨a_0, a_100, hF⟩ := Kin _ _ _ _ _ hI
  refine lv_aload_n hx hb dL_law_556 rfl (lv_at hl 1 rfl) ?_
  refine lv_aload_n hx hb dL_law_557 rfl (lv_at hl 0 rfl) ?_
  refine lv_iload_n hx hb dL_law_558 rfl (lv_at hl 3 rfl) ?_
  refine lv_iconst (v := 1) hx hb dL_law_559 (by decide) ?_
  refine lv_iadd hx hb dL_law_560 ?_
  refine va_sld hx hb hX hbl hbA (hS hW) (lw_ix (j := 1) hL (by omega) rfl) dL_law_561 ?_
  obtain ⟨z1, z2, e1, e2, hr12, hI2⟩ := Kpass q al I R n (xs (nI i + 1).toNatClampNeg)  hI
  obtain ⟨b_0, b_100, hF2⟩ := Kin _ _ _ _ _ hI2
  refine r_callV (q := q) (v := (some (.int z1.1))) (As := [.int (xs (nI i + 1).toNatClampNeg)]) (rest := []) C ml_X7_pass gm_532 gm_533 gm_534 (ci := 7) rfl hW a_0 rfl hl.1 (c_X7_pass a_0 hF e1) rfl ⟨by decide, by decide⟩ ⟨by show _ ≤ 600000; omega, by show _ ≤ 7302250; omega⟩ rfl (Nat.le_of_ble_eq_true rfl) dL_law_562 (fun H locs hW => ?_)
  refine lv_aload_n hx hb dL_law_565 rfl (lv_at hl 2 rfl) ?_
  refine lv_aload_n hx hb dL_law_566 rfl (lv_at hl 0 rfl) ?_
  refine lv_iload_n hx hb dL_law_567 rfl (lv_at hl 3 rfl) ?_
  refine lv_iconst (v := 1) hx hb dL_law_568 (by decide) ?_
  refine lv_iadd hx hb dL_law_569 ?_
  refine va_sld hx hb hX hbl hbA (hS hW) (lw_ix (j := 1) hL (by omega) rfl) dL_law_570 ?_
  refine r_callV (q := q) (v := (some (.int z2.1))) (As := [.int (xs (nI i + 1).toNatClampNeg)]) (rest := [.int z1.1]) C ml_X8_pass gm_964 gm_965 gm_966 (ci := 8) rfl hW b_100 rfl hl.1 (c_X8_pass b_100 hF2 e2) rfl ⟨by decide, by decide⟩ ⟨by show _ ≤ 600000; omega, by show _ ≤ 7302250; omega⟩ rfl (Nat.le_of_ble_eq_true rfl) dL_law_571 (fun H locs hW => ?_)
  refine lv_icmp_eq (tgt := 810) hx hb dL_law_574 (by decide) (fun _ => ?_) (fun z => absurd hr12 z)
  refine lv_iinc (v := nI (i + 6)) (lv' := [(3, .int (nI (i + 6))), (0, .ref b), (1, .ref (q 0)), (2, .ref (q 100))]) hx hb dL_law_810 hl (k := 3) rfl (nI_add i 6) (by decide) rfl (fun ls hl => ?_)
  refine lv_goto (tgt := 18) hx hb dL_law_813 (by decide) ?_
  exact ih (i + 6) hI2 (by omega) (by omega) (by omega) (by omega) hW (lv_sub hl [1, 2, 3, 0] rfl)
set_option maxHeartbeats 4000000 in
set_option maxRecDepth 100000 in
theorem law_reading {p : Program} {e : Env} {s : State} {m : MethodId} {below : List Frame} {meth : Method} {c : Code} {l : Launch} {b L : Nat} {xs : Nat → Int32} (hL : L ≤ 3072) (hX : va_X b L xs s s.heap) (hbl : b < s.heap.size) {E : EV} (hE : E.2.2.2.2 = s.heap.size) (C : CX p s m #[Value.ref b] meth c E code RL 4 ret) (LI : LIt) (Kin : LK_in LI) (Kreading : LK_reading LI) (nn : Nat) (ih : ∀ (i : Nat) {q : Nat → Nat} {al : Nat → Bool} {I : MI} {R : MR} {n cells slots : Nat} {H : Heap} {locs : List Loc} {ls : Array Slot} (hI : LI q al I R n) (hi : i ≤ L + 6) (hn : L + 6 < i + 6 * nn) (hc : cells + nn ≤ 600000) (hs : slots + 10 * nn ≤ 7302250) (hW : Wd E q al s.heap I R n H locs) (hl : lv_has ls 4 [(0, .ref b), (1, .ref (q 0)), (2, .ref (q 100)), (3, .int (nI i))]), W p l e room_1 s m #[Value.ref b] below meth c H locs cells slots (lw_Z below #[Value.ref b] s) (F0 m 18 ls [])) {i : Nat} {q : Nat → Nat} {al : Nat → Bool} {I : MI} {R : MR} {n cells slots : Nat} {H : Heap} {locs : List Loc} {ls : Array Slot} (hI : LI q al I R n) (hlt : i + 6 ≤ L) (hn : L + 6 < i + 6 * (nn + 1)) (hc : cells + (nn + 1) ≤ 600000) (hs : slots + 10 * (nn + 1) ≤ 7302250) (hW : Wd E q al s.heap I R n H locs) (hl : lv_has ls 4 [(0, .ref b), (1, .ref (q 0)), (2, .ref (q 100)), (3, .int (nI i))]) : W p l e room_1 s m #[Value.ref b] below meth c H locs cells slots (lw_Z below #[Value.ref b] s) (F0 m 579 ls []) := by
  have hx := C.1
  have hb := C.2.1
  have hbA : ¬ Bs E b := by show ¬ E.2.2.2.2 ≤ b; omega
  have hS : ∀ {q : Nat → Nat} {al : Nat → Bool} {I : MI} {R : MR} {n : Nat} {H : Heap} {locs : List Loc}, Wd E q al s.heap I R n H locs → va_S (Bs E) s.heap H locs := fun h => h.2
  obtain ⟨a_0, a_100, hF⟩ := Kin _ _ _ _ _ hI
  refine lv_aload_n hx hb dL_law_579 rfl (lv_at hl 1 rfl) ?_
  refine lv_aload_n hx hb dL_law_580 rfl (lv_at hl 0 rfl) ?_
  refine lv_iload_n hx hb dL_law_581 rfl (lv_at hl 3 rfl) ?_
  refine lv_iconst (v := 1) hx hb dL_law_582 (by decide) ?_
  refine lv_iadd hx hb dL_law_583 ?_
  refine va_sld hx hb hX hbl hbA (hS hW) (lw_ix (j := 1) hL (by omega) rfl) dL_law_584 ?_
  refine lv_aload_n hx hb dL_law_585 rfl (lv_at hl 0 rfl) ?_
  refine lv_iload_n hx hb dL_law_586 rfl (lv_at hl 3 rfl) ?_
  refine lv_iconst (v := 2) hx hb dL_law_587 (by decide) ?_
  refine lv_iadd hx hb dL_law_588 ?_
  refine va_sld hx hb hX hbl hbA (hS hW) (lw_ix (j := 2) hL (by omega) rfl) dL_law_589 ?_
  obtain ⟨z1, z2, e1, e2, hr12, hI2⟩ := Kreading q al I R n (xs (nI i + 1).toNatClampNeg) (xs (nI i + 2).toNatClampNeg)  hI
  obtain ⟨b_0, b_100, hF2⟩ := Kin _ _ _ _ _ hI2
  refine r_callV (q := q) (v := (some (.int z1.1))) (As := [.int (xs (nI i + 1).toNatClampNeg), .int (xs (nI i + 2).toNatClampNeg)]) (rest := []) C ml_X7_reading gm_606 gm_607 gm_608 (ci := 7) rfl hW a_0 rfl hl.1 (c_X7_reading a_0 hF e1) rfl ⟨by decide, by decide⟩ ⟨by show _ ≤ 600000; omega, by show _ ≤ 7302250; omega⟩ rfl (Nat.le_of_ble_eq_true rfl) dL_law_590 (fun H locs hW => ?_)
  refine lv_aload_n hx hb dL_law_593 rfl (lv_at hl 2 rfl) ?_
  refine lv_aload_n hx hb dL_law_594 rfl (lv_at hl 0 rfl) ?_
  refine lv_iload_n hx hb dL_law_595 rfl (lv_at hl 3 rfl) ?_
  refine lv_iconst (v := 1) hx hb dL_law_596 (by decide) ?_
  refine lv_iadd hx hb dL_law_597 ?_
  refine va_sld hx hb hX hbl hbA (hS hW) (lw_ix (j := 1) hL (by omega) rfl) dL_law_598 ?_
  refine lv_aload_n hx hb dL_law_599 rfl (lv_at hl 0 rfl) ?_
  refine lv_iload_n hx hb dL_law_600 rfl (lv_at hl 3 rfl) ?_
  refine lv_iconst (v := 2) hx hb dL_law_601 (by decide) ?_
  refine lv_iadd hx hb dL_law_602 ?_
  refine va_sld hx hb hX hbl hbA (hS hW) (lw_ix (j := 2) hL (by omega) rfl) dL_law_603 ?_
  refine r_callV (q := q) (v := (some (.int z2.1))) (As := [.int (xs (nI i + 1).toNatClampNeg), .int (xs (nI i + 2).toNatClampNeg)]) (rest := [.int z1.1]) C ml_X8_reading gm_992 gm_993 gm_994 (ci := 8) rfl hW b_100 rfl hl.1 (c_X8_reading b_100 hF2 e2) rfl ⟨by decide, by decide⟩ ⟨by show _ ≤ 600000; omega, by show _ ≤ 7302250; omega⟩ rfl (Nat.le_of_ble_eq_true rfl) dL_law_604 (fun H locs hW => ?_)
  refine lv_icmp_eq (tgt := 810) hx hb dL_law_607 (by decide) (fun _ => ?_) (fun z => absurd hr12 z)
  refine lv_iinc (v := nI (i + 6)) (lv' := [(3, .int (nI (i + 6))), (0, .ref b), (1, .ref (q 0)), (2, .ref (q 100))]) hx hb dL_law_810 hl (k := 3) rfl (nI_add i 6) (by decide) rfl (fun ls hl => ?_)
  refine lv_goto (tgt := 18) hx hb dL_law_813 (by decide) ?_
  exact ih (i + 6) hI2 (by omega) (by omega) (by omega) (by omega) hW (lv_sub hl [1, 2, 3, 0] rfl)
set_option maxHeartbeats 4000000 in
set_option maxRecDepth 100000 in
theorem law_slip {p : Program} {e : Env} {s : State} {m : MethodId} {below : List Frame} {meth : Method} {c : Code} {l : Launch} {b L : Nat} {xs : Nat → Int32} (hL : L ≤ 3072) (hX : va_X b L xs s s.heap) (hbl : b < s.heap.size) {E : EV} (hE : E.2.2.2.2 = s.heap.size) (C : CX p s m #[Value.ref b] meth c E code RL 4 ret) (LI : LIt) (Kin : LK_in LI) (Kslip : LK_slip LI) (nn : Nat) (ih : ∀ (i : Nat) {q : Nat → Nat} {al : Nat → Bool} {I : MI} {R : MR} {n cells slots : Nat} {H : Heap} {locs : List Loc} {ls : Array Slot} (hI : LI q al I R n) (hi : i ≤ L + 6) (hn : L + 6 < i + 6 * nn) (hc : cells + nn ≤ 600000) (hs : slots + 10 * nn ≤ 7302250) (hW : Wd E q al s.heap I R n H locs) (hl : lv_has ls 4 [(0, .ref b), (1, .ref (q 0)), (2, .ref (q 100)), (3, .int (nI i))]), W p l e room_1 s m #[Value.ref b] below meth c H locs cells slots (lw_Z below #[Value.ref b] s) (F0 m 18 ls [])) {i : Nat} {q : Nat → Nat} {al : Nat → Bool} {I : MI} {R : MR} {n cells slots : Nat} {H : Heap} {locs : List Loc} {ls : Array Slot} (hI : LI q al I R n) (hlt : i + 6 ≤ L) (hn : L + 6 < i + 6 * (nn + 1)) (hc : cells + (nn + 1) ≤ 600000) (hs : slots + 10 * (nn + 1) ≤ 7302250) (hW : Wd E q al s.heap I R n H locs) (hl : lv_has ls 4 [(0, .ref b), (1, .ref (q 0)), (2, .ref (q 100)), (3, .int (nI i))]) : W p l e room_1 s m #[Value.ref b] below meth c H locs cells slots (lw_Z below #[Value.ref b] s) (F0 m 612 ls []) := by
  have hx := C.1
  have hb := C.2.1
  have hbA : ¬ Bs E b := by show ¬ E.2.2.2.2 ≤ b; omega
  have hS : ∀ {q : Nat → Nat} {al : Nat → Bool} {I : MI} {R : MR} {n : Nat} {H : Heap} {locs : List Loc}, Wd E q al s.heap I R n H locs → va_S (Bs E) s.heap H locs := fun h => h.2
  obtain ⟨a_0, a_100, hF⟩ := Kin _ _ _ _ _ hI
  refine lv_aload_n hx hb dL_law_612 rfl (lv_at hl 1 rfl) ?_
  refine lv_aload_n hx hb dL_law_613 rfl (lv_at hl 0 rfl) ?_
  refine lv_iload_n hx hb dL_law_614 rfl (lv_at hl 3 rfl) ?_
  refine lv_iconst (v := 1) hx hb dL_law_615 (by decide) ?_
  refine lv_iadd hx hb dL_law_616 ?_
  refine va_sld hx hb hX hbl hbA (hS hW) (lw_ix (j := 1) hL (by omega) rfl) dL_law_617 ?_
  obtain ⟨z1, z2, e1, e2, hr12, hI2⟩ := Kslip q al I R n (xs (nI i + 1).toNatClampNeg)  hI
  obtain ⟨b_0, b_100, hF2⟩ := Kin _ _ _ _ _ hI2
  refine r_callV (q := q) (v := (some (.int z1.1))) (As := [.int (xs (nI i + 1).toNatClampNeg)]) (rest := []) C ml_X7_slip gm_615 gm_616 gm_617 (ci := 7) rfl hW a_0 rfl hl.1 (c_X7_slip a_0 e1) rfl ⟨by decide, by decide⟩ ⟨by show _ ≤ 600000; omega, by show _ ≤ 7302250; omega⟩ rfl (Nat.le_of_ble_eq_true rfl) dL_law_618 (fun H locs hW => ?_)
  refine lv_aload_n hx hb dL_law_621 rfl (lv_at hl 2 rfl) ?_
  refine lv_aload_n hx hb dL_law_622 rfl (lv_at hl 0 rfl) ?_
  refine lv_iload_n hx hb dL_law_623 rfl (lv_at hl 3 rfl) ?_
  refine lv_iconst (v := 1) hx hb dL_law_624 (by decide) ?_
  refine lv_iadd hx hb dL_law_625 ?_
  refine va_sld hx hb hX hbl hbA (hS hW) (lw_ix (j := 1) hL (by omega) rfl) dL_law_626 ?_
  refine r_callV (q := q) (v := (some (.int z2.1))) (As := [.int (xs (nI i + 1).toNatClampNeg)]) (rest := [.int z1.1]) C ml_X8_slip gm_997 gm_998 gm_999 (ci := 8) rfl hW b_100 rfl hl.1 (c_X8_slip b_100 e2) rfl ⟨by decide, by decide⟩ ⟨by show _ ≤ 600000; omega, by show _ ≤ 7302250; omega⟩ rfl (Nat.le_of_ble_eq_true rfl) dL_law_627 (fun H locs hW => ?_)
  refine lv_icmp_eq (tgt := 810) hx hb dL_law_630 (by decide) (fun _ => ?_) (fun z => absurd hr12 z)
  refine lv_iinc (v := nI (i + 6)) (lv' := [(3, .int (nI (i + 6))), (0, .ref b), (1, .ref (q 0)), (2, .ref (q 100))]) hx hb dL_law_810 hl (k := 3) rfl (nI_add i 6) (by decide) rfl (fun ls hl => ?_)
  refine lv_goto (tgt := 18) hx hb dL_law_813 (by decide) ?_
  exact ih (i + 6) hI2 (by omega) (by omega) (by omega) (by omega) hW (lv_sub hl [1, 2, 3, 0] rfl)
set_option maxHeartbeats 4000000 in
set_option maxRecDepth 100000 in
theorem law_best {p : Program} {e : Env} {s : State} {m : MethodId} {below : List Frame} {meth : Method} {c : Code} {l : Launch} {b L : Nat} {xs : Nat → Int32} (hL : L ≤ 3072) (hX : va_X b L xs s s.heap) (hbl : b < s.heap.size) {E : EV} (hE : E.2.2.2.2 = s.heap.size) (C : CX p s m #[Value.ref b] meth c E code RL 4 ret) (LI : LIt) (Kin : LK_in LI) (Kbest : LK_best LI) (nn : Nat) (ih : ∀ (i : Nat) {q : Nat → Nat} {al : Nat → Bool} {I : MI} {R : MR} {n cells slots : Nat} {H : Heap} {locs : List Loc} {ls : Array Slot} (hI : LI q al I R n) (hi : i ≤ L + 6) (hn : L + 6 < i + 6 * nn) (hc : cells + nn ≤ 600000) (hs : slots + 10 * nn ≤ 7302250) (hW : Wd E q al s.heap I R n H locs) (hl : lv_has ls 4 [(0, .ref b), (1, .ref (q 0)), (2, .ref (q 100)), (3, .int (nI i))]), W p l e room_1 s m #[Value.ref b] below meth c H locs cells slots (lw_Z below #[Value.ref b] s) (F0 m 18 ls [])) {i : Nat} {q : Nat → Nat} {al : Nat → Bool} {I : MI} {R : MR} {n cells slots : Nat} {H : Heap} {locs : List Loc} {ls : Array Slot} (hI : LI q al I R n) (hlt : i + 6 ≤ L) (hn : L + 6 < i + 6 * (nn + 1)) (hc : cells + (nn + 1) ≤ 600000) (hs : slots + 10 * (nn + 1) ≤ 7302250) (hW : Wd E q al s.heap I R n H locs) (hl : lv_has ls 4 [(0, .ref b), (1, .ref (q 0)), (2, .ref (q 100)), (3, .int (nI i))]) : W p l e room_1 s m #[Value.ref b] below meth c H locs cells slots (lw_Z below #[Value.ref b] s) (F0 m 635 ls []) := by
  have hx := C.1
  have hb := C.2.1
  have hbA : ¬ Bs E b := by show ¬ E.2.2.2.2 ≤ b; omega
  have hS : ∀ {q : Nat → Nat} {al : Nat → Bool} {I : MI} {R : MR} {n : Nat} {H : Heap} {locs : List Loc}, Wd E q al s.heap I R n H locs → va_S (Bs E) s.heap H locs := fun h => h.2
  obtain ⟨a_0, a_100, hF⟩ := Kin _ _ _ _ _ hI
  refine lv_aload_n hx hb dL_law_635 rfl (lv_at hl 1 rfl) ?_
  refine lv_aload_n hx hb dL_law_636 rfl (lv_at hl 0 rfl) ?_
  refine lv_iload_n hx hb dL_law_637 rfl (lv_at hl 3 rfl) ?_
  refine lv_iconst (v := 1) hx hb dL_law_638 (by decide) ?_
  refine lv_iadd hx hb dL_law_639 ?_
  refine va_sld hx hb hX hbl hbA (hS hW) (lw_ix (j := 1) hL (by omega) rfl) dL_law_640 ?_
  refine lv_aload_n hx hb dL_law_641 rfl (lv_at hl 0 rfl) ?_
  refine lv_iload_n hx hb dL_law_642 rfl (lv_at hl 3 rfl) ?_
  refine lv_iconst (v := 2) hx hb dL_law_643 (by decide) ?_
  refine lv_iadd hx hb dL_law_644 ?_
  refine va_sld hx hb hX hbl hbA (hS hW) (lw_ix (j := 2) hL (by omega) rfl) dL_law_645 ?_
  refine lv_aload_n hx hb dL_law_646 rfl (lv_at hl 0 rfl) ?_
  refine lv_iload_n hx hb dL_law_647 rfl (lv_at hl 3 rfl) ?_
  refine lv_iconst (v := 3) hx hb dL_law_648 (by decide) ?_
  refine lv_iadd hx hb dL_law_649 ?_
  refine va_sld hx hb hX hbl hbA (hS hW) (lw_ix (j := 3) hL (by omega) rfl) dL_law_650 ?_
  refine lv_aload_n hx hb dL_law_651 rfl (lv_at hl 0 rfl) ?_
  refine lv_iload_n hx hb dL_law_652 rfl (lv_at hl 3 rfl) ?_
  refine lv_iconst (v := 4) hx hb dL_law_653 (by decide) ?_
  refine lv_iadd hx hb dL_law_654 ?_
  refine va_sld hx hb hX hbl hbA (hS hW) (lw_ix (j := 4) hL (by omega) rfl) dL_law_655 ?_
  obtain ⟨z1, z2, e1, e2, hr12, hI2⟩ := Kbest q al I R n (xs (nI i + 1).toNatClampNeg) (xs (nI i + 2).toNatClampNeg) (xs (nI i + 3).toNatClampNeg) (xs (nI i + 4).toNatClampNeg)  hI
  obtain ⟨b_0, b_100, hF2⟩ := Kin _ _ _ _ _ hI2
  refine r_callV (q := q) (v := (some (.int z1.1))) (As := [.int (xs (nI i + 1).toNatClampNeg), .int (xs (nI i + 2).toNatClampNeg), .int (xs (nI i + 3).toNatClampNeg), .int (xs (nI i + 4).toNatClampNeg)]) (rest := []) C ml_X7_best gm_619 gm_620 gm_621 (ci := 7) rfl hW a_0 rfl hl.1 (c_X7_best a_0 hF e1) rfl ⟨by decide, by decide⟩ ⟨by show _ ≤ 600000; omega, by show _ ≤ 7302250; omega⟩ rfl (Nat.le_of_ble_eq_true rfl) dL_law_656 (fun H locs hW => ?_)
  refine lv_aload_n hx hb dL_law_659 rfl (lv_at hl 2 rfl) ?_
  refine lv_aload_n hx hb dL_law_660 rfl (lv_at hl 0 rfl) ?_
  refine lv_iload_n hx hb dL_law_661 rfl (lv_at hl 3 rfl) ?_
  refine lv_iconst (v := 1) hx hb dL_law_662 (by decide) ?_
  refine lv_iadd hx hb dL_law_663 ?_
  refine va_sld hx hb hX hbl hbA (hS hW) (lw_ix (j := 1) hL (by omega) rfl) dL_law_664 ?_
  refine lv_aload_n hx hb dL_law_665 rfl (lv_at hl 0 rfl) ?_
  refine lv_iload_n hx hb dL_law_666 rfl (lv_at hl 3 rfl) ?_
  refine lv_iconst (v := 2) hx hb dL_law_667 (by decide) ?_
  refine lv_iadd hx hb dL_law_668 ?_
  refine va_sld hx hb hX hbl hbA (hS hW) (lw_ix (j := 2) hL (by omega) rfl) dL_law_669 ?_
  refine lv_aload_n hx hb dL_law_670 rfl (lv_at hl 0 rfl) ?_
  refine lv_iload_n hx hb dL_law_671 rfl (lv_at hl 3 rfl) ?_
  refine lv_iconst (v := 3) hx hb dL_law_672 (by decide) ?_
  refine lv_iadd hx hb dL_law_673 ?_
  refine va_sld hx hb hX hbl hbA (hS hW) (lw_ix (j := 3) hL (by omega) rfl) dL_law_674 ?_
  refine lv_aload_n hx hb dL_law_675 rfl (lv_at hl 0 rfl) ?_
  refine lv_iload_n hx hb dL_law_676 rfl (lv_at hl 3 rfl) ?_
  refine lv_iconst (v := 4) hx hb dL_law_677 (by decide) ?_
  refine lv_iadd hx hb dL_law_678 ?_
  refine va_sld hx hb hX hbl hbA (hS hW) (lw_ix (j := 4) hL (by omega) rfl) dL_law_679 ?_
  refine r_callV (q := q) (v := (some (.int z2.1))) (As := [.int (xs (nI i + 1).toNatClampNeg), .int (xs (nI i + 2).toNatClampNeg), .int (xs (nI i + 3).toNatClampNeg), .int (xs (nI i + 4).toNatClampNeg)]) (rest := [.int z1.1]) C ml_X8_best gm_1001 gm_1002 gm_1003 (ci := 8) rfl hW b_100 rfl hl.1 (c_X8_best b_100 hF2 e2) rfl ⟨by decide, by decide⟩ ⟨by show _ ≤ 600000; omega, by show _ ≤ 7302250; omega⟩ rfl (Nat.le_of_ble_eq_true rfl) dL_law_680 (fun H locs hW => ?_)
  refine lv_icmp_eq (tgt := 810) hx hb dL_law_683 (by decide) (fun _ => ?_) (fun z => absurd hr12 z)
  refine lv_iinc (v := nI (i + 6)) (lv' := [(3, .int (nI (i + 6))), (0, .ref b), (1, .ref (q 0)), (2, .ref (q 100))]) hx hb dL_law_810 hl (k := 3) rfl (nI_add i 6) (by decide) rfl (fun ls hl => ?_)
  refine lv_goto (tgt := 18) hx hb dL_law_813 (by decide) ?_
  exact ih (i + 6) hI2 (by omega) (by omega) (by omega) (by omega) hW (lv_sub hl [1, 2, 3, 0] rfl)
set_option maxHeartbeats 4000000 in
set_option maxRecDepth 100000 in
theorem law_bestOf {p : Program} {e : Env} {s : State} {m : MethodId} {below : List Frame} {meth : Method} {c : Code} {l : Launch} {b L : Nat} {xs : Nat → Int32} (hL : L ≤ 3072) (hX : va_X b L xs s s.heap) (hbl : b < s.heap.size) {E : EV} (hE : E.2.2.2.2 = s.heap.size) (C : CX p s m #[Value.ref b] meth c E code RL 4 ret) (LI : LIt) (Kin : LK_in LI) (KbestOf : LK_bestOf LI) (nn : Nat) (ih : ∀ (i : Nat) {q : Nat → Nat} {al : Nat → Bool} {I : MI} {R : MR} {n cells slots : Nat} {H : Heap} {locs : List Loc} {ls : Array Slot} (hI : LI q al I R n) (hi : i ≤ L + 6) (hn : L + 6 < i + 6 * nn) (hc : cells + nn ≤ 600000) (hs : slots + 10 * nn ≤ 7302250) (hW : Wd E q al s.heap I R n H locs) (hl : lv_has ls 4 [(0, .ref b), (1, .ref (q 0)), (2, .ref (q 100)), (3, .int (nI i))]), W p l e room_1 s m #[Value.ref b] below meth c H locs cells slots (lw_Z below #[Value.ref b] s) (F0 m 18 ls [])) {i : Nat} {q : Nat → Nat} {al : Nat → Bool} {I : MI} {R : MR} {n cells slots : Nat} {H : Heap} {locs : List Loc} {ls : Array Slot} (hI : LI q al I R n) (hlt : i + 6 ≤ L) (hn : L + 6 < i + 6 * (nn + 1)) (hc : cells + (nn + 1) ≤ 600000) (hs : slots + 10 * (nn + 1) ≤ 7302250) (hW : Wd E q al s.heap I R n H locs) (hl : lv_has ls 4 [(0, .ref b), (1, .ref (q 0)), (2, .ref (q 100)), (3, .int (nI i))]) : W p l e room_1 s m #[Value.ref b] below meth c H locs cells slots (lw_Z below #[Value.ref b] s) (F0 m 688 ls []) := by
  have hx := C.1
  have hb := C.2.1
  have hbA : ¬ Bs E b := by show ¬ E.2.2.2.2 ≤ b; omega
  have hS : ∀ {q : Nat → Nat} {al : Nat → Bool} {I : MI} {R : MR} {n : Nat} {H : Heap} {locs : List Loc}, Wd E q al s.heap I R n H locs → va_S (Bs E) s.heap H locs := fun h => h.2
  obtain ⟨a_0, a_100, hF⟩ := Kin _ _ _ _ _ hI
  refine lv_aload_n hx hb dL_law_688 rfl (lv_at hl 1 rfl) ?_
  refine lv_aload_n hx hb dL_law_689 rfl (lv_at hl 0 rfl) ?_
  refine lv_iload_n hx hb dL_law_690 rfl (lv_at hl 3 rfl) ?_
  refine lv_iconst (v := 1) hx hb dL_law_691 (by decide) ?_
  refine lv_iadd hx hb dL_law_692 ?_
  refine va_sld hx hb hX hbl hbA (hS hW) (lw_ix (j := 1) hL (by omega) rfl) dL_law_693 ?_
  refine lv_aload_n hx hb dL_law_694 rfl (lv_at hl 0 rfl) ?_
  refine lv_iload_n hx hb dL_law_695 rfl (lv_at hl 3 rfl) ?_
  refine lv_iconst (v := 2) hx hb dL_law_696 (by decide) ?_
  refine lv_iadd hx hb dL_law_697 ?_
  refine va_sld hx hb hX hbl hbA (hS hW) (lw_ix (j := 2) hL (by omega) rfl) dL_law_698 ?_
  obtain ⟨z1, z2, e1, e2, hr12, hI2⟩ := KbestOf q al I R n (xs (nI i + 1).toNatClampNeg) (xs (nI i + 2).toNatClampNeg)  hI
  obtain ⟨b_0, b_100, hF2⟩ := Kin _ _ _ _ _ hI2
  refine r_callV (q := q) (v := (some (.int z1))) (As := [.int (xs (nI i + 1).toNatClampNeg), .int (xs (nI i + 2).toNatClampNeg)]) (rest := []) C ml_X7_bestOf gm_665 gm_666 gm_667 (ci := 7) rfl hW a_0 rfl hl.1 (c_X7_bestOf a_0 hF e1) rfl ⟨by decide, by decide⟩ ⟨by show _ ≤ 600000; omega, by show _ ≤ 7302250; omega⟩ rfl (Nat.le_of_ble_eq_true rfl) dL_law_699 (fun H locs hW => ?_)
  refine lv_aload_n hx hb dL_law_702 rfl (lv_at hl 2 rfl) ?_
  refine lv_aload_n hx hb dL_law_703 rfl (lv_at hl 0 rfl) ?_
  refine lv_iload_n hx hb dL_law_704 rfl (lv_at hl 3 rfl) ?_
  refine lv_iconst (v := 1) hx hb dL_law_705 (by decide) ?_
  refine lv_iadd hx hb dL_law_706 ?_
  refine va_sld hx hb hX hbl hbA (hS hW) (lw_ix (j := 1) hL (by omega) rfl) dL_law_707 ?_
  refine lv_aload_n hx hb dL_law_708 rfl (lv_at hl 0 rfl) ?_
  refine lv_iload_n hx hb dL_law_709 rfl (lv_at hl 3 rfl) ?_
  refine lv_iconst (v := 2) hx hb dL_law_710 (by decide) ?_
  refine lv_iadd hx hb dL_law_711 ?_
  refine va_sld hx hb hX hbl hbA (hS hW) (lw_ix (j := 2) hL (by omega) rfl) dL_law_712 ?_
  refine r_callV (q := q) (v := (some (.int z2))) (As := [.int (xs (nI i + 1).toNatClampNeg), .int (xs (nI i + 2).toNatClampNeg)]) (rest := [.int z1]) C ml_X8_bestOf gm_1017 gm_1018 gm_1019 (ci := 8) rfl hW b_100 rfl hl.1 (c_X8_bestOf b_100 hF2 e2) rfl ⟨by decide, by decide⟩ ⟨by show _ ≤ 600000; omega, by show _ ≤ 7302250; omega⟩ rfl (Nat.le_of_ble_eq_true rfl) dL_law_713 (fun H locs hW => ?_)
  refine lv_icmp_eq (tgt := 810) hx hb dL_law_716 (by decide) (fun _ => ?_) (fun z => absurd hr12 z)
  refine lv_iinc (v := nI (i + 6)) (lv' := [(3, .int (nI (i + 6))), (0, .ref b), (1, .ref (q 0)), (2, .ref (q 100))]) hx hb dL_law_810 hl (k := 3) rfl (nI_add i 6) (by decide) rfl (fun ls hl => ?_)
  refine lv_goto (tgt := 18) hx hb dL_law_813 (by decide) ?_
  exact ih (i + 6) hI2 (by omega) (by omega) (by omega) (by omega) hW (lv_sub hl [1, 2, 3, 0] rfl)
set_option maxHeartbeats 4000000 in
set_option maxRecDepth 100000 in
theorem law_banks {p : Program} {e : Env} {s : State} {m : MethodId} {below : List Frame} {meth : Method} {c : Code} {l : Launch} {b L : Nat} {xs : Nat → Int32} (hL : L ≤ 3072) (hX : va_X b L xs s s.heap) (hbl : b < s.heap.size) {E : EV} (hE : E.2.2.2.2 = s.heap.size) (C : CX p s m #[Value.ref b] meth c E code RL 4 ret) (LI : LIt) (Kin : LK_in LI) (Kbanks : LK_banks LI) (nn : Nat) (ih : ∀ (i : Nat) {q : Nat → Nat} {al : Nat → Bool} {I : MI} {R : MR} {n cells slots : Nat} {H : Heap} {locs : List Loc} {ls : Array Slot} (hI : LI q al I R n) (hi : i ≤ L + 6) (hn : L + 6 < i + 6 * nn) (hc : cells + nn ≤ 600000) (hs : slots + 10 * nn ≤ 7302250) (hW : Wd E q al s.heap I R n H locs) (hl : lv_has ls 4 [(0, .ref b), (1, .ref (q 0)), (2, .ref (q 100)), (3, .int (nI i))]), W p l e room_1 s m #[Value.ref b] below meth c H locs cells slots (lw_Z below #[Value.ref b] s) (F0 m 18 ls [])) {i : Nat} {q : Nat → Nat} {al : Nat → Bool} {I : MI} {R : MR} {n cells slots : Nat} {H : Heap} {locs : List Loc} {ls : Array Slot} (hI : LI q al I R n) (hlt : i + 6 ≤ L) (hn : L + 6 < i + 6 * (nn + 1)) (hc : cells + (nn + 1) ≤ 600000) (hs : slots + 10 * (nn + 1) ≤ 7302250) (hW : Wd E q al s.heap I R n H locs) (hl : lv_has ls 4 [(0, .ref b), (1, .ref (q 0)), (2, .ref (q 100)), (3, .int (nI i))]) : W p l e room_1 s m #[Value.ref b] below meth c H locs cells slots (lw_Z below #[Value.ref b] s) (F0 m 721 ls []) := by
  have hx := C.1
  have hb := C.2.1
  have hbA : ¬ Bs E b := by show ¬ E.2.2.2.2 ≤ b; omega
  have hS : ∀ {q : Nat → Nat} {al : Nat → Bool} {I : MI} {R : MR} {n : Nat} {H : Heap} {locs : List Loc}, Wd E q al s.heap I R n H locs → va_S (Bs E) s.heap H locs := fun h => h.2
  obtain ⟨a_0, a_100, hF⟩ := Kin _ _ _ _ _ hI
  refine lv_aload_n hx hb dL_law_721 rfl (lv_at hl 1 rfl) ?_
  refine lv_aload_n hx hb dL_law_722 rfl (lv_at hl 0 rfl) ?_
  refine lv_iload_n hx hb dL_law_723 rfl (lv_at hl 3 rfl) ?_
  refine lv_iconst (v := 1) hx hb dL_law_724 (by decide) ?_
  refine lv_iadd hx hb dL_law_725 ?_
  refine va_sld hx hb hX hbl hbA (hS hW) (lw_ix (j := 1) hL (by omega) rfl) dL_law_726 ?_
  refine lv_aload_n hx hb dL_law_727 rfl (lv_at hl 0 rfl) ?_
  refine lv_iload_n hx hb dL_law_728 rfl (lv_at hl 3 rfl) ?_
  refine lv_iconst (v := 2) hx hb dL_law_729 (by decide) ?_
  refine lv_iadd hx hb dL_law_730 ?_
  refine va_sld hx hb hX hbl hbA (hS hW) (lw_ix (j := 2) hL (by omega) rfl) dL_law_731 ?_
  obtain ⟨z1, z2, e1, e2, hr12, hI2⟩ := Kbanks q al I R n (xs (nI i + 1).toNatClampNeg) (xs (nI i + 2).toNatClampNeg)  hI
  obtain ⟨b_0, b_100, hF2⟩ := Kin _ _ _ _ _ hI2
  refine r_callV (q := q) (v := (some (.int z1))) (As := [.int (xs (nI i + 1).toNatClampNeg), .int (xs (nI i + 2).toNatClampNeg)]) (rest := []) C ml_X7_banks gm_673 gm_674 gm_675 (ci := 7) rfl hW a_0 rfl hl.1 (c_X7_banks a_0 hF e1) rfl ⟨by decide, by decide⟩ ⟨by show _ ≤ 600000; omega, by show _ ≤ 7302250; omega⟩ rfl (Nat.le_of_ble_eq_true rfl) dL_law_732 (fun H locs hW => ?_)
  refine lv_aload_n hx hb dL_law_735 rfl (lv_at hl 2 rfl) ?_
  refine lv_aload_n hx hb dL_law_736 rfl (lv_at hl 0 rfl) ?_
  refine lv_iload_n hx hb dL_law_737 rfl (lv_at hl 3 rfl) ?_
  refine lv_iconst (v := 1) hx hb dL_law_738 (by decide) ?_
  refine lv_iadd hx hb dL_law_739 ?_
  refine va_sld hx hb hX hbl hbA (hS hW) (lw_ix (j := 1) hL (by omega) rfl) dL_law_740 ?_
  refine lv_aload_n hx hb dL_law_741 rfl (lv_at hl 0 rfl) ?_
  refine lv_iload_n hx hb dL_law_742 rfl (lv_at hl 3 rfl) ?_
  refine lv_iconst (v := 2) hx hb dL_law_743 (by decide) ?_
  refine lv_iadd hx hb dL_law_744 ?_
  refine va_sld hx hb hX hbl hbA (hS hW) (lw_ix (j := 2) hL (by omega) rfl) dL_law_745 ?_
  refine r_callV (q := q) (v := (some (.int z2))) (As := [.int (xs (nI i + 1).toNatClampNeg), .int (xs (nI i + 2).toNatClampNeg)]) (rest := [.int z1]) C ml_X8_banks gm_1021 gm_1022 gm_1023 (ci := 8) rfl hW b_100 rfl hl.1 (c_X8_banks b_100 hF2 e2) rfl ⟨by decide, by decide⟩ ⟨by show _ ≤ 600000; omega, by show _ ≤ 7302250; omega⟩ rfl (Nat.le_of_ble_eq_true rfl) dL_law_746 (fun H locs hW => ?_)
  refine lv_icmp_eq (tgt := 810) hx hb dL_law_749 (by decide) (fun _ => ?_) (fun z => absurd hr12 z)
  refine lv_iinc (v := nI (i + 6)) (lv' := [(3, .int (nI (i + 6))), (0, .ref b), (1, .ref (q 0)), (2, .ref (q 100))]) hx hb dL_law_810 hl (k := 3) rfl (nI_add i 6) (by decide) rfl (fun ls hl => ?_)
  refine lv_goto (tgt := 18) hx hb dL_law_813 (by decide) ?_
  exact ih (i + 6) hI2 (by omega) (by omega) (by omega) (by omega) hW (lv_sub hl [1, 2, 3, 0] rfl)
set_option maxHeartbeats 4000000 in
set_option maxRecDepth 100000 in
theorem law_cars {p : Program} {e : Env} {s : State} {m : MethodId} {below : List Frame} {meth : Method} {c : Code} {l : Launch} {b L : Nat} {xs : Nat → Int32} (hL : L ≤ 3072) (hX : va_X b L xs s s.heap) (hbl : b < s.heap.size) {E : EV} (hE : E.2.2.2.2 = s.heap.size) (C : CX p s m #[Value.ref b] meth c E code RL 4 ret) (LI : LIt) (Kin : LK_in LI) (Kcars : LK_cars LI) (nn : Nat) (ih : ∀ (i : Nat) {q : Nat → Nat} {al : Nat → Bool} {I : MI} {R : MR} {n cells slots : Nat} {H : Heap} {locs : List Loc} {ls : Array Slot} (hI : LI q al I R n) (hi : i ≤ L + 6) (hn : L + 6 < i + 6 * nn) (hc : cells + nn ≤ 600000) (hs : slots + 10 * nn ≤ 7302250) (hW : Wd E q al s.heap I R n H locs) (hl : lv_has ls 4 [(0, .ref b), (1, .ref (q 0)), (2, .ref (q 100)), (3, .int (nI i))]), W p l e room_1 s m #[Value.ref b] below meth c H locs cells slots (lw_Z below #[Value.ref b] s) (F0 m 18 ls [])) {i : Nat} {q : Nat → Nat} {al : Nat → Bool} {I : MI} {R : MR} {n cells slots : Nat} {H : Heap} {locs : List Loc} {ls : Array Slot} (hI : LI q al I R n) (hlt : i + 6 ≤ L) (hn : L + 6 < i + 6 * (nn + 1)) (hc : cells + (nn + 1) ≤ 600000) (hs : slots + 10 * (nn + 1) ≤ 7302250) (hW : Wd E q al s.heap I R n H locs) (hl : lv_has ls 4 [(0, .ref b), (1, .ref (q 0)), (2, .ref (q 100)), (3, .int (nI i))]) : W p l e room_1 s m #[Value.ref b] below meth c H locs cells slots (lw_Z below #[Value.ref b] s) (F0 m 754 ls []) := by
  have hx := C.1
  have hb := C.2.1
  have hbA : ¬ Bs E b := by show ¬ E.2.2.2.2 ≤ b; omega
  have hS : ∀ {q : Nat → Nat} {al : Nat → Bool} {I : MI} {R : MR} {n : Nat} {H : Heap} {locs : List Loc}, Wd E q al s.heap I R n H locs → va_S (Bs E) s.heap H locs := fun h => h.2
  obtain ⟨a_0, a_100, hF⟩ := Kin _ _ _ _ _ hI
  refine lv_aload_n hx hb dL_law_754 rfl (lv_at hl 1 rfl) ?_
  refine lv_aload_n hx hb dL_law_755 rfl (lv_at hl 0 rfl) ?_
  refine lv_iload_n hx hb dL_law_756 rfl (lv_at hl 3 rfl) ?_
  refine lv_iconst (v := 1) hx hb dL_law_757 (by decide) ?_
  refine lv_iadd hx hb dL_law_758 ?_
  refine va_sld hx hb hX hbl hbA (hS hW) (lw_ix (j := 1) hL (by omega) rfl) dL_law_759 ?_
  refine lv_aload_n hx hb dL_law_760 rfl (lv_at hl 0 rfl) ?_
  refine lv_iload_n hx hb dL_law_761 rfl (lv_at hl 3 rfl) ?_
  refine lv_iconst (v := 2) hx hb dL_law_762 (by decide) ?_
  refine lv_iadd hx hb dL_law_763 ?_
  refine va_sld hx hb hX hbl hbA (hS hW) (lw_ix (j := 2) hL (by omega) rfl) dL_law_764 ?_
  obtain ⟨z1, z2, e1, e2, hr12, hI2⟩ := Kcars q al I R n (xs (nI i + 1).toNatClampNeg) (xs (nI i + 2).toNatClampNeg)  hI
  obtain ⟨b_0, b_100, hF2⟩ := Kin _ _ _ _ _ hI2
  refine r_callV (q := q) (v := (some (.int z1))) (As := [.int (xs (nI i + 1).toNatClampNeg), .int (xs (nI i + 2).toNatClampNeg)]) (rest := []) C ml_X7_cars gm_682 gm_683 gm_684 (ci := 7) rfl hW a_0 rfl hl.1 (c_X7_cars a_0 hF e1) rfl ⟨by decide, by decide⟩ ⟨by show _ ≤ 600000; omega, by show _ ≤ 7302250; omega⟩ rfl (Nat.le_of_ble_eq_true rfl) dL_law_765 (fun H locs hW => ?_)
  refine lv_aload_n hx hb dL_law_768 rfl (lv_at hl 2 rfl) ?_
  refine lv_aload_n hx hb dL_law_769 rfl (lv_at hl 0 rfl) ?_
  refine lv_iload_n hx hb dL_law_770 rfl (lv_at hl 3 rfl) ?_
  refine lv_iconst (v := 1) hx hb dL_law_771 (by decide) ?_
  refine lv_iadd hx hb dL_law_772 ?_
  refine va_sld hx hb hX hbl hbA (hS hW) (lw_ix (j := 1) hL (by omega) rfl) dL_law_773 ?_
  refine lv_aload_n hx hb dL_law_774 rfl (lv_at hl 0 rfl) ?_
  refine lv_iload_n hx hb dL_law_775 rfl (lv_at hl 3 rfl) ?_
  refine lv_iconst (v := 2) hx hb dL_law_776 (by decide) ?_
  refine lv_iadd hx hb dL_law_777 ?_
  refine va_sld hx hb hX hbl hbA (hS hW) (lw_ix (j := 2) hL (by omega) rfl) dL_law_778 ?_
  refine r_callV (q := q) (v := (some (.int z2))) (As := [.int (xs (nI i + 1).toNatClampNeg), .int (xs (nI i + 2).toNatClampNeg)]) (rest := [.int z1]) C ml_X8_cars gm_1025 gm_1026 gm_1027 (ci := 8) rfl hW b_100 rfl hl.1 (c_X8_cars b_100 hF2 e2) rfl ⟨by decide, by decide⟩ ⟨by show _ ≤ 600000; omega, by show _ ≤ 7302250; omega⟩ rfl (Nat.le_of_ble_eq_true rfl) dL_law_779 (fun H locs hW => ?_)
  refine lv_icmp_eq (tgt := 810) hx hb dL_law_782 (by decide) (fun _ => ?_) (fun z => absurd hr12 z)
  refine lv_iinc (v := nI (i + 6)) (lv' := [(3, .int (nI (i + 6))), (0, .ref b), (1, .ref (q 0)), (2, .ref (q 100))]) hx hb dL_law_810 hl (k := 3) rfl (nI_add i 6) (by decide) rfl (fun ls hl => ?_)
  refine lv_goto (tgt := 18) hx hb dL_law_813 (by decide) ?_
  exact ih (i + 6) hI2 (by omega) (by omega) (by omega) (by omega) hW (lv_sub hl [1, 2, 3, 0] rfl)
set_option maxHeartbeats 4000000 in
set_option maxRecDepth 100000 in
theorem law_count {p : Program} {e : Env} {s : State} {m : MethodId} {below : List Frame} {meth : Method} {c : Code} {l : Launch} {b L : Nat} {xs : Nat → Int32} (hL : L ≤ 3072) (hX : va_X b L xs s s.heap) (hbl : b < s.heap.size) {E : EV} (hE : E.2.2.2.2 = s.heap.size) (C : CX p s m #[Value.ref b] meth c E code RL 4 ret) (LI : LIt) (Kin : LK_in LI) (Kcount : LK_count LI) (nn : Nat) (ih : ∀ (i : Nat) {q : Nat → Nat} {al : Nat → Bool} {I : MI} {R : MR} {n cells slots : Nat} {H : Heap} {locs : List Loc} {ls : Array Slot} (hI : LI q al I R n) (hi : i ≤ L + 6) (hn : L + 6 < i + 6 * nn) (hc : cells + nn ≤ 600000) (hs : slots + 10 * nn ≤ 7302250) (hW : Wd E q al s.heap I R n H locs) (hl : lv_has ls 4 [(0, .ref b), (1, .ref (q 0)), (2, .ref (q 100)), (3, .int (nI i))]), W p l e room_1 s m #[Value.ref b] below meth c H locs cells slots (lw_Z below #[Value.ref b] s) (F0 m 18 ls [])) {i : Nat} {q : Nat → Nat} {al : Nat → Bool} {I : MI} {R : MR} {n cells slots : Nat} {H : Heap} {locs : List Loc} {ls : Array Slot} (hI : LI q al I R n) (hlt : i + 6 ≤ L) (hn : L + 6 < i + 6 * (nn + 1)) (hc : cells + (nn + 1) ≤ 600000) (hs : slots + 10 * (nn + 1) ≤ 7302250) (hW : Wd E q al s.heap I R n H locs) (hl : lv_has ls 4 [(0, .ref b), (1, .ref (q 0)), (2, .ref (q 100)), (3, .int (nI i))]) : W p l e room_1 s m #[Value.ref b] below meth c H locs cells slots (lw_Z below #[Value.ref b] s) (F0 m 787 ls []) := by
  have hx := C.1
  have hb := C.2.1
  have hbA : ¬ Bs E b := by show ¬ E.2.2.2.2 ≤ b; omega
  have hS : ∀ {q : Nat → Nat} {al : Nat → Bool} {I : MI} {R : MR} {n : Nat} {H : Heap} {locs : List Loc}, Wd E q al s.heap I R n H locs → va_S (Bs E) s.heap H locs := fun h => h.2
  obtain ⟨a_0, a_100, hF⟩ := Kin _ _ _ _ _ hI
  refine lv_aload_n hx hb dL_law_787 rfl (lv_at hl 1 rfl) ?_
  refine lv_aload_n hx hb dL_law_788 rfl (lv_at hl 0 rfl) ?_
  refine lv_iload_n hx hb dL_law_789 rfl (lv_at hl 3 rfl) ?_
  refine lv_iconst (v := 1) hx hb dL_law_790 (by decide) ?_
  refine lv_iadd hx hb dL_law_791 ?_
  refine va_sld hx hb hX hbl hbA (hS hW) (lw_ix (j := 1) hL (by omega) rfl) dL_law_792 ?_
  obtain ⟨z1, z2, e1, e2, hr12, hI2⟩ := Kcount q al I R n (xs (nI i + 1).toNatClampNeg)  hI
  obtain ⟨b_0, b_100, hF2⟩ := Kin _ _ _ _ _ hI2
  refine r_callV (q := q) (v := (some (.int z1))) (As := [.int (xs (nI i + 1).toNatClampNeg)]) (rest := []) C ml_X7_count gm_691 gm_692 gm_693 (ci := 7) rfl hW a_0 rfl hl.1 (c_X7_count a_0 hF e1) rfl ⟨by decide, by decide⟩ ⟨by show _ ≤ 600000; omega, by show _ ≤ 7302250; omega⟩ rfl (Nat.le_of_ble_eq_true rfl) dL_law_793 (fun H locs hW => ?_)
  refine lv_aload_n hx hb dL_law_796 rfl (lv_at hl 2 rfl) ?_
  refine lv_aload_n hx hb dL_law_797 rfl (lv_at hl 0 rfl) ?_
  refine lv_iload_n hx hb dL_law_798 rfl (lv_at hl 3 rfl) ?_
  refine lv_iconst (v := 1) hx hb dL_law_799 (by decide) ?_
  refine lv_iadd hx hb dL_law_800 ?_
  refine va_sld hx hb hX hbl hbA (hS hW) (lw_ix (j := 1) hL (by omega) rfl) dL_law_801 ?_
  refine r_callV (q := q) (v := (some (.int z2))) (As := [.int (xs (nI i + 1).toNatClampNeg)]) (rest := [.int z1]) C ml_X8_count gm_1029 gm_1030 gm_1031 (ci := 8) rfl hW b_100 rfl hl.1 (c_X8_count b_100 hF2 e2) rfl ⟨by decide, by decide⟩ ⟨by show _ ≤ 600000; omega, by show _ ≤ 7302250; omega⟩ rfl (Nat.le_of_ble_eq_true rfl) dL_law_802 (fun H locs hW => ?_)
  refine lv_icmp_eq (tgt := 810) hx hb dL_law_805 (by decide) (fun _ => ?_) (fun z => absurd hr12 z)
  refine lv_iinc (v := nI (i + 6)) (lv' := [(3, .int (nI (i + 6))), (0, .ref b), (1, .ref (q 0)), (2, .ref (q 100))]) hx hb dL_law_810 hl (k := 3) rfl (nI_add i 6) (by decide) rfl (fun ls hl => ?_)
  refine lv_goto (tgt := 18) hx hb dL_law_813 (by decide) ?_
  exact ih (i + 6) hI2 (by omega) (by omega) (by omega) (by omega) hW (lv_sub hl [1, 2, 3, 0] rfl)
set_option maxHeartbeats 8000000 in
set_option maxRecDepth 100000 in
theorem law_loop {p : Program} {e : Env} {s : State} {m : MethodId} {below : List Frame} {meth : Method} {c : Code} {l : Launch} {b L : Nat} {xs : Nat → Int32} (hL : L ≤ 3072) (hX : va_X b L xs s s.heap) (hbl : b < s.heap.size) {E : EV} (hE : E.2.2.2.2 = s.heap.size) (C : CX p s m #[Value.ref b] meth c E code RL 4 ret) (LI : LIt) (Kin : LK_in LI) (Kbank : LK_bank LI) (Ktarget : LK_target LI) (Kair : LK_air LI) (Khoses : LK_hoses LI) (Kfeed : LK_feed LI) (Kend : LK_end LI) (Kbook : LK_book LI) (Kflow : LK_flow LI) (Kprice : LK_price LI) (Kclosed : LK_closed LI) (Ksensor : LK_sensor LI) (Kcar : LK_car LI) (Kpass : LK_pass LI) (Kreading : LK_reading LI) (Kslip : LK_slip LI) (Kbest : LK_best LI) (KbestOf : LK_bestOf LI) (Kbanks : LK_banks LI) (Kcars : LK_cars LI) (Kcount : LK_count LI) :
    ∀ (nn i : Nat) {q : Nat → Nat} {al : Nat → Bool} {I : MI} {R : MR} {n cells slots : Nat} {H : Heap} {locs : List Loc} {ls : Array Slot} (hI : LI q al I R n) (hi : i ≤ L + 6) (hn : L + 6 < i + 6 * nn) (hc : cells + nn ≤ 600000) (hs : slots + 10 * nn ≤ 7302250) (hW : Wd E q al s.heap I R n H locs) (hl : lv_has ls 4 [(0, .ref b), (1, .ref (q 0)), (2, .ref (q 100)), (3, .int (nI i))]),
      W p l e room_1 s m #[Value.ref b] below meth c H locs cells slots (lw_Z below #[Value.ref b] s) (F0 m 18 ls []) := by
  have hx := C.1
  have hb := C.2.1
  have hbA : ¬ Bs E b := by show ¬ E.2.2.2.2 ≤ b; omega
  have hS : ∀ {q : Nat → Nat} {al : Nat → Bool} {I : MI} {R : MR} {n : Nat} {H : Heap} {locs : List Loc}, Wd E q al s.heap I R n H locs → va_S (Bs E) s.heap H locs := fun h => h.2
  intro nn
  induction nn with
  | zero =>
    intro i q al I R n cells slots H locs ls hI hi hn
    exact absurd hn (by omega)
  | succ nn ih =>
    intro i q al I R n cells slots H locs ls hI hi hn hc hs hW hl
    obtain ⟨a_0, a_100, hF⟩ := Kin _ _ _ _ _ hI
    refine lv_iload_n hx hb dL_law_18 rfl (lv_at hl 3 rfl) ?_
    refine lv_aload_n hx hb dL_law_19 rfl (lv_at hl 0 rfl) ?_
    refine va_slen hx hb hX hbl hbA (hS hW) dL_law_20 ?_
    refine lv_bipush (v := 6) hx hb dL_law_21 (by decide) ?_
    refine lv_isub hx hb dL_law_23 ?_
    refine lv_icmp_gt (tgt := 816) hx hb dL_law_24 (by decide) (fun c_24 => ?_) (fun c_24 => ?_)
    · refine lv_iconst (v := 1) hx hb dL_law_816 (by decide) ?_
      refine va_forget (fun z hz => by have := hW.2.2.2 z hz; show s.heap.size ≤ z.base; rw [← hE]; exact this) ?_
      refine W.widen (k := 600000) (n := 7302250) (by omega) (by omega) ?_
      exact lw_ret hx hb C.2.2.2.2.2.2.2.2.1 C.2.2.2.2.2.2.2.2.2 dL_law_817
    · have hlt : i + 6 ≤ L := lw_stop hL (by omega) c_24
      refine lv_aload_n hx hb dL_law_27 rfl (lv_at hl 0 rfl) ?_
      refine lv_iload_n hx hb dL_law_28 rfl (lv_at hl 3 rfl) ?_
      refine va_sld hx hb hX hbl hbA (hS hW) (vp_in_nI (by omega) (by omega)) dL_law_29 ?_
      refine lv_bipush (v := 31) hx hb dL_law_30 (by decide) ?_
      refine lv_iand hx hb dL_law_32 ?_
      generalize xs (nI i).toNatClampNeg &&& 31 = sw
      by_cases c_0 : sw = 0
      · refine lv_tableIn (off := 95) (tgt := 128) hx hb dL_law_33 (by rw [c_0]; decide) (by rw [c_0]; decide) (by rw [c_0]; decide) (by decide) ?_
        exact law_bank hL hX hbl hE C LI Kin Kbank nn ih hI hlt hn hc hs hW hl
      by_cases c_1 : sw = 1
      · refine lv_tableIn (off := 138) (tgt := 171) hx hb dL_law_33 (by rw [c_1]; decide) (by rw [c_1]; decide) (by rw [c_1]; decide) (by decide) ?_
        exact law_target hL hX hbl hE C LI Kin Ktarget nn ih hI hlt hn hc hs hW hl
      by_cases c_2 : sw = 2
      · refine lv_tableIn (off := 171) (tgt := 204) hx hb dL_law_33 (by rw [c_2]; decide) (by rw [c_2]; decide) (by rw [c_2]; decide) (by decide) ?_
        exact law_air hL hX hbl hE C LI Kin Kair nn ih hI hlt hn hc hs hW hl
      by_cases c_3 : sw = 3
      · refine lv_tableIn (off := 194) (tgt := 227) hx hb dL_law_33 (by rw [c_3]; decide) (by rw [c_3]; decide) (by rw [c_3]; decide) (by decide) ?_
        exact law_hoses hL hX hbl hE C LI Kin Khoses nn ih hI hlt hn hc hs hW hl
      by_cases c_4 : sw = 4
      · refine lv_tableIn (off := 217) (tgt := 250) hx hb dL_law_33 (by rw [c_4]; decide) (by rw [c_4]; decide) (by rw [c_4]; decide) (by decide) ?_
        exact law_feed hL hX hbl hE C LI Kin Kfeed nn ih hI hlt hn hc hs hW hl
      by_cases c_5 : sw = 5
      · refine lv_tableIn (off := 280) (tgt := 313) hx hb dL_law_33 (by rw [c_5]; decide) (by rw [c_5]; decide) (by rw [c_5]; decide) (by decide) ?_
        exact law_end hL hX hbl hE C LI Kin Kend nn ih hI hlt hn hc hs hW hl
      by_cases c_6 : sw = 6
      · refine lv_tableIn (off := 303) (tgt := 336) hx hb dL_law_33 (by rw [c_6]; decide) (by rw [c_6]; decide) (by rw [c_6]; decide) (by decide) ?_
        exact law_book hL hX hbl hE C LI Kin Kbook nn ih hI hlt hn hc hs hW hl
      by_cases c_7 : sw = 7
      · refine lv_tableIn (off := 316) (tgt := 349) hx hb dL_law_33 (by rw [c_7]; decide) (by rw [c_7]; decide) (by rw [c_7]; decide) (by decide) ?_
        exact law_flow hL hX hbl hE C LI Kin Kflow nn ih hI hlt hn hc hs hW hl
      by_cases c_8 : sw = 8
      · refine lv_tableIn (off := 339) (tgt := 372) hx hb dL_law_33 (by rw [c_8]; decide) (by rw [c_8]; decide) (by rw [c_8]; decide) (by decide) ?_
        exact law_price hL hX hbl hE C LI Kin Kprice nn ih hI hlt hn hc hs hW hl
      by_cases c_9 : sw = 9
      · refine lv_tableIn (off := 372) (tgt := 405) hx hb dL_law_33 (by rw [c_9]; decide) (by rw [c_9]; decide) (by rw [c_9]; decide) (by decide) ?_
        exact law_closed hL hX hbl hE C LI Kin Kclosed nn ih hI hlt hn hc hs hW hl
      by_cases c_10 : sw = 10
      · refine lv_tableIn (off := 421) (tgt := 454) hx hb dL_law_33 (by rw [c_10]; decide) (by rw [c_10]; decide) (by rw [c_10]; decide) (by decide) ?_
        exact law_sensor hL hX hbl hE C LI Kin Ksensor nn ih hI hlt hn hc hs hW hl
      by_cases c_11 : sw = 11
      · refine lv_tableIn (off := 480) (tgt := 513) hx hb dL_law_33 (by rw [c_11]; decide) (by rw [c_11]; decide) (by rw [c_11]; decide) (by decide) ?_
        exact law_car hL hX hbl hE C LI Kin Kcar nn ih hI hlt hn hc hs hW hl
      by_cases c_12 : sw = 12
      · refine lv_tableIn (off := 523) (tgt := 556) hx hb dL_law_33 (by rw [c_12]; decide) (by rw [c_12]; decide) (by rw [c_12]; decide) (by decide) ?_
        exact law_pass hL hX hbl hE C LI Kin Kpass nn ih hI hlt hn hc hs hW hl
      by_cases c_13 : sw = 13
      · refine lv_tableIn (off := 546) (tgt := 579) hx hb dL_law_33 (by rw [c_13]; decide) (by rw [c_13]; decide) (by rw [c_13]; decide) (by decide) ?_
        exact law_reading hL hX hbl hE C LI Kin Kreading nn ih hI hlt hn hc hs hW hl
      by_cases c_14 : sw = 14
      · refine lv_tableIn (off := 579) (tgt := 612) hx hb dL_law_33 (by rw [c_14]; decide) (by rw [c_14]; decide) (by rw [c_14]; decide) (by decide) ?_
        exact law_slip hL hX hbl hE C LI Kin Kslip nn ih hI hlt hn hc hs hW hl
      by_cases c_15 : sw = 15
      · refine lv_tableIn (off := 602) (tgt := 635) hx hb dL_law_33 (by rw [c_15]; decide) (by rw [c_15]; decide) (by rw [c_15]; decide) (by decide) ?_
        exact law_best hL hX hbl hE C LI Kin Kbest nn ih hI hlt hn hc hs hW hl
      by_cases c_16 : sw = 16
      · refine lv_tableIn (off := 655) (tgt := 688) hx hb dL_law_33 (by rw [c_16]; decide) (by rw [c_16]; decide) (by rw [c_16]; decide) (by decide) ?_
        exact law_bestOf hL hX hbl hE C LI Kin KbestOf nn ih hI hlt hn hc hs hW hl
      by_cases c_17 : sw = 17
      · refine lv_tableIn (off := 688) (tgt := 721) hx hb dL_law_33 (by rw [c_17]; decide) (by rw [c_17]; decide) (by rw [c_17]; decide) (by decide) ?_
        exact law_banks hL hX hbl hE C LI Kin Kbanks nn ih hI hlt hn hc hs hW hl
      by_cases c_18 : sw = 18
      · refine lv_tableIn (off := 721) (tgt := 754) hx hb dL_law_33 (by rw [c_18]; decide) (by rw [c_18]; decide) (by rw [c_18]; decide) (by decide) ?_
        exact law_cars hL hX hbl hE C LI Kin Kcars nn ih hI hlt hn hc hs hW hl
      by_cases c_19 : sw = 19
      · refine lv_tableIn (off := 754) (tgt := 787) hx hb dL_law_33 (by rw [c_19]; decide) (by rw [c_19]; decide) (by rw [c_19]; decide) (by decide) ?_
        exact law_count hL hX hbl hE C LI Kin Kcount nn ih hI hlt hn hc hs hW hl
      have n_0 := lv_neT (a := 0) c_0 (by decide)
      have n_1 := lv_neT (a := 1) c_1 (by decide)
      have n_2 := lv_neT (a := 2) c_2 (by decide)
      have n_3 := lv_neT (a := 3) c_3 (by decide)
      have n_4 := lv_neT (a := 4) c_4 (by decide)
      have n_5 := lv_neT (a := 5) c_5 (by decide)
      have n_6 := lv_neT (a := 6) c_6 (by decide)
      have n_7 := lv_neT (a := 7) c_7 (by decide)
      have n_8 := lv_neT (a := 8) c_8 (by decide)
      have n_9 := lv_neT (a := 9) c_9 (by decide)
      have n_10 := lv_neT (a := 10) c_10 (by decide)
      have n_11 := lv_neT (a := 11) c_11 (by decide)
      have n_12 := lv_neT (a := 12) c_12 (by decide)
      have n_13 := lv_neT (a := 13) c_13 (by decide)
      have n_14 := lv_neT (a := 14) c_14 (by decide)
      have n_15 := lv_neT (a := 15) c_15 (by decide)
      have n_16 := lv_neT (a := 16) c_16 (by decide)
      have n_17 := lv_neT (a := 17) c_17 (by decide)
      have n_18 := lv_neT (a := 18) c_18 (by decide)
      have n_19 := lv_neT (a := 19) c_19 (by decide)
      refine lv_tableOut (tgt := 810) hx hb dL_law_33 (by omega) (by decide) ?_
      refine lv_iinc (v := nI (i + 6)) (lv' := [(3, .int (nI (i + 6))), (0, .ref b), (1, .ref (q 0)), (2, .ref (q 100))]) hx hb dL_law_810 hl (k := 3) rfl (nI_add i 6) (by decide) rfl (fun ls hl => ?_)
      refine lv_goto (tgt := 18) hx hb dL_law_813 (by decide) ?_
      exact ih (i + 6) hI (by omega) (by omega) (by omega) (by omega) hW (lv_sub hl [1, 2, 3, 0] rfl)
