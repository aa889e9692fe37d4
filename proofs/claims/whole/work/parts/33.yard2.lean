def f_X7_anyBankSensed_2  : Nat → MI → MR → Int32 → Option (Int32)
  | 0, _, _, _ => none
  | nn + 1, I, R, x1 => (if 4 ≤ x1 then (some (0)) else (bd (f_X7_bankAt I R x1) (fun z_9 => mt z_9 (f_X7_anyBankSensed_2 nn I R (x1 + 1)) (fun t_9 => (if (I t_9 5) = 0 then (some (1)) else (f_X7_anyBankSensed_2 nn I R (x1 + 1)))))))
set_option maxHeartbeats 4000000 in
set_option maxRecDepth 100000 in
theorem t_X7_anyBankSensed_2 {p : Program} {l : Launch} {e : Env} {s : State} {m : MethodId} {args : Array Value} {below : List Frame} {meth : Method} {c : Code} {E : EV} {q : Nat → Nat} {al : Nat → Bool} {n : Nat} (C : CX p s m args meth c E cX7_anyBankSensed RX7 3 (some .boolean)) {res : Int32}   : ∀ (nn : Nat) {I : MI} {R : MR} {x1 : Int32} {H : Heap} {locs : List Loc} {ls : Array Slot} (a_0 : al 0 = true) (h : f_X7_anyBankSensed_2 nn I R x1 = some res) (hW : Wd E q al s.heap I R n H locs) (hF : Fx al R) (hl : lv_has ls 3 [(0, .ref (q 0)), (1, .int x1)]), W p l e (rmL 3 0 0) s m args below meth c H locs 0 0 (MQ below (Pst E q (some (.int res)) al I R n) args s 0 0 (Bs E)) (F0 m 2 ls []) := by
  have hx := C.1
  have hb := C.2.1
  intro nn
  induction nn with
  | zero =>
    intro I R x1 H locs ls a_0 h
    cases (show (none : Option (Int32)) = some res from h)
  | succ nn ih =>
    intro I R x1 H locs ls a_0 h hW hF hl
    rw [f_X7_anyBankSensed_2.eq_2] at h
    refine lv_iload_n hx hb dX7_anyBankSensed_2 rfl (lv_at hl 1 rfl) ?_
    refine lv_iconst (v := 4) hx hb dX7_anyBankSensed_3 (by decide) ?_
    refine lv_icmp_ge (tgt := 32) hx hb dX7_anyBankSensed_4 (by decide) (fun c_4 => ?_) (fun c_4 => ?_)
    · have h := (if_pos c_4).symm.trans h
      refine lv_iconst (v := 0) hx hb dX7_anyBankSensed_32 (by decide) ?_
      have h := Option.some.inj h
      subst h
      exact r_zret C hW (Or.inl rfl) dX7_anyBankSensed_33
    · have h := (if_neg c_4).symm.trans h
      refine lv_aload_n hx hb dX7_anyBankSensed_7 rfl (lv_at hl 0 rfl) ?_
      refine lv_iload_n hx hb dX7_anyBankSensed_8 rfl (lv_at hl 1 rfl) ?_
      obtain ⟨z_9, e_z_9, h⟩ := bd_some h
      have hm := mt_cases h
      clear h
      rcases hm with ⟨o_9, h⟩ | ⟨t_9, o_9, h⟩
      · subst o_9
        refine r_callV (v := some .null) (As := [.int x1]) (rest := []) C ml_X7_bankAt gm_329 gm_331 gs_0 (ci := 7) rfl hW a_0 rfl hl.1 (c_X7_bankAt a_0 hF e_z_9) rfl ⟨(by decide), (by decide)⟩ ⟨(by decide), (by decide)⟩ rfl (Nat.le_of_ble_eq_true rfl) dX7_anyBankSensed_9 (fun H locs hW => ?_)
        refine lv_astore_nN (lv' := [(2, .null), (0, .ref (q 0)), (1, .int x1)]) hx hb dX7_anyBankSensed_12 rfl hl (by decide) rfl (fun ls hl => ?_)
        refine lv_aload_nN hx hb dX7_anyBankSensed_13 rfl (lv_at hl 0 rfl) ?_
        refine lv_ifnullN (tgt := 26) hx hb dX7_anyBankSensed_14 (by decide) ?_
        refine lv_iinc (v := x1 + 1) (lv' := [(1, .int (x1 + 1)), (2, .null), (0, .ref (q 0))]) hx hb dX7_anyBankSensed_26 hl (k := 2) rfl rfl (by decide) rfl (fun ls hl => ?_)
        refine lv_goto (tgt := 2) hx hb dX7_anyBankSensed_29 (by decide) ?_
        exact ih a_0 h hW hF (lv_sub hl [2, 0] rfl)
      · subst o_9
        have a_t_9 := (rf_X7_bankAt hW a_0 hF e_z_9).1
        have k_t_9 := (rf_X7_bankAt hW a_0 hF e_z_9).2
        refine r_callV (v := some (.ref (q t_9))) (As := [.int x1]) (rest := []) C ml_X7_bankAt gm_329 gm_331 gs_0 (ci := 7) rfl hW a_0 rfl hl.1 (c_X7_bankAt a_0 hF e_z_9) rfl ⟨(by decide), (by decide)⟩ ⟨(by decide), (by decide)⟩ rfl (Nat.le_of_ble_eq_true rfl) dX7_anyBankSensed_9 (fun H locs hW => ?_)
        refine lv_astore_n (lv' := [(2, .ref (q t_9)), (0, .ref (q 0)), (1, .int x1)]) hx hb dX7_anyBankSensed_12 rfl hl (by decide) rfl (fun ls hl => ?_)
        refine lv_aload_n hx hb dX7_anyBankSensed_13 rfl (lv_at hl 0 rfl) ?_
        refine lv_ifnull hx hb dX7_anyBankSensed_14 ?_
        refine lv_aload_n hx hb dX7_anyBankSensed_17 rfl (lv_at hl 0 rfl) ?_
        refine r_get C fr_X7_228 hW a_t_9 k_t_9 rfl dX7_anyBankSensed_18 ?_
        refine lv_if_ne (tgt := 26) hx hb dX7_anyBankSensed_21 (by decide) (fun c_21 => ?_) (fun c_21 => ?_)
        · have h := (if_neg c_21).symm.trans h
          refine lv_iinc (v := x1 + 1) (lv' := [(1, .int (x1 + 1)), (2, .ref (q t_9)), (0, .ref (q 0))]) hx hb dX7_anyBankSensed_26 hl (k := 2) rfl rfl (by decide) rfl (fun ls hl => ?_)
          refine lv_goto (tgt := 2) hx hb dX7_anyBankSensed_29 (by decide) ?_
          exact ih a_0 h hW hF (lv_sub hl [2, 0] rfl)
        · have h := (if_pos c_21).symm.trans h
          refine lv_iconst (v := 1) hx hb dX7_anyBankSensed_24 (by decide) ?_
          have h := Option.some.inj h
          subst h
          exact r_zret C hW (Or.inr rfl) dX7_anyBankSensed_25
def f_X7_anyBankSensed (I : MI) (R : MR) : Option (Int32) := f_X7_anyBankSensed_2 1000000 I R 0
set_option maxHeartbeats 4000000 in
set_option maxRecDepth 100000 in
theorem c_X7_anyBankSensed {l : Launch} {E : EV} {q : Nat → Nat} {al : Nat → Bool} {n : Nat} {I : MI} {R : MR}  (a_0 : al 0 = true) (hF : Fx al R) {res : Int32} (h : f_X7_anyBankSensed I R = some res) : Ct l yX7_anyBankSensed cX7_anyBankSensed 3 (some .boolean) 3 0 0 E q al I R n [.ref (q 0)] (some (.int res)) al I R n := by
  refine Ct.of (own := RX7) (mn := "anyBankSensed") (by decide) rfl rfl (Nat.le_of_ble_eq_true rfl) ?_
  intro p e s m args below meth c ls C hmn hargs hW hl
  have hx := C.1
  have hb := C.2.1
  have hl : lv_has ls 3 [(0, .ref (q 0))] := hl
  unfold f_X7_anyBankSensed at h
  refine lv_iconst (v := 0) hx hb dX7_anyBankSensed_0 (by decide) ?_
  refine lv_istore_n (lv' := [(1, .int 0), (0, .ref (q 0))]) hx hb dX7_anyBankSensed_1 rfl hl (by decide) rfl (fun ls hl => ?_)
  exact t_X7_anyBankSensed_2 C 1000000 a_0 h hW hF (lv_sub hl [1, 0] rfl)
def f_X7_banks (I : MI) (R : MR) (x1 : Int32) (x2 : Int32) : Option (Int32) := bd (f_X7_bankAt I R x1) (fun z_2 => mt z_2 (some ((-1))) (fun t_2 => bd (f_X0_answer I R t_2 x2) (fun z_16 => some (z_16))))
set_option maxHeartbeats 4000000 in
set_option maxRecDepth 100000 in
theorem c_X7_banks {l : Launch} {E : EV} {q : Nat → Nat} {al : Nat → Bool} {n : Nat} {I : MI} {R : MR} {x1 : Int32} {x2 : Int32} (a_0 : al 0 = true) (hF : Fx al R) {res : Int32} (h : f_X7_banks I R x1 x2 = some res) : Ct l yX7_banks cX7_banks 4 (some .int) 3 0 0 E q al I R n [.ref (q 0), .int x1, .int x2] (some (.int res)) al I R n := by
  refine Ct.of (own := RX7) (mn := "banks") (by decide) rfl rfl (Nat.le_of_ble_eq_true rfl) ?_
  intro p e s m args below meth c ls C hmn hargs hW hl
  have hx := C.1
  have hb := C.2.1
  have hl : lv_has ls 4 [(0, .ref (q 0)), (1, .int x1), (2, .int x2)] := hl
  unfold f_X7_banks at h
  refine lv_aload_n hx hb dX7_banks_0 rfl (lv_at hl 0 rfl) ?_
  refine lv_iload_n hx hb dX7_banks_1 rfl (lv_at hl 1 rfl) ?_
  obtain ⟨z_2, e_z_2, h⟩ := bd_some h
  have hm := mt_cases h
  clear h
  rcases hm with ⟨o_2, h⟩ | ⟨t_2, o_2, h⟩
  · subst o_2
    refine r_callV (v := some .null) (As := [.int x1]) (rest := []) C ml_X7_bankAt gm_329 gm_331 gs_0 (ci := 7) rfl hW a_0 rfl hl.1 (c_X7_bankAt a_0 hF e_z_2) rfl ⟨(by decide), (by decide)⟩ ⟨(by decide), (by decide)⟩ rfl (Nat.le_of_ble_eq_true rfl) dX7_banks_2 (fun H locs hW => ?_)
    refine lv_astore_nN (lv' := [(3, .null), (0, .ref (q 0)), (1, .int x1), (2, .int x2)]) hx hb dX7_banks_5 rfl hl (by decide) rfl (fun ls hl => ?_)
    refine lv_aload_nN hx hb dX7_banks_6 rfl (lv_at hl 0 rfl) ?_
    refine lv_ifnonnullN hx hb dX7_banks_7 ?_
    refine lv_iconst (v := (-1)) hx hb dX7_banks_10 (by decide) ?_
    refine lv_goto (tgt := 19) hx hb dX7_banks_11 (by decide) ?_
    have h := Option.some.inj h
    subst h
    exact r_iret C hW dX7_banks_19
  · subst o_2
    have a_t_2 := (rf_X7_bankAt hW a_0 hF e_z_2).1
    have k_t_2 := (rf_X7_bankAt hW a_0 hF e_z_2).2
    refine r_callV (v := some (.ref (q t_2))) (As := [.int x1]) (rest := []) C ml_X7_bankAt gm_329 gm_331 gs_0 (ci := 7) rfl hW a_0 rfl hl.1 (c_X7_bankAt a_0 hF e_z_2) rfl ⟨(by decide), (by decide)⟩ ⟨(by decide), (by decide)⟩ rfl (Nat.le_of_ble_eq_true rfl) dX7_banks_2 (fun H locs hW => ?_)
    refine lv_astore_n (lv' := [(3, .ref (q t_2)), (0, .ref (q 0)), (1, .int x1), (2, .int x2)]) hx hb dX7_banks_5 rfl hl (by decide) rfl (fun ls hl => ?_)
    refine lv_aload_n hx hb dX7_banks_6 rfl (lv_at hl 0 rfl) ?_
    refine lv_ifnonnull (tgt := 14) hx hb dX7_banks_7 (by decide) ?_
    refine lv_aload_n hx hb dX7_banks_14 rfl (lv_at hl 0 rfl) ?_
    refine lv_iload_n hx hb dX7_banks_15 rfl (lv_at hl 3 rfl) ?_
    obtain ⟨z_16, e_z_16, h⟩ := bd_some h
    refine r_callV (v := (some (.int z_16))) (As := [.int x2]) (rest := []) C ml_X0_answer gm_677 gm_678 gm_679 (ci := 0) rfl hW a_t_2 k_t_2 hl.1 (c_X0_answer a_t_2 k_t_2 e_z_16) rfl ⟨(by decide), (by decide)⟩ ⟨(by decide), (by decide)⟩ rfl (Nat.le_of_ble_eq_true rfl) dX7_banks_16 (fun H locs hW => ?_)
    have h := Option.some.inj h
    subst h
    exact r_iret C hW dX7_banks_19
def f_X7_cars (I : MI) (R : MR) (x1 : Int32) (x2 : Int32) : Option (Int32) := bd (f_X7_carAt I R x1) (fun z_2 => mt z_2 ((if x2 = 3 then (some ((-1000))) else (some ((-1))))) (fun t_2 => bd (f_X2_answer I R t_2 x2) (fun z_25 => some (z_25))))
set_option maxHeartbeats 4000000 in
set_option maxRecDepth 100000 in
theorem c_X7_cars {l : Launch} {E : EV} {q : Nat → Nat} {al : Nat → Bool} {n : Nat} {I : MI} {R : MR} {x1 : Int32} {x2 : Int32} (a_0 : al 0 = true) (hF : Fx al R) {res : Int32} (h : f_X7_cars I R x1 x2 = some res) : Ct l yX7_cars cX7_cars 4 (some .int) 3 0 0 E q al I R n [.ref (q 0), .int x1, .int x2] (some (.int res)) al I R n := by
  refine Ct.of (own := RX7) (mn := "cars") (by decide) rfl rfl (Nat.le_of_ble_eq_true rfl) ?_
  intro p e s m args below meth c ls C hmn hargs hW hl
  have hx := C.1
  have hb := C.2.1
  have hl : lv_has ls 4 [(0, .ref (q 0)), (1, .int x1), (2, .int x2)] := hl
  unfold f_X7_cars at h
  refine lv_aload_n hx hb dX7_cars_0 rfl (lv_at hl 0 rfl) ?_
  refine lv_iload_n hx hb dX7_cars_1 rfl (lv_at hl 1 rfl) ?_
  obtain ⟨z_2, e_z_2, h⟩ := bd_some h
  have hm := mt_cases h
  clear h
  rcases hm with ⟨o_2, h⟩ | ⟨t_2, o_2, h⟩
  · subst o_2
    refine r_callV (v := some .null) (As := [.int x1]) (rest := []) C ml_X7_carAt gm_505 gm_507 gs_12 (ci := 7) rfl hW a_0 rfl hl.1 (c_X7_carAt a_0 hF e_z_2) rfl ⟨(by decide), (by decide)⟩ ⟨(by decide), (by decide)⟩ rfl (Nat.le_of_ble_eq_true rfl) dX7_cars_2 (fun H locs hW => ?_)
    refine lv_astore_nN (lv' := [(3, .null), (0, .ref (q 0)), (1, .int x1), (2, .int x2)]) hx hb dX7_cars_5 rfl hl (by decide) rfl (fun ls hl => ?_)
    refine lv_aload_nN hx hb dX7_cars_6 rfl (lv_at hl 0 rfl) ?_
    refine lv_ifnonnullN hx hb dX7_cars_7 ?_
    refine lv_iload_n hx hb dX7_cars_10 rfl (lv_at hl 3 rfl) ?_
    refine lv_iconst (v := 3) hx hb dX7_cars_11 (by decide) ?_
    refine lv_icmp_ne (tgt := 21) hx hb dX7_cars_12 (by decide) (fun c_12 => ?_) (fun c_12 => ?_)
    · have h := (if_neg c_12).symm.trans h
      refine lv_iconst (v := (-1)) hx hb dX7_cars_21 (by decide) ?_
      have h := Option.some.inj h
      subst h
      exact r_iret C hW dX7_cars_22
    · have h := (if_pos c_12).symm.trans h
      refine lv_sipush (v := (-1000)) hx hb dX7_cars_15 (by decide) ?_
      refine lv_goto (tgt := 22) hx hb dX7_cars_18 (by decide) ?_
      have h := Option.some.inj h
      subst h
      exact r_iret C hW dX7_cars_22
  · subst o_2
    have a_t_2 := (rf_X7_carAt hW a_0 hF e_z_2).1
    have k_t_2 := (rf_X7_carAt hW a_0 hF e_z_2).2
    refine r_callV (v := some (.ref (q t_2))) (As := [.int x1]) (rest := []) C ml_X7_carAt gm_505 gm_507 gs_12 (ci := 7) rfl hW a_0 rfl hl.1 (c_X7_carAt a_0 hF e_z_2) rfl ⟨(by decide), (by decide)⟩ ⟨(by decide), (by decide)⟩ rfl (Nat.le_of_ble_eq_true rfl) dX7_cars_2 (fun H locs hW => ?_)
    refine lv_astore_n (lv' := [(3, .ref (q t_2)), (0, .ref (q 0)), (1, .int x1), (2, .int x2)]) hx hb dX7_cars_5 rfl hl (by decide) rfl (fun ls hl => ?_)
    refine lv_aload_n hx hb dX7_cars_6 rfl (lv_at hl 0 rfl) ?_
    refine lv_ifnonnull (tgt := 23) hx hb dX7_cars_7 (by decide) ?_
    refine lv_aload_n hx hb dX7_cars_23 rfl (lv_at hl 0 rfl) ?_
    refine lv_iload_n hx hb dX7_cars_24 rfl (lv_at hl 3 rfl) ?_
    obtain ⟨z_25, e_z_25, h⟩ := bd_some h
    refine r_callV (v := (some (.int z_25))) (As := [.int x2]) (rest := []) C ml_X2_answer gm_686 gm_687 gm_688 (ci := 2) rfl hW a_t_2 k_t_2 hl.1 (c_X2_answer a_t_2 k_t_2 e_z_25) rfl ⟨(by decide), (by decide)⟩ ⟨(by decide), (by decide)⟩ rfl (Nat.le_of_ble_eq_true rfl) dX7_cars_25 (fun H locs hW => ?_)
    have h := Option.some.inj h
    subst h
    exact r_iret C hW dX7_cars_28
def f_X7_closed (I : MI) (R : MR) (x1 : Int32) (x2 : Int32) : Option (Int32 × MI) := bd (f_X7_within I R x1 0 23) (fun z_4 => (if z_4 = 0 then (some (0, I)) else (gd (ix x1 (ln 5)) ((if (I 5 x1.toNatClampNeg) = x2 then (some (0, I)) else (gd (ix x1 (ln 5)) (lt (p2 I 5 x1.toNatClampNeg (vp_nar .boolean x2)) (fun I_28 => some (1, I_28)))))))))
set_option maxHeartbeats 4000000 in
set_option maxRecDepth 100000 in
theorem c_X7_closed {l : Launch} {E : EV} {q : Nat → Nat} {al : Nat → Bool} {n : Nat} {I : MI} {R : MR} {x1 : Int32} {x2 : Int32} (a_0 : al 0 = true) (hF : Fx al R) {res : Int32 × MI} (h : f_X7_closed I R x1 x2 = some res) : Ct l yX7_closed cX7_closed 3 (some .boolean) 2 0 0 E q al I R n [.ref (q 0), .int x1, .int x2] (some (.int res.1)) al res.2 R n := by
  refine Ct.of (own := RX7) (mn := "closed") (by decide) rfl rfl (Nat.le_of_ble_eq_true rfl) ?_
  intro p e s m args below meth c ls C hmn hargs hW hl
  have hx := C.1
  have hb := C.2.1
  have hl : lv_has ls 3 [(0, .ref (q 0)), (1, .int x1), (2, .int x2)] := hl
  unfold f_X7_closed at h
  refine lv_iload_n hx hb dX7_closed_0 rfl (lv_at hl 1 rfl) ?_
  refine lv_iconst (v := 0) hx hb dX7_closed_1 (by decide) ?_
  refine lv_bipush (v := 23) hx hb dX7_closed_2 (by decide) ?_
  obtain ⟨z_4, e_z_4, h⟩ := bd_some h
  refine r_callS (v := (some (.int z_4))) (As := [.int x1, .int 0, .int 23]) (rest := []) C ml_X7_within gm_321 gm_322 hW hl.1 (c_X7_within  e_z_4) rfl ⟨(by decide), (by decide)⟩ ⟨(by decide), (by decide)⟩ rfl (Nat.le_of_ble_eq_true rfl) dX7_closed_4 (fun H locs hW => ?_)
  refine lv_if_eq (tgt := 20) hx hb dX7_closed_7 (by decide) (fun c_7 => ?_) (fun c_7 => ?_)
  · have h := (if_pos c_7).symm.trans h
    refine lv_iconst (v := 0) hx hb dX7_closed_20 (by decide) ?_
    have h := Option.some.inj h
    subst h
    exact r_zret C hW (Or.inl rfl) dX7_closed_21
  · have h := (if_neg c_7).symm.trans h
    refine lv_aload_n hx hb dX7_closed_10 rfl (lv_at hl 0 rfl) ?_
    have ap_11 : al 5 = true := hW.cl a_0 (hF _ 11 _ a_0 rfl)
    refine r_getq C fr_X7_50 hW a_0 rfl rfl (hF _ 11 _ a_0 rfl) dX7_closed_11 ?_
    refine lv_iload_n hx hb dX7_closed_14 rfl (lv_at hl 1 rfl) ?_
    obtain ⟨g_15, h⟩ := gd_some h
    refine r_zald C hW ap_11 rfl (ix_in g_15) dX7_closed_15 ?_
    refine lv_iload_n hx hb dX7_closed_16 rfl (lv_at hl 2 rfl) ?_
    refine lv_icmp_ne (tgt := 22) hx hb dX7_closed_17 (by decide) (fun c_17 => ?_) (fun c_17 => ?_)
    · have h := (if_neg c_17).symm.trans h
      refine lv_aload_n hx hb dX7_closed_22 rfl (lv_at hl 0 rfl) ?_
      refine r_getq C fr_X7_50 hW a_0 rfl rfl (hF _ 11 _ a_0 rfl) dX7_closed_23 ?_
      refine lv_iload_n hx hb dX7_closed_26 rfl (lv_at hl 1 rfl) ?_
      refine lv_iload_n hx hb dX7_closed_27 rfl (lv_at hl 2 rfl) ?_
      obtain ⟨g_28, h⟩ := gd_some h
      obtain ⟨I_28, e_I_28, h⟩ := lt_some h
      refine r_zast C hW ap_11 rfl (ix_in g_28) dX7_closed_28 (fun H locs hW => ?_)
      rw [← e_I_28] at hW
      refine lv_iconst (v := 1) hx hb dX7_closed_29 (by decide) ?_
      have h := Option.some.inj h
      subst h
      exact r_zret C hW (Or.inr rfl) dX7_closed_30
    · have h := (if_pos c_17).symm.trans h
      refine lv_iconst (v := 0) hx hb dX7_closed_20 (by decide) ?_
      have h := Option.some.inj h
      subst h
      exact r_zret C hW (Or.inl rfl) dX7_closed_21
def f_X7_count (I : MI) (R : MR) (x1 : Int32) : Option (Int32) := (if x1 = 0 then (some (I 0 8)) else (if x1 = 1 then (some (I 0 1)) else (if x1 = 2 then (some (I 0 3)) else (if x1 = 3 then (some ((I 0 3) - (I 0 4))) else (if x1 = 4 then (some (I 10 1)) else (if x1 = 5 then (some (I 10 2)) else (if x1 = 6 then (some (I 10 3)) else (if x1 = 7 then (some (I 10 4)) else (if x1 = 8 then (bd (f_X3_allGas I R) (fun z_137 => some (z_137))) else (if x1 = 9 then (some (I 6 1)) else (if x1 = 10 then (bd (R 0 16) (fun z_150 => some (I z_150 0))) else (if x1 = 11 then (bd (R 0 16) (fun z_158 => some (I z_158 1))) else (if x1 = 12 then (bd (R 0 16) (fun z_166 => some (I z_166 2))) else (if x1 = 13 then (bd (R 0 16) (fun z_174 => some (I z_174 3))) else (if x1 = 14 then (bd (R 0 16) (fun z_182 => some (I z_182 4))) else (some ((-1))))))))))))))))))
set_option maxHeartbeats 4000000 in
set_option maxRecDepth 100000 in
theorem c_X7_count {l : Launch} {E : EV} {q : Nat → Nat} {al : Nat → Bool} {n : Nat} {I : MI} {R : MR} {x1 : Int32} (a_0 : al 0 = true) (hF : Fx al R) {res : Int32} (h : f_X7_count I R x1 = some res) : Ct l yX7_count cX7_count 2 (some .int) 2 0 0 E q al I R n [.ref (q 0), .int x1] (some (.int res)) al I R n := by
  refine Ct.of (own := RX7) (mn := "count") (by decide) rfl rfl (Nat.le_of_ble_eq_true rfl) ?_
  intro p e s m args below meth c ls C hmn hargs hW hl
  have hx := C.1
  have hb := C.2.1
  have hl : lv_has ls 2 [(0, .ref (q 0)), (1, .int x1)] := hl
  unfold f_X7_count at h
  refine lv_iload_n hx hb dX7_count_0 rfl (lv_at hl 1 rfl) ?_
  by_cases c_1_0 : x1 = 0
  · have h := (if_pos c_1_0).symm.trans h
    refine lv_tableIn (off := 75) (tgt := 76) hx hb dX7_count_1 (by rw [c_1_0]; decide) (by rw [c_1_0]; decide) (by rw [c_1_0]; decide) (by decide) ?_
    refine lv_aload_n hx hb dX7_count_76 rfl (lv_at hl 0 rfl) ?_
    refine r_get C fr_X7_40 hW a_0 rfl rfl dX7_count_77 ?_
    have h := Option.some.inj h
    subst h
    exact r_iret C hW dX7_count_80
  · have h := (if_neg c_1_0).symm.trans h
    by_cases c_1_1 : x1 = 1
    · have h := (if_pos c_1_1).symm.trans h
      refine lv_tableIn (off := 80) (tgt := 81) hx hb dX7_count_1 (by rw [c_1_1]; decide) (by rw [c_1_1]; decide) (by rw [c_1_1]; decide) (by decide) ?_
      refine lv_aload_n hx hb dX7_count_81 rfl (lv_at hl 0 rfl) ?_
      refine r_get C fr_X7_15 hW a_0 rfl rfl dX7_count_82 ?_
      have h := Option.some.inj h
      subst h
      exact r_iret C hW dX7_count_85
    · have h := (if_neg c_1_1).symm.trans h
      by_cases c_1_2 : x1 = 2
      · have h := (if_pos c_1_2).symm.trans h
        refine lv_tableIn (off := 85) (tgt := 86) hx hb dX7_count_1 (by rw [c_1_2]; decide) (by rw [c_1_2]; decide) (by rw [c_1_2]; decide) (by decide) ?_
        refine lv_aload_n hx hb dX7_count_86 rfl (lv_at hl 0 rfl) ?_
        refine r_get C fr_X7_25 hW a_0 rfl rfl dX7_count_87 ?_
        have h := Option.some.inj h
        subst h
        exact r_iret C hW dX7_count_90
      · have h := (if_neg c_1_2).symm.trans h
        by_cases c_1_3 : x1 = 3
        · have h := (if_pos c_1_3).symm.trans h
          refine lv_tableIn (off := 90) (tgt := 91) hx hb dX7_count_1 (by rw [c_1_3]; decide) (by rw [c_1_3]; decide) (by rw [c_1_3]; decide) (by decide) ?_
          refine lv_aload_n hx hb dX7_count_91 rfl (lv_at hl 0 rfl) ?_
          refine r_get C fr_X7_25 hW a_0 rfl rfl dX7_count_92 ?_
          refine lv_aload_n hx hb dX7_count_95 rfl (lv_at hl 0 rfl) ?_
          refine r_get C fr_X7_28 hW a_0 rfl rfl dX7_count_96 ?_
          refine lv_isub hx hb dX7_count_99 ?_
          have h := Option.some.inj h
          subst h
          exact r_iret C hW dX7_count_100
        · have h := (if_neg c_1_3).symm.trans h
          by_cases c_1_4 : x1 = 4
          · have h := (if_pos c_1_4).symm.trans h
            refine lv_tableIn (off := 100) (tgt := 101) hx hb dX7_count_1 (by rw [c_1_4]; decide) (by rw [c_1_4]; decide) (by rw [c_1_4]; decide) (by decide) ?_
            refine lv_aload_n hx hb dX7_count_101 rfl (lv_at hl 0 rfl) ?_
            have ap_102 : al 10 = true := hW.cl a_0 (hF _ 14 _ a_0 rfl)
            refine r_getq C fr_X7_73 hW a_0 rfl rfl (hF _ 14 _ a_0 rfl) dX7_count_102 ?_
            refine r_get C fr_X7_204 hW ap_102 rfl rfl dX7_count_105 ?_
            have h := Option.some.inj h
            subst h
            exact r_iret C hW dX7_count_108
          · have h := (if_neg c_1_4).symm.trans h
            by_cases c_1_5 : x1 = 5
            · have h := (if_pos c_1_5).symm.trans h
              refine lv_tableIn (off := 108) (tgt := 109) hx hb dX7_count_1 (by rw [c_1_5]; decide) (by rw [c_1_5]; decide) (by rw [c_1_5]; decide) (by decide) ?_
              refine lv_aload_n hx hb dX7_count_109 rfl (lv_at hl 0 rfl) ?_
              have ap_110 : al 10 = true := hW.cl a_0 (hF _ 14 _ a_0 rfl)
              refine r_getq C fr_X7_73 hW a_0 rfl rfl (hF _ 14 _ a_0 rfl) dX7_count_110 ?_
              refine r_get C fr_X7_207 hW ap_110 rfl rfl dX7_count_113 ?_
              have h := Option.some.inj h
              subst h
              exact r_iret C hW dX7_count_116
            · have h := (if_neg c_1_5).symm.trans h
              by_cases c_1_6 : x1 = 6
              · have h := (if_pos c_1_6).symm.trans h
                refine lv_tableIn (off := 116) (tgt := 117) hx hb dX7_count_1 (by rw [c_1_6]; decide) (by rw [c_1_6]; decide) (by rw [c_1_6]; decide) (by decide) ?_
                refine lv_aload_n hx hb dX7_count_117 rfl (lv_at hl 0 rfl) ?_
                have ap_118 : al 10 = true := hW.cl a_0 (hF _ 14 _ a_0 rfl)
                refine r_getq C fr_X7_73 hW a_0 rfl rfl (hF _ 14 _ a_0 rfl) dX7_count_118 ?_
                refine r_get C fr_X7_175 hW ap_118 rfl rfl dX7_count_121 ?_
                have h := Option.some.inj h
                subst h
                exact r_iret C hW dX7_count_124
              · have h := (if_neg c_1_6).symm.trans h
                by_cases c_1_7 : x1 = 7
                · have h := (if_pos c_1_7).symm.trans h
                  refine lv_tableIn (off := 124) (tgt := 125) hx hb dX7_count_1 (by rw [c_1_7]; decide) (by rw [c_1_7]; decide) (by rw [c_1_7]; decide) (by decide) ?_
                  refine lv_aload_n hx hb dX7_count_125 rfl (lv_at hl 0 rfl) ?_
                  have ap_126 : al 10 = true := hW.cl a_0 (hF _ 14 _ a_0 rfl)
                  refine r_getq C fr_X7_73 hW a_0 rfl rfl (hF _ 14 _ a_0 rfl) dX7_count_126 ?_
                  refine r_get C fr_X7_178 hW ap_126 rfl rfl dX7_count_129 ?_
                  have h := Option.some.inj h
                  subst h
                  exact r_iret C hW dX7_count_132
                · have h := (if_neg c_1_7).symm.trans h
                  by_cases c_1_8 : x1 = 8
                  · have h := (if_pos c_1_8).symm.trans h
                    refine lv_tableIn (off := 132) (tgt := 133) hx hb dX7_count_1 (by rw [c_1_8]; decide) (by rw [c_1_8]; decide) (by rw [c_1_8]; decide) (by decide) ?_
                    refine lv_aload_n hx hb dX7_count_133 rfl (lv_at hl 0 rfl) ?_
                    have ap_134 : al 10 = true := hW.cl a_0 (hF _ 14 _ a_0 rfl)
                    refine r_getq C fr_X7_73 hW a_0 rfl rfl (hF _ 14 _ a_0 rfl) dX7_count_134 ?_
                    obtain ⟨z_137, e_z_137, h⟩ := bd_some h
                    refine r_callV (v := (some (.int z_137))) (As := []) (rest := []) C ml_X3_allGas gm_695 gm_696 gm_697 (ci := 3) rfl hW ap_134 rfl hl.1 (c_X3_allGas ap_134 e_z_137) rfl ⟨(by decide), (by decide)⟩ ⟨(by decide), (by decide)⟩ rfl (Nat.le_of_ble_eq_true rfl) dX7_count_137 (fun H locs hW => ?_)
                    have h := Option.some.inj h
                    subst h
                    exact r_iret C hW dX7_count_140
                  · have h := (if_neg c_1_8).symm.trans h
                    by_cases c_1_9 : x1 = 9
                    · have h := (if_pos c_1_9).symm.trans h
                      refine lv_tableIn (off := 140) (tgt := 141) hx hb dX7_count_1 (by rw [c_1_9]; decide) (by rw [c_1_9]; decide) (by rw [c_1_9]; decide) (by decide) ?_
                      refine lv_aload_n hx hb dX7_count_141 rfl (lv_at hl 0 rfl) ?_
                      have ap_142 : al 6 = true := hW.cl a_0 (hF _ 12 _ a_0 rfl)
                      refine r_getq C fr_X7_57 hW a_0 rfl rfl (hF _ 12 _ a_0 rfl) dX7_count_142 ?_
                      refine r_get C fr_X7_115 hW ap_142 rfl rfl dX7_count_145 ?_
                      have h := Option.some.inj h
                      subst h
                      exact r_iret C hW dX7_count_148
                    · have h := (if_neg c_1_9).symm.trans h
                      by_cases c_1_10 : x1 = 10
                      · have h := (if_pos c_1_10).symm.trans h
                        refine lv_tableIn (off := 148) (tgt := 149) hx hb dX7_count_1 (by rw [c_1_10]; decide) (by rw [c_1_10]; decide) (by rw [c_1_10]; decide) (by decide) ?_
                        refine lv_aload_n hx hb dX7_count_149 rfl (lv_at hl 0 rfl) ?_
                        obtain ⟨z_150, e_z_150, h⟩ := bd_some h
                        have a_z_150 : al z_150 = true := hW.cl a_0 e_z_150
                        have k_z_150 : kd z_150 = 5 := hW.kn a_0 e_z_150 (by rfl)
                        refine r_getq C fr_X7_87 hW a_0 rfl rfl e_z_150 dX7_count_150 ?_
                        refine r_get C fr_X7_213 hW a_z_150 k_z_150 rfl dX7_count_153 ?_
                        have h := Option.some.inj h
                        subst h
                        exact r_iret C hW dX7_count_156
                      · have h := (if_neg c_1_10).symm.trans h
                        by_cases c_1_11 : x1 = 11
                        · have h := (if_pos c_1_11).symm.trans h
                          refine lv_tableIn (off := 156) (tgt := 157) hx hb dX7_count_1 (by rw [c_1_11]; decide) (by rw [c_1_11]; decide) (by rw [c_1_11]; decide) (by decide) ?_
                          refine lv_aload_n hx hb dX7_count_157 rfl (lv_at hl 0 rfl) ?_
                          obtain ⟨z_158, e_z_158, h⟩ := bd_some h
                          have a_z_158 : al z_158 = true := hW.cl a_0 e_z_158
                          have k_z_158 : kd z_158 = 5 := hW.kn a_0 e_z_158 (by rfl)
                          refine r_getq C fr_X7_87 hW a_0 rfl rfl e_z_158 dX7_count_158 ?_
                          refine r_get C fr_X7_216 hW a_z_158 k_z_158 rfl dX7_count_161 ?_
                          have h := Option.some.inj h
                          subst h
                          exact r_iret C hW dX7_count_164
                        · have h := (if_neg c_1_11).symm.trans h
                          by_cases c_1_12 : x1 = 12
                          · have h := (if_pos c_1_12).symm.trans h
                            refine lv_tableIn (off := 164) (tgt := 165) hx hb dX7_count_1 (by rw [c_1_12]; decide) (by rw [c_1_12]; decide) (by rw [c_1_12]; decide) (by decide) ?_
                            refine lv_aload_n hx hb dX7_count_165 rfl (lv_at hl 0 rfl) ?_
                            obtain ⟨z_166, e_z_166, h⟩ := bd_some h
                            have a_z_166 : al z_166 = true := hW.cl a_0 e_z_166
                            have k_z_166 : kd z_166 = 5 := hW.kn a_0 e_z_166 (by rfl)
                            refine r_getq C fr_X7_87 hW a_0 rfl rfl e_z_166 dX7_count_166 ?_
                            refine r_get C fr_X7_219 hW a_z_166 k_z_166 rfl dX7_count_169 ?_
                            have h := Option.some.inj h
                            subst h
                            exact r_iret C hW dX7_count_172
                          · have h := (if_neg c_1_12).symm.trans h
                            by_cases c_1_13 : x1 = 13
                            · have h := (if_pos c_1_13).symm.trans h
                              refine lv_tableIn (off := 172) (tgt := 173) hx hb dX7_count_1 (by rw [c_1_13]; decide) (by rw [c_1_13]; decide) (by rw [c_1_13]; decide) (by decide) ?_
                              refine lv_aload_n hx hb dX7_count_173 rfl (lv_at hl 0 rfl) ?_
                              obtain ⟨z_174, e_z_174, h⟩ := bd_some h
                              have a_z_174 : al z_174 = true := hW.cl a_0 e_z_174
                              have k_z_174 : kd z_174 = 5 := hW.kn a_0 e_z_174 (by rfl)
                              refine r_getq C fr_X7_87 hW a_0 rfl rfl e_z_174 dX7_count_174 ?_
                              refine r_get C fr_X7_222 hW a_z_174 k_z_174 rfl dX7_count_177 ?_
                              have h := Option.some.inj h
                              subst h
                              exact r_iret C hW dX7_count_180
                            · have h := (if_neg c_1_13).symm.trans h
                              by_cases c_1_14 : x1 = 14
                              · have h := (if_pos c_1_14).symm.trans h
                                refine lv_tableIn (off := 180) (tgt := 181) hx hb dX7_count_1 (by rw [c_1_14]; decide) (by rw [c_1_14]; decide) (by rw [c_1_14]; decide) (by decide) ?_
                                refine lv_aload_n hx hb dX7_count_181 rfl (lv_at hl 0 rfl) ?_
                                obtain ⟨z_182, e_z_182, h⟩ := bd_some h
                                have a_z_182 : al z_182 = true := hW.cl a_0 e_z_182
                                have k_z_182 : kd z_182 = 5 := hW.kn a_0 e_z_182 (by rfl)
                                refine r_getq C fr_X7_87 hW a_0 rfl rfl e_z_182 dX7_count_182 ?_
                                refine r_get C fr_X7_225 hW a_z_182 k_z_182 rfl dX7_count_185 ?_
                                have h := Option.some.inj h
                                subst h
                                exact r_iret C hW dX7_count_188
                              · have h := (if_neg c_1_14).symm.trans h
                                have n_0 := lv_neT (a := 0) c_1_0 (by decide)
                                have n_1 := lv_neT (a := 1) c_1_1 (by decide)
                                have n_2 := lv_neT (a := 2) c_1_2 (by decide)
                                have n_3 := lv_neT (a := 3) c_1_3 (by decide)
                                have n_4 := lv_neT (a := 4) c_1_4 (by decide)
                                have n_5 := lv_neT (a := 5) c_1_5 (by decide)
                                have n_6 := lv_neT (a := 6) c_1_6 (by decide)
                                have n_7 := lv_neT (a := 7) c_1_7 (by decide)
                                have n_8 := lv_neT (a := 8) c_1_8 (by decide)
                                have n_9 := lv_neT (a := 9) c_1_9 (by decide)
                                have n_10 := lv_neT (a := 10) c_1_10 (by decide)
                                have n_11 := lv_neT (a := 11) c_1_11 (by decide)
                                have n_12 := lv_neT (a := 12) c_1_12 (by decide)
                                have n_13 := lv_neT (a := 13) c_1_13 (by decide)
                                have n_14 := lv_neT (a := 14) c_1_14 (by decide)
                                refine lv_tableOut (tgt := 189) hx hb dX7_count_1 (by omega) (by decide) ?_
                                refine lv_iconst (v := (-1)) hx hb dX7_count_189 (by decide) ?_
                                have h := Option.some.inj h
                                subst h
                                exact r_iret C hW dX7_count_190
def f_X7_end (I : MI) (R : MR) (x1 : Int32) : Option (Int32 × MI) := bd (f_X7_within I R x1 0 (I 6 1)) (fun z_9 => (if z_9 = 0 then (some ((-1), I)) else (lt (p2 I 6 1 x1) (fun I_22 => some (x1, I_22)))))
set_option maxHeartbeats 4000000 in
set_option maxRecDepth 100000 in
theorem c_X7_end {l : Launch} {E : EV} {q : Nat → Nat} {al : Nat → Bool} {n : Nat} {I : MI} {R : MR} {x1 : Int32} (a_0 : al 0 = true) (hF : Fx al R) {res : Int32 × MI} (h : f_X7_end I R x1 = some res) : Ct l yX7_end cX7_end 2 (some .int) 2 0 0 E q al I R n [.ref (q 0), .int x1] (some (.int res.1)) al res.2 R n := by
  refine Ct.of (own := RX7) (mn := "end") (by decide) rfl rfl (Nat.le_of_ble_eq_true rfl) ?_
  intro p e s m args below meth c ls C hmn hargs hW hl
  have hx := C.1
  have hb := C.2.1
  have hl : lv_has ls 2 [(0, .ref (q 0)), (1, .int x1)] := hl
  unfold f_X7_end at h
  refine lv_iload_n hx hb dX7_end_0 rfl (lv_at hl 1 rfl) ?_
  refine lv_iconst (v := 0) hx hb dX7_end_1 (by decide) ?_
  refine lv_aload_n hx hb dX7_end_2 rfl (lv_at hl 0 rfl) ?_
  have ap_3 : al 6 = true := hW.cl a_0 (hF _ 12 _ a_0 rfl)
  refine r_getq C fr_X7_57 hW a_0 rfl rfl (hF _ 12 _ a_0 rfl) dX7_end_3 ?_
  refine r_get C fr_X7_115 hW ap_3 rfl rfl dX7_end_6 ?_
  obtain ⟨z_9, e_z_9, h⟩ := bd_some h
  refine r_callS (v := (some (.int z_9))) (As := [.int x1, .int 0, .int (I 6 1)]) (rest := []) C ml_X7_within gm_321 gm_322 hW hl.1 (c_X7_within  e_z_9) rfl ⟨(by decide), (by decide)⟩ ⟨(by decide), (by decide)⟩ rfl (Nat.le_of_ble_eq_true rfl) dX7_end_9 (fun H locs hW => ?_)
  refine lv_if_ne (tgt := 17) hx hb dX7_end_12 (by decide) (fun c_12 => ?_) (fun c_12 => ?_)
  · have h := (if_neg c_12).symm.trans h
    refine lv_aload_n hx hb dX7_end_17 rfl (lv_at hl 0 rfl) ?_
    refine r_getq C fr_X7_57 hW a_0 rfl rfl (hF _ 12 _ a_0 rfl) dX7_end_18 ?_
    refine lv_iload_n hx hb dX7_end_21 rfl (lv_at hl 1 rfl) ?_
    obtain ⟨I_22, e_I_22, h⟩ := lt_some h
    refine r_put C fr_X7_115 (Or.inl rfl) hW ap_3 rfl rfl rfl rfl dX7_end_22 (fun H locs hW => ?_)
    rw [← e_I_22] at hW
    refine lv_iload_n hx hb dX7_end_25 rfl (lv_at hl 1 rfl) ?_
    have h := Option.some.inj h
    subst h
    exact r_iret C hW dX7_end_26
  · have h := (if_pos c_12).symm.trans h
    refine lv_iconst (v := (-1)) hx hb dX7_end_15 (by decide) ?_
    have h := Option.some.inj h
    subst h
    exact r_iret C hW dX7_end_16
def f_X7_feed (I : MI) (R : MR) (x1 : Int32) (x2 : Int32) (x3 : Int32) (x4 : Int32) (x5 : Int32) : Option (Int32 × MI) := (if (I 6 1) ≤ 180 then (bd (f_X6_append I R x1) (fun z_20 => bd (f_X6_append z_20 R x2) (fun z_28 => bd (f_X6_append z_28 R x3) (fun z_36 => bd (f_X6_append z_36 R x4) (fun z_45 => bd (f_X6_append z_45 R x5) (fun z_54 => some (z_54 6 1, z_54))))))) else (some ((-1), I)))
set_option maxHeartbeats 4000000 in
set_option maxRecDepth 100000 in
theorem c_X7_feed {l : Launch} {E : EV} {q : Nat → Nat} {al : Nat → Bool} {n : Nat} {I : MI} {R : MR} {x1 : Int32} {x2 : Int32} {x3 : Int32} {x4 : Int32} {x5 : Int32} (a_0 : al 0 = true) (hF : Fx al R) {res : Int32 × MI} (h : f_X7_feed I R x1 x2 x3 x4 x5 = some res) : Ct l yX7_feed cX7_feed 6 (some .int) 2 0 0 E q al I R n [.ref (q 0), .int x1, .int x2, .int x3, .int x4, .int x5] (some (.int res.1)) al res.2 R n := by
  refine Ct.of (own := RX7) (mn := "feed") (by decide) rfl rfl (Nat.le_of_ble_eq_true rfl) ?_
  intro p e s m args below meth c ls C hmn hargs hW hl
  have hx := C.1
  have hb := C.2.1
  have hl : lv_has ls 6 [(0, .ref (q 0)), (1, .int x1), (2, .int x2), (3, .int x3), (4, .int x4), (5, .int x5)] := hl
  unfold f_X7_feed at h
  refine lv_aload_n hx hb dX7_feed_0 rfl (lv_at hl 0 rfl) ?_
  have ap_1 : al 6 = true := hW.cl a_0 (hF _ 12 _ a_0 rfl)
  refine r_getq C fr_X7_57 hW a_0 rfl rfl (hF _ 12 _ a_0 rfl) dX7_feed_1 ?_
  refine r_get C fr_X7_115 hW ap_1 rfl rfl dX7_feed_4 ?_
  refine lv_sipush (v := 180) hx hb dX7_feed_7 (by decide) ?_
  refine lv_icmp_le (tgt := 15) hx hb dX7_feed_10 (by decide) (fun c_10 => ?_) (fun c_10 => ?_)
  · have h := (if_pos c_10).symm.trans h
    refine lv_aload_n hx hb dX7_feed_15 rfl (lv_at hl 0 rfl) ?_
    refine r_getq C fr_X7_57 hW a_0 rfl rfl (hF _ 12 _ a_0 rfl) dX7_feed_16 ?_
    refine lv_iload_n hx hb dX7_feed_19 rfl (lv_at hl 1 rfl) ?_
    obtain ⟨z_20, e_z_20, h⟩ := bd_some h
    refine r_callV (v := none) (As := [.int x1]) (rest := []) C ml_X6_append gm_345 gm_346 gm_347 (ci := 6) rfl hW ap_1 rfl hl.1 (c_X6_append ap_1 hF e_z_20) rfl ⟨(by decide), (by decide)⟩ ⟨(by decide), (by decide)⟩ rfl (Nat.le_of_ble_eq_true rfl) dX7_feed_20 (fun H locs hW => ?_)
    refine lv_aload_n hx hb dX7_feed_23 rfl (lv_at hl 0 rfl) ?_
    refine r_getq C fr_X7_57 hW a_0 rfl rfl (hF _ 12 _ a_0 rfl) dX7_feed_24 ?_
    refine lv_iload_n hx hb dX7_feed_27 rfl (lv_at hl 2 rfl) ?_
    obtain ⟨z_28, e_z_28, h⟩ := bd_some h
    refine r_callV (v := none) (As := [.int x2]) (rest := []) C ml_X6_append gm_345 gm_346 gm_347 (ci := 6) rfl hW ap_1 rfl hl.1 (c_X6_append ap_1 hF e_z_28) rfl ⟨(by decide), (by decide)⟩ ⟨(by decide), (by decide)⟩ rfl (Nat.le_of_ble_eq_true rfl) dX7_feed_28 (fun H locs hW => ?_)
    refine lv_aload_n hx hb dX7_feed_31 rfl (lv_at hl 0 rfl) ?_
    refine r_getq C fr_X7_57 hW a_0 rfl rfl (hF _ 12 _ a_0 rfl) dX7_feed_32 ?_
    refine lv_iload_n hx hb dX7_feed_35 rfl (lv_at hl 3 rfl) ?_
    obtain ⟨z_36, e_z_36, h⟩ := bd_some h
    refine r_callV (v := none) (As := [.int x3]) (rest := []) C ml_X6_append gm_345 gm_346 gm_347 (ci := 6) rfl hW ap_1 rfl hl.1 (c_X6_append ap_1 hF e_z_36) rfl ⟨(by decide), (by decide)⟩ ⟨(by decide), (by decide)⟩ rfl (Nat.le_of_ble_eq_true rfl) dX7_feed_36 (fun H locs hW => ?_)
    refine lv_aload_n hx hb dX7_feed_39 rfl (lv_at hl 0 rfl) ?_
    refine r_getq C fr_X7_57 hW a_0 rfl rfl (hF _ 12 _ a_0 rfl) dX7_feed_40 ?_
    refine lv_iload hx hb dX7_feed_43 (lv_at hl 4 rfl) ?_
    obtain ⟨z_45, e_z_45, h⟩ := bd_some h
    refine r_callV (v := none) (As := [.int x4]) (rest := []) C ml_X6_append gm_345 gm_346 gm_347 (ci := 6) rfl hW ap_1 rfl hl.1 (c_X6_append ap_1 hF e_z_45) rfl ⟨(by decide), (by decide)⟩ ⟨(by decide), (by decide)⟩ rfl (Nat.le_of_ble_eq_true rfl) dX7_feed_45 (fun H locs hW => ?_)
    refine lv_aload_n hx hb dX7_feed_48 rfl (lv_at hl 0 rfl) ?_
    refine r_getq C fr_X7_57 hW a_0 rfl rfl (hF _ 12 _ a_0 rfl) dX7_feed_49 ?_
    refine lv_iload hx hb dX7_feed_52 (lv_at hl 5 rfl) ?_
    obtain ⟨z_54, e_z_54, h⟩ := bd_some h
    refine r_callV (v := none) (As := [.int x5]) (rest := []) C ml_X6_append gm_345 gm_346 gm_347 (ci := 6) rfl hW ap_1 rfl hl.1 (c_X6_append ap_1 hF e_z_54) rfl ⟨(by decide), (by decide)⟩ ⟨(by decide), (by decide)⟩ rfl (Nat.le_of_ble_eq_true rfl) dX7_feed_54 (fun H locs hW => ?_)
    refine lv_aload_n hx hb dX7_feed_57 rfl (lv_at hl 0 rfl) ?_
    refine r_getq C fr_X7_57 hW a_0 rfl rfl (hF _ 12 _ a_0 rfl) dX7_feed_58 ?_
    refine r_get C fr_X7_115 hW ap_1 rfl rfl dX7_feed_61 ?_
    have h := Option.some.inj h
    subst h
    exact r_iret C hW dX7_feed_64
  · have h := (if_neg c_10).symm.trans h
    refine lv_iconst (v := (-1)) hx hb dX7_feed_13 (by decide) ?_
    have h := Option.some.inj h
    subst h
    exact r_iret C hW dX7_feed_14
def f_X7_flow (I : MI) (R : MR) (x1 : Int32) : Option (Int32) := bd (f_X7_within I R x1 (-400) 400) (fun z_7 => (if z_7 = 0 then (some ((-1))) else (bd (R 0 16) (fun z_14 => bd (f_X5_flowAt I R z_14 x1) (fun z_18 => some (z_18))))))
set_option maxHeartbeats 4000000 in
set_option maxRecDepth 100000 in
theorem c_X7_flow {l : Launch} {E : EV} {q : Nat → Nat} {al : Nat → Bool} {n : Nat} {I : MI} {R : MR} {x1 : Int32} (a_0 : al 0 = true) (hF : Fx al R) {res : Int32} (h : f_X7_flow I R x1 = some res) : Ct l yX7_flow cX7_flow 2 (some .int) 2 0 0 E q al I R n [.ref (q 0), .int x1] (some (.int res)) al I R n := by
  refine Ct.of (own := RX7) (mn := "flow") (by decide) rfl rfl (Nat.le_of_ble_eq_true rfl) ?_
  intro p e s m args below meth c ls C hmn hargs hW hl
  have hx := C.1
  have hb := C.2.1
  have hl : lv_has ls 2 [(0, .ref (q 0)), (1, .int x1)] := hl
  unfold f_X7_flow at h
  refine lv_iload_n hx hb dX7_flow_0 rfl (lv_at hl 1 rfl) ?_
  refine lv_sipush (v := (-400)) hx hb dX7_flow_1 (by decide) ?_
  refine lv_sipush (v := 400) hx hb dX7_flow_4 (by decide) ?_
  obtain ⟨z_7, e_z_7, h⟩ := bd_some h
  refine r_callS (v := (some (.int z_7))) (As := [.int x1, .int (-400), .int 400]) (rest := []) C ml_X7_within gm_321 gm_322 hW hl.1 (c_X7_within  e_z_7) rfl ⟨(by decide), (by decide)⟩ ⟨(by decide), (by decide)⟩ rfl (Nat.le_of_ble_eq_true rfl) dX7_flow_7 (fun H locs hW => ?_)
  refine lv_if_eq (tgt := 24) hx hb dX7_flow_10 (by decide) (fun c_10 => ?_) (fun c_10 => ?_)
  · have h := (if_pos c_10).symm.trans h
    refine lv_iconst (v := (-1)) hx hb dX7_flow_24 (by decide) ?_
    have h := Option.some.inj h
    subst h
    exact r_iret C hW dX7_flow_25
  · have h := (if_neg c_10).symm.trans h
    refine lv_aload_n hx hb dX7_flow_13 rfl (lv_at hl 0 rfl) ?_
    obtain ⟨z_14, e_z_14, h⟩ := bd_some h
    have a_z_14 : al z_14 = true := hW.cl a_0 e_z_14
    have k_z_14 : kd z_14 = 5 := hW.kn a_0 e_z_14 (by rfl)
    refine r_getq C fr_X7_87 hW a_0 rfl rfl e_z_14 dX7_flow_14 ?_
    refine lv_iload_n hx hb dX7_flow_17 rfl (lv_at hl 1 rfl) ?_
    obtain ⟨z_18, e_z_18, h⟩ := bd_some h
    refine r_callV (v := (some (.int z_18))) (As := [.int x1]) (rest := []) C ml_X5_flowAt gm_486 gm_487 gm_488 (ci := 5) rfl hW a_z_14 k_z_14 hl.1 (c_X5_flowAt a_z_14 k_z_14 hF e_z_18) rfl ⟨(by decide), (by decide)⟩ ⟨(by decide), (by decide)⟩ rfl (Nat.le_of_ble_eq_true rfl) dX7_flow_18 (fun H locs hW => ?_)
    refine lv_goto (tgt := 25) hx hb dX7_flow_21 (by decide) ?_
    have h := Option.some.inj h
    subst h
    exact r_iret C hW dX7_flow_25
def f_X7_hoses_13  : Nat → MI → MR → Int32 → Int32 → Option (Int32 × MI)
  | 0, _, _, _, _ => none
  | nn + 1, I, R, x1, x2 => (if 2 ≤ x2 then (lt (p2 I 0 6 x1) (fun I_42 => some (I 0 6, I_42))) else (gd (ix x2 (ln 3)) (mt (R 3 x2.toNatClampNeg) (f_X7_hoses_13 nn I R x1 (x2 + 1)) (fun t_23 => some ((-1), I)))))
set_option maxHeartbeats 4000000 in
set_option maxRecDepth 100000 in
theorem t_X7_hoses_13 {p : Program} {l : Launch} {e : Env} {s : State} {m : MethodId} {args : Array Value} {below : List Frame} {meth : Method} {c : Code} {E : EV} {q : Nat → Nat} {al : Nat → Bool} {n : Nat} (C : CX p s m args meth c E cX7_hoses RX7 3 (some .int)) {res : Int32 × MI}   : ∀ (nn : Nat) {I : MI} {R : MR} {x1 : Int32} {x2 : Int32} {H : Heap} {locs : List Loc} {ls : Array Slot} (a_0 : al 0 = true) (h : f_X7_hoses_13 nn I R x1 x2 = some res) (hW : Wd E q al s.heap I R n H locs) (hF : Fx al R) (hl : lv_has ls 3 [(0, .ref (q 0)), (1, .int x1), (2, .int x2)]), W p l e (rmL 2 0 0) s m args below meth c H locs 0 0 (MQ below (Pst E q (some (.int res.1)) al res.2 R n) args s 0 0 (Bs E)) (F0 m 13 ls []) := by
  have hx := C.1
  have hb := C.2.1
  intro nn
  induction nn with
  | zero =>
    intro I R x1 x2 H locs ls a_0 h
    cases (show (none : Option (Int32 × MI)) = some res from h)
  | succ nn ih =>
    intro I R x1 x2 H locs ls a_0 h hW hF hl
    rw [f_X7_hoses_13.eq_2] at h
    refine lv_iload_n hx hb dX7_hoses_13 rfl (lv_at hl 2 rfl) ?_
    refine lv_iconst (v := 2) hx hb dX7_hoses_14 (by decide) ?_
    refine lv_icmp_ge (tgt := 35) hx hb dX7_hoses_15 (by decide) (fun c_15 => ?_) (fun c_15 => ?_)
    · have h := (if_pos c_15).symm.trans h
      refine lv_aload_n hx hb dX7_hoses_35 rfl (lv_at hl 0 rfl) ?_
      refine r_get C fr_X7_34 hW a_0 rfl rfl dX7_hoses_36 ?_
      refine lv_istore_n (lv' := [(2, .int (I 0 6)), (0, .ref (q 0)), (1, .int x1)]) hx hb dX7_hoses_39 rfl hl (by decide) rfl (fun ls hl => ?_)
      refine lv_aload_n hx hb dX7_hoses_40 rfl (lv_at hl 1 rfl) ?_
      refine lv_iload_n hx hb dX7_hoses_41 rfl (lv_at hl 2 rfl) ?_
      obtain ⟨I_42, e_I_42, h⟩ := lt_some h
      refine r_put C fr_X7_34 (Or.inl rfl) hW a_0 rfl rfl rfl rfl dX7_hoses_42 (fun H locs hW => ?_)
      rw [← e_I_42] at hW
      refine lv_iload_n hx hb dX7_hoses_45 rfl (lv_at hl 0 rfl) ?_
      have h := Option.some.inj h
      subst h
      exact r_iret C hW dX7_hoses_46
    · have h := (if_neg c_15).symm.trans h
      refine lv_aload_n hx hb dX7_hoses_18 rfl (lv_at hl 0 rfl) ?_
      have ap_19 : al 3 = true := hW.cl a_0 (hF _ 5 _ a_0 rfl)
      refine r_getq C fr_X7_31 hW a_0 rfl rfl (hF _ 5 _ a_0 rfl) dX7_hoses_19 ?_
      refine lv_iload_n hx hb dX7_hoses_22 rfl (lv_at hl 2 rfl) ?_
      obtain ⟨g_23, h⟩ := gd_some h
      have hm := mt_cases h
      clear h
      rcases hm with ⟨o_23, h⟩ | ⟨t_23, o_23, h⟩
      · refine r_aaldN C hW ap_19 rfl (by decide) (ix_in g_23) o_23 dX7_hoses_23 ?_
        refine lv_ifnullN (tgt := 29) hx hb dX7_hoses_24 (by decide) ?_
        refine lv_iinc (v := x2 + 1) (lv' := [(2, .int (x2 + 1)), (0, .ref (q 0)), (1, .int x1)]) hx hb dX7_hoses_29 hl (k := 2) rfl rfl (by decide) rfl (fun ls hl => ?_)
        refine lv_goto (tgt := 13) hx hb dX7_hoses_32 (by decide) ?_
        exact ih a_0 h hW hF (lv_sub hl [1, 2, 0] rfl)
      · have a_t_23 := hW.cl ap_19 o_23
        have k_t_23 : kd t_23 = 2 := hW.kn ap_19 o_23 (by rfl)
        refine r_aaldS C hW ap_19 rfl (by decide) (ix_in g_23) o_23 dX7_hoses_23 ?_
        refine lv_ifnull hx hb dX7_hoses_24 ?_
        refine lv_iconst (v := (-1)) hx hb dX7_hoses_27 (by decide) ?_
        have h := Option.some.inj h
        subst h
        exact r_iret C hW dX7_hoses_28
def f_X7_hoses (I : MI) (R : MR) (x1 : Int32) : Option (Int32 × MI) := bd (f_X7_within I R x1 1 2) (fun z_3 => (if z_3 = 0 then (some ((-1), I)) else (f_X7_hoses_13 1000000 I R x1 x1)))
set_option maxHeartbeats 4000000 in
set_option maxRecDepth 100000 in
theorem c_X7_hoses {l : Launch} {E : EV} {q : Nat → Nat} {al : Nat → Bool} {n : Nat} {I : MI} {R : MR} {x1 : Int32} (a_0 : al 0 = true) (hF : Fx al R) {res : Int32 × MI} (h : f_X7_hoses I R x1 = some res) : Ct l yX7_hoses cX7_hoses 3 (some .int) 2 0 0 E q al I R n [.ref (q 0), .int x1] (some (.int res.1)) al res.2 R n := by
  refine Ct.of (own := RX7) (mn := "hoses") (by decide) rfl rfl (Nat.le_of_ble_eq_true rfl) ?_
  intro p e s m args below meth c ls C hmn hargs hW hl
  have hx := C.1
  have hb := C.2.1
  have hl : lv_has ls 3 [(0, .ref (q 0)), (1, .int x1)] := hl
  unfold f_X7_hoses at h
  refine lv_iload_n hx hb dX7_hoses_0 rfl (lv_at hl 1 rfl) ?_
  refine lv_iconst (v := 1) hx hb dX7_hoses_1 (by decide) ?_
  refine lv_iconst (v := 2) hx hb dX7_hoses_2 (by decide) ?_
  obtain ⟨z_3, e_z_3, h⟩ := bd_some h
  refine r_callS (v := (some (.int z_3))) (As := [.int x1, .int 1, .int 2]) (rest := []) C ml_X7_within gm_321 gm_322 hW hl.1 (c_X7_within  e_z_3) rfl ⟨(by decide), (by decide)⟩ ⟨(by decide), (by decide)⟩ rfl (Nat.le_of_ble_eq_true rfl) dX7_hoses_3 (fun H locs hW => ?_)
  refine lv_if_ne (tgt := 11) hx hb dX7_hoses_6 (by decide) (fun c_6 => ?_) (fun c_6 => ?_)
  · have h := (if_neg c_6).symm.trans h
    refine lv_iload_n hx hb dX7_hoses_11 rfl (lv_at hl 1 rfl) ?_
    refine lv_istore_n (lv' := [(2, .int x1), (0, .ref (q 0)), (1, .int x1)]) hx hb dX7_hoses_12 rfl hl (by decide) rfl (fun ls hl => ?_)
    exact t_X7_hoses_13 C 1000000 a_0 h hW hF (lv_sub hl [1, 2, 0] rfl)
  · have h := (if_pos c_6).symm.trans h
    refine lv_iconst (v := (-1)) hx hb dX7_hoses_9 (by decide) ?_
    have h := Option.some.inj h
    subst h
    exact r_iret C hW dX7_hoses_10
def f_X7_loseOfBank (I : MI) (R : MR) (o0 : Option Nat) (x1 : Int32) : Option (Int32 × MI) := mt o0 (some (0, I)) (fun t_o0 => (if (I t_o0 5) = x1 then (some (0, I)) else (gd (x1 = 0 ∨ x1 = 1) (lt (p2 I t_o0 5 x1) (fun I_16 => some (1, I_16))))))
set_option maxHeartbeats 4000000 in
set_option maxRecDepth 100000 in
theorem c_X7_loseOfBank {l : Launch} {E : EV} {q : Nat → Nat} {al : Nat → Bool} {n : Nat} {I : MI} {R : MR} {o0 : Option Nat} {x1 : Int32} (a_o0 : ∀ t, o0 = some t → al t = true ∧ kd t = 0) {res : Int32 × MI} (h : f_X7_loseOfBank I R o0 x1 = some res) : Ct l yX7_loseOfBank cX7_loseOfBank 2 (some .boolean) 1 0 0 E q al I R n [va_rf ((o0).map q), .int x1] (some (.int res.1)) al res.2 R n := by
  unfold f_X7_loseOfBank at h
  have hm := mt_cases h
  clear h
  rcases hm with ⟨e_o0, h⟩ | ⟨t_o0, e_o0, h⟩
  · subst e_o0
    refine Ct.of (av := [.null, .int x1]) (own := RX7) (mn := "loseOfBank") (by decide) rfl rfl (Nat.le_of_ble_eq_true rfl) ?_
    intro p e s m args below meth c ls C hmn hargs hW hl
    have hx := C.1
    have hb := C.2.1
    have hl : lv_has ls 2 [(0, .null), (1, .int x1)] := hl
    refine lv_aload_nN hx hb dX7_loseOfBank_0 rfl (lv_at hl 0 rfl) ?_
    refine lv_ifnullN (tgt := 12) hx hb dX7_loseOfBank_1 (by decide) ?_
    refine lv_iconst (v := 0) hx hb dX7_loseOfBank_12 (by decide) ?_
    have h := Option.some.inj h
    subst h
    exact r_zret C hW (Or.inl rfl) dX7_loseOfBank_13
  · have a_t_o0 := (a_o0 t_o0 e_o0).1
    have k_t_o0 := (a_o0 t_o0 e_o0).2
    subst e_o0
    refine Ct.of (av := [.ref (q t_o0), .int x1]) (own := RX7) (mn := "loseOfBank") (by decide) rfl rfl (Nat.le_of_ble_eq_true rfl) ?_
    intro p e s m args below meth c ls C hmn hargs hW hl
    have hx := C.1
    have hb := C.2.1
    have hl : lv_has ls 2 [(0, .ref (q t_o0)), (1, .int x1)] := hl
    refine lv_aload_n hx hb dX7_loseOfBank_0 rfl (lv_at hl 0 rfl) ?_
    refine lv_ifnull hx hb dX7_loseOfBank_1 ?_
    refine lv_aload_n hx hb dX7_loseOfBank_4 rfl (lv_at hl 0 rfl) ?_
    refine r_get C fr_X7_228 hW a_t_o0 k_t_o0 rfl dX7_loseOfBank_5 ?_
    refine lv_iload_n hx hb dX7_loseOfBank_8 rfl (lv_at hl 1 rfl) ?_
    refine lv_icmp_ne (tgt := 14) hx hb dX7_loseOfBank_9 (by decide) (fun c_9 => ?_) (fun c_9 => ?_)
    · have h := (if_neg c_9).symm.trans h
      refine lv_aload_n hx hb dX7_loseOfBank_14 rfl (lv_at hl 0 rfl) ?_
      refine lv_iload_n hx hb dX7_loseOfBank_15 rfl (lv_at hl 1 rfl) ?_
      obtain ⟨g_16, h⟩ := gd_some h
      obtain ⟨I_16, e_I_16, h⟩ := lt_some h
      refine r_put C fr_X7_228 (Or.inl rfl) hW a_t_o0 k_t_o0 rfl (bo_n g_16) (bo_f g_16) dX7_loseOfBank_16 (fun H locs hW => ?_)
      rw [← e_I_16] at hW
      refine lv_iconst (v := 1) hx hb dX7_loseOfBank_19 (by decide) ?_
      have h := Option.some.inj h
      subst h
      exact r_zret C hW (Or.inr rfl) dX7_loseOfBank_20
    · have h := (if_pos c_9).symm.trans h
      refine lv_iconst (v := 0) hx hb dX7_loseOfBank_12 (by decide) ?_
      have h := Option.some.inj h
      subst h
      exact r_zret C hW (Or.inl rfl) dX7_loseOfBank_13
def f_X7_loseOfCar (I : MI) (R : MR) (o0 : Option Nat) (x1 : Int32) : Option (Int32 × MI) := mt o0 (some (0, I)) (fun t_o0 => bd (f_X2_isHere I R t_o0) (fun z_5 => (if z_5 = 0 then (some (0, I)) else ((if (I t_o0 9) = x1 then (some (0, I)) else (gd (x1 = 0 ∨ x1 = 1) (lt (p2 I t_o0 9 x1) (fun I_23 => some (1, I_23)))))))))
set_option maxHeartbeats 4000000 in
set_option maxRecDepth 100000 in
theorem c_X7_loseOfCar {l : Launch} {E : EV} {q : Nat → Nat} {al : Nat → Bool} {n : Nat} {I : MI} {R : MR} {o0 : Option Nat} {x1 : Int32} (a_o0 : ∀ t, o0 = some t → al t = true ∧ kd t = 2) {res : Int32 × MI} (h : f_X7_loseOfCar I R o0 x1 = some res) : Ct l yX7_loseOfCar cX7_loseOfCar 2 (some .boolean) 2 0 0 E q al I R n [va_rf ((o0).map q), .int x1] (some (.int res.1)) al res.2 R n := by
  unfold f_X7_loseOfCar at h
  have hm := mt_cases h
  clear h
  rcases hm with ⟨e_o0, h⟩ | ⟨t_o0, e_o0, h⟩
  · subst e_o0
    refine Ct.of (av := [.null, .int x1]) (own := RX7) (mn := "loseOfCar") (by decide) rfl rfl (Nat.le_of_ble_eq_true rfl) ?_
    intro p e s m args below meth c ls C hmn hargs hW hl
    have hx := C.1
    have hb := C.2.1
    have hl : lv_has ls 2 [(0, .null), (1, .int x1)] := hl
    refine lv_aload_nN hx hb dX7_loseOfCar_0 rfl (lv_at hl 0 rfl) ?_
    refine lv_ifnullN (tgt := 19) hx hb dX7_loseOfCar_1 (by decide) ?_
    refine lv_iconst (v := 0) hx hb dX7_loseOfCar_19 (by decide) ?_
    have h := Option.some.inj h
    subst h
    exact r_zret C hW (Or.inl rfl) dX7_loseOfCar_20
  · have a_t_o0 := (a_o0 t_o0 e_o0).1
    have k_t_o0 := (a_o0 t_o0 e_o0).2
    subst e_o0
    refine Ct.of (av := [.ref (q t_o0), .int x1]) (own := RX7) (mn := "loseOfCar") (by decide) rfl rfl (Nat.le_of_ble_eq_true rfl) ?_
    intro p e s m args below meth c ls C hmn hargs hW hl
    have hx := C.1
    have hb := C.2.1
    have hl : lv_has ls 2 [(0, .ref (q t_o0)), (1, .int x1)] := hl
    refine lv_aload_n hx hb dX7_loseOfCar_0 rfl (lv_at hl 0 rfl) ?_
    refine lv_ifnull hx hb dX7_loseOfCar_1 ?_
    refine lv_aload_n hx hb dX7_loseOfCar_4 rfl (lv_at hl 0 rfl) ?_
    obtain ⟨z_5, e_z_5, h⟩ := bd_some h
    refine r_callV (v := (some (.int z_5))) (As := []) (rest := []) C ml_X2_isHere gm_512 gm_513 gm_514 (ci := 2) rfl hW a_t_o0 k_t_o0 hl.1 (c_X2_isHere a_t_o0 k_t_o0 e_z_5) rfl ⟨(by decide), (by decide)⟩ ⟨(by decide), (by decide)⟩ rfl (Nat.le_of_ble_eq_true rfl) dX7_loseOfCar_5 (fun H locs hW => ?_)
    refine lv_if_eq (tgt := 19) hx hb dX7_loseOfCar_8 (by decide) (fun c_8 => ?_) (fun c_8 => ?_)
    · have h := (if_pos c_8).symm.trans h
      refine lv_iconst (v := 0) hx hb dX7_loseOfCar_19 (by decide) ?_
      have h := Option.some.inj h
      subst h
      exact r_zret C hW (Or.inl rfl) dX7_loseOfCar_20
    · have h := (if_neg c_8).symm.trans h
      refine lv_aload_n hx hb dX7_loseOfCar_11 rfl (lv_at hl 0 rfl) ?_
      refine r_get C fr_X7_235 hW a_t_o0 k_t_o0 rfl dX7_loseOfCar_12 ?_
      refine lv_iload_n hx hb dX7_loseOfCar_15 rfl (lv_at hl 1 rfl) ?_
      refine lv_icmp_ne (tgt := 21) hx hb dX7_loseOfCar_16 (by decide) (fun c_16 => ?_) (fun c_16 => ?_)
      · have h := (if_neg c_16).symm.trans h
        refine lv_aload_n hx hb dX7_loseOfCar_21 rfl (lv_at hl 0 rfl) ?_
        refine lv_iload_n hx hb dX7_loseOfCar_22 rfl (lv_at hl 1 rfl) ?_
        obtain ⟨g_23, h⟩ := gd_some h
        obtain ⟨I_23, e_I_23, h⟩ := lt_some h
        refine r_put C fr_X7_235 (Or.inl rfl) hW a_t_o0 k_t_o0 rfl (bo_n g_23) (bo_f g_23) dX7_loseOfCar_23 (fun H locs hW => ?_)
        rw [← e_I_23] at hW
        refine lv_iconst (v := 1) hx hb dX7_loseOfCar_26 (by decide) ?_
        have h := Option.some.inj h
        subst h
        exact r_zret C hW (Or.inr rfl) dX7_loseOfCar_27
      · have h := (if_pos c_16).symm.trans h
        refine lv_iconst (v := 0) hx hb dX7_loseOfCar_19 (by decide) ?_
        have h := Option.some.inj h
        subst h
        exact r_zret C hW (Or.inl rfl) dX7_loseOfCar_20
def f_X7_price (I : MI) (R : MR) (x1 : Int32) (x2 : Int32) : Option (Int32 × MI) := bd (f_X7_within I R x1 0 23) (fun z_4 => (if z_4 = 0 then (some ((-1), I)) else (bd (f_X7_within I R x2 0 99) (fun z_14 => (if z_14 = 0 then (some ((-1), I)) else (gd (ix x1 (ln 4)) (gd (ix x1 (ln 4)) (lt (p2 I 4 x1.toNatClampNeg x2) (fun I_35 => some (I 4 x1.toNatClampNeg, I_35))))))))))
set_option maxHeartbeats 4000000 in
set_option maxRecDepth 100000 in
theorem c_X7_price {l : Launch} {E : EV} {q : Nat → Nat} {al : Nat → Bool} {n : Nat} {I : MI} {R : MR} {x1 : Int32} {x2 : Int32} (a_0 : al 0 = true) (hF : Fx al R) {res : Int32 × MI} (h : f_X7_price I R x1 x2 = some res) : Ct l yX7_price cX7_price 4 (some .int) 2 0 0 E q al I R n [.ref (q 0), .int x1, .int x2] (some (.int res.1)) al res.2 R n := by
  refine Ct.of (own := RX7) (mn := "price") (by decide) rfl rfl (Nat.le_of_ble_eq_true rfl) ?_
  intro p e s m args below meth c ls C hmn hargs hW hl
  have hx := C.1
  have hb := C.2.1
  have hl : lv_has ls 4 [(0, .ref (q 0)), (1, .int x1), (2, .int x2)] := hl
  unfold f_X7_price at h
  refine lv_iload_n hx hb dX7_price_0 rfl (lv_at hl 1 rfl) ?_
  refine lv_iconst (v := 0) hx hb dX7_price_1 (by decide) ?_
  refine lv_bipush (v := 23) hx hb dX7_price_2 (by decide) ?_
  obtain ⟨z_4, e_z_4, h⟩ := bd_some h
  refine r_callS (v := (some (.int z_4))) (As := [.int x1, .int 0, .int 23]) (rest := []) C ml_X7_within gm_321 gm_322 hW hl.1 (c_X7_within  e_z_4) rfl ⟨(by decide), (by decide)⟩ ⟨(by decide), (by decide)⟩ rfl (Nat.le_of_ble_eq_true rfl) dX7_price_4 (fun H locs hW => ?_)
  refine lv_if_eq (tgt := 20) hx hb dX7_price_7 (by decide) (fun c_7 => ?_) (fun c_7 => ?_)
  · have h := (if_pos c_7).symm.trans h
    refine lv_iconst (v := (-1)) hx hb dX7_price_20 (by decide) ?_
    have h := Option.some.inj h
    subst h
    exact r_iret C hW dX7_price_21
  · have h := (if_neg c_7).symm.trans h
    refine lv_iload_n hx hb dX7_price_10 rfl (lv_at hl 2 rfl) ?_
    refine lv_iconst (v := 0) hx hb dX7_price_11 (by decide) ?_
    refine lv_bipush (v := 99) hx hb dX7_price_12 (by decide) ?_
    obtain ⟨z_14, e_z_14, h⟩ := bd_some h
    refine r_callS (v := (some (.int z_14))) (As := [.int x2, .int 0, .int 99]) (rest := []) C ml_X7_within gm_321 gm_322 hW hl.1 (c_X7_within  e_z_14) rfl ⟨(by decide), (by decide)⟩ ⟨(by decide), (by decide)⟩ rfl (Nat.le_of_ble_eq_true rfl) dX7_price_14 (fun H locs hW => ?_)
    refine lv_if_ne (tgt := 22) hx hb dX7_price_17 (by decide) (fun c_17 => ?_) (fun c_17 => ?_)
    · have h := (if_neg c_17).symm.trans h
      refine lv_aload_n hx hb dX7_price_22 rfl (lv_at hl 0 rfl) ?_
      have ap_23 : al 4 = true := hW.cl a_0 (hF _ 10 _ a_0 rfl)
      refine r_getq C fr_X7_46 hW a_0 rfl rfl (hF _ 10 _ a_0 rfl) dX7_price_23 ?_
      refine lv_iload_n hx hb dX7_price_26 rfl (lv_at hl 1 rfl) ?_
      obtain ⟨g_27, h⟩ := gd_some h
      refine r_iald C hW ap_23 rfl (ix_in g_27) dX7_price_27 ?_
      refine lv_istore_n (lv' := [(3, .int (I 4 x1.toNatClampNeg)), (0, .ref (q 0)), (1, .int x1), (2, .int x2)]) hx hb dX7_price_28 rfl hl (by decide) rfl (fun ls hl => ?_)
      refine lv_aload_n hx hb dX7_price_29 rfl (lv_at hl 1 rfl) ?_
      refine r_getq C fr_X7_46 hW a_0 rfl rfl (hF _ 10 _ a_0 rfl) dX7_price_30 ?_
      refine lv_iload_n hx hb dX7_price_33 rfl (lv_at hl 2 rfl) ?_
      refine lv_iload_n hx hb dX7_price_34 rfl (lv_at hl 3 rfl) ?_
      obtain ⟨g_35, h⟩ := gd_some h
      obtain ⟨I_35, e_I_35, h⟩ := lt_some h
      refine r_iast C hW ap_23 rfl (ix_in g_35) dX7_price_35 (fun H locs hW => ?_)
      rw [← e_I_35] at hW
      refine lv_iload_n hx hb dX7_price_36 rfl (lv_at hl 0 rfl) ?_
      have h := Option.some.inj h
      subst h
      exact r_iret C hW dX7_price_37
    · have h := (if_pos c_17).symm.trans h
      refine lv_iconst (v := (-1)) hx hb dX7_price_20 (by decide) ?_
      have h := Option.some.inj h
      subst h
      exact r_iret C hW dX7_price_21
def f_X7_reading (I : MI) (R : MR) (x1 : Int32) (x2 : Int32) : Option (Int32 × MI) := bd (f_X7_bankAt I R x1) (fun z_2 => mt z_2 (some ((-1000000), I)) (fun t_2 => bd (f_X7_within I R x2 0 400) (fun z_15 => (if z_15 = 0 then (some ((-1000000), I)) else (bd (f_X0_pressure I R t_2) (fun z_25 => lt (if 0 ≤ (z_25 - x2) then (z_25 - x2) else 0 - (z_25 - x2)) (fun v_34 => (if (I 0 9) < v_34 then (lt ((I t_2 1) - ((I t_2 0) * x2)) (fun v_57 => lt (p2 I t_2 1 ((I t_2 0) * x2)) (fun I_66 => (if (z_25 - x2) ≤ 0 then (lt (p2 I_66 10 4 ((I_66 10 4) - v_57)) (fun I_102 => some (v_57, I_102))) else (lt (p2 I_66 10 3 ((I_66 10 3) + v_57)) (fun I_85 => some (v_57, I_85))))))) else (some (0, I))))))))))
set_option maxHeartbeats 4000000 in
set_option maxRecDepth 100000 in
theorem c_X7_reading {l : Launch} {E : EV} {q : Nat → Nat} {al : Nat → Bool} {n : Nat} {I : MI} {R : MR} {x1 : Int32} {x2 : Int32} (a_0 : al 0 = true) (hF : Fx al R) {res : Int32 × MI} (h : f_X7_reading I R x1 x2 = some res) : Ct l yX7_reading cX7_reading 6 (some .int) 3 0 0 E q al I R n [.ref (q 0), .int x1, .int x2] (some (.int res.1)) al res.2 R n := by
  refine Ct.of (own := RX7) (mn := "reading") (by decide) rfl rfl (Nat.le_of_ble_eq_true rfl) ?_
  intro p e s m args below meth c ls C hmn hargs hW hl
  have hx := C.1
  have hb := C.2.1
  have hl : lv_has ls 6 [(0, .ref (q 0)), (1, .int x1), (2, .int x2)] := hl
  unfold f_X7_reading at h
  refine lv_aload_n hx hb dX7_reading_0 rfl (lv_at hl 0 rfl) ?_
  refine lv_iload_n hx hb dX7_reading_1 rfl (lv_at hl 1 rfl) ?_
  obtain ⟨z_2, e_z_2, h⟩ := bd_some h
  have hm := mt_cases h
  clear h
  rcases hm with ⟨o_2, h⟩ | ⟨t_2, o_2, h⟩
  · subst o_2
    refine r_callV (v := some .null) (As := [.int x1]) (rest := []) C ml_X7_bankAt gm_329 gm_331 gs_0 (ci := 7) rfl hW a_0 rfl hl.1 (c_X7_bankAt a_0 hF e_z_2) rfl ⟨(by decide), (by decide)⟩ ⟨(by decide), (by decide)⟩ rfl (Nat.le_of_ble_eq_true rfl) dX7_reading_2 (fun H locs hW => ?_)
    refine lv_astore_nN (lv' := [(3, .null), (0, .ref (q 0)), (1, .int x1), (2, .int x2)]) hx hb dX7_reading_5 rfl hl (by decide) rfl (fun ls hl => ?_)
    refine lv_aload_nN hx hb dX7_reading_6 rfl (lv_at hl 0 rfl) ?_
    refine lv_ifnullN (tgt := 21) hx hb dX7_reading_7 (by decide) ?_
    refine lv_ldc hx hb C.2.2.2.1 (C.2.2.2.2.1 _ gm_610) dX7_reading_21 ?_
    have h := Option.some.inj h
    subst h
    exact r_iret C hW dX7_reading_23
  · subst o_2
    have a_t_2 := (rf_X7_bankAt hW a_0 hF e_z_2).1
    have k_t_2 := (rf_X7_bankAt hW a_0 hF e_z_2).2
    refine r_callV (v := some (.ref (q t_2))) (As := [.int x1]) (rest := []) C ml_X7_bankAt gm_329 gm_331 gs_0 (ci := 7) rfl hW a_0 rfl hl.1 (c_X7_bankAt a_0 hF e_z_2) rfl ⟨(by decide), (by decide)⟩ ⟨(by decide), (by decide)⟩ rfl (Nat.le_of_ble_eq_true rfl) dX7_reading_2 (fun H locs hW => ?_)
    refine lv_astore_n (lv' := [(3, .ref (q t_2)), (0, .ref (q 0)), (1, .int x1), (2, .int x2)]) hx hb dX7_reading_5 rfl hl (by decide) rfl (fun ls hl => ?_)
    refine lv_aload_n hx hb dX7_reading_6 rfl (lv_at hl 0 rfl) ?_
    refine lv_ifnull hx hb dX7_reading_7 ?_
    refine lv_iload_n hx hb dX7_reading_10 rfl (lv_at hl 3 rfl) ?_
    refine lv_iconst (v := 0) hx hb dX7_reading_11 (by decide) ?_
    refine lv_sipush (v := 400) hx hb dX7_reading_12 (by decide) ?_
    obtain ⟨z_15, e_z_15, h⟩ := bd_some h
    refine r_callS (v := (some (.int z_15))) (As := [.int x2, .int 0, .int 400]) (rest := []) C ml_X7_within gm_321 gm_322 hW hl.1 (c_X7_within  e_z_15) rfl ⟨(by decide), (by decide)⟩ ⟨(by decide), (by decide)⟩ rfl (Nat.le_of_ble_eq_true rfl) dX7_reading_15 (fun H locs hW => ?_)
    refine lv_if_ne (tgt := 24) hx hb dX7_reading_18 (by decide) (fun c_18 => ?_) (fun c_18 => ?_)
    · have h := (if_neg c_18).symm.trans h
      refine lv_aload_n hx hb dX7_reading_24 rfl (lv_at hl 0 rfl) ?_
      obtain ⟨z_25, e_z_25, h⟩ := bd_some h
      refine r_callV (v := (some (.int z_25))) (As := []) (rest := []) C ml_X0_pressure gm_611 gm_553 gm_554 (ci := 0) rfl hW a_t_2 k_t_2 hl.1 (c_X0_pressure a_t_2 k_t_2 e_z_25) rfl ⟨(by decide), (by decide)⟩ ⟨(by decide), (by decide)⟩ rfl (Nat.le_of_ble_eq_true rfl) dX7_reading_25 (fun H locs hW => ?_)
      refine lv_iload_n hx hb dX7_reading_28 rfl (lv_at hl 3 rfl) ?_
      refine lv_isub hx hb dX7_reading_29 ?_
      refine lv_istore (lv' := [(4, .int (z_25 - x2)), (3, .ref (q t_2)), (0, .ref (q 0)), (1, .int x1), (2, .int x2)]) hx hb dX7_reading_30 hl (by decide) rfl (fun ls hl => ?_)
      refine lv_iload hx hb dX7_reading_32 (lv_at hl 0 rfl) ?_
      obtain ⟨v_34, e_v_34, h⟩ := lt_some h
      refine r_abs C gm_612 gm_613 gm_14 gm_614 hl.1 ⟨Nat.le_of_ble_eq_true rfl, Nat.le_of_ble_eq_true rfl, Nat.le_of_ble_eq_true rfl, Nat.le_of_ble_eq_true rfl⟩ dX7_reading_34 ?_
      rw [← e_v_34]
      refine lv_aload_n hx hb dX7_reading_37 rfl (lv_at hl 2 rfl) ?_
      refine r_get C fr_X7_43 hW a_0 rfl rfl dX7_reading_38 ?_
      refine lv_icmp_gt (tgt := 46) hx hb dX7_reading_41 (by decide) (fun c_41 => ?_) (fun c_41 => ?_)
      · have h := (if_pos c_41).symm.trans h
        refine lv_aload_n hx hb dX7_reading_46 rfl (lv_at hl 1 rfl) ?_
        refine r_get C fr_X7_102 hW a_t_2 k_t_2 rfl dX7_reading_47 ?_
        refine lv_aload_n hx hb dX7_reading_50 rfl (lv_at hl 1 rfl) ?_
        refine r_get C fr_X7_99 hW a_t_2 k_t_2 rfl dX7_reading_51 ?_
        refine lv_iload_n hx hb dX7_reading_54 rfl (lv_at hl 4 rfl) ?_
        refine lv_imul hx hb dX7_reading_55 ?_
        refine lv_isub hx hb dX7_reading_56 ?_
        obtain ⟨v_57, e_v_57, h⟩ := lt_some h
        rw [← e_v_57]
        refine lv_istore (lv' := [(5, .int v_57), (4, .int (z_25 - x2)), (3, .ref (q t_2)), (0, .ref (q 0)), (1, .int x1), (2, .int x2)]) hx hb dX7_reading_57 hl (by decide) rfl (fun ls hl => ?_)
        refine lv_aload_n hx hb dX7_reading_59 rfl (lv_at hl 2 rfl) ?_
        refine lv_aload_n hx hb dX7_reading_60 rfl (lv_at hl 2 rfl) ?_
        refine r_get C fr_X7_99 hW a_t_2 k_t_2 rfl dX7_reading_61 ?_
        refine lv_iload_n hx hb dX7_reading_64 rfl (lv_at hl 5 rfl) ?_
        refine lv_imul hx hb dX7_reading_65 ?_
        obtain ⟨I_66, e_I_66, h⟩ := lt_some h
        refine r_put C fr_X7_102 (Or.inl rfl) hW a_t_2 k_t_2 rfl rfl rfl dX7_reading_66 (fun H locs hW => ?_)
        rw [← e_I_66] at hW
        refine lv_iload hx hb dX7_reading_69 (lv_at hl 1 rfl) ?_
        refine lv_if_le (tgt := 91) hx hb dX7_reading_71 (by decide) (fun c_71 => ?_) (fun c_71 => ?_)
        · have h := (if_pos c_71).symm.trans h
          refine lv_aload_n hx hb dX7_reading_91 rfl (lv_at hl 3 rfl) ?_
          have ap_92 : al 10 = true := hW.cl a_0 (hF _ 14 _ a_0 rfl)
          refine r_getq C fr_X7_73 hW a_0 rfl rfl (hF _ 14 _ a_0 rfl) dX7_reading_92 ?_
          refine lv_dup hx hb dX7_reading_95 rfl ?_
          refine r_get C fr_X7_178 hW ap_92 rfl rfl dX7_reading_96 ?_
          refine lv_iload hx hb dX7_reading_99 (lv_at hl 0 rfl) ?_
          refine lv_isub hx hb dX7_reading_101 ?_
          obtain ⟨I_102, e_I_102, h⟩ := lt_some h
          refine r_put C fr_X7_178 (Or.inl rfl) hW ap_92 rfl rfl rfl rfl dX7_reading_102 (fun H locs hW => ?_)
          rw [← e_I_102] at hW
          refine lv_iload hx hb dX7_reading_105 (lv_at hl 0 rfl) ?_
          have h := Option.some.inj h
          subst h
          exact r_iret C hW dX7_reading_107
        · have h := (if_neg c_71).symm.trans h
          refine lv_aload_n hx hb dX7_reading_74 rfl (lv_at hl 3 rfl) ?_
          have ap_75 : al 10 = true := hW.cl a_0 (hF _ 14 _ a_0 rfl)
          refine r_getq C fr_X7_73 hW a_0 rfl rfl (hF _ 14 _ a_0 rfl) dX7_reading_75 ?_
          refine lv_dup hx hb dX7_reading_78 rfl ?_
          refine r_get C fr_X7_175 hW ap_75 rfl rfl dX7_reading_79 ?_
          refine lv_iload hx hb dX7_reading_82 (lv_at hl 0 rfl) ?_
          refine lv_iadd hx hb dX7_reading_84 ?_
          obtain ⟨I_85, e_I_85, h⟩ := lt_some h
          refine r_put C fr_X7_175 (Or.inl rfl) hW ap_75 rfl rfl rfl rfl dX7_reading_85 (fun H locs hW => ?_)
          rw [← e_I_85] at hW
          refine lv_goto (tgt := 105) hx hb dX7_reading_88 (by decide) ?_
          refine lv_iload hx hb dX7_reading_105 (lv_at hl 0 rfl) ?_
          have h := Option.some.inj h
          subst h
          exact r_iret C hW dX7_reading_107
      · have h := (if_neg c_41).symm.trans h
        refine lv_iconst (v := 0) hx hb dX7_reading_44 (by decide) ?_
        have h := Option.some.inj h
        subst h
        exact r_iret C hW dX7_reading_45
    · have h := (if_pos c_18).symm.trans h
      refine lv_ldc hx hb C.2.2.2.1 (C.2.2.2.2.1 _ gm_610) dX7_reading_21 ?_
      have h := Option.some.inj h
      subst h
      exact r_iret C hW dX7_reading_23
def f_X7_sensor (I : MI) (R : MR) (x1 : Int32) (x2 : Int32) (x3 : Int32) : Option (Int32 × MI) := (if x1 = 0 then (bd (f_X7_bankAt I R x2) (fun z_6 => mt z_6 (bd (f_X7_loseOfBank I R none x3) (fun z_10 => gd (z_10.1 = 0 ∨ z_10.1 = 1) (some (z_10.1, z_10.2)))) (fun t_6 => bd (f_X7_loseOfBank I R (some t_6) x3) (fun z_10 => gd (z_10.1 = 0 ∨ z_10.1 = 1) (some (z_10.1, z_10.2)))))) else ((if x1 = 1 then (bd (f_X7_carAt I R x2) (fun z_21 => mt z_21 (bd (f_X7_loseOfCar I R none x3) (fun z_25 => (if z_25.1 = 0 then (some (0, z_25.2)) else (some (1, z_25.2))))) (fun t_21 => bd (f_X7_loseOfCar I R (some t_21) x3) (fun z_25 => (if z_25.1 = 0 then (some (0, z_25.2)) else (some (1, z_25.2))))))) else (some (0, I)))))
set_option maxHeartbeats 4000000 in
set_option maxRecDepth 100000 in
theorem c_X7_sensor {l : Launch} {E : EV} {q : Nat → Nat} {al : Nat → Bool} {n : Nat} {I : MI} {R : MR} {x1 : Int32} {x2 : Int32} {x3 : Int32} (a_0 : al 0 = true) (hF : Fx al R) {res : Int32 × MI} (h : f_X7_sensor I R x1 x2 x3 = some res) : Ct l yX7_sensor cX7_sensor 4 (some .boolean) 3 0 0 E q al I R n [.ref (q 0), .int x1, .int x2, .int x3] (some (.int res.1)) al res.2 R n := by
  refine Ct.of (own := RX7) (mn := "sensor") (by decide) rfl rfl (Nat.le_of_ble_eq_true rfl) ?_
  intro p e s m args below meth c ls C hmn hargs hW hl
  have hx := C.1
  have hb := C.2.1
  have hl : lv_has ls 4 [(0, .ref (q 0)), (1, .int x1), (2, .int x2), (3, .int x3)] := hl
  unfold f_X7_sensor at h
  refine lv_iload_n hx hb dX7_sensor_0 rfl (lv_at hl 1 rfl) ?_
  refine lv_if_ne (tgt := 14) hx hb dX7_sensor_1 (by decide) (fun c_1 => ?_) (fun c_1 => ?_)
  · have h := (if_neg c_1).symm.trans h
    refine lv_iload_n hx hb dX7_sensor_14 rfl (lv_at hl 1 rfl) ?_
    refine lv_iconst (v := 1) hx hb dX7_sensor_15 (by decide) ?_
    refine lv_icmp_ne (tgt := 35) hx hb dX7_sensor_16 (by decide) (fun c_16 => ?_) (fun c_16 => ?_)
    · have h := (if_neg c_16).symm.trans h
      refine lv_iconst (v := 0) hx hb dX7_sensor_35 (by decide) ?_
      have h := Option.some.inj h
      subst h
      exact r_zret C hW (Or.inl rfl) dX7_sensor_36
    · have h := (if_pos c_16).symm.trans h
      refine lv_aload_n hx hb dX7_sensor_19 rfl (lv_at hl 0 rfl) ?_
      refine lv_iload_n hx hb dX7_sensor_20 rfl (lv_at hl 2 rfl) ?_
      obtain ⟨z_21, e_z_21, h⟩ := bd_some h
      have hm := mt_cases h
      clear h
      rcases hm with ⟨o_21, h⟩ | ⟨t_21, o_21, h⟩
      · subst o_21
        refine r_callV (v := some .null) (As := [.int x2]) (rest := []) C ml_X7_carAt gm_505 gm_507 gs_12 (ci := 7) rfl hW a_0 rfl hl.1 (c_X7_carAt a_0 hF e_z_21) rfl ⟨(by decide), (by decide)⟩ ⟨(by decide), (by decide)⟩ rfl (Nat.le_of_ble_eq_true rfl) dX7_sensor_21 (fun H locs hW => ?_)
        refine lv_iload_n hx hb dX7_sensor_24 rfl (lv_at hl 3 rfl) ?_
        obtain ⟨z_25, e_z_25, h⟩ := bd_some h
        refine r_callS (v := (some (.int z_25.1))) (As := [.null, .int x3]) (rest := []) C ml_X7_loseOfCar gm_509 gm_510 hW hl.1 (c_X7_loseOfCar (fun _ hh => by cases hh) e_z_25) rfl ⟨(by decide), (by decide)⟩ ⟨(by decide), (by decide)⟩ rfl (Nat.le_of_ble_eq_true rfl) dX7_sensor_25 (fun H locs hW => ?_)
        refine lv_if_eq (tgt := 35) hx hb dX7_sensor_28 (by decide) (fun c_28 => ?_) (fun c_28 => ?_)
        · have h := (if_pos c_28).symm.trans h
          refine lv_iconst (v := 0) hx hb dX7_sensor_35 (by decide) ?_
          have h := Option.some.inj h
          subst h
          exact r_zret C hW (Or.inl rfl) dX7_sensor_36
        · have h := (if_neg c_28).symm.trans h
          refine lv_iconst (v := 1) hx hb dX7_sensor_31 (by decide) ?_
          refine lv_goto (tgt := 36) hx hb dX7_sensor_32 (by decide) ?_
          have h := Option.some.inj h
          subst h
          exact r_zret C hW (Or.inr rfl) dX7_sensor_36
      · subst o_21
        have a_t_21 := (rf_X7_carAt hW a_0 hF e_z_21).1
        have k_t_21 := (rf_X7_carAt hW a_0 hF e_z_21).2
        refine r_callV (v := some (.ref (q t_21))) (As := [.int x2]) (rest := []) C ml_X7_carAt gm_505 gm_507 gs_12 (ci := 7) rfl hW a_0 rfl hl.1 (c_X7_carAt a_0 hF e_z_21) rfl ⟨(by decide), (by decide)⟩ ⟨(by decide), (by decide)⟩ rfl (Nat.le_of_ble_eq_true rfl) dX7_sensor_21 (fun H locs hW => ?_)
        refine lv_iload_n hx hb dX7_sensor_24 rfl (lv_at hl 3 rfl) ?_
        obtain ⟨z_25, e_z_25, h⟩ := bd_some h
        refine r_callS (v := (some (.int z_25.1))) (As := [.ref (q t_21), .int x3]) (rest := []) C ml_X7_loseOfCar gm_509 gm_510 hW hl.1 (c_X7_loseOfCar (fun _ hh => by cases hh; exact ⟨a_t_21, k_t_21⟩) e_z_25) rfl ⟨(by decide), (by decide)⟩ ⟨(by decide), (by decide)⟩ rfl (Nat.le_of_ble_eq_true rfl) dX7_sensor_25 (fun H locs hW => ?_)
        refine lv_if_eq (tgt := 35) hx hb dX7_sensor_28 (by decide) (fun c_28 => ?_) (fun c_28 => ?_)
        · have h := (if_pos c_28).symm.trans h
          refine lv_iconst (v := 0) hx hb dX7_sensor_35 (by decide) ?_
          have h := Option.some.inj h
          subst h
          exact r_zret C hW (Or.inl rfl) dX7_sensor_36
        · have h := (if_neg c_28).symm.trans h
          refine lv_iconst (v := 1) hx hb dX7_sensor_31 (by decide) ?_
          refine lv_goto (tgt := 36) hx hb dX7_sensor_32 (by decide) ?_
          have h := Option.some.inj h
          subst h
          exact r_zret C hW (Or.inr rfl) dX7_sensor_36
  · have h := (if_pos c_1).symm.trans h
    refine lv_aload_n hx hb dX7_sensor_4 rfl (lv_at hl 0 rfl) ?_
    refine lv_iload_n hx hb dX7_sensor_5 rfl (lv_at hl 2 rfl) ?_
    obtain ⟨z_6, e_z_6, h⟩ := bd_some h
    have hm := mt_cases h
    clear h
    rcases hm with ⟨o_6, h⟩ | ⟨t_6, o_6, h⟩
    · subst o_6
      refine r_callV (v := some .null) (As := [.int x2]) (rest := []) C ml_X7_bankAt gm_329 gm_331 gs_0 (ci := 7) rfl hW a_0 rfl hl.1 (c_X7_bankAt a_0 hF e_z_6) rfl ⟨(by decide), (by decide)⟩ ⟨(by decide), (by decide)⟩ rfl (Nat.le_of_ble_eq_true rfl) dX7_sensor_6 (fun H locs hW => ?_)
      refine lv_iload_n hx hb dX7_sensor_9 rfl (lv_at hl 3 rfl) ?_
      obtain ⟨z_10, e_z_10, h⟩ := bd_some h
      refine r_callS (v := (some (.int z_10.1))) (As := [.null, .int x3]) (rest := []) C ml_X7_loseOfBank gm_502 gm_503 hW hl.1 (c_X7_loseOfBank (fun _ hh => by cases hh) e_z_10) rfl ⟨(by decide), (by decide)⟩ ⟨(by decide), (by decide)⟩ rfl (Nat.le_of_ble_eq_true rfl) dX7_sensor_10 (fun H locs hW => ?_)
      obtain ⟨g_13, h⟩ := gd_some h
      have h := Option.some.inj h
      subst h
      exact r_zret C hW g_13 dX7_sensor_13
    · subst o_6
      have a_t_6 := (rf_X7_bankAt hW a_0 hF e_z_6).1
      have k_t_6 := (rf_X7_bankAt hW a_0 hF e_z_6).2
      refine r_callV (v := some (.ref (q t_6))) (As := [.int x2]) (rest := []) C ml_X7_bankAt gm_329 gm_331 gs_0 (ci := 7) rfl hW a_0 rfl hl.1 (c_X7_bankAt a_0 hF e_z_6) rfl ⟨(by decide), (by decide)⟩ ⟨(by decide), (by decide)⟩ rfl (Nat.le_of_ble_eq_true rfl) dX7_sensor_6 (fun H locs hW => ?_)
      refine lv_iload_n hx hb dX7_sensor_9 rfl (lv_at hl 3 rfl) ?_
      obtain ⟨z_10, e_z_10, h⟩ := bd_some h
      refine r_callS (v := (some (.int z_10.1))) (As := [.ref (q t_6), .int x3]) (rest := []) C ml_X7_loseOfBank gm_502 gm_503 hW hl.1 (c_X7_loseOfBank (fun _ hh => by cases hh; exact ⟨a_t_6, k_t_6⟩) e_z_10) rfl ⟨(by decide), (by decide)⟩ ⟨(by decide), (by decide)⟩ rfl (Nat.le_of_ble_eq_true rfl) dX7_sensor_10 (fun H locs hW => ?_)
      obtain ⟨g_13, h⟩ := gd_some h
      have h := Option.some.inj h
      subst h
      exact r_zret C hW g_13 dX7_sensor_13
def f_X7_slip (I : MI) (R : MR) (x1 : Int32) : Option (Int32 × MI) := bd (f_X7_within I R x1 0 50) (fun z_4 => (if z_4 = 0 then (some ((-1), I)) else (lt (p2 I 0 9 x1) (fun I_19 => some (I 0 9, I_19)))))
set_option maxHeartbeats 4000000 in
set_option maxRecDepth 100000 in
theorem c_X7_slip {l : Launch} {E : EV} {q : Nat → Nat} {al : Nat → Bool} {n : Nat} {I : MI} {R : MR} {x1 : Int32} (a_0 : al 0 = true) {res : Int32 × MI} (h : f_X7_slip I R x1 = some res) : Ct l yX7_slip cX7_slip 3 (some .int) 2 0 0 E q al I R n [.ref (q 0), .int x1] (some (.int res.1)) al res.2 R n := by
  refine Ct.of (own := RX7) (mn := "slip") (by decide) rfl rfl (Nat.le_of_ble_eq_true rfl) ?_
  intro p e s m args below meth c ls C hmn hargs hW hl
  have hx := C.1
  have hb := C.2.1
  have hl : lv_has ls 3 [(0, .ref (q 0)), (1, .int x1)] := hl
  unfold f_X7_slip at h
  refine lv_iload_n hx hb dX7_slip_0 rfl (lv_at hl 1 rfl) ?_
  refine lv_iconst (v := 0) hx hb dX7_slip_1 (by decide) ?_
  refine lv_bipush (v := 50) hx hb dX7_slip_2 (by decide) ?_
  obtain ⟨z_4, e_z_4, h⟩ := bd_some h
  refine r_callS (v := (some (.int z_4))) (As := [.int x1, .int 0, .int 50]) (rest := []) C ml_X7_within gm_321 gm_322 hW hl.1 (c_X7_within  e_z_4) rfl ⟨(by decide), (by decide)⟩ ⟨(by decide), (by decide)⟩ rfl (Nat.le_of_ble_eq_true rfl) dX7_slip_4 (fun H locs hW => ?_)
  refine lv_if_ne (tgt := 12) hx hb dX7_slip_7 (by decide) (fun c_7 => ?_) (fun c_7 => ?_)
  · have h := (if_neg c_7).symm.trans h
    refine lv_aload_n hx hb dX7_slip_12 rfl (lv_at hl 0 rfl) ?_
    refine r_get C fr_X7_43 hW a_0 rfl rfl dX7_slip_13 ?_
    refine lv_istore_n (lv' := [(2, .int (I 0 9)), (0, .ref (q 0)), (1, .int x1)]) hx hb dX7_slip_16 rfl hl (by decide) rfl (fun ls hl => ?_)
    refine lv_aload_n hx hb dX7_slip_17 rfl (lv_at hl 1 rfl) ?_
    refine lv_iload_n hx hb dX7_slip_18 rfl (lv_at hl 2 rfl) ?_
    obtain ⟨I_19, e_I_19, h⟩ := lt_some h
    refine r_put C fr_X7_43 (Or.inl rfl) hW a_0 rfl rfl rfl rfl dX7_slip_19 (fun H locs hW => ?_)
    rw [← e_I_19] at hW
    refine lv_iload_n hx hb dX7_slip_22 rfl (lv_at hl 0 rfl) ?_
    have h := Option.some.inj h
    subst h
    exact r_iret C hW dX7_slip_23
  · have h := (if_pos c_7).symm.trans h
    refine lv_iconst (v := (-1)) hx hb dX7_slip_10 (by decide) ?_
    have h := Option.some.inj h
    subst h
    exact r_iret C hW dX7_slip_11
def f_X7_target (I : MI) (R : MR) (x1 : Int32) (x2 : Int32) : Option (Int32 × MI) := bd (f_X7_bankAt I R x1) (fun z_2 => mt z_2 (some ((-1), I)) (fun t_2 => bd (f_X7_within I R x2 0 400) (fun z_15 => (if z_15 = 0 then (some ((-1), I)) else (lt (p2 I t_2 2 x2) (fun I_31 => some (I t_2 2, I_31)))))))
set_option maxHeartbeats 4000000 in
set_option maxRecDepth 100000 in
theorem c_X7_target {l : Launch} {E : EV} {q : Nat → Nat} {al : Nat → Bool} {n : Nat} {I : MI} {R : MR} {x1 : Int32} {x2 : Int32} (a_0 : al 0 = true) (hF : Fx al R) {res : Int32 × MI} (h : f_X7_target I R x1 x2 = some res) : Ct l yX7_target cX7_target 5 (some .int) 3 0 0 E q al I R n [.ref (q 0), .int x1, .int x2] (some (.int res.1)) al res.2 R n := by
  refine Ct.of (own := RX7) (mn := "target") (by decide) rfl rfl (Nat.le_of_ble_eq_true rfl) ?_
  intro p e s m args below meth c ls C hmn hargs hW hl
  have hx := C.1
  have hb := C.2.1
  have hl : lv_has ls 5 [(0, .ref (q 0)), (1, .int x1), (2, .int x2)] := hl
  unfold f_X7_target at h
  refine lv_aload_n hx hb dX7_target_0 rfl (lv_at hl 0 rfl) ?_
  refine lv_iload_n hx hb dX7_target_1 rfl (lv_at hl 1 rfl) ?_
  obtain ⟨z_2, e_z_2, h⟩ := bd_some h
  have hm := mt_cases h
  clear h
  rcases hm with ⟨o_2, h⟩ | ⟨t_2, o_2, h⟩
  · subst o_2
    refine r_callV (v := some .null) (As := [.int x1]) (rest := []) C ml_X7_bankAt gm_329 gm_331 gs_0 (ci := 7) rfl hW a_0 rfl hl.1 (c_X7_bankAt a_0 hF e_z_2) rfl ⟨(by decide), (by decide)⟩ ⟨(by decide), (by decide)⟩ rfl (Nat.le_of_ble_eq_true rfl) dX7_target_2 (fun H locs hW => ?_)
    refine lv_astore_nN (lv' := [(3, .null), (0, .ref (q 0)), (1, .int x1), (2, .int x2)]) hx hb dX7_target_5 rfl hl (by decide) rfl (fun ls hl => ?_)
    refine lv_aload_nN hx hb dX7_target_6 rfl (lv_at hl 0 rfl) ?_
    refine lv_ifnullN (tgt := 21) hx hb dX7_target_7 (by decide) ?_
    refine lv_iconst (v := (-1)) hx hb dX7_target_21 (by decide) ?_
    have h := Option.some.inj h
    subst h
    exact r_iret C hW dX7_target_22
  · subst o_2
    have a_t_2 := (rf_X7_bankAt hW a_0 hF e_z_2).1
    have k_t_2 := (rf_X7_bankAt hW a_0 hF e_z_2).2
    refine r_callV (v := some (.ref (q t_2))) (As := [.int x1]) (rest := []) C ml_X7_bankAt gm_329 gm_331 gs_0 (ci := 7) rfl hW a_0 rfl hl.1 (c_X7_bankAt a_0 hF e_z_2) rfl ⟨(by decide), (by decide)⟩ ⟨(by decide), (by decide)⟩ rfl (Nat.le_of_ble_eq_true rfl) dX7_target_2 (fun H locs hW => ?_)
    refine lv_astore_n (lv' := [(3, .ref (q t_2)), (0, .ref (q 0)), (1, .int x1), (2, .int x2)]) hx hb dX7_target_5 rfl hl (by decide) rfl (fun ls hl => ?_)
    refine lv_aload_n hx hb dX7_target_6 rfl (lv_at hl 0 rfl) ?_
    refine lv_ifnull hx hb dX7_target_7 ?_
    refine lv_iload_n hx hb dX7_target_10 rfl (lv_at hl 3 rfl) ?_
    refine lv_iconst (v := 0) hx hb dX7_target_11 (by decide) ?_
    refine lv_sipush (v := 400) hx hb dX7_target_12 (by decide) ?_
    obtain ⟨z_15, e_z_15, h⟩ := bd_some h
    refine r_callS (v := (some (.int z_15))) (As := [.int x2, .int 0, .int 400]) (rest := []) C ml_X7_within gm_321 gm_322 hW hl.1 (c_X7_within  e_z_15) rfl ⟨(by decide), (by decide)⟩ ⟨(by decide), (by decide)⟩ rfl (Nat.le_of_ble_eq_true rfl) dX7_target_15 (fun H locs hW => ?_)
    refine lv_if_ne (tgt := 23) hx hb dX7_target_18 (by decide) (fun c_18 => ?_) (fun c_18 => ?_)
    · have h := (if_neg c_18).symm.trans h
      refine lv_aload_n hx hb dX7_target_23 rfl (lv_at hl 0 rfl) ?_
      refine r_get C fr_X7_105 hW a_t_2 k_t_2 rfl dX7_target_24 ?_
      refine lv_istore (lv' := [(4, .int (I t_2 2)), (3, .ref (q t_2)), (0, .ref (q 0)), (1, .int x1), (2, .int x2)]) hx hb dX7_target_27 hl (by decide) rfl (fun ls hl => ?_)
      refine lv_aload_n hx hb dX7_target_29 rfl (lv_at hl 1 rfl) ?_
      refine lv_iload_n hx hb dX7_target_30 rfl (lv_at hl 4 rfl) ?_
      obtain ⟨I_31, e_I_31, h⟩ := lt_some h
      refine r_put C fr_X7_105 (Or.inl rfl) hW a_t_2 k_t_2 rfl rfl rfl dX7_target_31 (fun H locs hW => ?_)
      rw [← e_I_31] at hW
      refine lv_iload hx hb dX7_target_34 (lv_at hl 0 rfl) ?_
      have h := Option.some.inj h
      subst h
      exact r_iret C hW dX7_target_36
    · have h := (if_pos c_18).symm.trans h
      refine lv_iconst (v := (-1)) hx hb dX7_target_21 (by decide) ?_
      have h := Option.some.inj h
      subst h
      exact r_iret C hW dX7_target_22
def f_X7_coolCars_2  : Nat → MI → MR → Int32 → Option (MI)
  | 0, _, _, _ => none
  | nn + 1, I, R, x1 => (if (I 0 3) ≤ x1 then (some (I)) else (bd (f_X7_carAt I R x1) (fun z_12 => mt z_12 (f_X7_coolCars_2 nn I R (x1 + 1)) (fun t_12 => bd (f_X2_isHere I R t_12) (fun z_21 => (if z_21 = 0 then (f_X7_coolCars_2 nn I R (x1 + 1)) else (bd (R 0 16) (fun z_28 => bd (f_X7_airTenths I R) (fun z_33 => bd (f_X5_coolDown I R z_28 t_12 z_33) (fun z_36 => f_X7_coolCars_2 nn z_36 R (x1 + 1)))))))))))
set_option maxHeartbeats 4000000 in
set_option maxRecDepth 100000 in
theorem t_X7_coolCars_2 {p : Program} {l : Launch} {e : Env} {s : State} {m : MethodId} {args : Array Value} {below : List Frame} {meth : Method} {c : Code} {E : EV} {q : Nat → Nat} {al : Nat → Bool} {n : Nat} (C : CX p s m args meth c E cX7_coolCars RX7 3 none) {res : MI}   : ∀ (nn : Nat) {I : MI} {R : MR} {x1 : Int32} {H : Heap} {locs : List Loc} {ls : Array Slot} (a_0 : al 0 = true) (h : f_X7_coolCars_2 nn I R x1 = some res) (hW : Wd E q al s.heap I R n H locs) (hF : Fx al R) (hl : lv_has ls 3 [(0, .ref (q 0)), (1, .int x1)]), W p l e (rmL 3 0 0) s m args below meth c H locs 0 0 (MQ below (Pst E q none al res R n) args s 0 0 (Bs E)) (F0 m 2 ls []) := by
  have hx := C.1
  have hb := C.2.1
  intro nn
  induction nn with
  | zero =>
    intro I R x1 H locs ls a_0 h
    cases (show (none : Option (MI)) = some res from h)
  | succ nn ih =>
    intro I R x1 H locs ls a_0 h hW hF hl
    rw [f_X7_coolCars_2.eq_2] at h
    refine lv_iload_n hx hb dX7_coolCars_2 rfl (lv_at hl 1 rfl) ?_
    refine lv_aload_n hx hb dX7_coolCars_3 rfl (lv_at hl 0 rfl) ?_
    refine r_get C fr_X7_25 hW a_0 rfl rfl dX7_coolCars_4 ?_
    refine lv_icmp_ge (tgt := 45) hx hb dX7_coolCars_7 (by decide) (fun c_7 => ?_) (fun c_7 => ?_)
    · have h := (if_pos c_7).symm.trans h
      have h := Option.some.inj h
      subst h
      exact r_vret C hW dX7_coolCars_45
    · have h := (if_neg c_7).symm.trans h
      refine lv_aload_n hx hb dX7_coolCars_10 rfl (lv_at hl 0 rfl) ?_
      refine lv_iload_n hx hb dX7_coolCars_11 rfl (lv_at hl 1 rfl) ?_
      obtain ⟨z_12, e_z_12, h⟩ := bd_some h
      have hm := mt_cases h
      clear h
      rcases hm with ⟨o_12, h⟩ | ⟨t_12, o_12, h⟩
      · subst o_12
        refine r_callV (v := some .null) (As := [.int x1]) (rest := []) C ml_X7_carAt gm_505 gm_507 gs_12 (ci := 7) rfl hW a_0 rfl hl.1 (c_X7_carAt a_0 hF e_z_12) rfl ⟨(by decide), (by decide)⟩ ⟨(by decide), (by decide)⟩ rfl (Nat.le_of_ble_eq_true rfl) dX7_coolCars_12 (fun H locs hW => ?_)
        refine lv_astore_nN (lv' := [(2, .null), (0, .ref (q 0)), (1, .int x1)]) hx hb dX7_coolCars_15 rfl hl (by decide) rfl (fun ls hl => ?_)
        refine lv_aload_nN hx hb dX7_coolCars_16 rfl (lv_at hl 0 rfl) ?_
        refine lv_ifnullN (tgt := 39) hx hb dX7_coolCars_17 (by decide) ?_
        refine lv_iinc (v := x1 + 1) (lv' := [(1, .int (x1 + 1)), (2, .null), (0, .ref (q 0))]) hx hb dX7_coolCars_39 hl (k := 2) rfl rfl (by decide) rfl (fun ls hl => ?_)
        refine lv_goto (tgt := 2) hx hb dX7_coolCars_42 (by decide) ?_
        exact ih a_0 h hW hF (lv_sub hl [2, 0] rfl)
      · subst o_12
        have a_t_12 := (rf_X7_carAt hW a_0 hF e_z_12).1
        have k_t_12 := (rf_X7_carAt hW a_0 hF e_z_12).2
        refine r_callV (v := some (.ref (q t_12))) (As := [.int x1]) (rest := []) C ml_X7_carAt gm_505 gm_507 gs_12 (ci := 7) rfl hW a_0 rfl hl.1 (c_X7_carAt a_0 hF e_z_12) rfl ⟨(by decide), (by decide)⟩ ⟨(by decide), (by decide)⟩ rfl (Nat.le_of_ble_eq_true rfl) dX7_coolCars_12 (fun H locs hW => ?_)
        refine lv_astore_n (lv' := [(2, .ref (q t_12)), (0, .ref (q 0)), (1, .int x1)]) hx hb dX7_coolCars_15 rfl hl (by decide) rfl (fun ls hl => ?_)
        refine lv_aload_n hx hb dX7_coolCars_16 rfl (lv_at hl 0 rfl) ?_
        refine lv_ifnull hx hb dX7_coolCars_17 ?_
        refine lv_aload_n hx hb dX7_coolCars_20 rfl (lv_at hl 0 rfl) ?_
        obtain ⟨z_21, e_z_21, h⟩ := bd_some h
        refine r_callV (v := (some (.int z_21))) (As := []) (rest := []) C ml_X2_isHere gm_512 gm_513 gm_514 (ci := 2) rfl hW a_t_12 k_t_12 hl.1 (c_X2_isHere a_t_12 k_t_12 e_z_21) rfl ⟨(by decide), (by decide)⟩ ⟨(by decide), (by decide)⟩ rfl (Nat.le_of_ble_eq_true rfl) dX7_coolCars_21 (fun H locs hW => ?_)
        refine lv_if_eq (tgt := 39) hx hb dX7_coolCars_24 (by decide) (fun c_24 => ?_) (fun c_24 => ?_)
        · have h := (if_pos c_24).symm.trans h
          refine lv_iinc (v := x1 + 1) (lv' := [(1, .int (x1 + 1)), (2, .ref (q t_12)), (0, .ref (q 0))]) hx hb dX7_coolCars_39 hl (k := 2) rfl rfl (by decide) rfl (fun ls hl => ?_)
          refine lv_goto (tgt := 2) hx hb dX7_coolCars_42 (by decide) ?_
          exact ih a_0 h hW hF (lv_sub hl [2, 0] rfl)
        · have h := (if_neg c_24).symm.trans h
          refine lv_aload_n hx hb dX7_coolCars_27 rfl (lv_at hl 1 rfl) ?_
          obtain ⟨z_28, e_z_28, h⟩ := bd_some h
          have a_z_28 : al z_28 = true := hW.cl a_0 e_z_28
          have k_z_28 : kd z_28 = 5 := hW.kn a_0 e_z_28 (by rfl)
          refine r_getq C fr_X7_87 hW a_0 rfl rfl e_z_28 dX7_coolCars_28 ?_
          refine lv_aload_n hx hb dX7_coolCars_31 rfl (lv_at hl 0 rfl) ?_
          refine lv_aload_n hx hb dX7_coolCars_32 rfl (lv_at hl 1 rfl) ?_
          obtain ⟨z_33, e_z_33, h⟩ := bd_some h
          refine r_callV (v := (some (.int z_33))) (As := []) (rest := [.ref (q t_12), .ref (q z_28)]) C ml_X7_airTenths gm_524 gm_526 gs_13 (ci := 7) rfl hW a_0 rfl hl.1 (c_X7_airTenths a_0 e_z_33) rfl ⟨(by decide), (by decide)⟩ ⟨(by decide), (by decide)⟩ rfl (Nat.le_of_ble_eq_true rfl) dX7_coolCars_33 (fun H locs hW => ?_)
          obtain ⟨z_36, e_z_36, h⟩ := bd_some h
          refine r_callV (v := none) (As := [.ref (q t_12), .int z_33]) (rest := []) C ml_X5_coolDown gm_588 gm_589 gm_590 (ci := 5) rfl hW a_z_28 k_z_28 hl.1 (c_X5_coolDown a_z_28 k_z_28 a_t_12 k_t_12 e_z_36) rfl ⟨(by decide), (by decide)⟩ ⟨(by decide), (by decide)⟩ rfl (Nat.le_of_ble_eq_true rfl) dX7_coolCars_36 (fun H locs hW => ?_)
          refine lv_iinc (v := x1 + 1) (lv' := [(1, .int (x1 + 1)), (2, .ref (q t_12)), (0, .ref (q 0))]) hx hb dX7_coolCars_39 hl (k := 2) rfl rfl (by decide) rfl (fun ls hl => ?_)
          refine lv_goto (tgt := 2) hx hb dX7_coolCars_42 (by decide) ?_
          exact ih a_0 h hW hF (lv_sub hl [2, 0] rfl)
def f_X7_coolCars (I : MI) (R : MR) : Option (MI) := f_X7_coolCars_2 1000000 I R 0
set_option maxHeartbeats 4000000 in
set_option maxRecDepth 100000 in
theorem c_X7_coolCars {l : Launch} {E : EV} {q : Nat → Nat} {al : Nat → Bool} {n : Nat} {I : MI} {R : MR}  (a_0 : al 0 = true) (hF : Fx al R) {res : MI} (h : f_X7_coolCars I R = some res) : Ct l yX7_coolCars cX7_coolCars 3 none 3 0 0 E q al I R n [.ref (q 0)] none al res R n := by
  refine Ct.of (own := RX7) (mn := "coolCars") (by decide) rfl rfl (Nat.le_of_ble_eq_true rfl) ?_
  intro p e s m args below meth c ls C hmn hargs hW hl
  have hx := C.1
  have hb := C.2.1
  have hl : lv_has ls 3 [(0, .ref (q 0))] := hl
  unfold f_X7_coolCars at h
  refine lv_iconst (v := 0) hx hb dX7_coolCars_0 (by decide) ?_
  refine lv_istore_n (lv' := [(1, .int 0), (0, .ref (q 0))]) hx hb dX7_coolCars_1 rfl hl (by decide) rfl (fun ls hl => ?_)
  exact t_X7_coolCars_2 C 1000000 a_0 h hW hF (lv_sub hl [1, 0] rfl)
def f_X7_drawsOn_19  : Nat → MI → MR → Nat → Int32 → Option (Int32 × MI)
  | 0, _, _, _, _ => none
  | nn + 1, I, R, o1, x2 => (if 4 ≤ x2 then (bd (f_X2_lacks I R o1) (fun z_90 => (if z_90 = 0 then (lt (p2 I o1 4 2) (fun I_101 => some (0, I_101))) else (lt (p2 I o1 4 3) (fun I_101 => some (0, I_101)))))) else (bd (f_X7_bankAt I R x2) (fun z_26 => mt z_26 (f_X7_drawsOn_19 nn I R o1 (x2 + 1)) (fun t_26 => (if (I t_26 5) = 0 then (bd (R 0 16) (fun z_42 => bd (f_X5_unitsOver I R z_42 t_26 o1) (fun z_47 => bd (R 0 16) (fun z_55 => (if z_47 < (I z_55 4) then (f_X7_drawsOn_19 nn I R o1 (x2 + 1)) else (lt (p2 I o1 5 x2) (fun I_66 => bd (R 0 16) (fun z_70 => bd (f_X5_moveOver I_66 R z_70 t_26 o1 z_47) (fun z_77 => some (1, z_77)))))))))) else (f_X7_drawsOn_19 nn I R o1 (x2 + 1)))))))
set_option maxHeartbeats 4000000 in
set_option maxRecDepth 100000 in
theorem t_X7_drawsOn_19 {p : Program} {l : Launch} {e : Env} {s : State} {m : MethodId} {args : Array Value} {below : List Frame} {meth : Method} {c : Code} {E : EV} {q : Nat → Nat} {al : Nat → Bool} {n : Nat} (C : CX p s m args meth c E cX7_drawsOn RX7 5 (some .boolean)) {res : Int32 × MI}   : ∀ (nn : Nat) {I : MI} {R : MR} {o1 : Nat} {x2 : Int32} {H : Heap} {locs : List Loc} {ls : Array Slot} (a_0 : al 0 = true) (a_o1 : al o1 = true) (k_o1 : kd o1 = 2) (h : f_X7_drawsOn_19 nn I R o1 x2 = some res) (hW : Wd E q al s.heap I R n H locs) (hF : Fx al R) (hl : lv_has ls 5 [(0, .ref (q 0)), (1, .ref (q o1)), (2, .int x2)]), W p l e (rmL 3 0 0) s m args below meth c H locs 0 0 (MQ below (Pst E q (some (.int res.1)) al res.2 R n) args s 0 0 (Bs E)) (F0 m 19 ls []) := by
  have hx := C.1
  have hb := C.2.1
  intro nn
  induction nn with
  | zero =>
    intro I R o1 x2 H locs ls a_0 a_o1 k_o1 h
    cases (show (none : Option (Int32 × MI)) = some res from h)
  | succ nn ih =>
    intro I R o1 x2 H locs ls a_0 a_o1 k_o1 h hW hF hl
    rw [f_X7_drawsOn_19.eq_2] at h
    refine lv_iload_n hx hb dX7_drawsOn_19 rfl (lv_at hl 2 rfl) ?_
    refine lv_iconst (v := 4) hx hb dX7_drawsOn_20 (by decide) ?_
    refine lv_icmp_ge (tgt := 88) hx hb dX7_drawsOn_21 (by decide) (fun c_21 => ?_) (fun c_21 => ?_)
    · have h := (if_pos c_21).symm.trans h
      refine lv_aload_n hx hb dX7_drawsOn_88 rfl (lv_at hl 1 rfl) ?_
      refine lv_aload_n hx hb dX7_drawsOn_89 rfl (lv_at hl 1 rfl) ?_
      obtain ⟨z_90, e_z_90, h⟩ := bd_some h
      refine r_callV (v := (some (.int z_90))) (As := []) (rest := [.ref (q o1)]) C ml_X2_lacks gm_583 gm_569 gm_570 (ci := 2) rfl hW a_o1 k_o1 hl.1 (c_X2_lacks a_o1 k_o1 e_z_90) rfl ⟨(by decide), (by decide)⟩ ⟨(by decide), (by decide)⟩ rfl (Nat.le_of_ble_eq_true rfl) dX7_drawsOn_90 (fun H locs hW => ?_)
      refine lv_if_ne (tgt := 100) hx hb dX7_drawsOn_93 (by decide) (fun c_93 => ?_) (fun c_93 => ?_)
      · have h := (if_neg c_93).symm.trans h
        refine lv_iconst (v := 3) hx hb dX7_drawsOn_100 (by decide) ?_
        obtain ⟨I_101, e_I_101, h⟩ := lt_some h
        refine r_put C fr_X7_236 (Or.inl rfl) hW a_o1 k_o1 rfl rfl rfl dX7_drawsOn_101 (fun H locs hW => ?_)
        rw [← e_I_101] at hW
        refine lv_iconst (v := 0) hx hb dX7_drawsOn_104 (by decide) ?_
        have h := Option.some.inj h
        subst h
        exact r_zret C hW (Or.inl rfl) dX7_drawsOn_105
      · have h := (if_pos c_93).symm.trans h
        refine lv_iconst (v := 2) hx hb dX7_drawsOn_96 (by decide) ?_
        refine lv_goto (tgt := 101) hx hb dX7_drawsOn_97 (by decide) ?_
        obtain ⟨I_101, e_I_101, h⟩ := lt_some h
        refine r_put C fr_X7_236 (Or.inl rfl) hW a_o1 k_o1 rfl rfl rfl dX7_drawsOn_101 (fun H locs hW => ?_)
        rw [← e_I_101] at hW
        refine lv_iconst (v := 0) hx hb dX7_drawsOn_104 (by decide) ?_
        have h := Option.some.inj h
        subst h
        exact r_zret C hW (Or.inl rfl) dX7_drawsOn_105
    · have h := (if_neg c_21).symm.trans h
      refine lv_aload_n hx hb dX7_drawsOn_24 rfl (lv_at hl 0 rfl) ?_
      refine lv_iload_n hx hb dX7_drawsOn_25 rfl (lv_at hl 2 rfl) ?_
      obtain ⟨z_26, e_z_26, h⟩ := bd_some h
      have hm := mt_cases h
      clear h
      rcases hm with ⟨o_26, h⟩ | ⟨t_26, o_26, h⟩
      · subst o_26
        refine r_callV (v := some .null) (As := [.int x2]) (rest := []) C ml_X7_bankAt gm_329 gm_331 gs_0 (ci := 7) rfl hW a_0 rfl hl.1 (c_X7_bankAt a_0 hF e_z_26) rfl ⟨(by decide), (by decide)⟩ ⟨(by decide), (by decide)⟩ rfl (Nat.le_of_ble_eq_true rfl) dX7_drawsOn_26 (fun H locs hW => ?_)
        refine lv_astore_nN (lv' := [(3, .null), (0, .ref (q 0)), (1, .ref (q o1)), (2, .int x2)]) hx hb dX7_drawsOn_29 rfl hl (by decide) rfl (fun ls hl => ?_)
        refine lv_aload_nN hx hb dX7_drawsOn_30 rfl (lv_at hl 0 rfl) ?_
        refine lv_ifnullN (tgt := 82) hx hb dX7_drawsOn_31 (by decide) ?_
        refine lv_iinc (v := x2 + 1) (lv' := [(2, .int (x2 + 1)), (3, .null), (0, .ref (q 0)), (1, .ref (q o1))]) hx hb dX7_drawsOn_82 hl (k := 3) rfl rfl (by decide) rfl (fun ls hl => ?_)
        refine lv_goto (tgt := 19) hx hb dX7_drawsOn_85 (by decide) ?_
        exact ih a_0 a_o1 k_o1 h hW hF (lv_sub hl [2, 3, 0] rfl)
      · subst o_26
        have a_t_26 := (rf_X7_bankAt hW a_0 hF e_z_26).1
        have k_t_26 := (rf_X7_bankAt hW a_0 hF e_z_26).2
        refine r_callV (v := some (.ref (q t_26))) (As := [.int x2]) (rest := []) C ml_X7_bankAt gm_329 gm_331 gs_0 (ci := 7) rfl hW a_0 rfl hl.1 (c_X7_bankAt a_0 hF e_z_26) rfl ⟨(by decide), (by decide)⟩ ⟨(by decide), (by decide)⟩ rfl (Nat.le_of_ble_eq_true rfl) dX7_drawsOn_26 (fun H locs hW => ?_)
        refine lv_astore_n (lv' := [(3, .ref (q t_26)), (0, .ref (q 0)), (1, .ref (q o1)), (2, .int x2)]) hx hb dX7_drawsOn_29 rfl hl (by decide) rfl (fun ls hl => ?_)
        refine lv_aload_n hx hb dX7_drawsOn_30 rfl (lv_at hl 0 rfl) ?_
        refine lv_ifnull hx hb dX7_drawsOn_31 ?_
        refine lv_aload_n hx hb dX7_drawsOn_34 rfl (lv_at hl 0 rfl) ?_
        refine r_get C fr_X7_228 hW a_t_26 k_t_26 rfl dX7_drawsOn_35 ?_
        refine lv_if_ne (tgt := 82) hx hb dX7_drawsOn_38 (by decide) (fun c_38 => ?_) (fun c_38 => ?_)
        · have h := (if_neg c_38).symm.trans h
          refine lv_iinc (v := x2 + 1) (lv' := [(2, .int (x2 + 1)), (3, .ref (q t_26)), (0, .ref (q 0)), (1, .ref (q o1))]) hx hb dX7_drawsOn_82 hl (k := 3) rfl rfl (by decide) rfl (fun ls hl => ?_)
          refine lv_goto (tgt := 19) hx hb dX7_drawsOn_85 (by decide) ?_
          exact ih a_0 a_o1 k_o1 h hW hF (lv_sub hl [2, 3, 0] rfl)
        · have h := (if_pos c_38).symm.trans h
          refine lv_aload_n hx hb dX7_drawsOn_41 rfl (lv_at hl 1 rfl) ?_
          obtain ⟨z_42, e_z_42, h⟩ := bd_some h
          have a_z_42 : al z_42 = true := hW.cl a_0 e_z_42
          have k_z_42 : kd z_42 = 5 := hW.kn a_0 e_z_42 (by rfl)
          refine r_getq C fr_X7_87 hW a_0 rfl rfl e_z_42 dX7_drawsOn_42 ?_
          refine lv_aload_n hx hb dX7_drawsOn_45 rfl (lv_at hl 0 rfl) ?_
          refine lv_aload_n hx hb dX7_drawsOn_46 rfl (lv_at hl 2 rfl) ?_
          obtain ⟨z_47, e_z_47, h⟩ := bd_some h
          refine r_callV (v := (some (.int z_47))) (As := [.ref (q t_26), .ref (q o1)]) (rest := []) C ml_X5_unitsOver gm_548 gm_549 gm_550 (ci := 5) rfl hW a_z_42 k_z_42 hl.1 (c_X5_unitsOver a_z_42 k_z_42 a_t_26 k_t_26 a_o1 k_o1 hF e_z_47) rfl ⟨(by decide), (by decide)⟩ ⟨(by decide), (by decide)⟩ rfl (Nat.le_of_ble_eq_true rfl) dX7_drawsOn_47 (fun H locs hW => ?_)
          refine lv_istore (lv' := [(4, .int z_47), (3, .ref (q t_26)), (0, .ref (q 0)), (1, .ref (q o1)), (2, .int x2)]) hx hb dX7_drawsOn_50 hl (by decide) rfl (fun ls hl => ?_)
          refine lv_iload hx hb dX7_drawsOn_52 (lv_at hl 0 rfl) ?_
          refine lv_aload_n hx hb dX7_drawsOn_54 rfl (lv_at hl 2 rfl) ?_
          obtain ⟨z_55, e_z_55, h⟩ := bd_some h
          have a_z_55 : al z_55 = true := hW.cl a_0 e_z_55
          have k_z_55 : kd z_55 = 5 := hW.kn a_0 e_z_55 (by rfl)
          refine r_getq C fr_X7_87 hW a_0 rfl rfl e_z_55 dX7_drawsOn_55 ?_
          refine r_get C fr_X7_225 hW a_z_55 k_z_55 rfl dX7_drawsOn_58 ?_
          refine lv_icmp_lt (tgt := 82) hx hb dX7_drawsOn_61 (by decide) (fun c_61 => ?_) (fun c_61 => ?_)
          · have h := (if_pos c_61).symm.trans h
            refine lv_iinc (v := x2 + 1) (lv' := [(2, .int (x2 + 1)), (4, .int z_47), (3, .ref (q t_26)), (0, .ref (q 0)), (1, .ref (q o1))]) hx hb dX7_drawsOn_82 hl (k := 4) rfl rfl (by decide) rfl (fun ls hl => ?_)
            refine lv_goto (tgt := 19) hx hb dX7_drawsOn_85 (by decide) ?_
            exact ih a_0 a_o1 k_o1 h hW hF (lv_sub hl [3, 4, 0] rfl)
          · have h := (if_neg c_61).symm.trans h
            refine lv_aload_n hx hb dX7_drawsOn_64 rfl (lv_at hl 3 rfl) ?_
            refine lv_iload_n hx hb dX7_drawsOn_65 rfl (lv_at hl 4 rfl) ?_
            obtain ⟨I_66, e_I_66, h⟩ := lt_some h
            refine r_put C fr_X7_239 (Or.inl rfl) hW a_o1 k_o1 rfl rfl rfl dX7_drawsOn_66 (fun H locs hW => ?_)
            rw [← e_I_66] at hW
            refine lv_aload_n hx hb dX7_drawsOn_69 rfl (lv_at hl 2 rfl) ?_
            obtain ⟨z_70, e_z_70, h⟩ := bd_some h
            have a_z_70 : al z_70 = true := hW.cl a_0 e_z_70
            have k_z_70 : kd z_70 = 5 := hW.kn a_0 e_z_70 (by rfl)
            refine r_getq C fr_X7_87 hW a_0 rfl rfl e_z_70 dX7_drawsOn_70 ?_
            refine lv_aload_n hx hb dX7_drawsOn_73 rfl (lv_at hl 1 rfl) ?_
            refine lv_aload_n hx hb dX7_drawsOn_74 rfl (lv_at hl 3 rfl) ?_
            refine lv_iload hx hb dX7_drawsOn_75 (lv_at hl 0 rfl) ?_
            obtain ⟨z_77, e_z_77, h⟩ := bd_some h
            refine r_callV (v := none) (As := [.ref (q t_26), .ref (q o1), .int z_47]) (rest := []) C ml_X5_moveOver gm_579 gm_580 gm_581 (ci := 5) rfl hW a_z_70 k_z_70 hl.1 (c_X5_moveOver a_z_70 k_z_70 a_t_26 k_t_26 a_o1 k_o1 e_z_77) rfl ⟨(by decide), (by decide)⟩ ⟨(by decide), (by decide)⟩ rfl (Nat.le_of_ble_eq_true rfl) dX7_drawsOn_77 (fun H locs hW => ?_)
            refine lv_iconst (v := 1) hx hb dX7_drawsOn_80 (by decide) ?_
            have h := Option.some.inj h
            subst h
            exact r_zret C hW (Or.inr rfl) dX7_drawsOn_81
def f_X7_drawsOn (I : MI) (R : MR) (o1 : Nat) : Option (Int32 × MI) := (if (I o1 9) = 0 then (f_X7_drawsOn_19 1000000 I R o1 (I o1 5)) else (lt (p2 I o1 4 4) (fun I_9 => some (0, I_9))))
set_option maxHeartbeats 4000000 in
set_option maxRecDepth 100000 in
theorem c_X7_drawsOn {l : Launch} {E : EV} {q : Nat → Nat} {al : Nat → Bool} {n : Nat} {I : MI} {R : MR} {o1 : Nat} (a_0 : al 0 = true) (a_o1 : al o1 = true) (k_o1 : kd o1 = 2) (hF : Fx al R) {res : Int32 × MI} (h : f_X7_drawsOn I R o1 = some res) : Ct l yX7_drawsOn cX7_drawsOn 5 (some .boolean) 3 0 0 E q al I R n [.ref (q 0), .ref (q o1)] (some (.int res.1)) al res.2 R n := by
  refine Ct.of (own := RX7) (mn := "drawsOn") (by decide) rfl rfl (Nat.le_of_ble_eq_true rfl) ?_
  intro p e s m args below meth c ls C hmn hargs hW hl
  have hx := C.1
  have hb := C.2.1
  have hl : lv_has ls 5 [(0, .ref (q 0)), (1, .ref (q o1))] := hl
  unfold f_X7_drawsOn at h
  refine lv_aload_n hx hb dX7_drawsOn_0 rfl (lv_at hl 1 rfl) ?_
  refine r_get C fr_X7_235 hW a_o1 k_o1 rfl dX7_drawsOn_1 ?_
  refine lv_if_eq (tgt := 14) hx hb dX7_drawsOn_4 (by decide) (fun c_4 => ?_) (fun c_4 => ?_)
  · have h := (if_pos c_4).symm.trans h
    refine lv_aload_n hx hb dX7_drawsOn_14 rfl (lv_at hl 1 rfl) ?_
    refine r_get C fr_X7_239 hW a_o1 k_o1 rfl dX7_drawsOn_15 ?_
    refine lv_istore_n (lv' := [(2, .int (I o1 5)), (0, .ref (q 0)), (1, .ref (q o1))]) hx hb dX7_drawsOn_18 rfl hl (by decide) rfl (fun ls hl => ?_)
    exact t_X7_drawsOn_19 C 1000000 a_0 a_o1 k_o1 h hW hF (lv_sub hl [1, 2, 0] rfl)
  · have h := (if_neg c_4).symm.trans h
    refine lv_aload_n hx hb dX7_drawsOn_7 rfl (lv_at hl 1 rfl) ?_
    refine lv_iconst (v := 4) hx hb dX7_drawsOn_8 (by decide) ?_
    obtain ⟨I_9, e_I_9, h⟩ := lt_some h
    refine r_put C fr_X7_236 (Or.inl rfl) hW a_o1 k_o1 rfl rfl rfl dX7_drawsOn_9 (fun H locs hW => ?_)
    rw [← e_I_9] at hW
    refine lv_iconst (v := 0) hx hb dX7_drawsOn_12 (by decide) ?_
    have h := Option.some.inj h
    subst h
    exact r_zret C hW (Or.inl rfl) dX7_drawsOn_13
def f_X7_runPress_41  : Nat → MI → MR → Int32 → Int32 → Int32 → Option (MI)
  | 0, _, _, _, _, _ => none
  | nn + 1, I, R, x1, x2, x3 => (if x3 < 0 then (bd (R 0 16) (fun z_116 => gd (ix x1 (ln 4)) (bd (f_X3_press I R ((I z_116 3) - x2) (I 4 x1.toNatClampNeg)) (fun z_130 => some (z_130))))) else (bd (f_X7_bankAt I R x3) (fun z_47 => mt z_47 (f_X7_runPress_41 nn I R x1 x2 (x3 + (-1))) (fun t_47 => (if (I t_47 5) = 0 then (bd (f_X0_lacks I R t_47) (fun z_68 => lt (if z_68 < x2 then z_68 else x2) (fun v_71 => lt (p2 I t_47 1 ((I t_47 1) + v_71)) (fun I_85 => lt (p2 I_85 t_47 4 ((I_85 t_47 4) + v_71)) (fun I_97 => f_X7_runPress_41 nn I_97 R x1 (x2 - v_71) (x3 + (-1))))))) else (f_X7_runPress_41 nn I R x1 x2 (x3 + (-1))))))))
set_option maxHeartbeats 4000000 in
set_option maxRecDepth 100000 in
theorem t_X7_runPress_41 {p : Program} {l : Launch} {e : Env} {s : State} {m : MethodId} {args : Array Value} {below : List Frame} {meth : Method} {c : Code} {E : EV} {q : Nat → Nat} {al : Nat → Bool} {n : Nat} (C : CX p s m args meth c E cX7_runPress RX7 6 none) {res : MI}   : ∀ (nn : Nat) {I : MI} {R : MR} {x1 : Int32} {x2 : Int32} {x3 : Int32} {H : Heap} {locs : List Loc} {ls : Array Slot} (a_0 : al 0 = true) (h : f_X7_runPress_41 nn I R x1 x2 x3 = some res) (hW : Wd E q al s.heap I R n H locs) (hF : Fx al R) (hl : lv_has ls 6 [(0, .ref (q 0)), (1, .int x1), (2, .int x2), (3, .int x3)]), W p l e (rmL 3 0 0) s m args below meth c H locs 0 0 (MQ below (Pst E q none al res R n) args s 0 0 (Bs E)) (F0 m 41 ls []) := by
  have hx := C.1
  have hb := C.2.1
  intro nn
  induction nn with
  | zero =>
    intro I R x1 x2 x3 H locs ls a_0 h
    cases (show (none : Option (MI)) = some res from h)
  | succ nn ih =>
    intro I R x1 x2 x3 H locs ls a_0 h hW hF hl
    rw [f_X7_runPress_41.eq_2] at h
    refine lv_iload_n hx hb dX7_runPress_41 rfl (lv_at hl 3 rfl) ?_
    refine lv_if_lt (tgt := 111) hx hb dX7_runPress_42 (by decide) (fun c_42 => ?_) (fun c_42 => ?_)
    · have h := (if_pos c_42).symm.trans h
      refine lv_aload_n hx hb dX7_runPress_111 rfl (lv_at hl 0 rfl) ?_
      have ap_112 : al 10 = true := hW.cl a_0 (hF _ 14 _ a_0 rfl)
      refine r_getq C fr_X7_73 hW a_0 rfl rfl (hF _ 14 _ a_0 rfl) dX7_runPress_112 ?_
      refine lv_aload_n hx hb dX7_runPress_115 rfl (lv_at hl 0 rfl) ?_
      obtain ⟨z_116, e_z_116, h⟩ := bd_some h
      have a_z_116 : al z_116 = true := hW.cl a_0 e_z_116
      have k_z_116 : kd z_116 = 5 := hW.kn a_0 e_z_116 (by rfl)
      refine r_getq C fr_X7_87 hW a_0 rfl rfl e_z_116 dX7_runPress_116 ?_
      refine r_get C fr_X7_222 hW a_z_116 k_z_116 rfl dX7_runPress_119 ?_
      refine lv_iload_n hx hb dX7_runPress_122 rfl (lv_at hl 2 rfl) ?_
      refine lv_isub hx hb dX7_runPress_123 ?_
      refine lv_aload_n hx hb dX7_runPress_124 rfl (lv_at hl 0 rfl) ?_
      have ap_125 : al 4 = true := hW.cl a_0 (hF _ 10 _ a_0 rfl)
      refine r_getq C fr_X7_46 hW a_0 rfl rfl (hF _ 10 _ a_0 rfl) dX7_runPress_125 ?_
      refine lv_iload_n hx hb dX7_runPress_128 rfl (lv_at hl 1 rfl) ?_
      obtain ⟨g_129, h⟩ := gd_some h
      refine r_iald C hW ap_125 rfl (ix_in g_129) dX7_runPress_129 ?_
      obtain ⟨z_130, e_z_130, h⟩ := bd_some h
      refine r_callV (v := none) (As := [.int ((I z_116 3) - x2), .int (I 4 x1.toNatClampNeg)]) (rest := []) C ml_X3_press gm_602 gm_603 gm_604 (ci := 3) rfl hW ap_112 rfl hl.1 (c_X3_press ap_112 e_z_130) rfl ⟨(by decide), (by decide)⟩ ⟨(by decide), (by decide)⟩ rfl (Nat.le_of_ble_eq_true rfl) dX7_runPress_130 (fun H locs hW => ?_)
      have h := Option.some.inj h
      subst h
      exact r_vret C hW dX7_runPress_133
    · have h := (if_neg c_42).symm.trans h
      refine lv_aload_n hx hb dX7_runPress_45 rfl (lv_at hl 0 rfl) ?_
      refine lv_iload_n hx hb dX7_runPress_46 rfl (lv_at hl 3 rfl) ?_
      obtain ⟨z_47, e_z_47, h⟩ := bd_some h
      have hm := mt_cases h
      clear h
      rcases hm with ⟨o_47, h⟩ | ⟨t_47, o_47, h⟩
      · subst o_47
        refine r_callV (v := some .null) (As := [.int x3]) (rest := []) C ml_X7_bankAt gm_329 gm_331 gs_0 (ci := 7) rfl hW a_0 rfl hl.1 (c_X7_bankAt a_0 hF e_z_47) rfl ⟨(by decide), (by decide)⟩ ⟨(by decide), (by decide)⟩ rfl (Nat.le_of_ble_eq_true rfl) dX7_runPress_47 (fun H locs hW => ?_)
        refine lv_astoreN (lv' := [(4, .null), (0, .ref (q 0)), (1, .int x1), (2, .int x2), (3, .int x3)]) hx hb dX7_runPress_50 hl (by decide) rfl (fun ls hl => ?_)
        refine lv_aloadN hx hb dX7_runPress_52 (lv_at hl 0 rfl) ?_
        refine lv_ifnullN (tgt := 105) hx hb dX7_runPress_54 (by decide) ?_
        refine lv_iinc (v := x3 + (-1)) (lv' := [(3, .int (x3 + (-1))), (4, .null), (0, .ref (q 0)), (1, .int x1), (2, .int x2)]) hx hb dX7_runPress_105 hl (k := 4) rfl rfl (by decide) rfl (fun ls hl => ?_)
        refine lv_goto (tgt := 41) hx hb dX7_runPress_108 (by decide) ?_
        exact ih a_0 h hW hF (lv_sub hl [2, 3, 4, 0] rfl)
      · subst o_47
        have a_t_47 := (rf_X7_bankAt hW a_0 hF e_z_47).1
        have k_t_47 := (rf_X7_bankAt hW a_0 hF e_z_47).2
        refine r_callV (v := some (.ref (q t_47))) (As := [.int x3]) (rest := []) C ml_X7_bankAt gm_329 gm_331 gs_0 (ci := 7) rfl hW a_0 rfl hl.1 (c_X7_bankAt a_0 hF e_z_47) rfl ⟨(by decide), (by decide)⟩ ⟨(by decide), (by decide)⟩ rfl (Nat.le_of_ble_eq_true rfl) dX7_runPress_47 (fun H locs hW => ?_)
        refine lv_astore (lv' := [(4, .ref (q t_47)), (0, .ref (q 0)), (1, .int x1), (2, .int x2), (3, .int x3)]) hx hb dX7_runPress_50 hl (by decide) rfl (fun ls hl => ?_)
        refine lv_aload hx hb dX7_runPress_52 (lv_at hl 0 rfl) ?_
        refine lv_ifnull hx hb dX7_runPress_54 ?_
        refine lv_aload hx hb dX7_runPress_57 (lv_at hl 0 rfl) ?_
        refine r_get C fr_X7_228 hW a_t_47 k_t_47 rfl dX7_runPress_59 ?_
        refine lv_if_ne (tgt := 105) hx hb dX7_runPress_62 (by decide) (fun c_62 => ?_) (fun c_62 => ?_)
        · have h := (if_neg c_62).symm.trans h
          refine lv_iinc (v := x3 + (-1)) (lv' := [(3, .int (x3 + (-1))), (4, .ref (q t_47)), (0, .ref (q 0)), (1, .int x1), (2, .int x2)]) hx hb dX7_runPress_105 hl (k := 4) rfl rfl (by decide) rfl (fun ls hl => ?_)
          refine lv_goto (tgt := 41) hx hb dX7_runPress_108 (by decide) ?_
          exact ih a_0 h hW hF (lv_sub hl [2, 3, 4, 0] rfl)
        · have h := (if_pos c_62).symm.trans h
          refine lv_iload_n hx hb dX7_runPress_65 rfl (lv_at hl 3 rfl) ?_
          refine lv_aload hx hb dX7_runPress_66 (lv_at hl 0 rfl) ?_
          obtain ⟨z_68, e_z_68, h⟩ := bd_some h
          refine r_callV (v := (some (.int z_68))) (As := []) (rest := [.int x2]) C ml_X0_lacks gm_596 gm_597 gm_598 (ci := 0) rfl hW a_t_47 k_t_47 hl.1 (c_X0_lacks a_t_47 k_t_47 e_z_68) rfl ⟨(by decide), (by decide)⟩ ⟨(by decide), (by decide)⟩ rfl (Nat.le_of_ble_eq_true rfl) dX7_runPress_68 (fun H locs hW => ?_)
          obtain ⟨v_71, e_v_71, h⟩ := lt_some h
          refine r_min C gm_601 gm_566 gm_14 gm_567 hl.1 ⟨Nat.le_of_ble_eq_true rfl, Nat.le_of_ble_eq_true rfl, Nat.le_of_ble_eq_true rfl, Nat.le_of_ble_eq_true rfl⟩ dX7_runPress_71 ?_
          rw [← e_v_71]
          refine lv_istore (lv' := [(5, .int v_71), (4, .ref (q t_47)), (0, .ref (q 0)), (1, .int x1), (2, .int x2), (3, .int x3)]) hx hb dX7_runPress_74 hl (by decide) rfl (fun ls hl => ?_)
          refine lv_aload hx hb dX7_runPress_76 (lv_at hl 1 rfl) ?_
          refine lv_dup hx hb dX7_runPress_78 rfl ?_
          refine r_get C fr_X7_102 hW a_t_47 k_t_47 rfl dX7_runPress_79 ?_
          refine lv_iload hx hb dX7_runPress_82 (lv_at hl 0 rfl) ?_
          refine lv_iadd hx hb dX7_runPress_84 ?_
          obtain ⟨I_85, e_I_85, h⟩ := lt_some h
          refine r_put C fr_X7_102 (Or.inl rfl) hW a_t_47 k_t_47 rfl rfl rfl dX7_runPress_85 (fun H locs hW => ?_)
          rw [← e_I_85] at hW
          refine lv_aload hx hb dX7_runPress_88 (lv_at hl 1 rfl) ?_
          refine lv_dup hx hb dX7_runPress_90 rfl ?_
          refine r_get C fr_X7_271 hW a_t_47 k_t_47 rfl dX7_runPress_91 ?_
          refine lv_iload hx hb dX7_runPress_94 (lv_at hl 0 rfl) ?_
          refine lv_iadd hx hb dX7_runPress_96 ?_
          obtain ⟨I_97, e_I_97, h⟩ := lt_some h
          refine r_put C fr_X7_271 (Or.inl rfl) hW a_t_47 k_t_47 rfl rfl rfl dX7_runPress_97 (fun H locs hW => ?_)
          rw [← e_I_97] at hW
          refine lv_iload_n hx hb dX7_runPress_100 rfl (lv_at hl 4 rfl) ?_
          refine lv_iload hx hb dX7_runPress_101 (lv_at hl 0 rfl) ?_
          refine lv_isub hx hb dX7_runPress_103 ?_
          refine lv_istore_n (lv' := [(2, .int (x2 - v_71)), (5, .int v_71), (4, .ref (q t_47)), (0, .ref (q 0)), (1, .int x1), (3, .int x3)]) hx hb dX7_runPress_104 rfl hl (by decide) rfl (fun ls hl => ?_)
          refine lv_iinc (v := x3 + (-1)) (lv' := [(3, .int (x3 + (-1))), (2, .int (x2 - v_71)), (5, .int v_71), (4, .ref (q t_47)), (0, .ref (q 0)), (1, .int x1)]) hx hb dX7_runPress_105 hl (k := 5) rfl rfl (by decide) rfl (fun ls hl => ?_)
          refine lv_goto (tgt := 41) hx hb dX7_runPress_108 (by decide) ?_
          exact ih a_0 h hW hF (lv_sub hl [4, 5, 1, 0] rfl)
def f_X7_runPress (I : MI) (R : MR) : Option (MI) := lt (((I 0 8) / 60) - ((I 0 8) / 60) / 24 * 24) (fun v_10 => bd (f_X7_within I R v_10 0 23) (fun z_15 => (if z_15 = 0 then (some (I)) else (gd (ix v_10 (ln 5)) ((if (I 5 v_10.toNatClampNeg) = 0 then (bd (R 0 16) (fun z_32 => f_X7_runPress_41 1000000 I R v_10 (I z_32 3) 3)) else (some (I))))))))
set_option maxHeartbeats 4000000 in
set_option maxRecDepth 100000 in
theorem c_X7_runPress {l : Launch} {E : EV} {q : Nat → Nat} {al : Nat → Bool} {n : Nat} {I : MI} {R : MR}  (a_0 : al 0 = true) (hF : Fx al R) {res : MI} (h : f_X7_runPress I R = some res) : Ct l yX7_runPress cX7_runPress 6 none 3 0 0 E q al I R n [.ref (q 0)] none al res R n := by
  refine Ct.of (own := RX7) (mn := "runPress") (by decide) rfl rfl (Nat.le_of_ble_eq_true rfl) ?_
  intro p e s m args below meth c ls C hmn hargs hW hl
  have hx := C.1
  have hb := C.2.1
  have hl : lv_has ls 6 [(0, .ref (q 0))] := hl
  unfold f_X7_runPress at h
  refine lv_aload_n hx hb dX7_runPress_0 rfl (lv_at hl 0 rfl) ?_
  refine r_get C fr_X7_40 hW a_0 rfl rfl dX7_runPress_1 ?_
  refine lv_bipush (v := 60) hx hb dX7_runPress_4 (by decide) ?_
  refine lv_idiv hx hb dX7_runPress_6 (by decide) ?_
  refine lv_bipush (v := 24) hx hb dX7_runPress_7 (by decide) ?_
  refine lv_irem hx hb dX7_runPress_9 (by decide) ?_
  obtain ⟨v_10, e_v_10, h⟩ := lt_some h
  rw [← e_v_10]
  refine lv_istore_n (lv' := [(1, .int v_10), (0, .ref (q 0))]) hx hb dX7_runPress_10 rfl hl (by decide) rfl (fun ls hl => ?_)
  refine lv_iload_n hx hb dX7_runPress_11 rfl (lv_at hl 0 rfl) ?_
  refine lv_iconst (v := 0) hx hb dX7_runPress_12 (by decide) ?_
  refine lv_bipush (v := 23) hx hb dX7_runPress_13 (by decide) ?_
  obtain ⟨z_15, e_z_15, h⟩ := bd_some h
  refine r_callS (v := (some (.int z_15))) (As := [.int v_10, .int 0, .int 23]) (rest := []) C ml_X7_within gm_321 gm_322 hW hl.1 (c_X7_within  e_z_15) rfl ⟨(by decide), (by decide)⟩ ⟨(by decide), (by decide)⟩ rfl (Nat.le_of_ble_eq_true rfl) dX7_runPress_15 (fun H locs hW => ?_)
  refine lv_if_eq (tgt := 30) hx hb dX7_runPress_18 (by decide) (fun c_18 => ?_) (fun c_18 => ?_)
  · have h := (if_pos c_18).symm.trans h
    have h := Option.some.inj h
    subst h
    exact r_vret C hW dX7_runPress_30
  · have h := (if_neg c_18).symm.trans h
    refine lv_aload_n hx hb dX7_runPress_21 rfl (lv_at hl 1 rfl) ?_
    have ap_22 : al 5 = true := hW.cl a_0 (hF _ 11 _ a_0 rfl)
    refine r_getq C fr_X7_50 hW a_0 rfl rfl (hF _ 11 _ a_0 rfl) dX7_runPress_22 ?_
    refine lv_iload_n hx hb dX7_runPress_25 rfl (lv_at hl 0 rfl) ?_
    obtain ⟨g_26, h⟩ := gd_some h
    refine r_zald C hW ap_22 rfl (ix_in g_26) dX7_runPress_26 ?_
    refine lv_if_eq (tgt := 31) hx hb dX7_runPress_27 (by decide) (fun c_27 => ?_) (fun c_27 => ?_)
    · have h := (if_pos c_27).symm.trans h
      refine lv_aload_n hx hb dX7_runPress_31 rfl (lv_at hl 1 rfl) ?_
      obtain ⟨z_32, e_z_32, h⟩ := bd_some h
      have a_z_32 : al z_32 = true := hW.cl a_0 e_z_32
      have k_z_32 : kd z_32 = 5 := hW.kn a_0 e_z_32 (by rfl)
      refine r_getq C fr_X7_87 hW a_0 rfl rfl e_z_32 dX7_runPress_32 ?_
      refine r_get C fr_X7_222 hW a_z_32 k_z_32 rfl dX7_runPress_35 ?_
      refine lv_istore_n (lv' := [(2, .int (I z_32 3)), (1, .int v_10), (0, .ref (q 0))]) hx hb dX7_runPress_38 rfl hl (by decide) rfl (fun ls hl => ?_)
      refine lv_iconst (v := 3) hx hb dX7_runPress_39 (by decide) ?_
      refine lv_istore_n (lv' := [(3, .int 3), (2, .int (I z_32 3)), (1, .int v_10), (0, .ref (q 0))]) hx hb dX7_runPress_40 rfl hl (by decide) rfl (fun ls hl => ?_)
      exact t_X7_runPress_41 C 1000000 a_0 h hW hF (lv_sub hl [3, 2, 1, 0] rfl)
    · have h := (if_neg c_27).symm.trans h
      have h := Option.some.inj h
      subst h
      exact r_vret C hW dX7_runPress_30
def f_X7_takeFromLine_2  : Nat → MI → MR → Int32 → Option (MI × MR)
  | 0, _, _, _ => none
  | nn + 1, I, R, x1 => (if 2 ≤ x1 then (some (I, R)) else (bd (f_X7_carAt I R (I 0 4)) (fun z_12 => mt z_12 ((if (I 0 6) ≤ x1 then (f_X7_takeFromLine_2 nn I R (x1 + 1)) else (gd (ix x1 (ln 3)) (mt (R 3 x1.toNatClampNeg) (f_X7_takeFromLine_2 nn I R (x1 + 1)) (fun t_29 => f_X7_takeFromLine_2 nn I R (x1 + 1)))))) (fun t_12 => (if (I 0 6) ≤ x1 then (f_X7_takeFromLine_2 nn I R (x1 + 1)) else (gd (ix x1 (ln 3)) (mt (R 3 x1.toNatClampNeg) (lt (p2 I t_12 4 1) (fun I_39 => lt (p2 I_39 t_12 5 0) (fun I_44 => lt (p2 I_44 t_12 6 (I_44 0 8)) (fun I_52 => gd (ix x1 (ln 3)) (lt (pq R 3 x1.toNatClampNeg (some t_12)) (fun R_61 => lt (p2 I_52 0 4 ((I_52 0 4) + 1)) (fun I_69 => f_X7_takeFromLine_2 nn I_69 R_61 (x1 + 1)))))))) (fun t_29 => f_X7_takeFromLine_2 nn I R (x1 + 1)))))))))
set_option maxHeartbeats 4000000 in
set_option maxRecDepth 100000 in
theorem t_X7_takeFromLine_2 {p : Program} {l : Launch} {e : Env} {s : State} {m : MethodId} {args : Array Value} {below : List Frame} {meth : Method} {c : Code} {E : EV} {q : Nat → Nat} {al : Nat → Bool} {n : Nat} (C : CX p s m args meth c E cX7_takeFromLine RX7 3 none) {res : MI × MR}   : ∀ (nn : Nat) {I : MI} {R : MR} {x1 : Int32} {H : Heap} {locs : List Loc} {ls : Array Slot} (a_0 : al 0 = true) (h : f_X7_takeFromLine_2 nn I R x1 = some res) (hW : Wd E q al s.heap I R n H locs) (hF : Fx al R) (hl : lv_has ls 3 [(0, .ref (q 0)), (1, .int x1)]), W p l e (rmL 3 0 0) s m args below meth c H locs 0 0 (MQ below (Pst E q none al res.1 res.2 n) args s 0 0 (Bs E)) (F0 m 2 ls []) := by
  have hx := C.1
  have hb := C.2.1
  intro nn
  induction nn with
  | zero =>
    intro I R x1 H locs ls a_0 h
    cases (show (none : Option (MI × MR)) = some res from h)
  | succ nn ih =>
    intro I R x1 H locs ls a_0 h hW hF hl
    rw [f_X7_takeFromLine_2.eq_2] at h
    refine lv_iload_n hx hb dX7_takeFromLine_2 rfl (lv_at hl 1 rfl) ?_
    refine lv_iconst (v := 2) hx hb dX7_takeFromLine_3 (by decide) ?_
    refine lv_icmp_ge (tgt := 78) hx hb dX7_takeFromLine_4 (by decide) (fun c_4 => ?_) (fun c_4 => ?_)
    · have h := (if_pos c_4).symm.trans h
      have h := Option.some.inj h
      subst h
      exact r_vret C hW dX7_takeFromLine_78
    · have h := (if_neg c_4).symm.trans h
      refine lv_aload_n hx hb dX7_takeFromLine_7 rfl (lv_at hl 0 rfl) ?_
      refine lv_aload_n hx hb dX7_takeFromLine_8 rfl (lv_at hl 0 rfl) ?_
      refine r_get C fr_X7_28 hW a_0 rfl rfl dX7_takeFromLine_9 ?_
      obtain ⟨z_12, e_z_12, h⟩ := bd_some h
      have hm := mt_cases h
      clear h
      rcases hm with ⟨o_12, h⟩ | ⟨t_12, o_12, h⟩
      · subst o_12
        refine r_callV (v := some .null) (As := [.int (I 0 4)]) (rest := []) C ml_X7_carAt gm_505 gm_507 gs_12 (ci := 7) rfl hW a_0 rfl hl.1 (c_X7_carAt a_0 hF e_z_12) rfl ⟨(by decide), (by decide)⟩ ⟨(by decide), (by decide)⟩ rfl (Nat.le_of_ble_eq_true rfl) dX7_takeFromLine_12 (fun H locs hW => ?_)
        refine lv_astore_nN (lv' := [(2, .null), (0, .ref (q 0)), (1, .int x1)]) hx hb dX7_takeFromLine_15 rfl hl (by decide) rfl (fun ls hl => ?_)
        refine lv_iload_n hx hb dX7_takeFromLine_16 rfl (lv_at hl 2 rfl) ?_
        refine lv_aload_n hx hb dX7_takeFromLine_17 rfl (lv_at hl 1 rfl) ?_
        refine r_get C fr_X7_34 hW a_0 rfl rfl dX7_takeFromLine_18 ?_
        refine lv_icmp_ge (tgt := 72) hx hb dX7_takeFromLine_21 (by decide) (fun c_21 => ?_) (fun c_21 => ?_)
        · have h := (if_pos c_21).symm.trans h
          refine lv_iinc (v := x1 + 1) (lv' := [(1, .int (x1 + 1)), (2, .null), (0, .ref (q 0))]) hx hb dX7_takeFromLine_72 hl (k := 2) rfl rfl (by decide) rfl (fun ls hl => ?_)
          refine lv_goto (tgt := 2) hx hb dX7_takeFromLine_75 (by decide) ?_
          exact ih a_0 h hW hF (lv_sub hl [2, 0] rfl)
        · have h := (if_neg c_21).symm.trans h
          refine lv_aload_n hx hb dX7_takeFromLine_24 rfl (lv_at hl 1 rfl) ?_
          have ap_25 : al 3 = true := hW.cl a_0 (hF _ 5 _ a_0 rfl)
          refine r_getq C fr_X7_31 hW a_0 rfl rfl (hF _ 5 _ a_0 rfl) dX7_takeFromLine_25 ?_
          refine lv_iload_n hx hb dX7_takeFromLine_28 rfl (lv_at hl 2 rfl) ?_
          obtain ⟨g_29, h⟩ := gd_some h
          have hm := mt_cases h
          clear h
          rcases hm with ⟨o_29, h⟩ | ⟨t_29, o_29, h⟩
          · refine r_aaldN C hW ap_25 rfl (by decide) (ix_in g_29) o_29 dX7_takeFromLine_29 ?_
            refine lv_ifnonnullN hx hb dX7_takeFromLine_30 ?_
            refine lv_aload_nN hx hb dX7_takeFromLine_33 rfl (lv_at hl 0 rfl) ?_
            refine lv_ifnullN (tgt := 72) hx hb dX7_takeFromLine_34 (by decide) ?_
            refine lv_iinc (v := x1 + 1) (lv' := [(1, .int (x1 + 1)), (2, .null), (0, .ref (q 0))]) hx hb dX7_takeFromLine_72 hl (k := 2) rfl rfl (by decide) rfl (fun ls hl => ?_)
            refine lv_goto (tgt := 2) hx hb dX7_takeFromLine_75 (by decide) ?_
            exact ih a_0 h hW hF (lv_sub hl [2, 0] rfl)
          · have a_t_29 := hW.cl ap_25 o_29
            have k_t_29 : kd t_29 = 2 := hW.kn ap_25 o_29 (by rfl)
            refine r_aaldS C hW ap_25 rfl (by decide) (ix_in g_29) o_29 dX7_takeFromLine_29 ?_
            refine lv_ifnonnull (tgt := 72) hx hb dX7_takeFromLine_30 (by decide) ?_
            refine lv_iinc (v := x1 + 1) (lv' := [(1, .int (x1 + 1)), (2, .null), (0, .ref (q 0))]) hx hb dX7_takeFromLine_72 hl (k := 2) rfl rfl (by decide) rfl (fun ls hl => ?_)
            refine lv_goto (tgt := 2) hx hb dX7_takeFromLine_75 (by decide) ?_
            exact ih a_0 h hW hF (lv_sub hl [2, 0] rfl)
      · subst o_12
        have a_t_12 := (rf_X7_carAt hW a_0 hF e_z_12).1
        have k_t_12 := (rf_X7_carAt hW a_0 hF e_z_12).2
        refine r_callV (v := some (.ref (q t_12))) (As := [.int (I 0 4)]) (rest := []) C ml_X7_carAt gm_505 gm_507 gs_12 (ci := 7) rfl hW a_0 rfl hl.1 (c_X7_carAt a_0 hF e_z_12) rfl ⟨(by decide), (by decide)⟩ ⟨(by decide), (by decide)⟩ rfl (Nat.le_of_ble_eq_true rfl) dX7_takeFromLine_12 (fun H locs hW => ?_)
        refine lv_astore_n (lv' := [(2, .ref (q t_12)), (0, .ref (q 0)), (1, .int x1)]) hx hb dX7_takeFromLine_15 rfl hl (by decide) rfl (fun ls hl => ?_)
        refine lv_iload_n hx hb dX7_takeFromLine_16 rfl (lv_at hl 2 rfl) ?_
        refine lv_aload_n hx hb dX7_takeFromLine_17 rfl (lv_at hl 1 rfl) ?_
        refine r_get C fr_X7_34 hW a_0 rfl rfl dX7_takeFromLine_18 ?_
        refine lv_icmp_ge (tgt := 72) hx hb dX7_takeFromLine_21 (by decide) (fun c_21 => ?_) (fun c_21 => ?_)
        · have h := (if_pos c_21).symm.trans h
          refine lv_iinc (v := x1 + 1) (lv' := [(1, .int (x1 + 1)), (2, .ref (q t_12)), (0, .ref (q 0))]) hx hb dX7_takeFromLine_72 hl (k := 2) rfl rfl (by decide) rfl (fun ls hl => ?_)
          refine lv_goto (tgt := 2) hx hb dX7_takeFromLine_75 (by decide) ?_
          exact ih a_0 h hW hF (lv_sub hl [2, 0] rfl)
        · have h := (if_neg c_21).symm.trans h
          refine lv_aload_n hx hb dX7_takeFromLine_24 rfl (lv_at hl 1 rfl) ?_
          have ap_25 : al 3 = true := hW.cl a_0 (hF _ 5 _ a_0 rfl)
          refine r_getq C fr_X7_31 hW a_0 rfl rfl (hF _ 5 _ a_0 rfl) dX7_takeFromLine_25 ?_
          refine lv_iload_n hx hb dX7_takeFromLine_28 rfl (lv_at hl 2 rfl) ?_
          obtain ⟨g_29, h⟩ := gd_some h
          have hm := mt_cases h
          clear h
          rcases hm with ⟨o_29, h⟩ | ⟨t_29, o_29, h⟩
          · refine r_aaldN C hW ap_25 rfl (by decide) (ix_in g_29) o_29 dX7_takeFromLine_29 ?_
            refine lv_ifnonnullN hx hb dX7_takeFromLine_30 ?_
            refine lv_aload_n hx hb dX7_takeFromLine_33 rfl (lv_at hl 0 rfl) ?_
            refine lv_ifnull hx hb dX7_takeFromLine_34 ?_
            refine lv_aload_n hx hb dX7_takeFromLine_37 rfl (lv_at hl 0 rfl) ?_
            refine lv_iconst (v := 1) hx hb dX7_takeFromLine_38 (by decide) ?_
            obtain ⟨I_39, e_I_39, h⟩ := lt_some h
            refine r_put C fr_X7_236 (Or.inl rfl) hW a_t_12 k_t_12 rfl rfl rfl dX7_takeFromLine_39 (fun H locs hW => ?_)
            rw [← e_I_39] at hW
            refine lv_aload_n hx hb dX7_takeFromLine_42 rfl (lv_at hl 0 rfl) ?_
            refine lv_iconst (v := 0) hx hb dX7_takeFromLine_43 (by decide) ?_
            obtain ⟨I_44, e_I_44, h⟩ := lt_some h
            refine r_put C fr_X7_239 (Or.inl rfl) hW a_t_12 k_t_12 rfl rfl rfl dX7_takeFromLine_44 (fun H locs hW => ?_)
            rw [← e_I_44] at hW
            refine lv_aload_n hx hb dX7_takeFromLine_47 rfl (lv_at hl 0 rfl) ?_
            refine lv_aload_n hx hb dX7_takeFromLine_48 rfl (lv_at hl 1 rfl) ?_
            refine r_get C fr_X7_40 hW a_0 rfl rfl dX7_takeFromLine_49 ?_
            obtain ⟨I_52, e_I_52, h⟩ := lt_some h
            refine r_put C fr_X7_242 (Or.inl rfl) hW a_t_12 k_t_12 rfl rfl rfl dX7_takeFromLine_52 (fun H locs hW => ?_)
            rw [← e_I_52] at hW
            refine lv_aload_n hx hb dX7_takeFromLine_55 rfl (lv_at hl 1 rfl) ?_
            refine r_getq C fr_X7_31 hW a_0 rfl rfl (hF _ 5 _ a_0 rfl) dX7_takeFromLine_56 ?_
            refine lv_iload_n hx hb dX7_takeFromLine_59 rfl (lv_at hl 2 rfl) ?_
            refine lv_aload_n hx hb dX7_takeFromLine_60 rfl (lv_at hl 0 rfl) ?_
            obtain ⟨g_61, h⟩ := gd_some h
            obtain ⟨R_61, e_R_61, h⟩ := lt_some h
            refine r_aast C hW ap_25 rfl (by decide) a_t_12 k_t_12 (ix_in g_61) dX7_takeFromLine_61 (fun H locs hW => ?_)
            have hF := hF.pq (a := 3) (j := x1.toNatClampNeg) (v := (some t_12)) rfl
            rw [← e_R_61] at hW hF
            refine lv_aload_n hx hb dX7_takeFromLine_62 rfl (lv_at hl 1 rfl) ?_
            refine lv_dup hx hb dX7_takeFromLine_63 rfl ?_
            refine r_get C fr_X7_28 hW a_0 rfl rfl dX7_takeFromLine_64 ?_
            refine lv_iconst (v := 1) hx hb dX7_takeFromLine_67 (by decide) ?_
            refine lv_iadd hx hb dX7_takeFromLine_68 ?_
            obtain ⟨I_69, e_I_69, h⟩ := lt_some h
            refine r_put C fr_X7_28 (Or.inl rfl) hW a_0 rfl rfl rfl rfl dX7_takeFromLine_69 (fun H locs hW => ?_)
            rw [← e_I_69] at hW
            refine lv_iinc (v := x1 + 1) (lv' := [(1, .int (x1 + 1)), (2, .ref (q t_12)), (0, .ref (q 0))]) hx hb dX7_takeFromLine_72 hl (k := 2) rfl rfl (by decide) rfl (fun ls hl => ?_)
            refine lv_goto (tgt := 2) hx hb dX7_takeFromLine_75 (by decide) ?_
            exact ih a_0 h hW hF (lv_sub hl [2, 0] rfl)
          · have a_t_29 := hW.cl ap_25 o_29
            have k_t_29 : kd t_29 = 2 := hW.kn ap_25 o_29 (by rfl)
            refine r_aaldS C hW ap_25 rfl (by decide) (ix_in g_29) o_29 dX7_takeFromLine_29 ?_
            refine lv_ifnonnull (tgt := 72) hx hb dX7_takeFromLine_30 (by decide) ?_
            refine lv_iinc (v := x1 + 1) (lv' := [(1, .int (x1 + 1)), (2, .ref (q t_12)), (0, .ref (q 0))]) hx hb dX7_takeFromLine_72 hl (k := 2) rfl rfl (by decide) rfl (fun ls hl => ?_)
            refine lv_goto (tgt := 2) hx hb dX7_takeFromLine_75 (by decide) ?_
            exact ih a_0 h hW hF (lv_sub hl [2, 0] rfl)
def f_X7_takeFromLine (I : MI) (R : MR) : Option (MI × MR) := f_X7_takeFromLine_2 1000000 I R 0
set_option maxHeartbeats 4000000 in
set_option maxRecDepth 100000 in
theorem c_X7_takeFromLine {l : Launch} {E : EV} {q : Nat → Nat} {al : Nat → Bool} {n : Nat} {I : MI} {R : MR}  (a_0 : al 0 = true) (hF : Fx al R) {res : MI × MR} (h : f_X7_takeFromLine I R = some res) : Ct l yX7_takeFromLine cX7_takeFromLine 3 none 3 0 0 E q al I R n [.ref (q 0)] none al res.1 res.2 n := by
  refine Ct.of (own := RX7) (mn := "takeFromLine") (by decide) rfl rfl (Nat.le_of_ble_eq_true rfl) ?_
  intro p e s m args below meth c ls C hmn hargs hW hl
  have hx := C.1
  have hb := C.2.1
  have hl : lv_has ls 3 [(0, .ref (q 0))] := hl
  unfold f_X7_takeFromLine at h
  refine lv_iconst (v := 0) hx hb dX7_takeFromLine_0 (by decide) ?_
  refine lv_istore_n (lv' := [(1, .int 0), (0, .ref (q 0))]) hx hb dX7_takeFromLine_1 rfl hl (by decide) rfl (fun ls hl => ?_)
  exact t_X7_takeFromLine_2 C 1000000 a_0 h hW hF (lv_sub hl [1, 0] rfl)
theorem fxp_X7_takeFromLine_2 {al : Nat → Bool} : ∀ (nn : Nat) {I : MI} {R : MR} {x1 : Int32} {res : MI × MR}, Fx al R → f_X7_takeFromLine_2 nn I R x1 = some res → Fx al res.2 := by
  intro nn
  induction nn with
  | zero => intro I R x1 res hF h; cases (show (none : Option (MI × MR)) = some res from h)
  | succ nn ih =>
    intro I R x1 res hF h
    rw [f_X7_takeFromLine_2.eq_2] at h
    by_cases c1 : 2 ≤ x1
    · have h := (if_pos c1).symm.trans h
      have h := Option.some.inj h
      subst h
      exact hF
    · have h := (if_neg c1).symm.trans h
      obtain ⟨z, e, h⟩ := bd_some h
      rcases mt_cases h with ⟨o, h⟩ | ⟨u, o, h⟩
      · by_cases c2 : I 0 6 ≤ x1
        · exact ih hF ((if_pos c2).symm.trans h)
        · have h := (if_neg c2).symm.trans h
          obtain ⟨g, h⟩ := gd_some h
          rcases mt_cases h with ⟨o2, h⟩ | ⟨u2, o2, h⟩
          · exact ih hF h
          · exact ih hF h
      · by_cases c2 : I 0 6 ≤ x1
        · exact ih hF ((if_pos c2).symm.trans h)
        · have h := (if_neg c2).symm.trans h
          obtain ⟨g, h⟩ := gd_some h
          rcases mt_cases h with ⟨o2, h⟩ | ⟨u2, o2, h⟩
          · obtain ⟨_, _, h⟩ := lt_some h
            obtain ⟨_, _, h⟩ := lt_some h
            obtain ⟨_, _, h⟩ := lt_some h
            obtain ⟨g, h⟩ := gd_some h
            obtain ⟨R1, e1, h⟩ := lt_some h
            obtain ⟨_, _, h⟩ := lt_some h
            subst e1
            exact ih (hF.pq rfl) h
          · exact ih hF h
theorem fxp_X7_takeFromLine {al : Nat → Bool} {I : MI} {R : MR} {res : MI × MR} (hF : Fx al R) (h : f_X7_takeFromLine I R = some res) : Fx al res.2 := fxp_X7_takeFromLine_2 1000000 hF h
def f_X7_serveHoses_2  : Nat → MI → MR → Int32 → Option (MI × MR)
  | 0, _, _, _ => none
  | nn + 1, I, R, x1 => (if 2 ≤ x1 then (some (I, R)) else (gd (ix x1 (ln 3)) (mt (R 3 x1.toNatClampNeg) (f_X7_serveHoses_2 nn I R (x1 + 1)) (fun t_12 => bd (f_X7_drawsOn I R t_12) (fun z_20 => (if z_20.1 = 0 then (lt (p2 z_20.2 t_12 7 (z_20.2 0 8)) (fun I_31 => gd (ix x1 (ln 3)) (lt (pq R 3 x1.toNatClampNeg none) (fun R_40 => f_X7_serveHoses_2 nn I_31 R_40 (x1 + 1))))) else (f_X7_serveHoses_2 nn z_20.2 R (x1 + 1))))))))
set_option maxHeartbeats 4000000 in
set_option maxRecDepth 100000 in
theorem t_X7_serveHoses_2 {p : Program} {l : Launch} {e : Env} {s : State} {m : MethodId} {args : Array Value} {below : List Frame} {meth : Method} {c : Code} {E : EV} {q : Nat → Nat} {al : Nat → Bool} {n : Nat} (C : CX p s m args meth c E cX7_serveHoses RX7 3 none) {res : MI × MR}   : ∀ (nn : Nat) {I : MI} {R : MR} {x1 : Int32} {H : Heap} {locs : List Loc} {ls : Array Slot} (a_0 : al 0 = true) (h : f_X7_serveHoses_2 nn I R x1 = some res) (hW : Wd E q al s.heap I R n H locs) (hF : Fx al R) (hl : lv_has ls 3 [(0, .ref (q 0)), (1, .int x1)]), W p l e (rmL 4 0 0) s m args below meth c H locs 0 0 (MQ below (Pst E q none al res.1 res.2 n) args s 0 0 (Bs E)) (F0 m 2 ls []) := by
  have hx := C.1
  have hb := C.2.1
  intro nn
  induction nn with
  | zero =>
    intro I R x1 H locs ls a_0 h
    cases (show (none : Option (MI × MR)) = some res from h)
  | succ nn ih =>
    intro I R x1 H locs ls a_0 h hW hF hl
    rw [f_X7_serveHoses_2.eq_2] at h
    refine lv_iload_n hx hb dX7_serveHoses_2 rfl (lv_at hl 1 rfl) ?_
    refine lv_iconst (v := 2) hx hb dX7_serveHoses_3 (by decide) ?_
    refine lv_icmp_ge (tgt := 47) hx hb dX7_serveHoses_4 (by decide) (fun c_4 => ?_) (fun c_4 => ?_)
    · have h := (if_pos c_4).symm.trans h
      have h := Option.some.inj h
      subst h
      exact r_vret C hW dX7_serveHoses_47
    · have h := (if_neg c_4).symm.trans h
      refine lv_aload_n hx hb dX7_serveHoses_7 rfl (lv_at hl 0 rfl) ?_
      have ap_8 : al 3 = true := hW.cl a_0 (hF _ 5 _ a_0 rfl)
      refine r_getq C fr_X7_31 hW a_0 rfl rfl (hF _ 5 _ a_0 rfl) dX7_serveHoses_8 ?_
      refine lv_iload_n hx hb dX7_serveHoses_11 rfl (lv_at hl 1 rfl) ?_
      obtain ⟨g_12, h⟩ := gd_some h
      have hm := mt_cases h
      clear h
      rcases hm with ⟨o_12, h⟩ | ⟨t_12, o_12, h⟩
      · refine r_aaldN C hW ap_8 rfl (by decide) (ix_in g_12) o_12 dX7_serveHoses_12 ?_
        refine lv_astore_nN (lv' := [(2, .null), (0, .ref (q 0)), (1, .int x1)]) hx hb dX7_serveHoses_13 rfl hl (by decide) rfl (fun ls hl => ?_)
        refine lv_aload_nN hx hb dX7_serveHoses_14 rfl (lv_at hl 0 rfl) ?_
        refine lv_ifnullN (tgt := 41) hx hb dX7_serveHoses_15 (by decide) ?_
        refine lv_iinc (v := x1 + 1) (lv' := [(1, .int (x1 + 1)), (2, .null), (0, .ref (q 0))]) hx hb dX7_serveHoses_41 hl (k := 2) rfl rfl (by decide) rfl (fun ls hl => ?_)
        refine lv_goto (tgt := 2) hx hb dX7_serveHoses_44 (by decide) ?_
        exact ih a_0 h hW hF (lv_sub hl [2, 0] rfl)
      · have a_t_12 := hW.cl ap_8 o_12
        have k_t_12 : kd t_12 = 2 := hW.kn ap_8 o_12 (by rfl)
        refine r_aaldS C hW ap_8 rfl (by decide) (ix_in g_12) o_12 dX7_serveHoses_12 ?_
        refine lv_astore_n (lv' := [(2, .ref (q t_12)), (0, .ref (q 0)), (1, .int x1)]) hx hb dX7_serveHoses_13 rfl hl (by decide) rfl (fun ls hl => ?_)
        refine lv_aload_n hx hb dX7_serveHoses_14 rfl (lv_at hl 0 rfl) ?_
        refine lv_ifnull hx hb dX7_serveHoses_15 ?_
        refine lv_aload_n hx hb dX7_serveHoses_18 rfl (lv_at hl 1 rfl) ?_
        refine lv_aload_n hx hb dX7_serveHoses_19 rfl (lv_at hl 0 rfl) ?_
        obtain ⟨z_20, e_z_20, h⟩ := bd_some h
        refine r_callV (v := (some (.int z_20.1))) (As := [.ref (q t_12)]) (rest := []) C ml_X7_drawsOn gm_544 gm_546 gs_16 (ci := 7) rfl hW a_0 rfl hl.1 (c_X7_drawsOn a_0 a_t_12 k_t_12 hF e_z_20) rfl ⟨(by decide), (by decide)⟩ ⟨(by decide), (by decide)⟩ rfl (Nat.le_of_ble_eq_true rfl) dX7_serveHoses_20 (fun H locs hW => ?_)
        refine lv_if_ne (tgt := 41) hx hb dX7_serveHoses_23 (by decide) (fun c_23 => ?_) (fun c_23 => ?_)
        · have h := (if_neg c_23).symm.trans h
          refine lv_iinc (v := x1 + 1) (lv' := [(1, .int (x1 + 1)), (2, .ref (q t_12)), (0, .ref (q 0))]) hx hb dX7_serveHoses_41 hl (k := 2) rfl rfl (by decide) rfl (fun ls hl => ?_)
          refine lv_goto (tgt := 2) hx hb dX7_serveHoses_44 (by decide) ?_
          exact ih a_0 h hW hF (lv_sub hl [2, 0] rfl)
        · have h := (if_pos c_23).symm.trans h
          refine lv_aload_n hx hb dX7_serveHoses_26 rfl (lv_at hl 0 rfl) ?_
          refine lv_aload_n hx hb dX7_serveHoses_27 rfl (lv_at hl 1 rfl) ?_
          refine r_get C fr_X7_40 hW a_0 rfl rfl dX7_serveHoses_28 ?_
          obtain ⟨I_31, e_I_31, h⟩ := lt_some h
          refine r_put C fr_X7_249 (Or.inl rfl) hW a_t_12 k_t_12 rfl rfl rfl dX7_serveHoses_31 (fun H locs hW => ?_)
          rw [← e_I_31] at hW
          refine lv_aload_n hx hb dX7_serveHoses_34 rfl (lv_at hl 1 rfl) ?_
          refine r_getq C fr_X7_31 hW a_0 rfl rfl (hF _ 5 _ a_0 rfl) dX7_serveHoses_35 ?_
          refine lv_iload_n hx hb dX7_serveHoses_38 rfl (lv_at hl 2 rfl) ?_
          refine lv_null hx hb dX7_serveHoses_39 ?_
          obtain ⟨g_40, h⟩ := gd_some h
          obtain ⟨R_40, e_R_40, h⟩ := lt_some h
          refine r_aastN C hW ap_8 rfl (by decide) (ix_in g_40) dX7_serveHoses_40 (fun H locs hW => ?_)
          have hF := hF.pq (a := 3) (j := x1.toNatClampNeg) (v := none) rfl
          rw [← e_R_40] at hW hF
          refine lv_iinc (v := x1 + 1) (lv' := [(1, .int (x1 + 1)), (2, .ref (q t_12)), (0, .ref (q 0))]) hx hb dX7_serveHoses_41 hl (k := 2) rfl rfl (by decide) rfl (fun ls hl => ?_)
          refine lv_goto (tgt := 2) hx hb dX7_serveHoses_44 (by decide) ?_
          exact ih a_0 h hW hF (lv_sub hl [2, 0] rfl)
def f_X7_serveHoses (I : MI) (R : MR) : Option (MI × MR) := f_X7_serveHoses_2 1000000 I R 0
set_option maxHeartbeats 4000000 in
set_option maxRecDepth 100000 in
theorem c_X7_serveHoses {l : Launch} {E : EV} {q : Nat → Nat} {al : Nat → Bool} {n : Nat} {I : MI} {R : MR}  (a_0 : al 0 = true) (hF : Fx al R) {res : MI × MR} (h : f_X7_serveHoses I R = some res) : Ct l yX7_serveHoses cX7_serveHoses 3 none 4 0 0 E q al I R n [.ref (q 0)] none al res.1 res.2 n := by
  refine Ct.of (own := RX7) (mn := "serveHoses") (by decide) rfl rfl (Nat.le_of_ble_eq_true rfl) ?_
  intro p e s m args below meth c ls C hmn hargs hW hl
  have hx := C.1
  have hb := C.2.1
  have hl : lv_has ls 3 [(0, .ref (q 0))] := hl
  unfold f_X7_serveHoses at h
  refine lv_iconst (v := 0) hx hb dX7_serveHoses_0 (by decide) ?_
  refine lv_istore_n (lv' := [(1, .int 0), (0, .ref (q 0))]) hx hb dX7_serveHoses_1 rfl hl (by decide) rfl (fun ls hl => ?_)
  exact t_X7_serveHoses_2 C 1000000 a_0 h hW hF (lv_sub hl [1, 0] rfl)
theorem fxp_X7_serveHoses_2 {al : Nat → Bool} : ∀ (nn : Nat) {I : MI} {R : MR} {x1 : Int32} {res : MI × MR}, Fx al R → f_X7_serveHoses_2 nn I R x1 = some res → Fx al res.2 := by
  intro nn
  induction nn with
  | zero => intro I R x1 res hF h; cases (show (none : Option (MI × MR)) = some res from h)
  | succ nn ih =>
    intro I R x1 res hF h
    rw [f_X7_serveHoses_2.eq_2] at h
    by_cases c1 : 2 ≤ x1
    · have h := (if_pos c1).symm.trans h
      have h := Option.some.inj h
      subst h
      exact hF
    · have h := (if_neg c1).symm.trans h
      obtain ⟨g, h⟩ := gd_some h
      rcases mt_cases h with ⟨o, h⟩ | ⟨u, o, h⟩
      · exact ih hF h
      · obtain ⟨z, e, h⟩ := bd_some h
        by_cases c2 : z.1 = 0
        · have h := (if_pos c2).symm.trans h
          obtain ⟨_, _, h⟩ := lt_some h
          obtain ⟨g, h⟩ := gd_some h
          obtain ⟨R1, e1, h⟩ := lt_some h
          subst e1
          exact ih (hF.pq rfl) h
        · exact ih hF ((if_neg c2).symm.trans h)
theorem fxp_X7_serveHoses {al : Nat → Bool} {I : MI} {R : MR} {res : MI × MR} (hF : Fx al R) (h : f_X7_serveHoses I R = some res) : Fx al res.2 := fxp_X7_serveHoses_2 1000000 hF h
