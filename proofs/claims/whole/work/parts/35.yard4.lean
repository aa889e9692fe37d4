def f_X7_book (I : MI) (R : MR) : Option (Int32 × MI × MR) := bd (R 0 17) (fun z_5 => bd (f_X1_readInto I R z_5) (fun z_8 => lt (p2 z_8.2 6 1 0) (fun I_17 => (if z_8.1 < 0 then (some (z_8.1, I_17, R)) else (bd (R 0 16) (fun z_25 => bd (R 0 17) (fun z_31 => lt (pq R 0 16 (some z_31)) (fun R_34 => lt (pq R_34 0 17 (some z_25)) (fun R_39 => some (z_8.1, I_17, R_39))))))))))
set_option maxHeartbeats 4000000 in
set_option maxRecDepth 100000 in
theorem c_X7_book {l : Launch} {E : EV} {q : Nat → Nat} {al : Nat → Bool} {n : Nat} {I : MI} {R : MR}  (a_0 : al 0 = true) (hF : Fx al R) {res : Int32 × MI × MR} (h : f_X7_book I R = some res) : Ct l yX7_book cX7_book 3 (some .int) 9 0 0 E q al I R n [.ref (q 0)] (some (.int res.1)) al res.2.1 res.2.2 n := by
  refine Ct.of (own := RX7) (mn := "book") (by decide) rfl rfl (Nat.le_of_ble_eq_true rfl) ?_
  intro p e s m args below meth c ls C hmn hargs hW hl
  have hx := C.1
  have hb := C.2.1
  have hl : lv_has ls 3 [(0, .ref (q 0))] := hl
  unfold f_X7_book at h
  refine lv_aload_n hx hb dX7_book_0 rfl (lv_at hl 0 rfl) ?_
  have ap_1 : al 8 = true := hW.cl a_0 (hF _ 13 _ a_0 rfl)
  refine r_getq C fr_X7_66 hW a_0 rfl rfl (hF _ 13 _ a_0 rfl) dX7_book_1 ?_
  refine lv_aload_n hx hb dX7_book_4 rfl (lv_at hl 0 rfl) ?_
  obtain ⟨z_5, e_z_5, h⟩ := bd_some h
  have a_z_5 : al z_5 = true := hW.cl a_0 e_z_5
  have k_z_5 : kd z_5 = 5 := hW.kn a_0 e_z_5 (by rfl)
  refine r_getq C fr_X7_91 hW a_0 rfl rfl e_z_5 dX7_book_5 ?_
  obtain ⟨z_8, e_z_8, h⟩ := bd_some h
  refine r_callV (v := (some (.int z_8.1))) (As := [.ref (q z_5)]) (rest := []) C ml_X1_readInto gm_357 gm_358 gm_359 (ci := 1) rfl hW ap_1 rfl hl.1 (c_X1_readInto ap_1 a_z_5 k_z_5 hF e_z_8) rfl ⟨(by decide), (by decide)⟩ ⟨(by decide), (by decide)⟩ rfl (Nat.le_of_ble_eq_true rfl) dX7_book_8 (fun H locs hW => ?_)
  refine lv_istore_n (lv' := [(1, .int z_8.1), (0, .ref (q 0))]) hx hb dX7_book_11 rfl hl (by decide) rfl (fun ls hl => ?_)
  refine lv_aload_n hx hb dX7_book_12 rfl (lv_at hl 1 rfl) ?_
  have ap_13 : al 6 = true := hW.cl a_0 (hF _ 12 _ a_0 rfl)
  refine r_getq C fr_X7_57 hW a_0 rfl rfl (hF _ 12 _ a_0 rfl) dX7_book_13 ?_
  refine lv_iconst (v := 0) hx hb dX7_book_16 (by decide) ?_
  obtain ⟨I_17, e_I_17, h⟩ := lt_some h
  refine r_put C fr_X7_115 (Or.inl rfl) hW ap_13 rfl rfl rfl rfl dX7_book_17 (fun H locs hW => ?_)
  rw [← e_I_17] at hW
  refine lv_iload_n hx hb dX7_book_20 rfl (lv_at hl 0 rfl) ?_
  refine lv_if_lt (tgt := 42) hx hb dX7_book_21 (by decide) (fun c_21 => ?_) (fun c_21 => ?_)
  · have h := (if_pos c_21).symm.trans h
    refine lv_iload_n hx hb dX7_book_42 rfl (lv_at hl 0 rfl) ?_
    have h := Option.some.inj h
    subst h
    exact r_iret C hW dX7_book_43
  · have h := (if_neg c_21).symm.trans h
    refine lv_aload_n hx hb dX7_book_24 rfl (lv_at hl 1 rfl) ?_
    obtain ⟨z_25, e_z_25, h⟩ := bd_some h
    have a_z_25 : al z_25 = true := hW.cl a_0 e_z_25
    have k_z_25 : kd z_25 = 5 := hW.kn a_0 e_z_25 (by rfl)
    refine r_getq C fr_X7_87 hW a_0 rfl rfl e_z_25 dX7_book_25 ?_
    refine lv_astore_n (lv' := [(2, .ref (q z_25)), (1, .int z_8.1), (0, .ref (q 0))]) hx hb dX7_book_28 rfl hl (by decide) rfl (fun ls hl => ?_)
    refine lv_aload_n hx hb dX7_book_29 rfl (lv_at hl 2 rfl) ?_
    refine lv_aload_n hx hb dX7_book_30 rfl (lv_at hl 2 rfl) ?_
    obtain ⟨z_31, e_z_31, h⟩ := bd_some h
    have a_z_31 : al z_31 = true := hW.cl a_0 e_z_31
    have k_z_31 : kd z_31 = 5 := hW.kn a_0 e_z_31 (by rfl)
    refine r_getq C fr_X7_91 hW a_0 rfl rfl e_z_31 dX7_book_31 ?_
    obtain ⟨R_34, e_R_34, h⟩ := lt_some h
    refine r_putq C fr_X7_87 (Or.inl rfl) hW a_0 rfl rfl a_z_31 k_z_31 rfl rfl dX7_book_34 (fun H locs hW => ?_)
    have hF := hF.pq (a := 0) (j := 16) (v := some z_31) rfl
    rw [← e_R_34] at hW hF
    refine lv_aload_n hx hb dX7_book_37 rfl (lv_at hl 2 rfl) ?_
    refine lv_aload_n hx hb dX7_book_38 rfl (lv_at hl 0 rfl) ?_
    obtain ⟨R_39, e_R_39, h⟩ := lt_some h
    refine r_putq C fr_X7_91 (Or.inl rfl) hW a_0 rfl rfl a_z_25 k_z_25 rfl rfl dX7_book_39 (fun H locs hW => ?_)
    have hF := hF.pq (a := 0) (j := 17) (v := some z_25) rfl
    rw [← e_R_39] at hW hF
    refine lv_iload_n hx hb dX7_book_42 rfl (lv_at hl 1 rfl) ?_
    have h := Option.some.inj h
    subst h
    exact r_iret C hW dX7_book_43
def f_X7_pass_27  : Nat → MI → MR → Int32 → Int32 → Option (Int32 × MI × MR)
  | 0, _, _, _, _ => none
  | nn + 1, I, R, x1, x2 => (if x1 ≤ x2 then (some (I 0 8, I, R)) else (bd (f_X7_takeFromLine I R) (fun z_33 => bd (f_X7_serveHoses z_33.1 z_33.2) (fun z_37 => bd (f_X7_coolCars z_37.1 z_37.2) (fun z_41 => bd (f_X7_runPress z_41 z_37.2) (fun z_45 => lt (p2 z_45 0 8 ((z_45 0 8) + 1)) (fun I_55 => f_X7_pass_27 nn I_55 z_37.2 x1 (x2 + 1))))))))
set_option maxHeartbeats 4000000 in
set_option maxRecDepth 100000 in
theorem t_X7_pass_27 {p : Program} {l : Launch} {e : Env} {s : State} {m : MethodId} {args : Array Value} {below : List Frame} {meth : Method} {c : Code} {E : EV} {q : Nat → Nat} {al : Nat → Bool} {n : Nat} (C : CX p s m args meth c E cX7_pass RX7 3 (some .int)) {res : Int32 × MI × MR}   : ∀ (nn : Nat) {I : MI} {R : MR} {x1 : Int32} {x2 : Int32} {H : Heap} {locs : List Loc} {ls : Array Slot} (a_0 : al 0 = true) (h : f_X7_pass_27 nn I R x1 x2 = some res) (hW : Wd E q al s.heap I R n H locs) (hF : Fx al R) (hl : lv_has ls 3 [(0, .ref (q 0)), (1, .int x1), (2, .int x2)]), W p l e (rmL 5 0 0) s m args below meth c H locs 0 0 (MQ below (Pst E q (some (.int res.1)) al res.2.1 res.2.2 n) args s 0 0 (Bs E)) (F0 m 27 ls []) := by
  have hx := C.1
  have hb := C.2.1
  intro nn
  induction nn with
  | zero =>
    intro I R x1 x2 H locs ls a_0 h
    cases (show (none : Option (Int32 × MI × MR)) = some res from h)
  | succ nn ih =>
    intro I R x1 x2 H locs ls a_0 h hW hF hl
    rw [f_X7_pass_27.eq_2] at h
    refine lv_iload_n hx hb dX7_pass_27 rfl (lv_at hl 2 rfl) ?_
    refine lv_iload_n hx hb dX7_pass_28 rfl (lv_at hl 1 rfl) ?_
    refine lv_icmp_ge (tgt := 64) hx hb dX7_pass_29 (by decide) (fun c_29 => ?_) (fun c_29 => ?_)
    · have h := (if_pos c_29).symm.trans h
      refine lv_aload_n hx hb dX7_pass_64 rfl (lv_at hl 0 rfl) ?_
      refine r_get C fr_X7_40 hW a_0 rfl rfl dX7_pass_65 ?_
      have h := Option.some.inj h
      subst h
      exact r_iret C hW dX7_pass_68
    · have h := (if_neg c_29).symm.trans h
      refine lv_aload_n hx hb dX7_pass_32 rfl (lv_at hl 0 rfl) ?_
      obtain ⟨z_33, e_z_33, h⟩ := bd_some h
      refine r_callV (v := none) (As := []) (rest := []) C ml_X7_takeFromLine gm_536 gm_538 gs_14 (ci := 7) rfl hW a_0 rfl hl.1 (c_X7_takeFromLine a_0 hF e_z_33) rfl ⟨(by decide), (by decide)⟩ ⟨(by decide), (by decide)⟩ rfl (Nat.le_of_ble_eq_true rfl) dX7_pass_33 (fun H locs hW => ?_)
      have hF := fxp_X7_takeFromLine hF e_z_33
      refine lv_aload_n hx hb dX7_pass_36 rfl (lv_at hl 0 rfl) ?_
      obtain ⟨z_37, e_z_37, h⟩ := bd_some h
      refine r_callV (v := none) (As := []) (rest := []) C ml_X7_serveHoses gm_540 gm_542 gs_15 (ci := 7) rfl hW a_0 rfl hl.1 (c_X7_serveHoses a_0 hF e_z_37) rfl ⟨(by decide), (by decide)⟩ ⟨(by decide), (by decide)⟩ rfl (Nat.le_of_ble_eq_true rfl) dX7_pass_37 (fun H locs hW => ?_)
      have hF := fxp_X7_serveHoses hF e_z_37
      refine lv_aload_n hx hb dX7_pass_40 rfl (lv_at hl 0 rfl) ?_
      obtain ⟨z_41, e_z_41, h⟩ := bd_some h
      refine r_callV (v := none) (As := []) (rest := []) C ml_X7_coolCars gm_584 gm_586 gs_19 (ci := 7) rfl hW a_0 rfl hl.1 (c_X7_coolCars a_0 hF e_z_41) rfl ⟨(by decide), (by decide)⟩ ⟨(by decide), (by decide)⟩ rfl (Nat.le_of_ble_eq_true rfl) dX7_pass_41 (fun H locs hW => ?_)
      refine lv_aload_n hx hb dX7_pass_44 rfl (lv_at hl 0 rfl) ?_
      obtain ⟨z_45, e_z_45, h⟩ := bd_some h
      refine r_callV (v := none) (As := []) (rest := []) C ml_X7_runPress gm_592 gm_594 gs_20 (ci := 7) rfl hW a_0 rfl hl.1 (c_X7_runPress a_0 hF e_z_45) rfl ⟨(by decide), (by decide)⟩ ⟨(by decide), (by decide)⟩ rfl (Nat.le_of_ble_eq_true rfl) dX7_pass_45 (fun H locs hW => ?_)
      refine lv_aload_n hx hb dX7_pass_48 rfl (lv_at hl 0 rfl) ?_
      refine lv_dup hx hb dX7_pass_49 rfl ?_
      refine r_get C fr_X7_40 hW a_0 rfl rfl dX7_pass_50 ?_
      refine lv_iconst (v := 1) hx hb dX7_pass_53 (by decide) ?_
      refine lv_iadd hx hb dX7_pass_54 ?_
      obtain ⟨I_55, e_I_55, h⟩ := lt_some h
      refine r_put C fr_X7_40 (Or.inl rfl) hW a_0 rfl rfl rfl rfl dX7_pass_55 (fun H locs hW => ?_)
      rw [← e_I_55] at hW
      refine lv_iinc (v := x2 + 1) (lv' := [(2, .int (x2 + 1)), (0, .ref (q 0)), (1, .int x1)]) hx hb dX7_pass_58 hl (k := 2) rfl rfl (by decide) rfl (fun ls hl => ?_)
      refine lv_goto (tgt := 27) hx hb dX7_pass_61 (by decide) ?_
      exact ih a_0 h hW hF (lv_sub hl [1, 2, 0] rfl)
def f_X7_pass (I : MI) (R : MR) (x1 : Int32) : Option (Int32 × MI × MR) := bd (f_X7_within I R x1 1 500) (fun z_5 => (if z_5 = 0 then (some ((-1), I, R)) else ((if x1 ≤ (9999 - (I 0 8)) then (f_X7_pass_27 1000000 I R x1 0) else (some ((-1), I, R))))))
set_option maxHeartbeats 4000000 in
set_option maxRecDepth 100000 in
theorem c_X7_pass {l : Launch} {E : EV} {q : Nat → Nat} {al : Nat → Bool} {n : Nat} {I : MI} {R : MR} {x1 : Int32} (a_0 : al 0 = true) (hF : Fx al R) {res : Int32 × MI × MR} (h : f_X7_pass I R x1 = some res) : Ct l yX7_pass cX7_pass 3 (some .int) 5 0 0 E q al I R n [.ref (q 0), .int x1] (some (.int res.1)) al res.2.1 res.2.2 n := by
  refine Ct.of (own := RX7) (mn := "pass") (by decide) rfl rfl (Nat.le_of_ble_eq_true rfl) ?_
  intro p e s m args below meth c ls C hmn hargs hW hl
  have hx := C.1
  have hb := C.2.1
  have hl : lv_has ls 3 [(0, .ref (q 0)), (1, .int x1)] := hl
  unfold f_X7_pass at h
  refine lv_iload_n hx hb dX7_pass_0 rfl (lv_at hl 1 rfl) ?_
  refine lv_iconst (v := 1) hx hb dX7_pass_1 (by decide) ?_
  refine lv_sipush (v := 500) hx hb dX7_pass_2 (by decide) ?_
  obtain ⟨z_5, e_z_5, h⟩ := bd_some h
  refine r_callS (v := (some (.int z_5))) (As := [.int x1, .int 1, .int 500]) (rest := []) C ml_X7_within gm_321 gm_322 hW hl.1 (c_X7_within  e_z_5) rfl ⟨(by decide), (by decide)⟩ ⟨(by decide), (by decide)⟩ rfl (Nat.le_of_ble_eq_true rfl) dX7_pass_5 (fun H locs hW => ?_)
  refine lv_if_eq (tgt := 23) hx hb dX7_pass_8 (by decide) (fun c_8 => ?_) (fun c_8 => ?_)
  · have h := (if_pos c_8).symm.trans h
    refine lv_iconst (v := (-1)) hx hb dX7_pass_23 (by decide) ?_
    have h := Option.some.inj h
    subst h
    exact r_iret C hW dX7_pass_24
  · have h := (if_neg c_8).symm.trans h
    refine lv_iload_n hx hb dX7_pass_11 rfl (lv_at hl 1 rfl) ?_
    refine lv_sipush (v := 9999) hx hb dX7_pass_12 (by decide) ?_
    refine lv_aload_n hx hb dX7_pass_15 rfl (lv_at hl 0 rfl) ?_
    refine r_get C fr_X7_40 hW a_0 rfl rfl dX7_pass_16 ?_
    refine lv_isub hx hb dX7_pass_19 ?_
    refine lv_icmp_le (tgt := 25) hx hb dX7_pass_20 (by decide) (fun c_20 => ?_) (fun c_20 => ?_)
    · have h := (if_pos c_20).symm.trans h
      refine lv_iconst (v := 0) hx hb dX7_pass_25 (by decide) ?_
      refine lv_istore_n (lv' := [(2, .int 0), (0, .ref (q 0)), (1, .int x1)]) hx hb dX7_pass_26 rfl hl (by decide) rfl (fun ls hl => ?_)
      exact t_X7_pass_27 C 1000000 a_0 h hW hF (lv_sub hl [1, 2, 0] rfl)
    · have h := (if_neg c_20).symm.trans h
      refine lv_iconst (v := (-1)) hx hb dX7_pass_23 (by decide) ?_
      have h := Option.some.inj h
      subst h
      exact r_iret C hW dX7_pass_24
