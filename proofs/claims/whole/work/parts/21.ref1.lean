def f_X8_in (I : MI) (R : MR) (x0 : Int32) (x1 : Int32) (x2 : Int32) : Option (Int32) := (if x0 < x1 then (some (0)) else ((if x2 < x0 then (some (0)) else (some (1)))))
set_option maxHeartbeats 4000000 in
set_option maxRecDepth 100000 in
theorem c_X8_in {l : Launch} {E : EV} {q : Nat → Nat} {al : Nat → Bool} {n : Nat} {I : MI} {R : MR} {x0 : Int32} {x1 : Int32} {x2 : Int32}  {res : Int32} (h : f_X8_in I R x0 x1 x2 = some res) : Ct l yX8_in cX8_in 3 (some .boolean) 1 0 0 E q al I R n [.int x0, .int x1, .int x2] (some (.int res)) al I R n := by
  refine Ct.of (own := RX8) (mn := "in") (by decide) rfl rfl (Nat.le_of_ble_eq_true rfl) ?_
  intro p e s m args below meth c ls C hmn hargs hW hl
  have hx := C.1
  have hb := C.2.1
  have hl : lv_has ls 3 [(0, .int x0), (1, .int x1), (2, .int x2)] := hl
  unfold f_X8_in at h
  refine lv_iload_n hx hb dX8_in_0 rfl (lv_at hl 0 rfl) ?_
  refine lv_iload_n hx hb dX8_in_1 rfl (lv_at hl 1 rfl) ?_
  refine lv_icmp_lt (tgt := 14) hx hb dX8_in_2 (by decide) (fun c_2 => ?_) (fun c_2 => ?_)
  · have h := (if_pos c_2).symm.trans h
    refine lv_iconst (v := 0) hx hb dX8_in_14 (by decide) ?_
    have h := Option.some.inj h
    subst h
    exact r_zret C hW (Or.inl rfl) dX8_in_15
  · have h := (if_neg c_2).symm.trans h
    refine lv_iload_n hx hb dX8_in_5 rfl (lv_at hl 0 rfl) ?_
    refine lv_iload_n hx hb dX8_in_6 rfl (lv_at hl 2 rfl) ?_
    refine lv_icmp_gt (tgt := 14) hx hb dX8_in_7 (by decide) (fun c_7 => ?_) (fun c_7 => ?_)
    · have h := (if_pos c_7).symm.trans h
      refine lv_iconst (v := 0) hx hb dX8_in_14 (by decide) ?_
      have h := Option.some.inj h
      subst h
      exact r_zret C hW (Or.inl rfl) dX8_in_15
    · have h := (if_neg c_7).symm.trans h
      refine lv_iconst (v := 1) hx hb dX8_in_10 (by decide) ?_
      refine lv_goto (tgt := 15) hx hb dX8_in_11 (by decide) ?_
      have h := Option.some.inj h
      subst h
      exact r_zret C hW (Or.inr rfl) dX8_in_15
def f_X8_isBank (I : MI) (R : MR) (x1 : Int32) : Option (Int32) := bd (f_X8_in I R x1 0 ((I 100 2) - 1)) (fun z_8 => gd (z_8 = 0 ∨ z_8 = 1) (some (z_8)))
set_option maxHeartbeats 4000000 in
set_option maxRecDepth 100000 in
theorem c_X8_isBank {l : Launch} {E : EV} {q : Nat → Nat} {al : Nat → Bool} {n : Nat} {I : MI} {R : MR} {x1 : Int32} (a_100 : al 100 = true) {res : Int32} (h : f_X8_isBank I R x1 = some res) : Ct l yX8_isBank cX8_isBank 2 (some .boolean) 2 0 0 E q al I R n [.ref (q 100), .int x1] (some (.int res)) al I R n := by
  refine Ct.of (own := RX8) (mn := "isBank") (by decide) rfl rfl (Nat.le_of_ble_eq_true rfl) ?_
  intro p e s m args below meth c ls C hmn hargs hW hl
  have hx := C.1
  have hb := C.2.1
  have hl : lv_has ls 2 [(0, .ref (q 100)), (1, .int x1)] := hl
  unfold f_X8_isBank at h
  refine lv_iload_n hx hb dX8_isBank_0 rfl (lv_at hl 1 rfl) ?_
  refine lv_iconst (v := 0) hx hb dX8_isBank_1 (by decide) ?_
  refine lv_aload_n hx hb dX8_isBank_2 rfl (lv_at hl 0 rfl) ?_
  refine r_get C fr_X8_131 hW a_100 rfl rfl dX8_isBank_3 ?_
  refine lv_iconst (v := 1) hx hb dX8_isBank_6 (by decide) ?_
  refine lv_isub hx hb dX8_isBank_7 ?_
  obtain ⟨z_8, e_z_8, h⟩ := bd_some h
  refine r_callS (v := (some (.int z_8))) (As := [.int x1, .int 0, .int ((I 100 2) - 1)]) (rest := []) C ml_X8_in gm_881 gm_882 hW hl.1 (c_X8_in  e_z_8) rfl ⟨(by decide), (by decide)⟩ ⟨(by decide), (by decide)⟩ rfl (Nat.le_of_ble_eq_true rfl) dX8_isBank_8 (fun H locs hW => ?_)
  obtain ⟨g_11, h⟩ := gd_some h
  have h := Option.some.inj h
  subst h
  exact r_zret C hW g_11 dX8_isBank_11
def f_X8_bank (I : MI) (R : MR) (x1 : Int32) (x2 : Int32) (x3 : Int32) : Option (Int32 × MI) := (if (I 100 2) = 4 then (some ((-1), I)) else (bd (f_X8_in I R x1 1 100) (fun z_12 => (if z_12 = 0 then (some ((-1), I)) else (bd (f_X8_in I R x2 0 (x1 * 400)) (fun z_25 => (if z_25 = 0 then (some ((-1), I)) else (bd (f_X8_in I R x3 0 400) (fun z_36 => (if z_36 = 0 then (some ((-1), I)) else (gd (ix (I 100 2) (ln 104)) (lt (p2 I 104 (I 100 2).toNatClampNeg x1) (fun I_53 => gd (ix (I_53 100 2) (ln 105)) (lt (p2 I_53 105 (I_53 100 2).toNatClampNeg x2) (fun I_63 => gd (ix (I_63 100 2) (ln 106)) (lt (p2 I_63 106 (I_63 100 2).toNatClampNeg x3) (fun I_73 => lt (p2 I_73 100 24 ((I_73 100 24) + x2)) (fun I_81 => lt (p2 I_81 100 2 ((I_81 100 2) + 1)) (fun I_91 => some ((I_91 100 2) - 1, I_91))))))))))))))))))))
set_option maxHeartbeats 4000000 in
set_option maxRecDepth 100000 in
theorem c_X8_bank {l : Launch} {E : EV} {q : Nat → Nat} {al : Nat → Bool} {n : Nat} {I : MI} {R : MR} {x1 : Int32} {x2 : Int32} {x3 : Int32} (a_100 : al 100 = true) (hF : Fx al R) {res : Int32 × MI} (h : f_X8_bank I R x1 x2 x3 = some res) : Ct l yX8_bank cX8_bank 4 (some .int) 2 0 0 E q al I R n [.ref (q 100), .int x1, .int x2, .int x3] (some (.int res.1)) al res.2 R n := by
  refine Ct.of (own := RX8) (mn := "bank") (by decide) rfl rfl (Nat.le_of_ble_eq_true rfl) ?_
  intro p e s m args below meth c ls C hmn hargs hW hl
  have hx := C.1
  have hb := C.2.1
  have hl : lv_has ls 4 [(0, .ref (q 100)), (1, .int x1), (2, .int x2), (3, .int x3)] := hl
  unfold f_X8_bank at h
  refine lv_aload_n hx hb dX8_bank_0 rfl (lv_at hl 0 rfl) ?_
  refine r_get C fr_X8_131 hW a_100 rfl rfl dX8_bank_1 ?_
  refine lv_iconst (v := 4) hx hb dX8_bank_4 (by decide) ?_
  refine lv_icmp_eq (tgt := 42) hx hb dX8_bank_5 (by decide) (fun c_5 => ?_) (fun c_5 => ?_)
  · have h := (if_pos c_5).symm.trans h
    refine lv_iconst (v := (-1)) hx hb dX8_bank_42 (by decide) ?_
    have h := Option.some.inj h
    subst h
    exact r_iret C hW dX8_bank_43
  · have h := (if_neg c_5).symm.trans h
    refine lv_iload_n hx hb dX8_bank_8 rfl (lv_at hl 1 rfl) ?_
    refine lv_iconst (v := 1) hx hb dX8_bank_9 (by decide) ?_
    refine lv_bipush (v := 100) hx hb dX8_bank_10 (by decide) ?_
    obtain ⟨z_12, e_z_12, h⟩ := bd_some h
    refine r_callS (v := (some (.int z_12))) (As := [.int x1, .int 1, .int 100]) (rest := []) C ml_X8_in gm_881 gm_882 hW hl.1 (c_X8_in  e_z_12) rfl ⟨(by decide), (by decide)⟩ ⟨(by decide), (by decide)⟩ rfl (Nat.le_of_ble_eq_true rfl) dX8_bank_12 (fun H locs hW => ?_)
    refine lv_if_eq (tgt := 42) hx hb dX8_bank_15 (by decide) (fun c_15 => ?_) (fun c_15 => ?_)
    · have h := (if_pos c_15).symm.trans h
      refine lv_iconst (v := (-1)) hx hb dX8_bank_42 (by decide) ?_
      have h := Option.some.inj h
      subst h
      exact r_iret C hW dX8_bank_43
    · have h := (if_neg c_15).symm.trans h
      refine lv_iload_n hx hb dX8_bank_18 rfl (lv_at hl 2 rfl) ?_
      refine lv_iconst (v := 0) hx hb dX8_bank_19 (by decide) ?_
      refine lv_iload_n hx hb dX8_bank_20 rfl (lv_at hl 1 rfl) ?_
      refine lv_sipush (v := 400) hx hb dX8_bank_21 (by decide) ?_
      refine lv_imul hx hb dX8_bank_24 ?_
      obtain ⟨z_25, e_z_25, h⟩ := bd_some h
      refine r_callS (v := (some (.int z_25))) (As := [.int x2, .int 0, .int (x1 * 400)]) (rest := []) C ml_X8_in gm_881 gm_882 hW hl.1 (c_X8_in  e_z_25) rfl ⟨(by decide), (by decide)⟩ ⟨(by decide), (by decide)⟩ rfl (Nat.le_of_ble_eq_true rfl) dX8_bank_25 (fun H locs hW => ?_)
      refine lv_if_eq (tgt := 42) hx hb dX8_bank_28 (by decide) (fun c_28 => ?_) (fun c_28 => ?_)
      · have h := (if_pos c_28).symm.trans h
        refine lv_iconst (v := (-1)) hx hb dX8_bank_42 (by decide) ?_
        have h := Option.some.inj h
        subst h
        exact r_iret C hW dX8_bank_43
      · have h := (if_neg c_28).symm.trans h
        refine lv_iload_n hx hb dX8_bank_31 rfl (lv_at hl 3 rfl) ?_
        refine lv_iconst (v := 0) hx hb dX8_bank_32 (by decide) ?_
        refine lv_sipush (v := 400) hx hb dX8_bank_33 (by decide) ?_
        obtain ⟨z_36, e_z_36, h⟩ := bd_some h
        refine r_callS (v := (some (.int z_36))) (As := [.int x3, .int 0, .int 400]) (rest := []) C ml_X8_in gm_881 gm_882 hW hl.1 (c_X8_in  e_z_36) rfl ⟨(by decide), (by decide)⟩ ⟨(by decide), (by decide)⟩ rfl (Nat.le_of_ble_eq_true rfl) dX8_bank_36 (fun H locs hW => ?_)
        refine lv_if_ne (tgt := 44) hx hb dX8_bank_39 (by decide) (fun c_39 => ?_) (fun c_39 => ?_)
        · have h := (if_neg c_39).symm.trans h
          refine lv_aload_n hx hb dX8_bank_44 rfl (lv_at hl 0 rfl) ?_
          have ap_45 : al 104 = true := hW.cl a_100 (hF _ 3 _ a_100 rfl)
          refine r_getq C fr_X8_13 hW a_100 rfl rfl (hF _ 3 _ a_100 rfl) dX8_bank_45 ?_
          refine lv_aload_n hx hb dX8_bank_48 rfl (lv_at hl 0 rfl) ?_
          refine r_get C fr_X8_131 hW a_100 rfl rfl dX8_bank_49 ?_
          refine lv_iload_n hx hb dX8_bank_52 rfl (lv_at hl 1 rfl) ?_
          obtain ⟨g_53, h⟩ := gd_some h
          obtain ⟨I_53, e_I_53, h⟩ := lt_some h
          refine r_iast C hW ap_45 rfl (ix_in g_53) dX8_bank_53 (fun H locs hW => ?_)
          rw [← e_I_53] at hW
          refine lv_aload_n hx hb dX8_bank_54 rfl (lv_at hl 0 rfl) ?_
          have ap_55 : al 105 = true := hW.cl a_100 (hF _ 4 _ a_100 rfl)
          refine r_getq C fr_X8_17 hW a_100 rfl rfl (hF _ 4 _ a_100 rfl) dX8_bank_55 ?_
          refine lv_aload_n hx hb dX8_bank_58 rfl (lv_at hl 0 rfl) ?_
          refine r_get C fr_X8_131 hW a_100 rfl rfl dX8_bank_59 ?_
          refine lv_iload_n hx hb dX8_bank_62 rfl (lv_at hl 2 rfl) ?_
          obtain ⟨g_63, h⟩ := gd_some h
          obtain ⟨I_63, e_I_63, h⟩ := lt_some h
          refine r_iast C hW ap_55 rfl (ix_in g_63) dX8_bank_63 (fun H locs hW => ?_)
          rw [← e_I_63] at hW
          refine lv_aload_n hx hb dX8_bank_64 rfl (lv_at hl 0 rfl) ?_
          have ap_65 : al 106 = true := hW.cl a_100 (hF _ 5 _ a_100 rfl)
          refine r_getq C fr_X8_20 hW a_100 rfl rfl (hF _ 5 _ a_100 rfl) dX8_bank_65 ?_
          refine lv_aload_n hx hb dX8_bank_68 rfl (lv_at hl 0 rfl) ?_
          refine r_get C fr_X8_131 hW a_100 rfl rfl dX8_bank_69 ?_
          refine lv_iload_n hx hb dX8_bank_72 rfl (lv_at hl 3 rfl) ?_
          obtain ⟨g_73, h⟩ := gd_some h
          obtain ⟨I_73, e_I_73, h⟩ := lt_some h
          refine r_iast C hW ap_65 rfl (ix_in g_73) dX8_bank_73 (fun H locs hW => ?_)
          rw [← e_I_73] at hW
          refine lv_aload_n hx hb dX8_bank_74 rfl (lv_at hl 0 rfl) ?_
          refine lv_dup hx hb dX8_bank_75 rfl ?_
          refine r_get C fr_X8_138 hW a_100 rfl rfl dX8_bank_76 ?_
          refine lv_iload_n hx hb dX8_bank_79 rfl (lv_at hl 2 rfl) ?_
          refine lv_iadd hx hb dX8_bank_80 ?_
          obtain ⟨I_81, e_I_81, h⟩ := lt_some h
          refine r_put C fr_X8_138 (Or.inl rfl) hW a_100 rfl rfl rfl rfl dX8_bank_81 (fun H locs hW => ?_)
          rw [← e_I_81] at hW
          refine lv_aload_n hx hb dX8_bank_84 rfl (lv_at hl 0 rfl) ?_
          refine lv_dup hx hb dX8_bank_85 rfl ?_
          refine r_get C fr_X8_131 hW a_100 rfl rfl dX8_bank_86 ?_
          refine lv_iconst (v := 1) hx hb dX8_bank_89 (by decide) ?_
          refine lv_iadd hx hb dX8_bank_90 ?_
          obtain ⟨I_91, e_I_91, h⟩ := lt_some h
          refine r_put C fr_X8_131 (Or.inl rfl) hW a_100 rfl rfl rfl rfl dX8_bank_91 (fun H locs hW => ?_)
          rw [← e_I_91] at hW
          refine lv_aload_n hx hb dX8_bank_94 rfl (lv_at hl 0 rfl) ?_
          refine r_get C fr_X8_131 hW a_100 rfl rfl dX8_bank_95 ?_
          refine lv_iconst (v := 1) hx hb dX8_bank_98 (by decide) ?_
          refine lv_isub hx hb dX8_bank_99 ?_
          have h := Option.some.inj h
          subst h
          exact r_iret C hW dX8_bank_100
        · have h := (if_pos c_39).symm.trans h
          refine lv_iconst (v := (-1)) hx hb dX8_bank_42 (by decide) ?_
          have h := Option.some.inj h
          subst h
          exact r_iret C hW dX8_bank_43
def f_X8_target (I : MI) (R : MR) (x1 : Int32) (x2 : Int32) : Option (Int32 × MI) := bd (f_X8_isBank I R x1) (fun z_2 => (if z_2 = 0 then (some ((-1), I)) else (bd (f_X8_in I R x2 0 400) (fun z_13 => (if z_13 = 0 then (some ((-1), I)) else (gd (ix x1 (ln 106)) (gd (ix x1 (ln 106)) (lt (p2 I 106 x1.toNatClampNeg x2) (fun I_34 => some (I 106 x1.toNatClampNeg, I_34))))))))))
set_option maxHeartbeats 4000000 in
set_option maxRecDepth 100000 in
theorem c_X8_target {l : Launch} {E : EV} {q : Nat → Nat} {al : Nat → Bool} {n : Nat} {I : MI} {R : MR} {x1 : Int32} {x2 : Int32} (a_100 : al 100 = true) (hF : Fx al R) {res : Int32 × MI} (h : f_X8_target I R x1 x2 = some res) : Ct l yX8_target cX8_target 4 (some .int) 3 0 0 E q al I R n [.ref (q 100), .int x1, .int x2] (some (.int res.1)) al res.2 R n := by
  refine Ct.of (own := RX8) (mn := "target") (by decide) rfl rfl (Nat.le_of_ble_eq_true rfl) ?_
  intro p e s m args below meth c ls C hmn hargs hW hl
  have hx := C.1
  have hb := C.2.1
  have hl : lv_has ls 4 [(0, .ref (q 100)), (1, .int x1), (2, .int x2)] := hl
  unfold f_X8_target at h
  refine lv_aload_n hx hb dX8_target_0 rfl (lv_at hl 0 rfl) ?_
  refine lv_iload_n hx hb dX8_target_1 rfl (lv_at hl 1 rfl) ?_
  obtain ⟨z_2, e_z_2, h⟩ := bd_some h
  refine r_callV (v := (some (.int z_2))) (As := [.int x1]) (rest := []) C ml_X8_isBank gm_888 gm_890 gs_26 (ci := 8) rfl hW a_100 rfl hl.1 (c_X8_isBank a_100 e_z_2) rfl ⟨(by decide), (by decide)⟩ ⟨(by decide), (by decide)⟩ rfl (Nat.le_of_ble_eq_true rfl) dX8_target_2 (fun H locs hW => ?_)
  refine lv_if_eq (tgt := 19) hx hb dX8_target_5 (by decide) (fun c_5 => ?_) (fun c_5 => ?_)
  · have h := (if_pos c_5).symm.trans h
    refine lv_iconst (v := (-1)) hx hb dX8_target_19 (by decide) ?_
    have h := Option.some.inj h
    subst h
    exact r_iret C hW dX8_target_20
  · have h := (if_neg c_5).symm.trans h
    refine lv_iload_n hx hb dX8_target_8 rfl (lv_at hl 2 rfl) ?_
    refine lv_iconst (v := 0) hx hb dX8_target_9 (by decide) ?_
    refine lv_sipush (v := 400) hx hb dX8_target_10 (by decide) ?_
    obtain ⟨z_13, e_z_13, h⟩ := bd_some h
    refine r_callS (v := (some (.int z_13))) (As := [.int x2, .int 0, .int 400]) (rest := []) C ml_X8_in gm_881 gm_882 hW hl.1 (c_X8_in  e_z_13) rfl ⟨(by decide), (by decide)⟩ ⟨(by decide), (by decide)⟩ rfl (Nat.le_of_ble_eq_true rfl) dX8_target_13 (fun H locs hW => ?_)
    refine lv_if_ne (tgt := 21) hx hb dX8_target_16 (by decide) (fun c_16 => ?_) (fun c_16 => ?_)
    · have h := (if_neg c_16).symm.trans h
      refine lv_aload_n hx hb dX8_target_21 rfl (lv_at hl 0 rfl) ?_
      have ap_22 : al 106 = true := hW.cl a_100 (hF _ 5 _ a_100 rfl)
      refine r_getq C fr_X8_20 hW a_100 rfl rfl (hF _ 5 _ a_100 rfl) dX8_target_22 ?_
      refine lv_iload_n hx hb dX8_target_25 rfl (lv_at hl 1 rfl) ?_
      obtain ⟨g_26, h⟩ := gd_some h
      refine r_iald C hW ap_22 rfl (ix_in g_26) dX8_target_26 ?_
      refine lv_istore_n (lv' := [(3, .int (I 106 x1.toNatClampNeg)), (0, .ref (q 100)), (1, .int x1), (2, .int x2)]) hx hb dX8_target_27 rfl hl (by decide) rfl (fun ls hl => ?_)
      refine lv_aload_n hx hb dX8_target_28 rfl (lv_at hl 1 rfl) ?_
      refine r_getq C fr_X8_20 hW a_100 rfl rfl (hF _ 5 _ a_100 rfl) dX8_target_29 ?_
      refine lv_iload_n hx hb dX8_target_32 rfl (lv_at hl 2 rfl) ?_
      refine lv_iload_n hx hb dX8_target_33 rfl (lv_at hl 3 rfl) ?_
      obtain ⟨g_34, h⟩ := gd_some h
      obtain ⟨I_34, e_I_34, h⟩ := lt_some h
      refine r_iast C hW ap_22 rfl (ix_in g_34) dX8_target_34 (fun H locs hW => ?_)
      rw [← e_I_34] at hW
      refine lv_iload_n hx hb dX8_target_35 rfl (lv_at hl 0 rfl) ?_
      have h := Option.some.inj h
      subst h
      exact r_iret C hW dX8_target_36
    · have h := (if_pos c_16).symm.trans h
      refine lv_iconst (v := (-1)) hx hb dX8_target_19 (by decide) ?_
      have h := Option.some.inj h
      subst h
      exact r_iret C hW dX8_target_20
def f_X8_air (I : MI) (R : MR) (x1 : Int32) : Option (Int32 × MI) := bd (f_X8_in I R x1 (-30) 50) (fun z_5 => (if z_5 = 0 then (some ((-100), I)) else (lt (p2 I 100 1 x1) (fun I_21 => some (I 100 1, I_21)))))
set_option maxHeartbeats 4000000 in
set_option maxRecDepth 100000 in
theorem c_X8_air {l : Launch} {E : EV} {q : Nat → Nat} {al : Nat → Bool} {n : Nat} {I : MI} {R : MR} {x1 : Int32} (a_100 : al 100 = true) {res : Int32 × MI} (h : f_X8_air I R x1 = some res) : Ct l yX8_air cX8_air 3 (some .int) 2 0 0 E q al I R n [.ref (q 100), .int x1] (some (.int res.1)) al res.2 R n := by
  refine Ct.of (own := RX8) (mn := "air") (by decide) rfl rfl (Nat.le_of_ble_eq_true rfl) ?_
  intro p e s m args below meth c ls C hmn hargs hW hl
  have hx := C.1
  have hb := C.2.1
  have hl : lv_has ls 3 [(0, .ref (q 100)), (1, .int x1)] := hl
  unfold f_X8_air at h
  refine lv_iload_n hx hb dX8_air_0 rfl (lv_at hl 1 rfl) ?_
  refine lv_bipush (v := (-30)) hx hb dX8_air_1 (by decide) ?_
  refine lv_bipush (v := 50) hx hb dX8_air_3 (by decide) ?_
  obtain ⟨z_5, e_z_5, h⟩ := bd_some h
  refine r_callS (v := (some (.int z_5))) (As := [.int x1, .int (-30), .int 50]) (rest := []) C ml_X8_in gm_881 gm_882 hW hl.1 (c_X8_in  e_z_5) rfl ⟨(by decide), (by decide)⟩ ⟨(by decide), (by decide)⟩ rfl (Nat.le_of_ble_eq_true rfl) dX8_air_5 (fun H locs hW => ?_)
  refine lv_if_ne (tgt := 14) hx hb dX8_air_8 (by decide) (fun c_8 => ?_) (fun c_8 => ?_)
  · have h := (if_neg c_8).symm.trans h
    refine lv_aload_n hx hb dX8_air_14 rfl (lv_at hl 0 rfl) ?_
    refine r_get C fr_X8_7 hW a_100 rfl rfl dX8_air_15 ?_
    refine lv_istore_n (lv' := [(2, .int (I 100 1)), (0, .ref (q 100)), (1, .int x1)]) hx hb dX8_air_18 rfl hl (by decide) rfl (fun ls hl => ?_)
    refine lv_aload_n hx hb dX8_air_19 rfl (lv_at hl 1 rfl) ?_
    refine lv_iload_n hx hb dX8_air_20 rfl (lv_at hl 2 rfl) ?_
    obtain ⟨I_21, e_I_21, h⟩ := lt_some h
    refine r_put C fr_X8_7 (Or.inl rfl) hW a_100 rfl rfl rfl rfl dX8_air_21 (fun H locs hW => ?_)
    rw [← e_I_21] at hW
    refine lv_iload_n hx hb dX8_air_24 rfl (lv_at hl 0 rfl) ?_
    have h := Option.some.inj h
    subst h
    exact r_iret C hW dX8_air_25
  · have h := (if_pos c_8).symm.trans h
    refine lv_bipush (v := (-100)) hx hb dX8_air_11 (by decide) ?_
    have h := Option.some.inj h
    subst h
    exact r_iret C hW dX8_air_13
def f_X8_hoses_26  (I : MI) (R : MR) (x1 : Int32) : Option (Int32 × MI) := lt (p2 I 100 9 x1) (fun I_33 => some (I 100 9, I_33))
set_option maxHeartbeats 4000000 in
set_option maxRecDepth 100000 in
theorem t_X8_hoses_26 {p : Program} {l : Launch} {e : Env} {s : State} {m : MethodId} {args : Array Value} {below : List Frame} {meth : Method} {c : Code} {E : EV} {q : Nat → Nat} {al : Nat → Bool} {n : Nat} (C : CX p s m args meth c E cX8_hoses RX8 3 (some .int)) {res : Int32 × MI}   {I : MI} {R : MR} {x1 : Int32} (a_100 : al 100 = true) {H : Heap} {locs : List Loc} {ls : Array Slot} (h : f_X8_hoses_26 I R x1 = some res) (hW : Wd E q al s.heap I R n H locs) (hF : Fx al R) (hl : lv_has ls 3 [(0, .ref (q 100)), (1, .int x1)]) : W p l e (rmL 2 0 0) s m args below meth c H locs 0 0 (MQ below (Pst E q (some (.int res.1)) al res.2 R n) args s 0 0 (Bs E)) (F0 m 26 ls []) := by
  have hx := C.1
  have hb := C.2.1
  unfold f_X8_hoses_26 at h
  refine lv_aload_n hx hb dX8_hoses_26 rfl (lv_at hl 0 rfl) ?_
  refine r_get C fr_X8_33 hW a_100 rfl rfl dX8_hoses_27 ?_
  refine lv_istore_n (lv' := [(2, .int (I 100 9)), (0, .ref (q 100)), (1, .int x1)]) hx hb dX8_hoses_30 rfl hl (by decide) rfl (fun ls hl => ?_)
  refine lv_aload_n hx hb dX8_hoses_31 rfl (lv_at hl 1 rfl) ?_
  refine lv_iload_n hx hb dX8_hoses_32 rfl (lv_at hl 2 rfl) ?_
  obtain ⟨I_33, e_I_33, h⟩ := lt_some h
  refine r_put C fr_X8_33 (Or.inl rfl) hW a_100 rfl rfl rfl rfl dX8_hoses_33 (fun H locs hW => ?_)
  rw [← e_I_33] at hW
  refine lv_iload_n hx hb dX8_hoses_36 rfl (lv_at hl 0 rfl) ?_
  have h := Option.some.inj h
  subst h
  exact r_iret C hW dX8_hoses_37
def f_X8_hoses (I : MI) (R : MR) (x1 : Int32) : Option (Int32 × MI) := bd (f_X8_in I R x1 1 2) (fun z_3 => (if z_3 = 0 then (some ((-1), I)) else ((if x1 = 1 then (gd (ix 1 (ln 111)) ((if (I 111 (1 : Int32).toNatClampNeg) = (-1) then (f_X8_hoses_26 I R x1) else (some ((-1), I))))) else (f_X8_hoses_26 I R x1)))))
set_option maxHeartbeats 4000000 in
set_option maxRecDepth 100000 in
theorem c_X8_hoses {l : Launch} {E : EV} {q : Nat → Nat} {al : Nat → Bool} {n : Nat} {I : MI} {R : MR} {x1 : Int32} (a_100 : al 100 = true) (hF : Fx al R) {res : Int32 × MI} (h : f_X8_hoses I R x1 = some res) : Ct l yX8_hoses cX8_hoses 3 (some .int) 2 0 0 E q al I R n [.ref (q 100), .int x1] (some (.int res.1)) al res.2 R n := by
  refine Ct.of (own := RX8) (mn := "hoses") (by decide) rfl rfl (Nat.le_of_ble_eq_true rfl) ?_
  intro p e s m args below meth c ls C hmn hargs hW hl
  have hx := C.1
  have hb := C.2.1
  have hl : lv_has ls 3 [(0, .ref (q 100)), (1, .int x1)] := hl
  unfold f_X8_hoses at h
  refine lv_iload_n hx hb dX8_hoses_0 rfl (lv_at hl 1 rfl) ?_
  refine lv_iconst (v := 1) hx hb dX8_hoses_1 (by decide) ?_
  refine lv_iconst (v := 2) hx hb dX8_hoses_2 (by decide) ?_
  obtain ⟨z_3, e_z_3, h⟩ := bd_some h
  refine r_callS (v := (some (.int z_3))) (As := [.int x1, .int 1, .int 2]) (rest := []) C ml_X8_in gm_881 gm_882 hW hl.1 (c_X8_in  e_z_3) rfl ⟨(by decide), (by decide)⟩ ⟨(by decide), (by decide)⟩ rfl (Nat.le_of_ble_eq_true rfl) dX8_hoses_3 (fun H locs hW => ?_)
  refine lv_if_eq (tgt := 24) hx hb dX8_hoses_6 (by decide) (fun c_6 => ?_) (fun c_6 => ?_)
  · have h := (if_pos c_6).symm.trans h
    refine lv_iconst (v := (-1)) hx hb dX8_hoses_24 (by decide) ?_
    have h := Option.some.inj h
    subst h
    exact r_iret C hW dX8_hoses_25
  · have h := (if_neg c_6).symm.trans h
    refine lv_iload_n hx hb dX8_hoses_9 rfl (lv_at hl 1 rfl) ?_
    refine lv_iconst (v := 1) hx hb dX8_hoses_10 (by decide) ?_
    refine lv_icmp_ne (tgt := 26) hx hb dX8_hoses_11 (by decide) (fun c_11 => ?_) (fun c_11 => ?_)
    · have h := (if_neg c_11).symm.trans h
      exact t_X8_hoses_26 C a_100 h hW hF (lv_sub hl [0, 1] rfl)
    · have h := (if_pos c_11).symm.trans h
      refine lv_aload_n hx hb dX8_hoses_14 rfl (lv_at hl 0 rfl) ?_
      have ap_15 : al 111 = true := hW.cl a_100 (hF _ 10 _ a_100 rfl)
      refine r_getq C fr_X8_36 hW a_100 rfl rfl (hF _ 10 _ a_100 rfl) dX8_hoses_15 ?_
      refine lv_iconst (v := 1) hx hb dX8_hoses_18 (by decide) ?_
      obtain ⟨g_19, h⟩ := gd_some h
      refine r_iald C hW ap_15 rfl (ix_in g_19) dX8_hoses_19 ?_
      refine lv_iconst (v := (-1)) hx hb dX8_hoses_20 (by decide) ?_
      refine lv_icmp_eq (tgt := 26) hx hb dX8_hoses_21 (by decide) (fun c_21 => ?_) (fun c_21 => ?_)
      · have h := (if_pos c_21).symm.trans h
        exact t_X8_hoses_26 C a_100 h hW hF (lv_sub hl [0, 1] rfl)
      · have h := (if_neg c_21).symm.trans h
        refine lv_iconst (v := (-1)) hx hb dX8_hoses_24 (by decide) ?_
        have h := Option.some.inj h
        subst h
        exact r_iret C hW dX8_hoses_25
def f_X8_without (I : MI) (R : MR) (x0 : Int32) : Option (Int32) := (if x0 = 0 then (some (10)) else ((if x0 = 1 then (some (10)) else ((if x0 = 2 then (some (85)) else ((if x0 = 3 then (some (20)) else (some (1)))))))))
set_option maxHeartbeats 4000000 in
set_option maxRecDepth 100000 in
theorem c_X8_without {l : Launch} {E : EV} {q : Nat → Nat} {al : Nat → Bool} {n : Nat} {I : MI} {R : MR} {x0 : Int32}  {res : Int32} (h : f_X8_without I R x0 = some res) : Ct l yX8_without cX8_without 1 (some .int) 1 0 0 E q al I R n [.int x0] (some (.int res)) al I R n := by
  refine Ct.of (own := RX8) (mn := "without") (by decide) rfl rfl (Nat.le_of_ble_eq_true rfl) ?_
  intro p e s m args below meth c ls C hmn hargs hW hl
  have hx := C.1
  have hb := C.2.1
  have hl : lv_has ls 1 [(0, .int x0)] := hl
  unfold f_X8_without at h
  refine lv_iload_n hx hb dX8_without_0 rfl (lv_at hl 0 rfl) ?_
  refine lv_if_eq (tgt := 9) hx hb dX8_without_1 (by decide) (fun c_1 => ?_) (fun c_1 => ?_)
  · have h := (if_pos c_1).symm.trans h
    refine lv_bipush (v := 10) hx hb dX8_without_9 (by decide) ?_
    refine lv_goto (tgt := 35) hx hb dX8_without_11 (by decide) ?_
    have h := Option.some.inj h
    subst h
    exact r_iret C hW dX8_without_35
  · have h := (if_neg c_1).symm.trans h
    refine lv_iload_n hx hb dX8_without_4 rfl (lv_at hl 0 rfl) ?_
    refine lv_iconst (v := 1) hx hb dX8_without_5 (by decide) ?_
    refine lv_icmp_ne (tgt := 14) hx hb dX8_without_6 (by decide) (fun c_6 => ?_) (fun c_6 => ?_)
    · have h := (if_neg c_6).symm.trans h
      refine lv_iload_n hx hb dX8_without_14 rfl (lv_at hl 0 rfl) ?_
      refine lv_iconst (v := 2) hx hb dX8_without_15 (by decide) ?_
      refine lv_icmp_ne (tgt := 24) hx hb dX8_without_16 (by decide) (fun c_16 => ?_) (fun c_16 => ?_)
      · have h := (if_neg c_16).symm.trans h
        refine lv_iload_n hx hb dX8_without_24 rfl (lv_at hl 0 rfl) ?_
        refine lv_iconst (v := 3) hx hb dX8_without_25 (by decide) ?_
        refine lv_icmp_ne (tgt := 34) hx hb dX8_without_26 (by decide) (fun c_26 => ?_) (fun c_26 => ?_)
        · have h := (if_neg c_26).symm.trans h
          refine lv_iconst (v := 1) hx hb dX8_without_34 (by decide) ?_
          have h := Option.some.inj h
          subst h
          exact r_iret C hW dX8_without_35
        · have h := (if_pos c_26).symm.trans h
          refine lv_bipush (v := 20) hx hb dX8_without_29 (by decide) ?_
          refine lv_goto (tgt := 35) hx hb dX8_without_31 (by decide) ?_
          have h := Option.some.inj h
          subst h
          exact r_iret C hW dX8_without_35
      · have h := (if_pos c_16).symm.trans h
        refine lv_bipush (v := 85) hx hb dX8_without_19 (by decide) ?_
        refine lv_goto (tgt := 35) hx hb dX8_without_21 (by decide) ?_
        have h := Option.some.inj h
        subst h
        exact r_iret C hW dX8_without_35
    · have h := (if_pos c_6).symm.trans h
      refine lv_bipush (v := 10) hx hb dX8_without_9 (by decide) ?_
      refine lv_goto (tgt := 35) hx hb dX8_without_11 (by decide) ?_
      have h := Option.some.inj h
      subst h
      exact r_iret C hW dX8_without_35
def f_X8_four_3  : Nat → MI → MR → Int32 → Int32 → Option (MI)
  | 0, _, _, _, _ => none
  | nn + 1, I, R, x1, x2 => (if x2 < 0 then (some (I)) else (gd (ix (I 100 31) (ln 131)) (lt (p2 I 131 (I 100 31).toNatClampNeg (vp_nar .byte ((x1 >>> (x2 &&& 31)).toInt8.toInt32))) (fun I_19 => lt (p2 I_19 100 31 ((I_19 100 31) + 1)) (fun I_27 => f_X8_four_3 nn I_27 R x1 (x2 + (-8)))))))
set_option maxHeartbeats 4000000 in
set_option maxRecDepth 100000 in
theorem t_X8_four_3 {p : Program} {l : Launch} {e : Env} {s : State} {m : MethodId} {args : Array Value} {below : List Frame} {meth : Method} {c : Code} {E : EV} {q : Nat → Nat} {al : Nat → Bool} {n : Nat} (C : CX p s m args meth c E cX8_four RX8 3 none) {res : MI}   : ∀ (nn : Nat) {I : MI} {R : MR} {x1 : Int32} {x2 : Int32} {H : Heap} {locs : List Loc} {ls : Array Slot} (a_100 : al 100 = true) (h : f_X8_four_3 nn I R x1 x2 = some res) (hW : Wd E q al s.heap I R n H locs) (hF : Fx al R) (hl : lv_has ls 3 [(0, .ref (q 100)), (1, .int x1), (2, .int x2)]), W p l e (rmL 1 0 0) s m args below meth c H locs 0 0 (MQ below (Pst E q none al res R n) args s 0 0 (Bs E)) (F0 m 3 ls []) := by
  have hx := C.1
  have hb := C.2.1
  intro nn
  induction nn with
  | zero =>
    intro I R x1 x2 H locs ls a_100 h
    cases (show (none : Option (MI)) = some res from h)
  | succ nn ih =>
    intro I R x1 x2 H locs ls a_100 h hW hF hl
    rw [f_X8_four_3.eq_2] at h
    refine lv_iload_n hx hb dX8_four_3 rfl (lv_at hl 2 rfl) ?_
    refine lv_if_lt (tgt := 36) hx hb dX8_four_4 (by decide) (fun c_4 => ?_) (fun c_4 => ?_)
    · have h := (if_pos c_4).symm.trans h
      have h := Option.some.inj h
      subst h
      exact r_vret C hW dX8_four_36
    · have h := (if_neg c_4).symm.trans h
      refine lv_aload_n hx hb dX8_four_7 rfl (lv_at hl 0 rfl) ?_
      have ap_8 : al 131 = true := hW.cl a_100 (hF _ 30 _ a_100 rfl)
      refine r_getq C fr_X8_78 hW a_100 rfl rfl (hF _ 30 _ a_100 rfl) dX8_four_8 ?_
      refine lv_aload_n hx hb dX8_four_11 rfl (lv_at hl 0 rfl) ?_
      refine r_get C fr_X8_145 hW a_100 rfl rfl dX8_four_12 ?_
      refine lv_iload_n hx hb dX8_four_15 rfl (lv_at hl 1 rfl) ?_
      refine lv_iload_n hx hb dX8_four_16 rfl (lv_at hl 2 rfl) ?_
      refine lv_ishr hx hb dX8_four_17 ?_
      refine lv_i2b hx hb dX8_four_18 rfl ?_
      obtain ⟨g_19, h⟩ := gd_some h
      obtain ⟨I_19, e_I_19, h⟩ := lt_some h
      refine r_bast C hW ap_8 rfl (ix_in g_19) dX8_four_19 (fun H locs hW => ?_)
      rw [← e_I_19] at hW
      refine lv_aload_n hx hb dX8_four_20 rfl (lv_at hl 0 rfl) ?_
      refine lv_dup hx hb dX8_four_21 rfl ?_
      refine r_get C fr_X8_145 hW a_100 rfl rfl dX8_four_22 ?_
      refine lv_iconst (v := 1) hx hb dX8_four_25 (by decide) ?_
      refine lv_iadd hx hb dX8_four_26 ?_
      obtain ⟨I_27, e_I_27, h⟩ := lt_some h
      refine r_put C fr_X8_145 (Or.inl rfl) hW a_100 rfl rfl rfl rfl dX8_four_27 (fun H locs hW => ?_)
      rw [← e_I_27] at hW
      refine lv_iinc (v := x2 + (-8)) (lv' := [(2, .int (x2 + (-8))), (0, .ref (q 100)), (1, .int x1)]) hx hb dX8_four_30 hl (k := 2) rfl rfl (by decide) rfl (fun ls hl => ?_)
      refine lv_goto (tgt := 3) hx hb dX8_four_33 (by decide) ?_
      exact ih a_100 h hW hF (lv_sub hl [1, 2, 0] rfl)
def f_X8_four (I : MI) (R : MR) (x1 : Int32) : Option (MI) := f_X8_four_3 1000000 I R x1 24
set_option maxHeartbeats 4000000 in
set_option maxRecDepth 100000 in
theorem c_X8_four {l : Launch} {E : EV} {q : Nat → Nat} {al : Nat → Bool} {n : Nat} {I : MI} {R : MR} {x1 : Int32} (a_100 : al 100 = true) (hF : Fx al R) {res : MI} (h : f_X8_four I R x1 = some res) : Ct l yX8_four cX8_four 3 none 1 0 0 E q al I R n [.ref (q 100), .int x1] none al res R n := by
  refine Ct.of (own := RX8) (mn := "four") (by decide) rfl rfl (Nat.le_of_ble_eq_true rfl) ?_
  intro p e s m args below meth c ls C hmn hargs hW hl
  have hx := C.1
  have hb := C.2.1
  have hl : lv_has ls 3 [(0, .ref (q 100)), (1, .int x1)] := hl
  unfold f_X8_four at h
  refine lv_bipush (v := 24) hx hb dX8_four_0 (by decide) ?_
  refine lv_istore_n (lv' := [(2, .int 24), (0, .ref (q 100)), (1, .int x1)]) hx hb dX8_four_2 rfl hl (by decide) rfl (fun ls hl => ?_)
  exact t_X8_four_3 C 1000000 a_100 h hW hF (lv_sub hl [1, 2, 0] rfl)
def f_X8_feed (I : MI) (R : MR) (x1 : Int32) (x2 : Int32) (x3 : Int32) (x4 : Int32) (x5 : Int32) : Option (Int32 × MI) := (if ((I 100 31) + 20) ≤ 200 then (bd (f_X8_four I R x1) (fun z_17 => bd (f_X8_four z_17 R x2) (fun z_22 => bd (f_X8_four z_22 R x3) (fun z_27 => bd (f_X8_four z_27 R x4) (fun z_33 => bd (f_X8_four z_33 R x5) (fun z_39 => some (z_39 100 31, z_39))))))) else (some ((-1), I)))
set_option maxHeartbeats 4000000 in
set_option maxRecDepth 100000 in
theorem c_X8_feed {l : Launch} {E : EV} {q : Nat → Nat} {al : Nat → Bool} {n : Nat} {I : MI} {R : MR} {x1 : Int32} {x2 : Int32} {x3 : Int32} {x4 : Int32} {x5 : Int32} (a_100 : al 100 = true) (hF : Fx al R) {res : Int32 × MI} (h : f_X8_feed I R x1 x2 x3 x4 x5 = some res) : Ct l yX8_feed cX8_feed 6 (some .int) 2 0 0 E q al I R n [.ref (q 100), .int x1, .int x2, .int x3, .int x4, .int x5] (some (.int res.1)) al res.2 R n := by
  refine Ct.of (own := RX8) (mn := "feed") (by decide) rfl rfl (Nat.le_of_ble_eq_true rfl) ?_
  intro p e s m args below meth c ls C hmn hargs hW hl
  have hx := C.1
  have hb := C.2.1
  have hl : lv_has ls 6 [(0, .ref (q 100)), (1, .int x1), (2, .int x2), (3, .int x3), (4, .int x4), (5, .int x5)] := hl
  unfold f_X8_feed at h
  refine lv_aload_n hx hb dX8_feed_0 rfl (lv_at hl 0 rfl) ?_
  refine r_get C fr_X8_145 hW a_100 rfl rfl dX8_feed_1 ?_
  refine lv_bipush (v := 20) hx hb dX8_feed_4 (by decide) ?_
  refine lv_iadd hx hb dX8_feed_6 ?_
  refine lv_sipush (v := 200) hx hb dX8_feed_7 (by decide) ?_
  refine lv_icmp_le (tgt := 15) hx hb dX8_feed_10 (by decide) (fun c_10 => ?_) (fun c_10 => ?_)
  · have h := (if_pos c_10).symm.trans h
    refine lv_aload_n hx hb dX8_feed_15 rfl (lv_at hl 0 rfl) ?_
    refine lv_iload_n hx hb dX8_feed_16 rfl (lv_at hl 1 rfl) ?_
    obtain ⟨z_17, e_z_17, h⟩ := bd_some h
    refine r_callV (v := none) (As := [.int x1]) (rest := []) C ml_X8_four gm_904 gm_906 gs_27 (ci := 8) rfl hW a_100 rfl hl.1 (c_X8_four a_100 hF e_z_17) rfl ⟨(by decide), (by decide)⟩ ⟨(by decide), (by decide)⟩ rfl (Nat.le_of_ble_eq_true rfl) dX8_feed_17 (fun H locs hW => ?_)
    refine lv_aload_n hx hb dX8_feed_20 rfl (lv_at hl 0 rfl) ?_
    refine lv_iload_n hx hb dX8_feed_21 rfl (lv_at hl 2 rfl) ?_
    obtain ⟨z_22, e_z_22, h⟩ := bd_some h
    refine r_callV (v := none) (As := [.int x2]) (rest := []) C ml_X8_four gm_904 gm_906 gs_27 (ci := 8) rfl hW a_100 rfl hl.1 (c_X8_four a_100 hF e_z_22) rfl ⟨(by decide), (by decide)⟩ ⟨(by decide), (by decide)⟩ rfl (Nat.le_of_ble_eq_true rfl) dX8_feed_22 (fun H locs hW => ?_)
    refine lv_aload_n hx hb dX8_feed_25 rfl (lv_at hl 0 rfl) ?_
    refine lv_iload_n hx hb dX8_feed_26 rfl (lv_at hl 3 rfl) ?_
    obtain ⟨z_27, e_z_27, h⟩ := bd_some h
    refine r_callV (v := none) (As := [.int x3]) (rest := []) C ml_X8_four gm_904 gm_906 gs_27 (ci := 8) rfl hW a_100 rfl hl.1 (c_X8_four a_100 hF e_z_27) rfl ⟨(by decide), (by decide)⟩ ⟨(by decide), (by decide)⟩ rfl (Nat.le_of_ble_eq_true rfl) dX8_feed_27 (fun H locs hW => ?_)
    refine lv_aload_n hx hb dX8_feed_30 rfl (lv_at hl 0 rfl) ?_
    refine lv_iload hx hb dX8_feed_31 (lv_at hl 4 rfl) ?_
    obtain ⟨z_33, e_z_33, h⟩ := bd_some h
    refine r_callV (v := none) (As := [.int x4]) (rest := []) C ml_X8_four gm_904 gm_906 gs_27 (ci := 8) rfl hW a_100 rfl hl.1 (c_X8_four a_100 hF e_z_33) rfl ⟨(by decide), (by decide)⟩ ⟨(by decide), (by decide)⟩ rfl (Nat.le_of_ble_eq_true rfl) dX8_feed_33 (fun H locs hW => ?_)
    refine lv_aload_n hx hb dX8_feed_36 rfl (lv_at hl 0 rfl) ?_
    refine lv_iload hx hb dX8_feed_37 (lv_at hl 5 rfl) ?_
    obtain ⟨z_39, e_z_39, h⟩ := bd_some h
    refine r_callV (v := none) (As := [.int x5]) (rest := []) C ml_X8_four gm_904 gm_906 gs_27 (ci := 8) rfl hW a_100 rfl hl.1 (c_X8_four a_100 hF e_z_39) rfl ⟨(by decide), (by decide)⟩ ⟨(by decide), (by decide)⟩ rfl (Nat.le_of_ble_eq_true rfl) dX8_feed_39 (fun H locs hW => ?_)
    refine lv_aload_n hx hb dX8_feed_42 rfl (lv_at hl 0 rfl) ?_
    refine r_get C fr_X8_145 hW a_100 rfl rfl dX8_feed_43 ?_
    have h := Option.some.inj h
    subst h
    exact r_iret C hW dX8_feed_46
  · have h := (if_neg c_10).symm.trans h
    refine lv_iconst (v := (-1)) hx hb dX8_feed_13 (by decide) ?_
    have h := Option.some.inj h
    subst h
    exact r_iret C hW dX8_feed_14
def f_X8_end (I : MI) (R : MR) (x1 : Int32) : Option (Int32 × MI) := (if x1 < 0 then (some ((-1), I)) else ((if x1 ≤ (I 100 31) then (lt (p2 I 100 31 x1) (fun I_16 => some (x1, I_16))) else (some ((-1), I)))))
set_option maxHeartbeats 4000000 in
set_option maxRecDepth 100000 in
theorem c_X8_end {l : Launch} {E : EV} {q : Nat → Nat} {al : Nat → Bool} {n : Nat} {I : MI} {R : MR} {x1 : Int32} (a_100 : al 100 = true) {res : Int32 × MI} (h : f_X8_end I R x1 = some res) : Ct l yX8_end cX8_end 2 (some .int) 1 0 0 E q al I R n [.ref (q 100), .int x1] (some (.int res.1)) al res.2 R n := by
  refine Ct.of (own := RX8) (mn := "end") (by decide) rfl rfl (Nat.le_of_ble_eq_true rfl) ?_
  intro p e s m args below meth c ls C hmn hargs hW hl
  have hx := C.1
  have hb := C.2.1
  have hl : lv_has ls 2 [(0, .ref (q 100)), (1, .int x1)] := hl
  unfold f_X8_end at h
  refine lv_iload_n hx hb dX8_end_0 rfl (lv_at hl 1 rfl) ?_
  refine lv_if_lt (tgt := 12) hx hb dX8_end_1 (by decide) (fun c_1 => ?_) (fun c_1 => ?_)
  · have h := (if_pos c_1).symm.trans h
    refine lv_iconst (v := (-1)) hx hb dX8_end_12 (by decide) ?_
    have h := Option.some.inj h
    subst h
    exact r_iret C hW dX8_end_13
  · have h := (if_neg c_1).symm.trans h
    refine lv_iload_n hx hb dX8_end_4 rfl (lv_at hl 1 rfl) ?_
    refine lv_aload_n hx hb dX8_end_5 rfl (lv_at hl 0 rfl) ?_
    refine r_get C fr_X8_145 hW a_100 rfl rfl dX8_end_6 ?_
    refine lv_icmp_le (tgt := 14) hx hb dX8_end_9 (by decide) (fun c_9 => ?_) (fun c_9 => ?_)
    · have h := (if_pos c_9).symm.trans h
      refine lv_aload_n hx hb dX8_end_14 rfl (lv_at hl 0 rfl) ?_
      refine lv_iload_n hx hb dX8_end_15 rfl (lv_at hl 1 rfl) ?_
      obtain ⟨I_16, e_I_16, h⟩ := lt_some h
      refine r_put C fr_X8_145 (Or.inl rfl) hW a_100 rfl rfl rfl rfl dX8_end_16 (fun H locs hW => ?_)
      rw [← e_I_16] at hW
      refine lv_iload_n hx hb dX8_end_19 rfl (lv_at hl 1 rfl) ?_
      have h := Option.some.inj h
      subst h
      exact r_iret C hW dX8_end_20
    · have h := (if_neg c_9).symm.trans h
      refine lv_iconst (v := (-1)) hx hb dX8_end_12 (by decide) ?_
      have h := Option.some.inj h
      subst h
      exact r_iret C hW dX8_end_13
def f_X8_fails (I : MI) (R : MR) (x1 : Int32) (x2 : Int32) : Option (Int32 × MI) := (if (I 100 33) = 0 then (lt (p2 I 100 33 ((1 + (8 * x2)) + x1)) (fun I_16 => some (0, I_16))) else (some (0, I)))
set_option maxHeartbeats 4000000 in
set_option maxRecDepth 100000 in
theorem c_X8_fails {l : Launch} {E : EV} {q : Nat → Nat} {al : Nat → Bool} {n : Nat} {I : MI} {R : MR} {x1 : Int32} {x2 : Int32} (a_100 : al 100 = true) {res : Int32 × MI} (h : f_X8_fails I R x1 x2 = some res) : Ct l yX8_fails cX8_fails 3 (some .boolean) 1 0 0 E q al I R n [.ref (q 100), .int x1, .int x2] (some (.int res.1)) al res.2 R n := by
  refine Ct.of (own := RX8) (mn := "fails") (by decide) rfl rfl (Nat.le_of_ble_eq_true rfl) ?_
  intro p e s m args below meth c ls C hmn hargs hW hl
  have hx := C.1
  have hb := C.2.1
  have hl : lv_has ls 3 [(0, .ref (q 100)), (1, .int x1), (2, .int x2)] := hl
  unfold f_X8_fails at h
  refine lv_aload_n hx hb dX8_fails_0 rfl (lv_at hl 0 rfl) ?_
  refine r_get C fr_X8_152 hW a_100 rfl rfl dX8_fails_1 ?_
  refine lv_if_ne (tgt := 19) hx hb dX8_fails_4 (by decide) (fun c_4 => ?_) (fun c_4 => ?_)
  · have h := (if_neg c_4).symm.trans h
    refine lv_iconst (v := 0) hx hb dX8_fails_19 (by decide) ?_
    have h := Option.some.inj h
    subst h
    exact r_zret C hW (Or.inl rfl) dX8_fails_20
  · have h := (if_pos c_4).symm.trans h
    refine lv_aload_n hx hb dX8_fails_7 rfl (lv_at hl 0 rfl) ?_
    refine lv_iconst (v := 1) hx hb dX8_fails_8 (by decide) ?_
    refine lv_bipush (v := 8) hx hb dX8_fails_9 (by decide) ?_
    refine lv_iload_n hx hb dX8_fails_11 rfl (lv_at hl 2 rfl) ?_
    refine lv_imul hx hb dX8_fails_12 ?_
    refine lv_iadd hx hb dX8_fails_13 ?_
    refine lv_iload_n hx hb dX8_fails_14 rfl (lv_at hl 1 rfl) ?_
    refine lv_iadd hx hb dX8_fails_15 ?_
    obtain ⟨I_16, e_I_16, h⟩ := lt_some h
    refine r_put C fr_X8_152 (Or.inl rfl) hW a_100 rfl rfl rfl rfl dX8_fails_16 (fun H locs hW => ?_)
    rw [← e_I_16] at hW
    refine lv_iconst (v := 0) hx hb dX8_fails_19 (by decide) ?_
    have h := Option.some.inj h
    subst h
    exact r_zret C hW (Or.inl rfl) dX8_fails_20
def f_X8_flowAt_4  : Nat → MI → MR → Int32 → Int32 → Int32 → Option (Int32)
  | 0, _, _, _, _, _ => none
  | nn + 1, I, R, x1, x2, x3 => (if (I 100 36) ≤ x3 then (some (x2)) else (gd (ix x3 (ln 138)) ((if x1 < (I 138 x3.toNatClampNeg) then (f_X8_flowAt_4 nn I R x1 x2 (x3 + 1)) else (gd (ix x3 (ln 139)) (f_X8_flowAt_4 nn I R x1 (I 139 x3.toNatClampNeg) (x3 + 1)))))))
set_option maxHeartbeats 4000000 in
set_option maxRecDepth 100000 in
theorem t_X8_flowAt_4 {p : Program} {l : Launch} {e : Env} {s : State} {m : MethodId} {args : Array Value} {below : List Frame} {meth : Method} {c : Code} {E : EV} {q : Nat → Nat} {al : Nat → Bool} {n : Nat} (C : CX p s m args meth c E cX8_flowAt RX8 4 (some .int)) {res : Int32}   : ∀ (nn : Nat) {I : MI} {R : MR} {x1 : Int32} {x2 : Int32} {x3 : Int32} {H : Heap} {locs : List Loc} {ls : Array Slot} (a_100 : al 100 = true) (h : f_X8_flowAt_4 nn I R x1 x2 x3 = some res) (hW : Wd E q al s.heap I R n H locs) (hF : Fx al R) (hl : lv_has ls 4 [(0, .ref (q 100)), (1, .int x1), (2, .int x2), (3, .int x3)]), W p l e (rmL 1 0 0) s m args below meth c H locs 0 0 (MQ below (Pst E q (some (.int res)) al I R n) args s 0 0 (Bs E)) (F0 m 4 ls []) := by
  have hx := C.1
  have hb := C.2.1
  intro nn
  induction nn with
  | zero =>
    intro I R x1 x2 x3 H locs ls a_100 h
    cases (show (none : Option (Int32)) = some res from h)
  | succ nn ih =>
    intro I R x1 x2 x3 H locs ls a_100 h hW hF hl
    rw [f_X8_flowAt_4.eq_2] at h
    refine lv_iload_n hx hb dX8_flowAt_4 rfl (lv_at hl 3 rfl) ?_
    refine lv_aload_n hx hb dX8_flowAt_5 rfl (lv_at hl 0 rfl) ?_
    refine r_get C fr_X8_124 hW a_100 rfl rfl dX8_flowAt_6 ?_
    refine lv_icmp_ge (tgt := 35) hx hb dX8_flowAt_9 (by decide) (fun c_9 => ?_) (fun c_9 => ?_)
    · have h := (if_pos c_9).symm.trans h
      refine lv_iload_n hx hb dX8_flowAt_35 rfl (lv_at hl 2 rfl) ?_
      have h := Option.some.inj h
      subst h
      exact r_iret C hW dX8_flowAt_36
    · have h := (if_neg c_9).symm.trans h
      refine lv_aload_n hx hb dX8_flowAt_12 rfl (lv_at hl 0 rfl) ?_
      have ap_13 : al 138 = true := hW.cl a_100 (hF _ 37 _ a_100 rfl)
      refine r_getq C fr_X8_82 hW a_100 rfl rfl (hF _ 37 _ a_100 rfl) dX8_flowAt_13 ?_
      refine lv_iload_n hx hb dX8_flowAt_16 rfl (lv_at hl 3 rfl) ?_
      obtain ⟨g_17, h⟩ := gd_some h
      refine r_iald C hW ap_13 rfl (ix_in g_17) dX8_flowAt_17 ?_
      refine lv_iload_n hx hb dX8_flowAt_18 rfl (lv_at hl 1 rfl) ?_
      refine lv_icmp_gt (tgt := 29) hx hb dX8_flowAt_19 (by decide) (fun c_19 => ?_) (fun c_19 => ?_)
      · have h := (if_pos c_19).symm.trans h
        refine lv_iinc (v := x3 + 1) (lv' := [(3, .int (x3 + 1)), (0, .ref (q 100)), (1, .int x1), (2, .int x2)]) hx hb dX8_flowAt_29 hl (k := 3) rfl rfl (by decide) rfl (fun ls hl => ?_)
        refine lv_goto (tgt := 4) hx hb dX8_flowAt_32 (by decide) ?_
        exact ih a_100 h hW hF (lv_sub hl [1, 2, 3, 0] rfl)
      · have h := (if_neg c_19).symm.trans h
        refine lv_aload_n hx hb dX8_flowAt_22 rfl (lv_at hl 0 rfl) ?_
        have ap_23 : al 139 = true := hW.cl a_100 (hF _ 38 _ a_100 rfl)
        refine r_getq C fr_X8_85 hW a_100 rfl rfl (hF _ 38 _ a_100 rfl) dX8_flowAt_23 ?_
        refine lv_iload_n hx hb dX8_flowAt_26 rfl (lv_at hl 3 rfl) ?_
        obtain ⟨g_27, h⟩ := gd_some h
        refine r_iald C hW ap_23 rfl (ix_in g_27) dX8_flowAt_27 ?_
        refine lv_istore_n (lv' := [(2, .int (I 139 x3.toNatClampNeg)), (0, .ref (q 100)), (1, .int x1), (3, .int x3)]) hx hb dX8_flowAt_28 rfl hl (by decide) rfl (fun ls hl => ?_)
        refine lv_iinc (v := x3 + 1) (lv' := [(3, .int (x3 + 1)), (2, .int (I 139 x3.toNatClampNeg)), (0, .ref (q 100)), (1, .int x1)]) hx hb dX8_flowAt_29 hl (k := 3) rfl rfl (by decide) rfl (fun ls hl => ?_)
        refine lv_goto (tgt := 4) hx hb dX8_flowAt_32 (by decide) ?_
        exact ih a_100 h hW hF (lv_sub hl [2, 3, 1, 0] rfl)
def f_X8_flowAt (I : MI) (R : MR) (x1 : Int32) : Option (Int32) := f_X8_flowAt_4 1000000 I R x1 0 0
set_option maxHeartbeats 4000000 in
set_option maxRecDepth 100000 in
theorem c_X8_flowAt {l : Launch} {E : EV} {q : Nat → Nat} {al : Nat → Bool} {n : Nat} {I : MI} {R : MR} {x1 : Int32} (a_100 : al 100 = true) (hF : Fx al R) {res : Int32} (h : f_X8_flowAt I R x1 = some res) : Ct l yX8_flowAt cX8_flowAt 4 (some .int) 1 0 0 E q al I R n [.ref (q 100), .int x1] (some (.int res)) al I R n := by
  refine Ct.of (own := RX8) (mn := "flowAt") (by decide) rfl rfl (Nat.le_of_ble_eq_true rfl) ?_
  intro p e s m args below meth c ls C hmn hargs hW hl
  have hx := C.1
  have hb := C.2.1
  have hl : lv_has ls 4 [(0, .ref (q 100)), (1, .int x1)] := hl
  unfold f_X8_flowAt at h
  refine lv_iconst (v := 0) hx hb dX8_flowAt_0 (by decide) ?_
  refine lv_istore_n (lv' := [(2, .int 0), (0, .ref (q 100)), (1, .int x1)]) hx hb dX8_flowAt_1 rfl hl (by decide) rfl (fun ls hl => ?_)
  refine lv_iconst (v := 0) hx hb dX8_flowAt_2 (by decide) ?_
  refine lv_istore_n (lv' := [(3, .int 0), (2, .int 0), (0, .ref (q 100)), (1, .int x1)]) hx hb dX8_flowAt_3 rfl hl (by decide) rfl (fun ls hl => ?_)
  exact t_X8_flowAt_4 C 1000000 a_100 h hW hF (lv_sub hl [2, 3, 1, 0] rfl)
def f_X8_flow (I : MI) (R : MR) (x1 : Int32) : Option (Int32) := bd (f_X8_in I R x1 (-400) 400) (fun z_7 => (if z_7 = 0 then (some ((-1))) else (bd (f_X8_flowAt I R x1) (fun z_15 => some (z_15)))))
set_option maxHeartbeats 4000000 in
set_option maxRecDepth 100000 in
theorem c_X8_flow {l : Launch} {E : EV} {q : Nat → Nat} {al : Nat → Bool} {n : Nat} {I : MI} {R : MR} {x1 : Int32} (a_100 : al 100 = true) (hF : Fx al R) {res : Int32} (h : f_X8_flow I R x1 = some res) : Ct l yX8_flow cX8_flow 2 (some .int) 2 0 0 E q al I R n [.ref (q 100), .int x1] (some (.int res)) al I R n := by
  refine Ct.of (own := RX8) (mn := "flow") (by decide) rfl rfl (Nat.le_of_ble_eq_true rfl) ?_
  intro p e s m args below meth c ls C hmn hargs hW hl
  have hx := C.1
  have hb := C.2.1
  have hl : lv_has ls 2 [(0, .ref (q 100)), (1, .int x1)] := hl
  unfold f_X8_flow at h
  refine lv_iload_n hx hb dX8_flow_0 rfl (lv_at hl 1 rfl) ?_
  refine lv_sipush (v := (-400)) hx hb dX8_flow_1 (by decide) ?_
  refine lv_sipush (v := 400) hx hb dX8_flow_4 (by decide) ?_
  obtain ⟨z_7, e_z_7, h⟩ := bd_some h
  refine r_callS (v := (some (.int z_7))) (As := [.int x1, .int (-400), .int 400]) (rest := []) C ml_X8_in gm_881 gm_882 hW hl.1 (c_X8_in  e_z_7) rfl ⟨(by decide), (by decide)⟩ ⟨(by decide), (by decide)⟩ rfl (Nat.le_of_ble_eq_true rfl) dX8_flow_7 (fun H locs hW => ?_)
  refine lv_if_eq (tgt := 21) hx hb dX8_flow_10 (by decide) (fun c_10 => ?_) (fun c_10 => ?_)
  · have h := (if_pos c_10).symm.trans h
    refine lv_iconst (v := (-1)) hx hb dX8_flow_21 (by decide) ?_
    have h := Option.some.inj h
    subst h
    exact r_iret C hW dX8_flow_22
  · have h := (if_neg c_10).symm.trans h
    refine lv_aload_n hx hb dX8_flow_13 rfl (lv_at hl 0 rfl) ?_
    refine lv_iload_n hx hb dX8_flow_14 rfl (lv_at hl 1 rfl) ?_
    obtain ⟨z_15, e_z_15, h⟩ := bd_some h
    refine r_callV (v := (some (.int z_15))) (As := [.int x1]) (rest := []) C ml_X8_flowAt gm_940 gm_942 gs_33 (ci := 8) rfl hW a_100 rfl hl.1 (c_X8_flowAt a_100 hF e_z_15) rfl ⟨(by decide), (by decide)⟩ ⟨(by decide), (by decide)⟩ rfl (Nat.le_of_ble_eq_true rfl) dX8_flow_15 (fun H locs hW => ?_)
    refine lv_goto (tgt := 22) hx hb dX8_flow_18 (by decide) ?_
    have h := Option.some.inj h
    subst h
    exact r_iret C hW dX8_flow_22
def f_X8_price (I : MI) (R : MR) (x1 : Int32) (x2 : Int32) : Option (Int32 × MI) := bd (f_X8_in I R x1 0 23) (fun z_4 => (if z_4 = 0 then (some ((-1), I)) else (bd (f_X8_in I R x2 0 99) (fun z_14 => (if z_14 = 0 then (some ((-1), I)) else (gd (ix x1 (ln 112)) (gd (ix x1 (ln 112)) (lt (p2 I 112 x1.toNatClampNeg x2) (fun I_35 => some (I 112 x1.toNatClampNeg, I_35))))))))))
set_option maxHeartbeats 4000000 in
set_option maxRecDepth 100000 in
theorem c_X8_price {l : Launch} {E : EV} {q : Nat → Nat} {al : Nat → Bool} {n : Nat} {I : MI} {R : MR} {x1 : Int32} {x2 : Int32} (a_100 : al 100 = true) (hF : Fx al R) {res : Int32 × MI} (h : f_X8_price I R x1 x2 = some res) : Ct l yX8_price cX8_price 4 (some .int) 2 0 0 E q al I R n [.ref (q 100), .int x1, .int x2] (some (.int res.1)) al res.2 R n := by
  refine Ct.of (own := RX8) (mn := "price") (by decide) rfl rfl (Nat.le_of_ble_eq_true rfl) ?_
  intro p e s m args below meth c ls C hmn hargs hW hl
  have hx := C.1
  have hb := C.2.1
  have hl : lv_has ls 4 [(0, .ref (q 100)), (1, .int x1), (2, .int x2)] := hl
  unfold f_X8_price at h
  refine lv_iload_n hx hb dX8_price_0 rfl (lv_at hl 1 rfl) ?_
  refine lv_iconst (v := 0) hx hb dX8_price_1 (by decide) ?_
  refine lv_bipush (v := 23) hx hb dX8_price_2 (by decide) ?_
  obtain ⟨z_4, e_z_4, h⟩ := bd_some h
  refine r_callS (v := (some (.int z_4))) (As := [.int x1, .int 0, .int 23]) (rest := []) C ml_X8_in gm_881 gm_882 hW hl.1 (c_X8_in  e_z_4) rfl ⟨(by decide), (by decide)⟩ ⟨(by decide), (by decide)⟩ rfl (Nat.le_of_ble_eq_true rfl) dX8_price_4 (fun H locs hW => ?_)
  refine lv_if_eq (tgt := 20) hx hb dX8_price_7 (by decide) (fun c_7 => ?_) (fun c_7 => ?_)
  · have h := (if_pos c_7).symm.trans h
    refine lv_iconst (v := (-1)) hx hb dX8_price_20 (by decide) ?_
    have h := Option.some.inj h
    subst h
    exact r_iret C hW dX8_price_21
  · have h := (if_neg c_7).symm.trans h
    refine lv_iload_n hx hb dX8_price_10 rfl (lv_at hl 2 rfl) ?_
    refine lv_iconst (v := 0) hx hb dX8_price_11 (by decide) ?_
    refine lv_bipush (v := 99) hx hb dX8_price_12 (by decide) ?_
    obtain ⟨z_14, e_z_14, h⟩ := bd_some h
    refine r_callS (v := (some (.int z_14))) (As := [.int x2, .int 0, .int 99]) (rest := []) C ml_X8_in gm_881 gm_882 hW hl.1 (c_X8_in  e_z_14) rfl ⟨(by decide), (by decide)⟩ ⟨(by decide), (by decide)⟩ rfl (Nat.le_of_ble_eq_true rfl) dX8_price_14 (fun H locs hW => ?_)
    refine lv_if_ne (tgt := 22) hx hb dX8_price_17 (by decide) (fun c_17 => ?_) (fun c_17 => ?_)
    · have h := (if_neg c_17).symm.trans h
      refine lv_aload_n hx hb dX8_price_22 rfl (lv_at hl 0 rfl) ?_
      have ap_23 : al 112 = true := hW.cl a_100 (hF _ 11 _ a_100 rfl)
      refine r_getq C fr_X8_39 hW a_100 rfl rfl (hF _ 11 _ a_100 rfl) dX8_price_23 ?_
      refine lv_iload_n hx hb dX8_price_26 rfl (lv_at hl 1 rfl) ?_
      obtain ⟨g_27, h⟩ := gd_some h
      refine r_iald C hW ap_23 rfl (ix_in g_27) dX8_price_27 ?_
      refine lv_istore_n (lv' := [(3, .int (I 112 x1.toNatClampNeg)), (0, .ref (q 100)), (1, .int x1), (2, .int x2)]) hx hb dX8_price_28 rfl hl (by decide) rfl (fun ls hl => ?_)
      refine lv_aload_n hx hb dX8_price_29 rfl (lv_at hl 1 rfl) ?_
      refine r_getq C fr_X8_39 hW a_100 rfl rfl (hF _ 11 _ a_100 rfl) dX8_price_30 ?_
      refine lv_iload_n hx hb dX8_price_33 rfl (lv_at hl 2 rfl) ?_
      refine lv_iload_n hx hb dX8_price_34 rfl (lv_at hl 3 rfl) ?_
      obtain ⟨g_35, h⟩ := gd_some h
      obtain ⟨I_35, e_I_35, h⟩ := lt_some h
      refine r_iast C hW ap_23 rfl (ix_in g_35) dX8_price_35 (fun H locs hW => ?_)
      rw [← e_I_35] at hW
      refine lv_iload_n hx hb dX8_price_36 rfl (lv_at hl 0 rfl) ?_
      have h := Option.some.inj h
      subst h
      exact r_iret C hW dX8_price_37
    · have h := (if_pos c_17).symm.trans h
      refine lv_iconst (v := (-1)) hx hb dX8_price_20 (by decide) ?_
      have h := Option.some.inj h
      subst h
      exact r_iret C hW dX8_price_21
def f_X8_closed (I : MI) (R : MR) (x1 : Int32) (x2 : Int32) : Option (Int32 × MI) := bd (f_X8_in I R x1 0 23) (fun z_4 => (if z_4 = 0 then (some (0, I)) else (gd (ix x1 (ln 113)) ((if (I 113 x1.toNatClampNeg) = x2 then (some (0, I)) else (gd (ix x1 (ln 113)) (lt (p2 I 113 x1.toNatClampNeg (vp_nar .boolean x2)) (fun I_28 => some (1, I_28)))))))))
set_option maxHeartbeats 4000000 in
set_option maxRecDepth 100000 in
theorem c_X8_closed {l : Launch} {E : EV} {q : Nat → Nat} {al : Nat → Bool} {n : Nat} {I : MI} {R : MR} {x1 : Int32} {x2 : Int32} (a_100 : al 100 = true) (hF : Fx al R) {res : Int32 × MI} (h : f_X8_closed I R x1 x2 = some res) : Ct l yX8_closed cX8_closed 3 (some .boolean) 2 0 0 E q al I R n [.ref (q 100), .int x1, .int x2] (some (.int res.1)) al res.2 R n := by
  refine Ct.of (own := RX8) (mn := "closed") (by decide) rfl rfl (Nat.le_of_ble_eq_true rfl) ?_
  intro p e s m args below meth c ls C hmn hargs hW hl
  have hx := C.1
  have hb := C.2.1
  have hl : lv_has ls 3 [(0, .ref (q 100)), (1, .int x1), (2, .int x2)] := hl
  unfold f_X8_closed at h
  refine lv_iload_n hx hb dX8_closed_0 rfl (lv_at hl 1 rfl) ?_
  refine lv_iconst (v := 0) hx hb dX8_closed_1 (by decide) ?_
  refine lv_bipush (v := 23) hx hb dX8_closed_2 (by decide) ?_
  obtain ⟨z_4, e_z_4, h⟩ := bd_some h
  refine r_callS (v := (some (.int z_4))) (As := [.int x1, .int 0, .int 23]) (rest := []) C ml_X8_in gm_881 gm_882 hW hl.1 (c_X8_in  e_z_4) rfl ⟨(by decide), (by decide)⟩ ⟨(by decide), (by decide)⟩ rfl (Nat.le_of_ble_eq_true rfl) dX8_closed_4 (fun H locs hW => ?_)
  refine lv_if_eq (tgt := 20) hx hb dX8_closed_7 (by decide) (fun c_7 => ?_) (fun c_7 => ?_)
  · have h := (if_pos c_7).symm.trans h
    refine lv_iconst (v := 0) hx hb dX8_closed_20 (by decide) ?_
    have h := Option.some.inj h
    subst h
    exact r_zret C hW (Or.inl rfl) dX8_closed_21
  · have h := (if_neg c_7).symm.trans h
    refine lv_aload_n hx hb dX8_closed_10 rfl (lv_at hl 0 rfl) ?_
    have ap_11 : al 113 = true := hW.cl a_100 (hF _ 12 _ a_100 rfl)
    refine r_getq C fr_X8_42 hW a_100 rfl rfl (hF _ 12 _ a_100 rfl) dX8_closed_11 ?_
    refine lv_iload_n hx hb dX8_closed_14 rfl (lv_at hl 1 rfl) ?_
    obtain ⟨g_15, h⟩ := gd_some h
    refine r_zald C hW ap_11 rfl (ix_in g_15) dX8_closed_15 ?_
    refine lv_iload_n hx hb dX8_closed_16 rfl (lv_at hl 2 rfl) ?_
    refine lv_icmp_ne (tgt := 22) hx hb dX8_closed_17 (by decide) (fun c_17 => ?_) (fun c_17 => ?_)
    · have h := (if_neg c_17).symm.trans h
      refine lv_aload_n hx hb dX8_closed_22 rfl (lv_at hl 0 rfl) ?_
      refine r_getq C fr_X8_42 hW a_100 rfl rfl (hF _ 12 _ a_100 rfl) dX8_closed_23 ?_
      refine lv_iload_n hx hb dX8_closed_26 rfl (lv_at hl 1 rfl) ?_
      refine lv_iload_n hx hb dX8_closed_27 rfl (lv_at hl 2 rfl) ?_
      obtain ⟨g_28, h⟩ := gd_some h
      obtain ⟨I_28, e_I_28, h⟩ := lt_some h
      refine r_zast C hW ap_11 rfl (ix_in g_28) dX8_closed_28 (fun H locs hW => ?_)
      rw [← e_I_28] at hW
      refine lv_iconst (v := 1) hx hb dX8_closed_29 (by decide) ?_
      have h := Option.some.inj h
      subst h
      exact r_zret C hW (Or.inr rfl) dX8_closed_30
    · have h := (if_pos c_17).symm.trans h
      refine lv_iconst (v := 0) hx hb dX8_closed_20 (by decide) ?_
      have h := Option.some.inj h
      subst h
      exact r_zret C hW (Or.inl rfl) dX8_closed_21
def f_X8_isCar (I : MI) (R : MR) (x1 : Int32) : Option (Int32) := bd (f_X8_in I R x1 0 ((I 100 13) - 1)) (fun z_8 => gd (z_8 = 0 ∨ z_8 = 1) (some (z_8)))
set_option maxHeartbeats 4000000 in
set_option maxRecDepth 100000 in
theorem c_X8_isCar {l : Launch} {E : EV} {q : Nat → Nat} {al : Nat → Bool} {n : Nat} {I : MI} {R : MR} {x1 : Int32} (a_100 : al 100 = true) {res : Int32} (h : f_X8_isCar I R x1 = some res) : Ct l yX8_isCar cX8_isCar 2 (some .boolean) 2 0 0 E q al I R n [.ref (q 100), .int x1] (some (.int res)) al I R n := by
  refine Ct.of (own := RX8) (mn := "isCar") (by decide) rfl rfl (Nat.le_of_ble_eq_true rfl) ?_
  intro p e s m args below meth c ls C hmn hargs hW hl
  have hx := C.1
  have hb := C.2.1
  have hl : lv_has ls 2 [(0, .ref (q 100)), (1, .int x1)] := hl
  unfold f_X8_isCar at h
  refine lv_iload_n hx hb dX8_isCar_0 rfl (lv_at hl 1 rfl) ?_
  refine lv_iconst (v := 0) hx hb dX8_isCar_1 (by decide) ?_
  refine lv_aload_n hx hb dX8_isCar_2 rfl (lv_at hl 0 rfl) ?_
  refine r_get C fr_X8_191 hW a_100 rfl rfl dX8_isCar_3 ?_
  refine lv_iconst (v := 1) hx hb dX8_isCar_6 (by decide) ?_
  refine lv_isub hx hb dX8_isCar_7 ?_
  obtain ⟨z_8, e_z_8, h⟩ := bd_some h
  refine r_callS (v := (some (.int z_8))) (As := [.int x1, .int 0, .int ((I 100 13) - 1)]) (rest := []) C ml_X8_in gm_881 gm_882 hW hl.1 (c_X8_in  e_z_8) rfl ⟨(by decide), (by decide)⟩ ⟨(by decide), (by decide)⟩ rfl (Nat.le_of_ble_eq_true rfl) dX8_isCar_8 (fun H locs hW => ?_)
  obtain ⟨g_11, h⟩ := gd_some h
  have h := Option.some.inj h
  subst h
  exact r_zret C hW g_11 dX8_isCar_11
def f_X8_sensor (I : MI) (R : MR) (x1 : Int32) (x2 : Int32) (x3 : Int32) : Option (Int32 × MI) := (if x1 = 0 then (bd (f_X8_isBank I R x2) (fun z_6 => (if z_6 = 0 then (some (0, I)) else (gd (ix x2 (ln 109)) ((if (I 109 x2.toNatClampNeg) = x3 then (some (0, I)) else (gd (ix x2 (ln 109)) (lt (p2 I 109 x2.toNatClampNeg (vp_nar .boolean x3)) (fun I_30 => some (1, I_30)))))))))) else ((if x1 = 1 then (bd (f_X8_isCar I R x2) (fun z_40 => (if z_40 = 0 then (some (0, I)) else (gd (ix x2 (ln 118)) ((if 1 < (I 118 x2.toNatClampNeg) then (some (0, I)) else (gd (ix x2 (ln 124)) ((if (I 124 x2.toNatClampNeg) = x3 then (some (0, I)) else (gd (ix x2 (ln 124)) (lt (p2 I 124 x2.toNatClampNeg (vp_nar .boolean x3)) (fun I_74 => some (1, I_74))))))))))))) else (some (0, I)))))
set_option maxHeartbeats 4000000 in
set_option maxRecDepth 100000 in
theorem c_X8_sensor {l : Launch} {E : EV} {q : Nat → Nat} {al : Nat → Bool} {n : Nat} {I : MI} {R : MR} {x1 : Int32} {x2 : Int32} {x3 : Int32} (a_100 : al 100 = true) (hF : Fx al R) {res : Int32 × MI} (h : f_X8_sensor I R x1 x2 x3 = some res) : Ct l yX8_sensor cX8_sensor 4 (some .boolean) 3 0 0 E q al I R n [.ref (q 100), .int x1, .int x2, .int x3] (some (.int res.1)) al res.2 R n := by
  refine Ct.of (own := RX8) (mn := "sensor") (by decide) rfl rfl (Nat.le_of_ble_eq_true rfl) ?_
  intro p e s m args below meth c ls C hmn hargs hW hl
  have hx := C.1
  have hb := C.2.1
  have hl : lv_has ls 4 [(0, .ref (q 100)), (1, .int x1), (2, .int x2), (3, .int x3)] := hl
  unfold f_X8_sensor at h
  refine lv_iload_n hx hb dX8_sensor_0 rfl (lv_at hl 1 rfl) ?_
  refine lv_if_ne (tgt := 33) hx hb dX8_sensor_1 (by decide) (fun c_1 => ?_) (fun c_1 => ?_)
  · have h := (if_neg c_1).symm.trans h
    refine lv_iload_n hx hb dX8_sensor_33 rfl (lv_at hl 1 rfl) ?_
    refine lv_iconst (v := 1) hx hb dX8_sensor_34 (by decide) ?_
    refine lv_icmp_ne (tgt := 66) hx hb dX8_sensor_35 (by decide) (fun c_35 => ?_) (fun c_35 => ?_)
    · have h := (if_neg c_35).symm.trans h
      refine lv_iconst (v := 0) hx hb dX8_sensor_66 (by decide) ?_
      have h := Option.some.inj h
      subst h
      exact r_zret C hW (Or.inl rfl) dX8_sensor_67
    · have h := (if_pos c_35).symm.trans h
      refine lv_aload_n hx hb dX8_sensor_38 rfl (lv_at hl 0 rfl) ?_
      refine lv_iload_n hx hb dX8_sensor_39 rfl (lv_at hl 2 rfl) ?_
      obtain ⟨z_40, e_z_40, h⟩ := bd_some h
      refine r_callV (v := (some (.int z_40))) (As := [.int x2]) (rest := []) C ml_X8_isCar gm_956 gm_958 gs_34 (ci := 8) rfl hW a_100 rfl hl.1 (c_X8_isCar a_100 e_z_40) rfl ⟨(by decide), (by decide)⟩ ⟨(by decide), (by decide)⟩ rfl (Nat.le_of_ble_eq_true rfl) dX8_sensor_40 (fun H locs hW => ?_)
      refine lv_if_eq (tgt := 66) hx hb dX8_sensor_43 (by decide) (fun c_43 => ?_) (fun c_43 => ?_)
      · have h := (if_pos c_43).symm.trans h
        refine lv_iconst (v := 0) hx hb dX8_sensor_66 (by decide) ?_
        have h := Option.some.inj h
        subst h
        exact r_zret C hW (Or.inl rfl) dX8_sensor_67
      · have h := (if_neg c_43).symm.trans h
        refine lv_aload_n hx hb dX8_sensor_46 rfl (lv_at hl 0 rfl) ?_
        have ap_47 : al 118 = true := hW.cl a_100 (hF _ 17 _ a_100 rfl)
        refine r_getq C fr_X8_54 hW a_100 rfl rfl (hF _ 17 _ a_100 rfl) dX8_sensor_47 ?_
        refine lv_iload_n hx hb dX8_sensor_50 rfl (lv_at hl 2 rfl) ?_
        obtain ⟨g_51, h⟩ := gd_some h
        refine r_iald C hW ap_47 rfl (ix_in g_51) dX8_sensor_51 ?_
        refine lv_iconst (v := 1) hx hb dX8_sensor_52 (by decide) ?_
        refine lv_icmp_gt (tgt := 66) hx hb dX8_sensor_53 (by decide) (fun c_53 => ?_) (fun c_53 => ?_)
        · have h := (if_pos c_53).symm.trans h
          refine lv_iconst (v := 0) hx hb dX8_sensor_66 (by decide) ?_
          have h := Option.some.inj h
          subst h
          exact r_zret C hW (Or.inl rfl) dX8_sensor_67
        · have h := (if_neg c_53).symm.trans h
          refine lv_aload_n hx hb dX8_sensor_56 rfl (lv_at hl 0 rfl) ?_
          have ap_57 : al 124 = true := hW.cl a_100 (hF _ 23 _ a_100 rfl)
          refine r_getq C fr_X8_72 hW a_100 rfl rfl (hF _ 23 _ a_100 rfl) dX8_sensor_57 ?_
          refine lv_iload_n hx hb dX8_sensor_60 rfl (lv_at hl 2 rfl) ?_
          obtain ⟨g_61, h⟩ := gd_some h
          refine r_zald C hW ap_57 rfl (ix_in g_61) dX8_sensor_61 ?_
          refine lv_iload_n hx hb dX8_sensor_62 rfl (lv_at hl 3 rfl) ?_
          refine lv_icmp_ne (tgt := 68) hx hb dX8_sensor_63 (by decide) (fun c_63 => ?_) (fun c_63 => ?_)
          · have h := (if_neg c_63).symm.trans h
            refine lv_aload_n hx hb dX8_sensor_68 rfl (lv_at hl 0 rfl) ?_
            refine r_getq C fr_X8_72 hW a_100 rfl rfl (hF _ 23 _ a_100 rfl) dX8_sensor_69 ?_
            refine lv_iload_n hx hb dX8_sensor_72 rfl (lv_at hl 2 rfl) ?_
            refine lv_iload_n hx hb dX8_sensor_73 rfl (lv_at hl 3 rfl) ?_
            obtain ⟨g_74, h⟩ := gd_some h
            obtain ⟨I_74, e_I_74, h⟩ := lt_some h
            refine r_zast C hW ap_57 rfl (ix_in g_74) dX8_sensor_74 (fun H locs hW => ?_)
            rw [← e_I_74] at hW
            refine lv_iconst (v := 1) hx hb dX8_sensor_75 (by decide) ?_
            have h := Option.some.inj h
            subst h
            exact r_zret C hW (Or.inr rfl) dX8_sensor_76
          · have h := (if_pos c_63).symm.trans h
            refine lv_iconst (v := 0) hx hb dX8_sensor_66 (by decide) ?_
            have h := Option.some.inj h
            subst h
            exact r_zret C hW (Or.inl rfl) dX8_sensor_67
  · have h := (if_pos c_1).symm.trans h
    refine lv_aload_n hx hb dX8_sensor_4 rfl (lv_at hl 0 rfl) ?_
    refine lv_iload_n hx hb dX8_sensor_5 rfl (lv_at hl 2 rfl) ?_
    obtain ⟨z_6, e_z_6, h⟩ := bd_some h
    refine r_callV (v := (some (.int z_6))) (As := [.int x2]) (rest := []) C ml_X8_isBank gm_888 gm_890 gs_26 (ci := 8) rfl hW a_100 rfl hl.1 (c_X8_isBank a_100 e_z_6) rfl ⟨(by decide), (by decide)⟩ ⟨(by decide), (by decide)⟩ rfl (Nat.le_of_ble_eq_true rfl) dX8_sensor_6 (fun H locs hW => ?_)
    refine lv_if_eq (tgt := 22) hx hb dX8_sensor_9 (by decide) (fun c_9 => ?_) (fun c_9 => ?_)
    · have h := (if_pos c_9).symm.trans h
      refine lv_iconst (v := 0) hx hb dX8_sensor_22 (by decide) ?_
      have h := Option.some.inj h
      subst h
      exact r_zret C hW (Or.inl rfl) dX8_sensor_23
    · have h := (if_neg c_9).symm.trans h
      refine lv_aload_n hx hb dX8_sensor_12 rfl (lv_at hl 0 rfl) ?_
      have ap_13 : al 109 = true := hW.cl a_100 (hF _ 8 _ a_100 rfl)
      refine r_getq C fr_X8_29 hW a_100 rfl rfl (hF _ 8 _ a_100 rfl) dX8_sensor_13 ?_
      refine lv_iload_n hx hb dX8_sensor_16 rfl (lv_at hl 2 rfl) ?_
      obtain ⟨g_17, h⟩ := gd_some h
      refine r_zald C hW ap_13 rfl (ix_in g_17) dX8_sensor_17 ?_
      refine lv_iload_n hx hb dX8_sensor_18 rfl (lv_at hl 3 rfl) ?_
      refine lv_icmp_ne (tgt := 24) hx hb dX8_sensor_19 (by decide) (fun c_19 => ?_) (fun c_19 => ?_)
      · have h := (if_neg c_19).symm.trans h
        refine lv_aload_n hx hb dX8_sensor_24 rfl (lv_at hl 0 rfl) ?_
        refine r_getq C fr_X8_29 hW a_100 rfl rfl (hF _ 8 _ a_100 rfl) dX8_sensor_25 ?_
        refine lv_iload_n hx hb dX8_sensor_28 rfl (lv_at hl 2 rfl) ?_
        refine lv_iload_n hx hb dX8_sensor_29 rfl (lv_at hl 3 rfl) ?_
        obtain ⟨g_30, h⟩ := gd_some h
        obtain ⟨I_30, e_I_30, h⟩ := lt_some h
        refine r_zast C hW ap_13 rfl (ix_in g_30) dX8_sensor_30 (fun H locs hW => ?_)
        rw [← e_I_30] at hW
        refine lv_iconst (v := 1) hx hb dX8_sensor_31 (by decide) ?_
        have h := Option.some.inj h
        subst h
        exact r_zret C hW (Or.inr rfl) dX8_sensor_32
      · have h := (if_pos c_19).symm.trans h
        refine lv_iconst (v := 0) hx hb dX8_sensor_22 (by decide) ?_
        have h := Option.some.inj h
        subst h
        exact r_zret C hW (Or.inl rfl) dX8_sensor_23
def f_X8_car (I : MI) (R : MR) (x1 : Int32) (x2 : Int32) (x3 : Int32) : Option (Int32 × MI) := (if (I 100 13) = 60 then (some ((-1), I)) else (bd (f_X8_in I R x1 1 20) (fun z_13 => (if z_13 = 0 then (some ((-1), I)) else (bd (f_X8_in I R x3 1 300) (fun z_24 => (if z_24 = 0 then (some ((-1), I)) else (bd (f_X8_in I R x2 0 (x1 * x3)) (fun z_35 => (if z_35 = 0 then (some ((-1), I)) else (gd (ix (I 100 13) (ln 115)) (lt (p2 I 115 (I 100 13).toNatClampNeg x1) (fun I_52 => gd (ix (I_52 100 13) (ln 116)) (lt (p2 I_52 116 (I_52 100 13).toNatClampNeg x2) (fun I_62 => gd (ix (I_62 100 13) (ln 117)) (lt (p2 I_62 117 (I_62 100 13).toNatClampNeg x3) (fun I_72 => gd (ix (I_72 100 13) (ln 119)) (lt (p2 I_72 119 (I_72 100 13).toNatClampNeg (10 * (I_72 100 1))) (fun I_88 => gd (ix (I_88 100 13) (ln 120)) (lt (p2 I_88 120 (I_88 100 13).toNatClampNeg (-1)) (fun I_98 => gd (ix (I_98 100 13) (ln 121)) (lt (p2 I_98 121 (I_98 100 13).toNatClampNeg (-1)) (fun I_108 => gd (ix (I_108 100 13) (ln 122)) (lt (p2 I_108 122 (I_108 100 13).toNatClampNeg (-1)) (fun I_118 => lt (p2 I_118 100 24 ((I_118 100 24) + x2)) (fun I_126 => lt (p2 I_126 100 13 ((I_126 100 13) + 1)) (fun I_136 => some ((I_136 100 13) - 1, I_136))))))))))))))))))))))))))))
set_option maxHeartbeats 4000000 in
set_option maxRecDepth 100000 in
theorem c_X8_car {l : Launch} {E : EV} {q : Nat → Nat} {al : Nat → Bool} {n : Nat} {I : MI} {R : MR} {x1 : Int32} {x2 : Int32} {x3 : Int32} (a_100 : al 100 = true) (hF : Fx al R) {res : Int32 × MI} (h : f_X8_car I R x1 x2 x3 = some res) : Ct l yX8_car cX8_car 4 (some .int) 2 0 0 E q al I R n [.ref (q 100), .int x1, .int x2, .int x3] (some (.int res.1)) al res.2 R n := by
  refine Ct.of (own := RX8) (mn := "car") (by decide) rfl rfl (Nat.le_of_ble_eq_true rfl) ?_
  intro p e s m args below meth c ls C hmn hargs hW hl
  have hx := C.1
  have hb := C.2.1
  have hl : lv_has ls 4 [(0, .ref (q 100)), (1, .int x1), (2, .int x2), (3, .int x3)] := hl
  unfold f_X8_car at h
  refine lv_aload_n hx hb dX8_car_0 rfl (lv_at hl 0 rfl) ?_
  refine r_get C fr_X8_191 hW a_100 rfl rfl dX8_car_1 ?_
  refine lv_bipush (v := 60) hx hb dX8_car_4 (by decide) ?_
  refine lv_icmp_eq (tgt := 41) hx hb dX8_car_6 (by decide) (fun c_6 => ?_) (fun c_6 => ?_)
  · have h := (if_pos c_6).symm.trans h
    refine lv_iconst (v := (-1)) hx hb dX8_car_41 (by decide) ?_
    have h := Option.some.inj h
    subst h
    exact r_iret C hW dX8_car_42
  · have h := (if_neg c_6).symm.trans h
    refine lv_iload_n hx hb dX8_car_9 rfl (lv_at hl 1 rfl) ?_
    refine lv_iconst (v := 1) hx hb dX8_car_10 (by decide) ?_
    refine lv_bipush (v := 20) hx hb dX8_car_11 (by decide) ?_
    obtain ⟨z_13, e_z_13, h⟩ := bd_some h
    refine r_callS (v := (some (.int z_13))) (As := [.int x1, .int 1, .int 20]) (rest := []) C ml_X8_in gm_881 gm_882 hW hl.1 (c_X8_in  e_z_13) rfl ⟨(by decide), (by decide)⟩ ⟨(by decide), (by decide)⟩ rfl (Nat.le_of_ble_eq_true rfl) dX8_car_13 (fun H locs hW => ?_)
    refine lv_if_eq (tgt := 41) hx hb dX8_car_16 (by decide) (fun c_16 => ?_) (fun c_16 => ?_)
    · have h := (if_pos c_16).symm.trans h
      refine lv_iconst (v := (-1)) hx hb dX8_car_41 (by decide) ?_
      have h := Option.some.inj h
      subst h
      exact r_iret C hW dX8_car_42
    · have h := (if_neg c_16).symm.trans h
      refine lv_iload_n hx hb dX8_car_19 rfl (lv_at hl 3 rfl) ?_
      refine lv_iconst (v := 1) hx hb dX8_car_20 (by decide) ?_
      refine lv_sipush (v := 300) hx hb dX8_car_21 (by decide) ?_
      obtain ⟨z_24, e_z_24, h⟩ := bd_some h
      refine r_callS (v := (some (.int z_24))) (As := [.int x3, .int 1, .int 300]) (rest := []) C ml_X8_in gm_881 gm_882 hW hl.1 (c_X8_in  e_z_24) rfl ⟨(by decide), (by decide)⟩ ⟨(by decide), (by decide)⟩ rfl (Nat.le_of_ble_eq_true rfl) dX8_car_24 (fun H locs hW => ?_)
      refine lv_if_eq (tgt := 41) hx hb dX8_car_27 (by decide) (fun c_27 => ?_) (fun c_27 => ?_)
      · have h := (if_pos c_27).symm.trans h
        refine lv_iconst (v := (-1)) hx hb dX8_car_41 (by decide) ?_
        have h := Option.some.inj h
        subst h
        exact r_iret C hW dX8_car_42
      · have h := (if_neg c_27).symm.trans h
        refine lv_iload_n hx hb dX8_car_30 rfl (lv_at hl 2 rfl) ?_
        refine lv_iconst (v := 0) hx hb dX8_car_31 (by decide) ?_
        refine lv_iload_n hx hb dX8_car_32 rfl (lv_at hl 1 rfl) ?_
        refine lv_iload_n hx hb dX8_car_33 rfl (lv_at hl 3 rfl) ?_
        refine lv_imul hx hb dX8_car_34 ?_
        obtain ⟨z_35, e_z_35, h⟩ := bd_some h
        refine r_callS (v := (some (.int z_35))) (As := [.int x2, .int 0, .int (x1 * x3)]) (rest := []) C ml_X8_in gm_881 gm_882 hW hl.1 (c_X8_in  e_z_35) rfl ⟨(by decide), (by decide)⟩ ⟨(by decide), (by decide)⟩ rfl (Nat.le_of_ble_eq_true rfl) dX8_car_35 (fun H locs hW => ?_)
        refine lv_if_ne (tgt := 43) hx hb dX8_car_38 (by decide) (fun c_38 => ?_) (fun c_38 => ?_)
        · have h := (if_neg c_38).symm.trans h
          refine lv_aload_n hx hb dX8_car_43 rfl (lv_at hl 0 rfl) ?_
          have ap_44 : al 115 = true := hW.cl a_100 (hF _ 14 _ a_100 rfl)
          refine r_getq C fr_X8_45 hW a_100 rfl rfl (hF _ 14 _ a_100 rfl) dX8_car_44 ?_
          refine lv_aload_n hx hb dX8_car_47 rfl (lv_at hl 0 rfl) ?_
          refine r_get C fr_X8_191 hW a_100 rfl rfl dX8_car_48 ?_
          refine lv_iload_n hx hb dX8_car_51 rfl (lv_at hl 1 rfl) ?_
          obtain ⟨g_52, h⟩ := gd_some h
          obtain ⟨I_52, e_I_52, h⟩ := lt_some h
          refine r_iast C hW ap_44 rfl (ix_in g_52) dX8_car_52 (fun H locs hW => ?_)
          rw [← e_I_52] at hW
          refine lv_aload_n hx hb dX8_car_53 rfl (lv_at hl 0 rfl) ?_
          have ap_54 : al 116 = true := hW.cl a_100 (hF _ 15 _ a_100 rfl)
          refine r_getq C fr_X8_48 hW a_100 rfl rfl (hF _ 15 _ a_100 rfl) dX8_car_54 ?_
          refine lv_aload_n hx hb dX8_car_57 rfl (lv_at hl 0 rfl) ?_
          refine r_get C fr_X8_191 hW a_100 rfl rfl dX8_car_58 ?_
          refine lv_iload_n hx hb dX8_car_61 rfl (lv_at hl 2 rfl) ?_
          obtain ⟨g_62, h⟩ := gd_some h
          obtain ⟨I_62, e_I_62, h⟩ := lt_some h
          refine r_iast C hW ap_54 rfl (ix_in g_62) dX8_car_62 (fun H locs hW => ?_)
          rw [← e_I_62] at hW
          refine lv_aload_n hx hb dX8_car_63 rfl (lv_at hl 0 rfl) ?_
          have ap_64 : al 117 = true := hW.cl a_100 (hF _ 16 _ a_100 rfl)
          refine r_getq C fr_X8_51 hW a_100 rfl rfl (hF _ 16 _ a_100 rfl) dX8_car_64 ?_
          refine lv_aload_n hx hb dX8_car_67 rfl (lv_at hl 0 rfl) ?_
          refine r_get C fr_X8_191 hW a_100 rfl rfl dX8_car_68 ?_
          refine lv_iload_n hx hb dX8_car_71 rfl (lv_at hl 3 rfl) ?_
          obtain ⟨g_72, h⟩ := gd_some h
          obtain ⟨I_72, e_I_72, h⟩ := lt_some h
          refine r_iast C hW ap_64 rfl (ix_in g_72) dX8_car_72 (fun H locs hW => ?_)
          rw [← e_I_72] at hW
          refine lv_aload_n hx hb dX8_car_73 rfl (lv_at hl 0 rfl) ?_
          have ap_74 : al 119 = true := hW.cl a_100 (hF _ 18 _ a_100 rfl)
          refine r_getq C fr_X8_57 hW a_100 rfl rfl (hF _ 18 _ a_100 rfl) dX8_car_74 ?_
          refine lv_aload_n hx hb dX8_car_77 rfl (lv_at hl 0 rfl) ?_
          refine r_get C fr_X8_191 hW a_100 rfl rfl dX8_car_78 ?_
          refine lv_bipush (v := 10) hx hb dX8_car_81 (by decide) ?_
          refine lv_aload_n hx hb dX8_car_83 rfl (lv_at hl 0 rfl) ?_
          refine r_get C fr_X8_7 hW a_100 rfl rfl dX8_car_84 ?_
          refine lv_imul hx hb dX8_car_87 ?_
          obtain ⟨g_88, h⟩ := gd_some h
          obtain ⟨I_88, e_I_88, h⟩ := lt_some h
          refine r_iast C hW ap_74 rfl (ix_in g_88) dX8_car_88 (fun H locs hW => ?_)
          rw [← e_I_88] at hW
          refine lv_aload_n hx hb dX8_car_89 rfl (lv_at hl 0 rfl) ?_
          have ap_90 : al 120 = true := hW.cl a_100 (hF _ 19 _ a_100 rfl)
          refine r_getq C fr_X8_60 hW a_100 rfl rfl (hF _ 19 _ a_100 rfl) dX8_car_90 ?_
          refine lv_aload_n hx hb dX8_car_93 rfl (lv_at hl 0 rfl) ?_
          refine r_get C fr_X8_191 hW a_100 rfl rfl dX8_car_94 ?_
          refine lv_iconst (v := (-1)) hx hb dX8_car_97 (by decide) ?_
          obtain ⟨g_98, h⟩ := gd_some h
          obtain ⟨I_98, e_I_98, h⟩ := lt_some h
          refine r_iast C hW ap_90 rfl (ix_in g_98) dX8_car_98 (fun H locs hW => ?_)
          rw [← e_I_98] at hW
          refine lv_aload_n hx hb dX8_car_99 rfl (lv_at hl 0 rfl) ?_
          have ap_100 : al 121 = true := hW.cl a_100 (hF _ 20 _ a_100 rfl)
          refine r_getq C fr_X8_63 hW a_100 rfl rfl (hF _ 20 _ a_100 rfl) dX8_car_100 ?_
          refine lv_aload_n hx hb dX8_car_103 rfl (lv_at hl 0 rfl) ?_
          refine r_get C fr_X8_191 hW a_100 rfl rfl dX8_car_104 ?_
          refine lv_iconst (v := (-1)) hx hb dX8_car_107 (by decide) ?_
          obtain ⟨g_108, h⟩ := gd_some h
          obtain ⟨I_108, e_I_108, h⟩ := lt_some h
          refine r_iast C hW ap_100 rfl (ix_in g_108) dX8_car_108 (fun H locs hW => ?_)
          rw [← e_I_108] at hW
          refine lv_aload_n hx hb dX8_car_109 rfl (lv_at hl 0 rfl) ?_
          have ap_110 : al 122 = true := hW.cl a_100 (hF _ 21 _ a_100 rfl)
          refine r_getq C fr_X8_66 hW a_100 rfl rfl (hF _ 21 _ a_100 rfl) dX8_car_110 ?_
          refine lv_aload_n hx hb dX8_car_113 rfl (lv_at hl 0 rfl) ?_
          refine r_get C fr_X8_191 hW a_100 rfl rfl dX8_car_114 ?_
          refine lv_iconst (v := (-1)) hx hb dX8_car_117 (by decide) ?_
          obtain ⟨g_118, h⟩ := gd_some h
          obtain ⟨I_118, e_I_118, h⟩ := lt_some h
          refine r_iast C hW ap_110 rfl (ix_in g_118) dX8_car_118 (fun H locs hW => ?_)
          rw [← e_I_118] at hW
          refine lv_aload_n hx hb dX8_car_119 rfl (lv_at hl 0 rfl) ?_
          refine lv_dup hx hb dX8_car_120 rfl ?_
          refine r_get C fr_X8_138 hW a_100 rfl rfl dX8_car_121 ?_
          refine lv_iload_n hx hb dX8_car_124 rfl (lv_at hl 2 rfl) ?_
          refine lv_iadd hx hb dX8_car_125 ?_
          obtain ⟨I_126, e_I_126, h⟩ := lt_some h
          refine r_put C fr_X8_138 (Or.inl rfl) hW a_100 rfl rfl rfl rfl dX8_car_126 (fun H locs hW => ?_)
          rw [← e_I_126] at hW
          refine lv_aload_n hx hb dX8_car_129 rfl (lv_at hl 0 rfl) ?_
          refine lv_dup hx hb dX8_car_130 rfl ?_
          refine r_get C fr_X8_191 hW a_100 rfl rfl dX8_car_131 ?_
          refine lv_iconst (v := 1) hx hb dX8_car_134 (by decide) ?_
          refine lv_iadd hx hb dX8_car_135 ?_
          obtain ⟨I_136, e_I_136, h⟩ := lt_some h
          refine r_put C fr_X8_191 (Or.inl rfl) hW a_100 rfl rfl rfl rfl dX8_car_136 (fun H locs hW => ?_)
          rw [← e_I_136] at hW
          refine lv_aload_n hx hb dX8_car_139 rfl (lv_at hl 0 rfl) ?_
          refine r_get C fr_X8_191 hW a_100 rfl rfl dX8_car_140 ?_
          refine lv_iconst (v := 1) hx hb dX8_car_143 (by decide) ?_
          refine lv_isub hx hb dX8_car_144 ?_
          have h := Option.some.inj h
          subst h
          exact r_iret C hW dX8_car_145
        · have h := (if_pos c_38).symm.trans h
          refine lv_iconst (v := (-1)) hx hb dX8_car_41 (by decide) ?_
          have h := Option.some.inj h
          subst h
          exact r_iret C hW dX8_car_42
def f_X8_cooled (I : MI) (R : MR) (x1 : Int32) : Option (Int32) := gd (ix 1 (ln 143)) (gd (¬ (I 143 (1 : Int32).toNatClampNeg) = 0) (some (x1 - ((x1 - (10 * (I 100 1))) / (I 143 (1 : Int32).toNatClampNeg)))))
set_option maxHeartbeats 4000000 in
set_option maxRecDepth 100000 in
theorem c_X8_cooled {l : Launch} {E : EV} {q : Nat → Nat} {al : Nat → Bool} {n : Nat} {I : MI} {R : MR} {x1 : Int32} (a_100 : al 100 = true) (hF : Fx al R) {res : Int32} (h : f_X8_cooled I R x1 = some res) : Ct l yX8_cooled cX8_cooled 2 (some .int) 1 0 0 E q al I R n [.ref (q 100), .int x1] (some (.int res)) al I R n := by
  refine Ct.of (own := RX8) (mn := "cooled") (by decide) rfl rfl (Nat.le_of_ble_eq_true rfl) ?_
  intro p e s m args below meth c ls C hmn hargs hW hl
  have hx := C.1
  have hb := C.2.1
  have hl : lv_has ls 2 [(0, .ref (q 100)), (1, .int x1)] := hl
  unfold f_X8_cooled at h
  refine lv_iload_n hx hb dX8_cooled_0 rfl (lv_at hl 1 rfl) ?_
  refine lv_iload_n hx hb dX8_cooled_1 rfl (lv_at hl 1 rfl) ?_
  refine lv_bipush (v := 10) hx hb dX8_cooled_2 (by decide) ?_
  refine lv_aload_n hx hb dX8_cooled_4 rfl (lv_at hl 0 rfl) ?_
  refine r_get C fr_X8_7 hW a_100 rfl rfl dX8_cooled_5 ?_
  refine lv_imul hx hb dX8_cooled_8 ?_
  refine lv_isub hx hb dX8_cooled_9 ?_
  refine lv_aload_n hx hb dX8_cooled_10 rfl (lv_at hl 0 rfl) ?_
  have ap_11 : al 143 = true := hW.cl a_100 (hF _ 42 _ a_100 rfl)
  refine r_getq C fr_X8_94 hW a_100 rfl rfl (hF _ 42 _ a_100 rfl) dX8_cooled_11 ?_
  refine lv_iconst (v := 1) hx hb dX8_cooled_14 (by decide) ?_
  obtain ⟨g_15, h⟩ := gd_some h
  refine r_iald C hW ap_11 rfl (ix_in g_15) dX8_cooled_15 ?_
  obtain ⟨g_16, h⟩ := gd_some h
  refine lv_idiv hx hb dX8_cooled_16 g_16 ?_
  refine lv_isub hx hb dX8_cooled_17 ?_
  have h := Option.some.inj h
  subst h
  exact r_iret C hW dX8_cooled_18
def f_X8_goes (I : MI) (R : MR) (x1 : Int32) (x2 : Int32) : Option (MI) := gd (ix x1 (ln 111)) (gd (ix (I 111 x1.toNatClampNeg) (ln 118)) (lt (p2 I 118 (I 111 x1.toNatClampNeg).toNatClampNeg x2) (fun I_13 => gd (ix (I 111 x1.toNatClampNeg) (ln 122)) (lt (p2 I_13 122 (I 111 x1.toNatClampNeg).toNatClampNeg (I_13 100 0)) (fun I_23 => gd (ix (I 111 x1.toNatClampNeg) (ln 120)) (lt (p2 I_23 120 (I 111 x1.toNatClampNeg).toNatClampNeg (-1)) (fun I_30 => gd (ix x1 (ln 111)) (lt (p2 I_30 111 x1.toNatClampNeg (-1)) (fun I_37 => some (I_37))))))))))
set_option maxHeartbeats 4000000 in
set_option maxRecDepth 100000 in
theorem c_X8_goes {l : Launch} {E : EV} {q : Nat → Nat} {al : Nat → Bool} {n : Nat} {I : MI} {R : MR} {x1 : Int32} {x2 : Int32} (a_100 : al 100 = true) (hF : Fx al R) {res : MI} (h : f_X8_goes I R x1 x2 = some res) : Ct l yX8_goes cX8_goes 4 none 1 0 0 E q al I R n [.ref (q 100), .int x1, .int x2] none al res R n := by
  refine Ct.of (own := RX8) (mn := "goes") (by decide) rfl rfl (Nat.le_of_ble_eq_true rfl) ?_
  intro p e s m args below meth c ls C hmn hargs hW hl
  have hx := C.1
  have hb := C.2.1
  have hl : lv_has ls 4 [(0, .ref (q 100)), (1, .int x1), (2, .int x2)] := hl
  unfold f_X8_goes at h
  refine lv_aload_n hx hb dX8_goes_0 rfl (lv_at hl 0 rfl) ?_
  have ap_1 : al 111 = true := hW.cl a_100 (hF _ 10 _ a_100 rfl)
  refine r_getq C fr_X8_36 hW a_100 rfl rfl (hF _ 10 _ a_100 rfl) dX8_goes_1 ?_
  refine lv_iload_n hx hb dX8_goes_4 rfl (lv_at hl 1 rfl) ?_
  obtain ⟨g_5, h⟩ := gd_some h
  refine r_iald C hW ap_1 rfl (ix_in g_5) dX8_goes_5 ?_
  refine lv_istore_n (lv' := [(3, .int (I 111 x1.toNatClampNeg)), (0, .ref (q 100)), (1, .int x1), (2, .int x2)]) hx hb dX8_goes_6 rfl hl (by decide) rfl (fun ls hl => ?_)
  refine lv_aload_n hx hb dX8_goes_7 rfl (lv_at hl 1 rfl) ?_
  have ap_8 : al 118 = true := hW.cl a_100 (hF _ 17 _ a_100 rfl)
  refine r_getq C fr_X8_54 hW a_100 rfl rfl (hF _ 17 _ a_100 rfl) dX8_goes_8 ?_
  refine lv_iload_n hx hb dX8_goes_11 rfl (lv_at hl 0 rfl) ?_
  refine lv_iload_n hx hb dX8_goes_12 rfl (lv_at hl 3 rfl) ?_
  obtain ⟨g_13, h⟩ := gd_some h
  obtain ⟨I_13, e_I_13, h⟩ := lt_some h
  refine r_iast C hW ap_8 rfl (ix_in g_13) dX8_goes_13 (fun H locs hW => ?_)
  rw [← e_I_13] at hW
  refine lv_aload_n hx hb dX8_goes_14 rfl (lv_at hl 1 rfl) ?_
  have ap_15 : al 122 = true := hW.cl a_100 (hF _ 21 _ a_100 rfl)
  refine r_getq C fr_X8_66 hW a_100 rfl rfl (hF _ 21 _ a_100 rfl) dX8_goes_15 ?_
  refine lv_iload_n hx hb dX8_goes_18 rfl (lv_at hl 0 rfl) ?_
  refine lv_aload_n hx hb dX8_goes_19 rfl (lv_at hl 1 rfl) ?_
  refine r_get C fr_X8_197 hW a_100 rfl rfl dX8_goes_20 ?_
  obtain ⟨g_23, h⟩ := gd_some h
  obtain ⟨I_23, e_I_23, h⟩ := lt_some h
  refine r_iast C hW ap_15 rfl (ix_in g_23) dX8_goes_23 (fun H locs hW => ?_)
  rw [← e_I_23] at hW
  refine lv_aload_n hx hb dX8_goes_24 rfl (lv_at hl 1 rfl) ?_
  have ap_25 : al 120 = true := hW.cl a_100 (hF _ 19 _ a_100 rfl)
  refine r_getq C fr_X8_60 hW a_100 rfl rfl (hF _ 19 _ a_100 rfl) dX8_goes_25 ?_
  refine lv_iload_n hx hb dX8_goes_28 rfl (lv_at hl 0 rfl) ?_
  refine lv_iconst (v := (-1)) hx hb dX8_goes_29 (by decide) ?_
  obtain ⟨g_30, h⟩ := gd_some h
  obtain ⟨I_30, e_I_30, h⟩ := lt_some h
  refine r_iast C hW ap_25 rfl (ix_in g_30) dX8_goes_30 (fun H locs hW => ?_)
  rw [← e_I_30] at hW
  refine lv_aload_n hx hb dX8_goes_31 rfl (lv_at hl 1 rfl) ?_
  refine r_getq C fr_X8_36 hW a_100 rfl rfl (hF _ 10 _ a_100 rfl) dX8_goes_32 ?_
  refine lv_iload_n hx hb dX8_goes_35 rfl (lv_at hl 2 rfl) ?_
  refine lv_iconst (v := (-1)) hx hb dX8_goes_36 (by decide) ?_
  obtain ⟨g_37, h⟩ := gd_some h
  obtain ⟨I_37, e_I_37, h⟩ := lt_some h
  refine r_iast C hW ap_1 rfl (ix_in g_37) dX8_goes_37 (fun H locs hW => ?_)
  rw [← e_I_37] at hW
  have h := Option.some.inj h
  subst h
  exact r_vret C hW dX8_goes_38
def f_X8_slip (I : MI) (R : MR) (x1 : Int32) : Option (Int32 × MI) := bd (f_X8_in I R x1 0 50) (fun z_4 => (if z_4 = 0 then (some ((-1), I)) else (lt (p2 I 100 29 x1) (fun I_19 => some (I 100 29, I_19)))))
set_option maxHeartbeats 4000000 in
set_option maxRecDepth 100000 in
theorem c_X8_slip {l : Launch} {E : EV} {q : Nat → Nat} {al : Nat → Bool} {n : Nat} {I : MI} {R : MR} {x1 : Int32} (a_100 : al 100 = true) {res : Int32 × MI} (h : f_X8_slip I R x1 = some res) : Ct l yX8_slip cX8_slip 3 (some .int) 2 0 0 E q al I R n [.ref (q 100), .int x1] (some (.int res.1)) al res.2 R n := by
  refine Ct.of (own := RX8) (mn := "slip") (by decide) rfl rfl (Nat.le_of_ble_eq_true rfl) ?_
  intro p e s m args below meth c ls C hmn hargs hW hl
  have hx := C.1
  have hb := C.2.1
  have hl : lv_has ls 3 [(0, .ref (q 100)), (1, .int x1)] := hl
  unfold f_X8_slip at h
  refine lv_iload_n hx hb dX8_slip_0 rfl (lv_at hl 1 rfl) ?_
  refine lv_iconst (v := 0) hx hb dX8_slip_1 (by decide) ?_
  refine lv_bipush (v := 50) hx hb dX8_slip_2 (by decide) ?_
  obtain ⟨z_4, e_z_4, h⟩ := bd_some h
  refine r_callS (v := (some (.int z_4))) (As := [.int x1, .int 0, .int 50]) (rest := []) C ml_X8_in gm_881 gm_882 hW hl.1 (c_X8_in  e_z_4) rfl ⟨(by decide), (by decide)⟩ ⟨(by decide), (by decide)⟩ rfl (Nat.le_of_ble_eq_true rfl) dX8_slip_4 (fun H locs hW => ?_)
  refine lv_if_ne (tgt := 12) hx hb dX8_slip_7 (by decide) (fun c_7 => ?_) (fun c_7 => ?_)
  · have h := (if_neg c_7).symm.trans h
    refine lv_aload_n hx hb dX8_slip_12 rfl (lv_at hl 0 rfl) ?_
    refine r_get C fr_X8_75 hW a_100 rfl rfl dX8_slip_13 ?_
    refine lv_istore_n (lv' := [(2, .int (I 100 29)), (0, .ref (q 100)), (1, .int x1)]) hx hb dX8_slip_16 rfl hl (by decide) rfl (fun ls hl => ?_)
    refine lv_aload_n hx hb dX8_slip_17 rfl (lv_at hl 1 rfl) ?_
    refine lv_iload_n hx hb dX8_slip_18 rfl (lv_at hl 2 rfl) ?_
    obtain ⟨I_19, e_I_19, h⟩ := lt_some h
    refine r_put C fr_X8_75 (Or.inl rfl) hW a_100 rfl rfl rfl rfl dX8_slip_19 (fun H locs hW => ?_)
    rw [← e_I_19] at hW
    refine lv_iload_n hx hb dX8_slip_22 rfl (lv_at hl 0 rfl) ?_
    have h := Option.some.inj h
    subst h
    exact r_iret C hW dX8_slip_23
  · have h := (if_pos c_7).symm.trans h
    refine lv_iconst (v := (-1)) hx hb dX8_slip_10 (by decide) ?_
    have h := Option.some.inj h
    subst h
    exact r_iret C hW dX8_slip_11
def f_X8_bestOf (I : MI) (R : MR) (x1 : Int32) (x2 : Int32) : Option (Int32) := (if (I 100 46) = 0 then (some ((-1))) else (bd (f_X8_in I R x1 0 ((I 100 47) - 1)) (fun z_15 => (if z_15 = 0 then (some ((-1))) else ((if x2 = 0 then (gd (ix x1 (ln 150)) (some (I 150 x1.toNatClampNeg))) else ((if x2 = 1 then (gd (ix x1 (ln 151)) (some (I 151 x1.toNatClampNeg))) else (some ((-1)))))))))))
set_option maxHeartbeats 4000000 in
set_option maxRecDepth 100000 in
theorem c_X8_bestOf {l : Launch} {E : EV} {q : Nat → Nat} {al : Nat → Bool} {n : Nat} {I : MI} {R : MR} {x1 : Int32} {x2 : Int32} (a_100 : al 100 = true) (hF : Fx al R) {res : Int32} (h : f_X8_bestOf I R x1 x2 = some res) : Ct l yX8_bestOf cX8_bestOf 3 (some .int) 2 0 0 E q al I R n [.ref (q 100), .int x1, .int x2] (some (.int res)) al I R n := by
  refine Ct.of (own := RX8) (mn := "bestOf") (by decide) rfl rfl (Nat.le_of_ble_eq_true rfl) ?_
  intro p e s m args below meth c ls C hmn hargs hW hl
  have hx := C.1
  have hb := C.2.1
  have hl : lv_has ls 3 [(0, .ref (q 100)), (1, .int x1), (2, .int x2)] := hl
  unfold f_X8_bestOf at h
  refine lv_aload_n hx hb dX8_bestOf_0 rfl (lv_at hl 0 rfl) ?_
  refine r_get C fr_X8_246 hW a_100 rfl rfl dX8_bestOf_1 ?_
  refine lv_if_eq (tgt := 21) hx hb dX8_bestOf_4 (by decide) (fun c_4 => ?_) (fun c_4 => ?_)
  · have h := (if_pos c_4).symm.trans h
    refine lv_iconst (v := (-1)) hx hb dX8_bestOf_21 (by decide) ?_
    have h := Option.some.inj h
    subst h
    exact r_iret C hW dX8_bestOf_22
  · have h := (if_neg c_4).symm.trans h
    refine lv_iload_n hx hb dX8_bestOf_7 rfl (lv_at hl 1 rfl) ?_
    refine lv_iconst (v := 0) hx hb dX8_bestOf_8 (by decide) ?_
    refine lv_aload_n hx hb dX8_bestOf_9 rfl (lv_at hl 0 rfl) ?_
    refine r_get C fr_X8_250 hW a_100 rfl rfl dX8_bestOf_10 ?_
    refine lv_iconst (v := 1) hx hb dX8_bestOf_13 (by decide) ?_
    refine lv_isub hx hb dX8_bestOf_14 ?_
    obtain ⟨z_15, e_z_15, h⟩ := bd_some h
    refine r_callS (v := (some (.int z_15))) (As := [.int x1, .int 0, .int ((I 100 47) - 1)]) (rest := []) C ml_X8_in gm_881 gm_882 hW hl.1 (c_X8_in  e_z_15) rfl ⟨(by decide), (by decide)⟩ ⟨(by decide), (by decide)⟩ rfl (Nat.le_of_ble_eq_true rfl) dX8_bestOf_15 (fun H locs hW => ?_)
    refine lv_if_ne (tgt := 23) hx hb dX8_bestOf_18 (by decide) (fun c_18 => ?_) (fun c_18 => ?_)
    · have h := (if_neg c_18).symm.trans h
      refine lv_iload_n hx hb dX8_bestOf_23 rfl (lv_at hl 2 rfl) ?_
      refine lv_if_ne (tgt := 36) hx hb dX8_bestOf_24 (by decide) (fun c_24 => ?_) (fun c_24 => ?_)
      · have h := (if_neg c_24).symm.trans h
        refine lv_iload_n hx hb dX8_bestOf_36 rfl (lv_at hl 2 rfl) ?_
        refine lv_iconst (v := 1) hx hb dX8_bestOf_37 (by decide) ?_
        refine lv_icmp_ne (tgt := 50) hx hb dX8_bestOf_38 (by decide) (fun c_38 => ?_) (fun c_38 => ?_)
        · have h := (if_neg c_38).symm.trans h
          refine lv_iconst (v := (-1)) hx hb dX8_bestOf_50 (by decide) ?_
          have h := Option.some.inj h
          subst h
          exact r_iret C hW dX8_bestOf_51
        · have h := (if_pos c_38).symm.trans h
          refine lv_aload_n hx hb dX8_bestOf_41 rfl (lv_at hl 0 rfl) ?_
          have ap_42 : al 151 = true := hW.cl a_100 (hF _ 50 _ a_100 rfl)
          refine r_getq C fr_X8_106 hW a_100 rfl rfl (hF _ 50 _ a_100 rfl) dX8_bestOf_42 ?_
          refine lv_iload_n hx hb dX8_bestOf_45 rfl (lv_at hl 1 rfl) ?_
          obtain ⟨g_46, h⟩ := gd_some h
          refine r_iald C hW ap_42 rfl (ix_in g_46) dX8_bestOf_46 ?_
          refine lv_goto (tgt := 51) hx hb dX8_bestOf_47 (by decide) ?_
          have h := Option.some.inj h
          subst h
          exact r_iret C hW dX8_bestOf_51
      · have h := (if_pos c_24).symm.trans h
        refine lv_aload_n hx hb dX8_bestOf_27 rfl (lv_at hl 0 rfl) ?_
        have ap_28 : al 150 = true := hW.cl a_100 (hF _ 49 _ a_100 rfl)
        refine r_getq C fr_X8_103 hW a_100 rfl rfl (hF _ 49 _ a_100 rfl) dX8_bestOf_28 ?_
        refine lv_iload_n hx hb dX8_bestOf_31 rfl (lv_at hl 1 rfl) ?_
        obtain ⟨g_32, h⟩ := gd_some h
        refine r_iald C hW ap_28 rfl (ix_in g_32) dX8_bestOf_32 ?_
        refine lv_goto (tgt := 51) hx hb dX8_bestOf_33 (by decide) ?_
        have h := Option.some.inj h
        subst h
        exact r_iret C hW dX8_bestOf_51
    · have h := (if_pos c_18).symm.trans h
      refine lv_iconst (v := (-1)) hx hb dX8_bestOf_21 (by decide) ?_
      have h := Option.some.inj h
      subst h
      exact r_iret C hW dX8_bestOf_22
def f_X8_banks (I : MI) (R : MR) (x1 : Int32) (x2 : Int32) : Option (Int32) := bd (f_X8_isBank I R x1) (fun z_2 => (if z_2 = 0 then (some ((-1))) else ((if x2 = 0 then (gd (ix x1 (ln 105)) (some (I 105 x1.toNatClampNeg))) else (if x2 = 1 then (gd (ix x1 (ln 105)) (gd (ix x1 (ln 104)) (gd (¬ (I 104 x1.toNatClampNeg) = 0) (some ((I 105 x1.toNatClampNeg) / (I 104 x1.toNatClampNeg)))))) else (if x2 = 2 then (gd (ix x1 (ln 106)) (some (I 106 x1.toNatClampNeg))) else (if x2 = 3 then (gd (ix x1 (ln 107)) (some (I 107 x1.toNatClampNeg))) else (if x2 = 4 then (gd (ix x1 (ln 108)) (some (I 108 x1.toNatClampNeg))) else (if x2 = 5 then (gd (ix x1 (ln 109)) ((if (I 109 x1.toNatClampNeg) = 0 then (some (0)) else (some (1))))) else (some ((-1))))))))))))
set_option maxHeartbeats 4000000 in
set_option maxRecDepth 100000 in
theorem c_X8_banks {l : Launch} {E : EV} {q : Nat → Nat} {al : Nat → Bool} {n : Nat} {I : MI} {R : MR} {x1 : Int32} {x2 : Int32} (a_100 : al 100 = true) (hF : Fx al R) {res : Int32} (h : f_X8_banks I R x1 x2 = some res) : Ct l yX8_banks cX8_banks 3 (some .int) 3 0 0 E q al I R n [.ref (q 100), .int x1, .int x2] (some (.int res)) al I R n := by
  refine Ct.of (own := RX8) (mn := "banks") (by decide) rfl rfl (Nat.le_of_ble_eq_true rfl) ?_
  intro p e s m args below meth c ls C hmn hargs hW hl
  have hx := C.1
  have hb := C.2.1
  have hl : lv_has ls 3 [(0, .ref (q 100)), (1, .int x1), (2, .int x2)] := hl
  unfold f_X8_banks at h
  refine lv_aload_n hx hb dX8_banks_0 rfl (lv_at hl 0 rfl) ?_
  refine lv_iload_n hx hb dX8_banks_1 rfl (lv_at hl 1 rfl) ?_
  obtain ⟨z_2, e_z_2, h⟩ := bd_some h
  refine r_callV (v := (some (.int z_2))) (As := [.int x1]) (rest := []) C ml_X8_isBank gm_888 gm_890 gs_26 (ci := 8) rfl hW a_100 rfl hl.1 (c_X8_isBank a_100 e_z_2) rfl ⟨(by decide), (by decide)⟩ ⟨(by decide), (by decide)⟩ rfl (Nat.le_of_ble_eq_true rfl) dX8_banks_2 (fun H locs hW => ?_)
  refine lv_if_ne (tgt := 10) hx hb dX8_banks_5 (by decide) (fun c_5 => ?_) (fun c_5 => ?_)
  · have h := (if_neg c_5).symm.trans h
    refine lv_iload_n hx hb dX8_banks_10 rfl (lv_at hl 2 rfl) ?_
    by_cases c_11_0 : x2 = 0
    · have h := (if_pos c_11_0).symm.trans h
      refine lv_tableIn (off := 37) (tgt := 48) hx hb dX8_banks_11 (by rw [c_11_0]; decide) (by rw [c_11_0]; decide) (by rw [c_11_0]; decide) (by decide) ?_
      refine lv_aload_n hx hb dX8_banks_48 rfl (lv_at hl 0 rfl) ?_
      have ap_49 : al 105 = true := hW.cl a_100 (hF _ 4 _ a_100 rfl)
      refine r_getq C fr_X8_17 hW a_100 rfl rfl (hF _ 4 _ a_100 rfl) dX8_banks_49 ?_
      refine lv_iload_n hx hb dX8_banks_52 rfl (lv_at hl 1 rfl) ?_
      obtain ⟨g_53, h⟩ := gd_some h
      refine r_iald C hW ap_49 rfl (ix_in g_53) dX8_banks_53 ?_
      have h := Option.some.inj h
      subst h
      exact r_iret C hW dX8_banks_54
    · have h := (if_neg c_11_0).symm.trans h
      by_cases c_11_1 : x2 = 1
      · have h := (if_pos c_11_1).symm.trans h
        refine lv_tableIn (off := 44) (tgt := 55) hx hb dX8_banks_11 (by rw [c_11_1]; decide) (by rw [c_11_1]; decide) (by rw [c_11_1]; decide) (by decide) ?_
        refine lv_aload_n hx hb dX8_banks_55 rfl (lv_at hl 0 rfl) ?_
        have ap_56 : al 105 = true := hW.cl a_100 (hF _ 4 _ a_100 rfl)
        refine r_getq C fr_X8_17 hW a_100 rfl rfl (hF _ 4 _ a_100 rfl) dX8_banks_56 ?_
        refine lv_iload_n hx hb dX8_banks_59 rfl (lv_at hl 1 rfl) ?_
        obtain ⟨g_60, h⟩ := gd_some h
        refine r_iald C hW ap_56 rfl (ix_in g_60) dX8_banks_60 ?_
        refine lv_aload_n hx hb dX8_banks_61 rfl (lv_at hl 0 rfl) ?_
        have ap_62 : al 104 = true := hW.cl a_100 (hF _ 3 _ a_100 rfl)
        refine r_getq C fr_X8_13 hW a_100 rfl rfl (hF _ 3 _ a_100 rfl) dX8_banks_62 ?_
        refine lv_iload_n hx hb dX8_banks_65 rfl (lv_at hl 1 rfl) ?_
        obtain ⟨g_66, h⟩ := gd_some h
        refine r_iald C hW ap_62 rfl (ix_in g_66) dX8_banks_66 ?_
        obtain ⟨g_67, h⟩ := gd_some h
        refine lv_idiv hx hb dX8_banks_67 g_67 ?_
        have h := Option.some.inj h
        subst h
        exact r_iret C hW dX8_banks_68
      · have h := (if_neg c_11_1).symm.trans h
        by_cases c_11_2 : x2 = 2
        · have h := (if_pos c_11_2).symm.trans h
          refine lv_tableIn (off := 58) (tgt := 69) hx hb dX8_banks_11 (by rw [c_11_2]; decide) (by rw [c_11_2]; decide) (by rw [c_11_2]; decide) (by decide) ?_
          refine lv_aload_n hx hb dX8_banks_69 rfl (lv_at hl 0 rfl) ?_
          have ap_70 : al 106 = true := hW.cl a_100 (hF _ 5 _ a_100 rfl)
          refine r_getq C fr_X8_20 hW a_100 rfl rfl (hF _ 5 _ a_100 rfl) dX8_banks_70 ?_
          refine lv_iload_n hx hb dX8_banks_73 rfl (lv_at hl 1 rfl) ?_
          obtain ⟨g_74, h⟩ := gd_some h
          refine r_iald C hW ap_70 rfl (ix_in g_74) dX8_banks_74 ?_
          have h := Option.some.inj h
          subst h
          exact r_iret C hW dX8_banks_75
        · have h := (if_neg c_11_2).symm.trans h
          by_cases c_11_3 : x2 = 3
          · have h := (if_pos c_11_3).symm.trans h
            refine lv_tableIn (off := 65) (tgt := 76) hx hb dX8_banks_11 (by rw [c_11_3]; decide) (by rw [c_11_3]; decide) (by rw [c_11_3]; decide) (by decide) ?_
            refine lv_aload_n hx hb dX8_banks_76 rfl (lv_at hl 0 rfl) ?_
            have ap_77 : al 107 = true := hW.cl a_100 (hF _ 6 _ a_100 rfl)
            refine r_getq C fr_X8_23 hW a_100 rfl rfl (hF _ 6 _ a_100 rfl) dX8_banks_77 ?_
            refine lv_iload_n hx hb dX8_banks_80 rfl (lv_at hl 1 rfl) ?_
            obtain ⟨g_81, h⟩ := gd_some h
            refine r_iald C hW ap_77 rfl (ix_in g_81) dX8_banks_81 ?_
            have h := Option.some.inj h
            subst h
            exact r_iret C hW dX8_banks_82
          · have h := (if_neg c_11_3).symm.trans h
            by_cases c_11_4 : x2 = 4
            · have h := (if_pos c_11_4).symm.trans h
              refine lv_tableIn (off := 72) (tgt := 83) hx hb dX8_banks_11 (by rw [c_11_4]; decide) (by rw [c_11_4]; decide) (by rw [c_11_4]; decide) (by decide) ?_
              refine lv_aload_n hx hb dX8_banks_83 rfl (lv_at hl 0 rfl) ?_
              have ap_84 : al 108 = true := hW.cl a_100 (hF _ 7 _ a_100 rfl)
              refine r_getq C fr_X8_26 hW a_100 rfl rfl (hF _ 7 _ a_100 rfl) dX8_banks_84 ?_
              refine lv_iload_n hx hb dX8_banks_87 rfl (lv_at hl 1 rfl) ?_
              obtain ⟨g_88, h⟩ := gd_some h
              refine r_iald C hW ap_84 rfl (ix_in g_88) dX8_banks_88 ?_
              have h := Option.some.inj h
              subst h
              exact r_iret C hW dX8_banks_89
            · have h := (if_neg c_11_4).symm.trans h
              by_cases c_11_5 : x2 = 5
              · have h := (if_pos c_11_5).symm.trans h
                refine lv_tableIn (off := 79) (tgt := 90) hx hb dX8_banks_11 (by rw [c_11_5]; decide) (by rw [c_11_5]; decide) (by rw [c_11_5]; decide) (by decide) ?_
                refine lv_aload_n hx hb dX8_banks_90 rfl (lv_at hl 0 rfl) ?_
                have ap_91 : al 109 = true := hW.cl a_100 (hF _ 8 _ a_100 rfl)
                refine r_getq C fr_X8_29 hW a_100 rfl rfl (hF _ 8 _ a_100 rfl) dX8_banks_91 ?_
                refine lv_iload_n hx hb dX8_banks_94 rfl (lv_at hl 1 rfl) ?_
                obtain ⟨g_95, h⟩ := gd_some h
                refine r_zald C hW ap_91 rfl (ix_in g_95) dX8_banks_95 ?_
                refine lv_if_eq (tgt := 103) hx hb dX8_banks_96 (by decide) (fun c_96 => ?_) (fun c_96 => ?_)
                · have h := (if_pos c_96).symm.trans h
                  refine lv_iconst (v := 0) hx hb dX8_banks_103 (by decide) ?_
                  have h := Option.some.inj h
                  subst h
                  exact r_iret C hW dX8_banks_104
                · have h := (if_neg c_96).symm.trans h
                  refine lv_iconst (v := 1) hx hb dX8_banks_99 (by decide) ?_
                  refine lv_goto (tgt := 104) hx hb dX8_banks_100 (by decide) ?_
                  have h := Option.some.inj h
                  subst h
                  exact r_iret C hW dX8_banks_104
              · have h := (if_neg c_11_5).symm.trans h
                have n_0 := lv_neT (a := 0) c_11_0 (by decide)
                have n_1 := lv_neT (a := 1) c_11_1 (by decide)
                have n_2 := lv_neT (a := 2) c_11_2 (by decide)
                have n_3 := lv_neT (a := 3) c_11_3 (by decide)
                have n_4 := lv_neT (a := 4) c_11_4 (by decide)
                have n_5 := lv_neT (a := 5) c_11_5 (by decide)
                refine lv_tableOut (tgt := 105) hx hb dX8_banks_11 (by omega) (by decide) ?_
                refine lv_iconst (v := (-1)) hx hb dX8_banks_105 (by decide) ?_
                have h := Option.some.inj h
                subst h
                exact r_iret C hW dX8_banks_106
  · have h := (if_pos c_5).symm.trans h
    refine lv_iconst (v := (-1)) hx hb dX8_banks_8 (by decide) ?_
    have h := Option.some.inj h
    subst h
    exact r_iret C hW dX8_banks_9
def f_X8_cars (I : MI) (R : MR) (x1 : Int32) (x2 : Int32) : Option (Int32) := bd (f_X8_isCar I R x1) (fun z_2 => (if z_2 = 0 then ((if x2 = 3 then (some ((-1000))) else (some ((-1))))) else ((if x2 = 0 then (gd (ix x1 (ln 118)) (some (I 118 x1.toNatClampNeg))) else (if x2 = 1 then (gd (ix x1 (ln 116)) (some (I 116 x1.toNatClampNeg))) else (if x2 = 2 then (gd (ix x1 (ln 116)) (gd (ix x1 (ln 115)) (gd (¬ (I 115 x1.toNatClampNeg) = 0) (some ((I 116 x1.toNatClampNeg) / (I 115 x1.toNatClampNeg)))))) else (if x2 = 3 then (gd (ix x1 (ln 119)) (some (I 119 x1.toNatClampNeg))) else (if x2 = 4 then (gd (ix x1 (ln 120)) (some (I 120 x1.toNatClampNeg))) else (if x2 = 5 then (gd (ix x1 (ln 121)) (some (I 121 x1.toNatClampNeg))) else (if x2 = 6 then (gd (ix x1 (ln 122)) (some (I 122 x1.toNatClampNeg))) else (if x2 = 7 then (gd (ix x1 (ln 123)) (some (I 123 x1.toNatClampNeg))) else (some ((-1))))))))))))))
set_option maxHeartbeats 4000000 in
set_option maxRecDepth 100000 in
theorem c_X8_cars {l : Launch} {E : EV} {q : Nat → Nat} {al : Nat → Bool} {n : Nat} {I : MI} {R : MR} {x1 : Int32} {x2 : Int32} (a_100 : al 100 = true) (hF : Fx al R) {res : Int32} (h : f_X8_cars I R x1 x2 = some res) : Ct l yX8_cars cX8_cars 3 (some .int) 3 0 0 E q al I R n [.ref (q 100), .int x1, .int x2] (some (.int res)) al I R n := by
  refine Ct.of (own := RX8) (mn := "cars") (by decide) rfl rfl (Nat.le_of_ble_eq_true rfl) ?_
  intro p e s m args below meth c ls C hmn hargs hW hl
  have hx := C.1
  have hb := C.2.1
  have hl : lv_has ls 3 [(0, .ref (q 100)), (1, .int x1), (2, .int x2)] := hl
  unfold f_X8_cars at h
  refine lv_aload_n hx hb dX8_cars_0 rfl (lv_at hl 0 rfl) ?_
  refine lv_iload_n hx hb dX8_cars_1 rfl (lv_at hl 1 rfl) ?_
  obtain ⟨z_2, e_z_2, h⟩ := bd_some h
  refine r_callV (v := (some (.int z_2))) (As := [.int x1]) (rest := []) C ml_X8_isCar gm_956 gm_958 gs_34 (ci := 8) rfl hW a_100 rfl hl.1 (c_X8_isCar a_100 e_z_2) rfl ⟨(by decide), (by decide)⟩ ⟨(by decide), (by decide)⟩ rfl (Nat.le_of_ble_eq_true rfl) dX8_cars_2 (fun H locs hW => ?_)
  refine lv_if_ne (tgt := 21) hx hb dX8_cars_5 (by decide) (fun c_5 => ?_) (fun c_5 => ?_)
  · have h := (if_neg c_5).symm.trans h
    refine lv_iload_n hx hb dX8_cars_21 rfl (lv_at hl 2 rfl) ?_
    by_cases c_22_0 : x2 = 0
    · have h := (if_pos c_22_0).symm.trans h
      refine lv_tableIn (off := 46) (tgt := 68) hx hb dX8_cars_22 (by rw [c_22_0]; decide) (by rw [c_22_0]; decide) (by rw [c_22_0]; decide) (by decide) ?_
      refine lv_aload_n hx hb dX8_cars_68 rfl (lv_at hl 0 rfl) ?_
      have ap_69 : al 118 = true := hW.cl a_100 (hF _ 17 _ a_100 rfl)
      refine r_getq C fr_X8_54 hW a_100 rfl rfl (hF _ 17 _ a_100 rfl) dX8_cars_69 ?_
      refine lv_iload_n hx hb dX8_cars_72 rfl (lv_at hl 1 rfl) ?_
      obtain ⟨g_73, h⟩ := gd_some h
      refine r_iald C hW ap_69 rfl (ix_in g_73) dX8_cars_73 ?_
      have h := Option.some.inj h
      subst h
      exact r_iret C hW dX8_cars_74
    · have h := (if_neg c_22_0).symm.trans h
      by_cases c_22_1 : x2 = 1
      · have h := (if_pos c_22_1).symm.trans h
        refine lv_tableIn (off := 53) (tgt := 75) hx hb dX8_cars_22 (by rw [c_22_1]; decide) (by rw [c_22_1]; decide) (by rw [c_22_1]; decide) (by decide) ?_
        refine lv_aload_n hx hb dX8_cars_75 rfl (lv_at hl 0 rfl) ?_
        have ap_76 : al 116 = true := hW.cl a_100 (hF _ 15 _ a_100 rfl)
        refine r_getq C fr_X8_48 hW a_100 rfl rfl (hF _ 15 _ a_100 rfl) dX8_cars_76 ?_
        refine lv_iload_n hx hb dX8_cars_79 rfl (lv_at hl 1 rfl) ?_
        obtain ⟨g_80, h⟩ := gd_some h
        refine r_iald C hW ap_76 rfl (ix_in g_80) dX8_cars_80 ?_
        have h := Option.some.inj h
        subst h
        exact r_iret C hW dX8_cars_81
      · have h := (if_neg c_22_1).symm.trans h
        by_cases c_22_2 : x2 = 2
        · have h := (if_pos c_22_2).symm.trans h
          refine lv_tableIn (off := 60) (tgt := 82) hx hb dX8_cars_22 (by rw [c_22_2]; decide) (by rw [c_22_2]; decide) (by rw [c_22_2]; decide) (by decide) ?_
          refine lv_aload_n hx hb dX8_cars_82 rfl (lv_at hl 0 rfl) ?_
          have ap_83 : al 116 = true := hW.cl a_100 (hF _ 15 _ a_100 rfl)
          refine r_getq C fr_X8_48 hW a_100 rfl rfl (hF _ 15 _ a_100 rfl) dX8_cars_83 ?_
          refine lv_iload_n hx hb dX8_cars_86 rfl (lv_at hl 1 rfl) ?_
          obtain ⟨g_87, h⟩ := gd_some h
          refine r_iald C hW ap_83 rfl (ix_in g_87) dX8_cars_87 ?_
          refine lv_aload_n hx hb dX8_cars_88 rfl (lv_at hl 0 rfl) ?_
          have ap_89 : al 115 = true := hW.cl a_100 (hF _ 14 _ a_100 rfl)
          refine r_getq C fr_X8_45 hW a_100 rfl rfl (hF _ 14 _ a_100 rfl) dX8_cars_89 ?_
          refine lv_iload_n hx hb dX8_cars_92 rfl (lv_at hl 1 rfl) ?_
          obtain ⟨g_93, h⟩ := gd_some h
          refine r_iald C hW ap_89 rfl (ix_in g_93) dX8_cars_93 ?_
          obtain ⟨g_94, h⟩ := gd_some h
          refine lv_idiv hx hb dX8_cars_94 g_94 ?_
          have h := Option.some.inj h
          subst h
          exact r_iret C hW dX8_cars_95
        · have h := (if_neg c_22_2).symm.trans h
          by_cases c_22_3 : x2 = 3
          · have h := (if_pos c_22_3).symm.trans h
            refine lv_tableIn (off := 74) (tgt := 96) hx hb dX8_cars_22 (by rw [c_22_3]; decide) (by rw [c_22_3]; decide) (by rw [c_22_3]; decide) (by decide) ?_
            refine lv_aload_n hx hb dX8_cars_96 rfl (lv_at hl 0 rfl) ?_
            have ap_97 : al 119 = true := hW.cl a_100 (hF _ 18 _ a_100 rfl)
            refine r_getq C fr_X8_57 hW a_100 rfl rfl (hF _ 18 _ a_100 rfl) dX8_cars_97 ?_
            refine lv_iload_n hx hb dX8_cars_100 rfl (lv_at hl 1 rfl) ?_
            obtain ⟨g_101, h⟩ := gd_some h
            refine r_iald C hW ap_97 rfl (ix_in g_101) dX8_cars_101 ?_
            have h := Option.some.inj h
            subst h
            exact r_iret C hW dX8_cars_102
          · have h := (if_neg c_22_3).symm.trans h
            by_cases c_22_4 : x2 = 4
            · have h := (if_pos c_22_4).symm.trans h
              refine lv_tableIn (off := 81) (tgt := 103) hx hb dX8_cars_22 (by rw [c_22_4]; decide) (by rw [c_22_4]; decide) (by rw [c_22_4]; decide) (by decide) ?_
              refine lv_aload_n hx hb dX8_cars_103 rfl (lv_at hl 0 rfl) ?_
              have ap_104 : al 120 = true := hW.cl a_100 (hF _ 19 _ a_100 rfl)
              refine r_getq C fr_X8_60 hW a_100 rfl rfl (hF _ 19 _ a_100 rfl) dX8_cars_104 ?_
              refine lv_iload_n hx hb dX8_cars_107 rfl (lv_at hl 1 rfl) ?_
              obtain ⟨g_108, h⟩ := gd_some h
              refine r_iald C hW ap_104 rfl (ix_in g_108) dX8_cars_108 ?_
              have h := Option.some.inj h
              subst h
              exact r_iret C hW dX8_cars_109
            · have h := (if_neg c_22_4).symm.trans h
              by_cases c_22_5 : x2 = 5
              · have h := (if_pos c_22_5).symm.trans h
                refine lv_tableIn (off := 88) (tgt := 110) hx hb dX8_cars_22 (by rw [c_22_5]; decide) (by rw [c_22_5]; decide) (by rw [c_22_5]; decide) (by decide) ?_
                refine lv_aload_n hx hb dX8_cars_110 rfl (lv_at hl 0 rfl) ?_
                have ap_111 : al 121 = true := hW.cl a_100 (hF _ 20 _ a_100 rfl)
                refine r_getq C fr_X8_63 hW a_100 rfl rfl (hF _ 20 _ a_100 rfl) dX8_cars_111 ?_
                refine lv_iload_n hx hb dX8_cars_114 rfl (lv_at hl 1 rfl) ?_
                obtain ⟨g_115, h⟩ := gd_some h
                refine r_iald C hW ap_111 rfl (ix_in g_115) dX8_cars_115 ?_
                have h := Option.some.inj h
                subst h
                exact r_iret C hW dX8_cars_116
              · have h := (if_neg c_22_5).symm.trans h
                by_cases c_22_6 : x2 = 6
                · have h := (if_pos c_22_6).symm.trans h
                  refine lv_tableIn (off := 95) (tgt := 117) hx hb dX8_cars_22 (by rw [c_22_6]; decide) (by rw [c_22_6]; decide) (by rw [c_22_6]; decide) (by decide) ?_
                  refine lv_aload_n hx hb dX8_cars_117 rfl (lv_at hl 0 rfl) ?_
                  have ap_118 : al 122 = true := hW.cl a_100 (hF _ 21 _ a_100 rfl)
                  refine r_getq C fr_X8_66 hW a_100 rfl rfl (hF _ 21 _ a_100 rfl) dX8_cars_118 ?_
                  refine lv_iload_n hx hb dX8_cars_121 rfl (lv_at hl 1 rfl) ?_
                  obtain ⟨g_122, h⟩ := gd_some h
                  refine r_iald C hW ap_118 rfl (ix_in g_122) dX8_cars_122 ?_
                  have h := Option.some.inj h
                  subst h
                  exact r_iret C hW dX8_cars_123
                · have h := (if_neg c_22_6).symm.trans h
                  by_cases c_22_7 : x2 = 7
                  · have h := (if_pos c_22_7).symm.trans h
                    refine lv_tableIn (off := 102) (tgt := 124) hx hb dX8_cars_22 (by rw [c_22_7]; decide) (by rw [c_22_7]; decide) (by rw [c_22_7]; decide) (by decide) ?_
                    refine lv_aload_n hx hb dX8_cars_124 rfl (lv_at hl 0 rfl) ?_
                    have ap_125 : al 123 = true := hW.cl a_100 (hF _ 22 _ a_100 rfl)
                    refine r_getq C fr_X8_69 hW a_100 rfl rfl (hF _ 22 _ a_100 rfl) dX8_cars_125 ?_
                    refine lv_iload_n hx hb dX8_cars_128 rfl (lv_at hl 1 rfl) ?_
                    obtain ⟨g_129, h⟩ := gd_some h
                    refine r_iald C hW ap_125 rfl (ix_in g_129) dX8_cars_129 ?_
                    have h := Option.some.inj h
                    subst h
                    exact r_iret C hW dX8_cars_130
                  · have h := (if_neg c_22_7).symm.trans h
                    have n_0 := lv_neT (a := 0) c_22_0 (by decide)
                    have n_1 := lv_neT (a := 1) c_22_1 (by decide)
                    have n_2 := lv_neT (a := 2) c_22_2 (by decide)
                    have n_3 := lv_neT (a := 3) c_22_3 (by decide)
                    have n_4 := lv_neT (a := 4) c_22_4 (by decide)
                    have n_5 := lv_neT (a := 5) c_22_5 (by decide)
                    have n_6 := lv_neT (a := 6) c_22_6 (by decide)
                    have n_7 := lv_neT (a := 7) c_22_7 (by decide)
                    refine lv_tableOut (tgt := 131) hx hb dX8_cars_22 (by omega) (by decide) ?_
                    refine lv_iconst (v := (-1)) hx hb dX8_cars_131 (by decide) ?_
                    have h := Option.some.inj h
                    subst h
                    exact r_iret C hW dX8_cars_132
  · have h := (if_pos c_5).symm.trans h
    refine lv_iload_n hx hb dX8_cars_8 rfl (lv_at hl 2 rfl) ?_
    refine lv_iconst (v := 3) hx hb dX8_cars_9 (by decide) ?_
    refine lv_icmp_ne (tgt := 19) hx hb dX8_cars_10 (by decide) (fun c_10 => ?_) (fun c_10 => ?_)
    · have h := (if_neg c_10).symm.trans h
      refine lv_iconst (v := (-1)) hx hb dX8_cars_19 (by decide) ?_
      have h := Option.some.inj h
      subst h
      exact r_iret C hW dX8_cars_20
    · have h := (if_pos c_10).symm.trans h
      refine lv_sipush (v := (-1000)) hx hb dX8_cars_13 (by decide) ?_
      refine lv_goto (tgt := 20) hx hb dX8_cars_16 (by decide) ?_
      have h := Option.some.inj h
      subst h
      exact r_iret C hW dX8_cars_20
def f_X8_count_73  : Nat → MI → MR → Int32 → Int32 → Option (Int32)
  | 0, _, _, _, _ => none
  | nn + 1, I, R, x2, x3 => (if (I 100 13) ≤ x3 then (some (x2)) else (gd (ix x3 (ln 118)) ((if (I 118 x3.toNatClampNeg) = 0 then (f_X8_count_73 nn I R (x2 + 1) (x3 + 1)) else (f_X8_count_73 nn I R (x2 + 0) (x3 + 1))))))
set_option maxHeartbeats 4000000 in
set_option maxRecDepth 100000 in
theorem t_X8_count_73 {p : Program} {l : Launch} {e : Env} {s : State} {m : MethodId} {args : Array Value} {below : List Frame} {meth : Method} {c : Code} {E : EV} {q : Nat → Nat} {al : Nat → Bool} {n : Nat} (C : CX p s m args meth c E cX8_count RX8 4 (some .int)) {res : Int32}   : ∀ (nn : Nat) {I : MI} {R : MR} {x2 : Int32} {x3 : Int32} {H : Heap} {locs : List Loc} {ls : Array Slot} (a_100 : al 100 = true) (h : f_X8_count_73 nn I R x2 x3 = some res) (hW : Wd E q al s.heap I R n H locs) (hF : Fx al R) (hl : lv_has ls 4 [(0, .ref (q 100)), (2, .int x2), (3, .int x3)]), W p l e (rmL 2 0 0) s m args below meth c H locs 0 0 (MQ below (Pst E q (some (.int res)) al I R n) args s 0 0 (Bs E)) (F0 m 73 ls []) := by
  have hx := C.1
  have hb := C.2.1
  intro nn
  induction nn with
  | zero =>
    intro I R x2 x3 H locs ls a_100 h
    cases (show (none : Option (Int32)) = some res from h)
  | succ nn ih =>
    intro I R x2 x3 H locs ls a_100 h hW hF hl
    rw [f_X8_count_73.eq_2] at h
    refine lv_iload_n hx hb dX8_count_73 rfl (lv_at hl 2 rfl) ?_
    refine lv_aload_n hx hb dX8_count_74 rfl (lv_at hl 0 rfl) ?_
    refine r_get C fr_X8_191 hW a_100 rfl rfl dX8_count_75 ?_
    refine lv_icmp_ge (tgt := 104) hx hb dX8_count_78 (by decide) (fun c_78 => ?_) (fun c_78 => ?_)
    · have h := (if_pos c_78).symm.trans h
      refine lv_iload_n hx hb dX8_count_104 rfl (lv_at hl 1 rfl) ?_
      have h := Option.some.inj h
      subst h
      exact r_iret C hW dX8_count_105
    · have h := (if_neg c_78).symm.trans h
      refine lv_iload_n hx hb dX8_count_81 rfl (lv_at hl 1 rfl) ?_
      refine lv_aload_n hx hb dX8_count_82 rfl (lv_at hl 0 rfl) ?_
      have ap_83 : al 118 = true := hW.cl a_100 (hF _ 17 _ a_100 rfl)
      refine r_getq C fr_X8_54 hW a_100 rfl rfl (hF _ 17 _ a_100 rfl) dX8_count_83 ?_
      refine lv_iload_n hx hb dX8_count_86 rfl (lv_at hl 2 rfl) ?_
      obtain ⟨g_87, h⟩ := gd_some h
      refine r_iald C hW ap_83 rfl (ix_in g_87) dX8_count_87 ?_
      refine lv_if_ne (tgt := 95) hx hb dX8_count_88 (by decide) (fun c_88 => ?_) (fun c_88 => ?_)
      · have h := (if_neg c_88).symm.trans h
        refine lv_iconst (v := 0) hx hb dX8_count_95 (by decide) ?_
        refine lv_iadd hx hb dX8_count_96 ?_
        refine lv_istore_n (lv' := [(2, .int (x2 + 0)), (0, .ref (q 100)), (3, .int x3)]) hx hb dX8_count_97 rfl hl (by decide) rfl (fun ls hl => ?_)
        refine lv_iinc (v := x3 + 1) (lv' := [(3, .int (x3 + 1)), (2, .int (x2 + 0)), (0, .ref (q 100))]) hx hb dX8_count_98 hl (k := 2) rfl rfl (by decide) rfl (fun ls hl => ?_)
        refine lv_goto (tgt := 73) hx hb dX8_count_101 (by decide) ?_
        exact ih a_100 h hW hF (lv_sub hl [2, 1, 0] rfl)
      · have h := (if_pos c_88).symm.trans h
        refine lv_iconst (v := 1) hx hb dX8_count_91 (by decide) ?_
        refine lv_goto (tgt := 96) hx hb dX8_count_92 (by decide) ?_
        refine lv_iadd hx hb dX8_count_96 ?_
        refine lv_istore_n (lv' := [(2, .int (x2 + 1)), (0, .ref (q 100)), (3, .int x3)]) hx hb dX8_count_97 rfl hl (by decide) rfl (fun ls hl => ?_)
        refine lv_iinc (v := x3 + 1) (lv' := [(3, .int (x3 + 1)), (2, .int (x2 + 1)), (0, .ref (q 100))]) hx hb dX8_count_98 hl (k := 2) rfl rfl (by decide) rfl (fun ls hl => ?_)
        refine lv_goto (tgt := 73) hx hb dX8_count_101 (by decide) ?_
        exact ih a_100 h hW hF (lv_sub hl [2, 1, 0] rfl)
def f_X8_count (I : MI) (R : MR) (x1 : Int32) : Option (Int32) := (if x1 = 0 then (some (I 100 0)) else (if x1 = 1 then (some (I 100 2)) else (if x1 = 2 then (some (I 100 13)) else (if x1 = 3 then (f_X8_count_73 1000000 I R 0 0) else (if x1 = 4 then (some (I 100 25)) else (if x1 = 5 then (some (I 100 26)) else (if x1 = 6 then (some (I 100 27)) else (if x1 = 7 then (some (I 100 28)) else (if x1 = 8 then (some (((I 100 24) + (I 100 25)) + (I 100 28))) else (if x1 = 9 then (some (I 100 31)) else (bd (f_X8_in I R x1 10 14) (fun z_151 => (if z_151 = 0 then (some ((-1))) else (gd (ix (x1 - 10) (ln 143)) (some (I 143 (x1 - 10).toNatClampNeg))))))))))))))))
set_option maxHeartbeats 4000000 in
set_option maxRecDepth 100000 in
theorem c_X8_count {l : Launch} {E : EV} {q : Nat → Nat} {al : Nat → Bool} {n : Nat} {I : MI} {R : MR} {x1 : Int32} (a_100 : al 100 = true) (hF : Fx al R) {res : Int32} (h : f_X8_count I R x1 = some res) : Ct l yX8_count cX8_count 4 (some .int) 2 0 0 E q al I R n [.ref (q 100), .int x1] (some (.int res)) al I R n := by
  refine Ct.of (own := RX8) (mn := "count") (by decide) rfl rfl (Nat.le_of_ble_eq_true rfl) ?_
  intro p e s m args below meth c ls C hmn hargs hW hl
  have hx := C.1
  have hb := C.2.1
  have hl : lv_has ls 4 [(0, .ref (q 100)), (1, .int x1)] := hl
  unfold f_X8_count at h
  refine lv_iconst (v := 0) hx hb dX8_count_0 (by decide) ?_
  refine lv_istore_n (lv' := [(2, .int 0), (0, .ref (q 100)), (1, .int x1)]) hx hb dX8_count_1 rfl hl (by decide) rfl (fun ls hl => ?_)
  refine lv_iload_n hx hb dX8_count_2 rfl (lv_at hl 2 rfl) ?_
  by_cases c_3_0 : x1 = 0
  · have h := (if_pos c_3_0).symm.trans h
    refine lv_tableIn (off := 53) (tgt := 56) hx hb dX8_count_3 (by rw [c_3_0]; decide) (by rw [c_3_0]; decide) (by rw [c_3_0]; decide) (by decide) ?_
    refine lv_aload_n hx hb dX8_count_56 rfl (lv_at hl 1 rfl) ?_
    refine r_get C fr_X8_197 hW a_100 rfl rfl dX8_count_57 ?_
    have h := Option.some.inj h
    subst h
    exact r_iret C hW dX8_count_60
  · have h := (if_neg c_3_0).symm.trans h
    by_cases c_3_1 : x1 = 1
    · have h := (if_pos c_3_1).symm.trans h
      refine lv_tableIn (off := 58) (tgt := 61) hx hb dX8_count_3 (by rw [c_3_1]; decide) (by rw [c_3_1]; decide) (by rw [c_3_1]; decide) (by decide) ?_
      refine lv_aload_n hx hb dX8_count_61 rfl (lv_at hl 1 rfl) ?_
      refine r_get C fr_X8_131 hW a_100 rfl rfl dX8_count_62 ?_
      have h := Option.some.inj h
      subst h
      exact r_iret C hW dX8_count_65
    · have h := (if_neg c_3_1).symm.trans h
      by_cases c_3_2 : x1 = 2
      · have h := (if_pos c_3_2).symm.trans h
        refine lv_tableIn (off := 63) (tgt := 66) hx hb dX8_count_3 (by rw [c_3_2]; decide) (by rw [c_3_2]; decide) (by rw [c_3_2]; decide) (by decide) ?_
        refine lv_aload_n hx hb dX8_count_66 rfl (lv_at hl 1 rfl) ?_
        refine r_get C fr_X8_191 hW a_100 rfl rfl dX8_count_67 ?_
        have h := Option.some.inj h
        subst h
        exact r_iret C hW dX8_count_70
      · have h := (if_neg c_3_2).symm.trans h
        by_cases c_3_3 : x1 = 3
        · have h := (if_pos c_3_3).symm.trans h
          refine lv_tableIn (off := 68) (tgt := 71) hx hb dX8_count_3 (by rw [c_3_3]; decide) (by rw [c_3_3]; decide) (by rw [c_3_3]; decide) (by decide) ?_
          refine lv_iconst (v := 0) hx hb dX8_count_71 (by decide) ?_
          refine lv_istore_n (lv' := [(3, .int 0), (2, .int 0), (0, .ref (q 100)), (1, .int x1)]) hx hb dX8_count_72 rfl hl (by decide) rfl (fun ls hl => ?_)
          exact t_X8_count_73 C 1000000 a_100 h hW hF (lv_sub hl [2, 1, 0] rfl)
        · have h := (if_neg c_3_3).symm.trans h
          by_cases c_3_4 : x1 = 4
          · have h := (if_pos c_3_4).symm.trans h
            refine lv_tableIn (off := 103) (tgt := 106) hx hb dX8_count_3 (by rw [c_3_4]; decide) (by rw [c_3_4]; decide) (by rw [c_3_4]; decide) (by decide) ?_
            refine lv_aload_n hx hb dX8_count_106 rfl (lv_at hl 1 rfl) ?_
            refine r_get C fr_X8_208 hW a_100 rfl rfl dX8_count_107 ?_
            have h := Option.some.inj h
            subst h
            exact r_iret C hW dX8_count_110
          · have h := (if_neg c_3_4).symm.trans h
            by_cases c_3_5 : x1 = 5
            · have h := (if_pos c_3_5).symm.trans h
              refine lv_tableIn (off := 108) (tgt := 111) hx hb dX8_count_3 (by rw [c_3_5]; decide) (by rw [c_3_5]; decide) (by rw [c_3_5]; decide) (by decide) ?_
              refine lv_aload_n hx hb dX8_count_111 rfl (lv_at hl 1 rfl) ?_
              refine r_get C fr_X8_211 hW a_100 rfl rfl dX8_count_112 ?_
              have h := Option.some.inj h
              subst h
              exact r_iret C hW dX8_count_115
            · have h := (if_neg c_3_5).symm.trans h
              by_cases c_3_6 : x1 = 6
              · have h := (if_pos c_3_6).symm.trans h
                refine lv_tableIn (off := 113) (tgt := 116) hx hb dX8_count_3 (by rw [c_3_6]; decide) (by rw [c_3_6]; decide) (by rw [c_3_6]; decide) (by decide) ?_
                refine lv_aload_n hx hb dX8_count_116 rfl (lv_at hl 1 rfl) ?_
                refine r_get C fr_X8_227 hW a_100 rfl rfl dX8_count_117 ?_
                have h := Option.some.inj h
                subst h
                exact r_iret C hW dX8_count_120
              · have h := (if_neg c_3_6).symm.trans h
                by_cases c_3_7 : x1 = 7
                · have h := (if_pos c_3_7).symm.trans h
                  refine lv_tableIn (off := 118) (tgt := 121) hx hb dX8_count_3 (by rw [c_3_7]; decide) (by rw [c_3_7]; decide) (by rw [c_3_7]; decide) (by decide) ?_
                  refine lv_aload_n hx hb dX8_count_121 rfl (lv_at hl 1 rfl) ?_
                  refine r_get C fr_X8_230 hW a_100 rfl rfl dX8_count_122 ?_
                  have h := Option.some.inj h
                  subst h
                  exact r_iret C hW dX8_count_125
                · have h := (if_neg c_3_7).symm.trans h
                  by_cases c_3_8 : x1 = 8
                  · have h := (if_pos c_3_8).symm.trans h
                    refine lv_tableIn (off := 123) (tgt := 126) hx hb dX8_count_3 (by rw [c_3_8]; decide) (by rw [c_3_8]; decide) (by rw [c_3_8]; decide) (by decide) ?_
                    refine lv_aload_n hx hb dX8_count_126 rfl (lv_at hl 1 rfl) ?_
                    refine r_get C fr_X8_138 hW a_100 rfl rfl dX8_count_127 ?_
                    refine lv_aload_n hx hb dX8_count_130 rfl (lv_at hl 1 rfl) ?_
                    refine r_get C fr_X8_208 hW a_100 rfl rfl dX8_count_131 ?_
                    refine lv_iadd hx hb dX8_count_134 ?_
                    refine lv_aload_n hx hb dX8_count_135 rfl (lv_at hl 1 rfl) ?_
                    refine r_get C fr_X8_230 hW a_100 rfl rfl dX8_count_136 ?_
                    refine lv_iadd hx hb dX8_count_139 ?_
                    have h := Option.some.inj h
                    subst h
                    exact r_iret C hW dX8_count_140
                  · have h := (if_neg c_3_8).symm.trans h
                    by_cases c_3_9 : x1 = 9
                    · have h := (if_pos c_3_9).symm.trans h
                      refine lv_tableIn (off := 138) (tgt := 141) hx hb dX8_count_3 (by rw [c_3_9]; decide) (by rw [c_3_9]; decide) (by rw [c_3_9]; decide) (by decide) ?_
                      refine lv_aload_n hx hb dX8_count_141 rfl (lv_at hl 1 rfl) ?_
                      refine r_get C fr_X8_145 hW a_100 rfl rfl dX8_count_142 ?_
                      have h := Option.some.inj h
                      subst h
                      exact r_iret C hW dX8_count_145
                    · have h := (if_neg c_3_9).symm.trans h
                      have n_0 := lv_neT (a := 0) c_3_0 (by decide)
                      have n_1 := lv_neT (a := 1) c_3_1 (by decide)
                      have n_2 := lv_neT (a := 2) c_3_2 (by decide)
                      have n_3 := lv_neT (a := 3) c_3_3 (by decide)
                      have n_4 := lv_neT (a := 4) c_3_4 (by decide)
                      have n_5 := lv_neT (a := 5) c_3_5 (by decide)
                      have n_6 := lv_neT (a := 6) c_3_6 (by decide)
                      have n_7 := lv_neT (a := 7) c_3_7 (by decide)
                      have n_8 := lv_neT (a := 8) c_3_8 (by decide)
                      have n_9 := lv_neT (a := 9) c_3_9 (by decide)
                      refine lv_tableOut (tgt := 146) hx hb dX8_count_3 (by omega) (by decide) ?_
                      refine lv_iload_n hx hb dX8_count_146 rfl (lv_at hl 2 rfl) ?_
                      refine lv_bipush (v := 10) hx hb dX8_count_147 (by decide) ?_
                      refine lv_bipush (v := 14) hx hb dX8_count_149 (by decide) ?_
                      obtain ⟨z_151, e_z_151, h⟩ := bd_some h
                      refine r_callS (v := (some (.int z_151))) (As := [.int x1, .int 10, .int 14]) (rest := []) C ml_X8_in gm_881 gm_882 hW hl.1 (c_X8_in  e_z_151) rfl ⟨(by decide), (by decide)⟩ ⟨(by decide), (by decide)⟩ rfl (Nat.le_of_ble_eq_true rfl) dX8_count_151 (fun H locs hW => ?_)
                      refine lv_if_eq (tgt := 169) hx hb dX8_count_154 (by decide) (fun c_154 => ?_) (fun c_154 => ?_)
                      · have h := (if_pos c_154).symm.trans h
                        refine lv_iconst (v := (-1)) hx hb dX8_count_169 (by decide) ?_
                        have h := Option.some.inj h
                        subst h
                        exact r_iret C hW dX8_count_170
                      · have h := (if_neg c_154).symm.trans h
                        refine lv_aload_n hx hb dX8_count_157 rfl (lv_at hl 1 rfl) ?_
                        have ap_158 : al 143 = true := hW.cl a_100 (hF _ 42 _ a_100 rfl)
                        refine r_getq C fr_X8_94 hW a_100 rfl rfl (hF _ 42 _ a_100 rfl) dX8_count_158 ?_
                        refine lv_iload_n hx hb dX8_count_161 rfl (lv_at hl 2 rfl) ?_
                        refine lv_bipush (v := 10) hx hb dX8_count_162 (by decide) ?_
                        refine lv_isub hx hb dX8_count_164 ?_
                        obtain ⟨g_165, h⟩ := gd_some h
                        refine r_iald C hW ap_158 rfl (ix_in g_165) dX8_count_165 ?_
                        refine lv_goto (tgt := 170) hx hb dX8_count_166 (by decide) ?_
                        have h := Option.some.inj h
                        subst h
                        exact r_iret C hW dX8_count_170
def f_X8_reading_58  (I : MI) (R : MR) (x1 : Int32) (x2 : Int32) : Option (Int32 × MI) := gd (ix x1 (ln 105)) (gd (ix x1 (ln 104)) (lt ((I 105 x1.toNatClampNeg) - ((I 104 x1.toNatClampNeg) * x2)) (fun v_73 => gd (ix x1 (ln 104)) (gd (ix x1 (ln 105)) (lt (p2 I 105 x1.toNatClampNeg ((I 104 x1.toNatClampNeg) * x2)) (fun I_88 => (if v_73 ≤ 0 then (lt (p2 I_88 100 28 ((I_88 100 28) - v_73)) (fun I_116 => some (v_73, I_116))) else (lt (p2 I_88 100 27 ((I_88 100 27) + v_73)) (fun I_102 => some (v_73, I_102))))))))))
set_option maxHeartbeats 4000000 in
set_option maxRecDepth 100000 in
theorem t_X8_reading_58 {p : Program} {l : Launch} {e : Env} {s : State} {m : MethodId} {args : Array Value} {below : List Frame} {meth : Method} {c : Code} {E : EV} {q : Nat → Nat} {al : Nat → Bool} {n : Nat} (C : CX p s m args meth c E cX8_reading RX8 5 (some .int)) {res : Int32 × MI}   {I : MI} {R : MR} {x1 : Int32} {x2 : Int32} (a_100 : al 100 = true) {H : Heap} {locs : List Loc} {ls : Array Slot} (h : f_X8_reading_58 I R x1 x2 = some res) (hW : Wd E q al s.heap I R n H locs) (hF : Fx al R) (hl : lv_has ls 5 [(0, .ref (q 100)), (1, .int x1), (2, .int x2)]) : W p l e (rmL 3 0 0) s m args below meth c H locs 0 0 (MQ below (Pst E q (some (.int res.1)) al res.2 R n) args s 0 0 (Bs E)) (F0 m 58 ls []) := by
  have hx := C.1
  have hb := C.2.1
  unfold f_X8_reading_58 at h
  refine lv_aload_n hx hb dX8_reading_58 rfl (lv_at hl 0 rfl) ?_
  have ap_59 : al 105 = true := hW.cl a_100 (hF _ 4 _ a_100 rfl)
  refine r_getq C fr_X8_17 hW a_100 rfl rfl (hF _ 4 _ a_100 rfl) dX8_reading_59 ?_
  refine lv_iload_n hx hb dX8_reading_62 rfl (lv_at hl 1 rfl) ?_
  obtain ⟨g_63, h⟩ := gd_some h
  refine r_iald C hW ap_59 rfl (ix_in g_63) dX8_reading_63 ?_
  refine lv_aload_n hx hb dX8_reading_64 rfl (lv_at hl 0 rfl) ?_
  have ap_65 : al 104 = true := hW.cl a_100 (hF _ 3 _ a_100 rfl)
  refine r_getq C fr_X8_13 hW a_100 rfl rfl (hF _ 3 _ a_100 rfl) dX8_reading_65 ?_
  refine lv_iload_n hx hb dX8_reading_68 rfl (lv_at hl 1 rfl) ?_
  obtain ⟨g_69, h⟩ := gd_some h
  refine r_iald C hW ap_65 rfl (ix_in g_69) dX8_reading_69 ?_
  refine lv_iload_n hx hb dX8_reading_70 rfl (lv_at hl 2 rfl) ?_
  refine lv_imul hx hb dX8_reading_71 ?_
  refine lv_isub hx hb dX8_reading_72 ?_
  obtain ⟨v_73, e_v_73, h⟩ := lt_some h
  rw [← e_v_73]
  refine lv_istore (lv' := [(4, .int v_73), (0, .ref (q 100)), (1, .int x1), (2, .int x2)]) hx hb dX8_reading_73 hl (by decide) rfl (fun ls hl => ?_)
  refine lv_aload_n hx hb dX8_reading_75 rfl (lv_at hl 1 rfl) ?_
  refine r_getq C fr_X8_17 hW a_100 rfl rfl (hF _ 4 _ a_100 rfl) dX8_reading_76 ?_
  refine lv_iload_n hx hb dX8_reading_79 rfl (lv_at hl 2 rfl) ?_
  refine lv_aload_n hx hb dX8_reading_80 rfl (lv_at hl 1 rfl) ?_
  refine r_getq C fr_X8_13 hW a_100 rfl rfl (hF _ 3 _ a_100 rfl) dX8_reading_81 ?_
  refine lv_iload_n hx hb dX8_reading_84 rfl (lv_at hl 2 rfl) ?_
  obtain ⟨g_85, h⟩ := gd_some h
  refine r_iald C hW ap_65 rfl (ix_in g_85) dX8_reading_85 ?_
  refine lv_iload_n hx hb dX8_reading_86 rfl (lv_at hl 3 rfl) ?_
  refine lv_imul hx hb dX8_reading_87 ?_
  obtain ⟨g_88, h⟩ := gd_some h
  obtain ⟨I_88, e_I_88, h⟩ := lt_some h
  refine r_iast C hW ap_59 rfl (ix_in g_88) dX8_reading_88 (fun H locs hW => ?_)
  rw [← e_I_88] at hW
  refine lv_iload hx hb dX8_reading_89 (lv_at hl 0 rfl) ?_
  refine lv_if_le (tgt := 108) hx hb dX8_reading_91 (by decide) (fun c_91 => ?_) (fun c_91 => ?_)
  · have h := (if_pos c_91).symm.trans h
    refine lv_aload_n hx hb dX8_reading_108 rfl (lv_at hl 1 rfl) ?_
    refine lv_dup hx hb dX8_reading_109 rfl ?_
    refine r_get C fr_X8_230 hW a_100 rfl rfl dX8_reading_110 ?_
    refine lv_iload hx hb dX8_reading_113 (lv_at hl 0 rfl) ?_
    refine lv_isub hx hb dX8_reading_115 ?_
    obtain ⟨I_116, e_I_116, h⟩ := lt_some h
    refine r_put C fr_X8_230 (Or.inl rfl) hW a_100 rfl rfl rfl rfl dX8_reading_116 (fun H locs hW => ?_)
    rw [← e_I_116] at hW
    refine lv_iload hx hb dX8_reading_119 (lv_at hl 0 rfl) ?_
    have h := Option.some.inj h
    subst h
    exact r_iret C hW dX8_reading_121
  · have h := (if_neg c_91).symm.trans h
    refine lv_aload_n hx hb dX8_reading_94 rfl (lv_at hl 1 rfl) ?_
    refine lv_dup hx hb dX8_reading_95 rfl ?_
    refine r_get C fr_X8_227 hW a_100 rfl rfl dX8_reading_96 ?_
    refine lv_iload hx hb dX8_reading_99 (lv_at hl 0 rfl) ?_
    refine lv_iadd hx hb dX8_reading_101 ?_
    obtain ⟨I_102, e_I_102, h⟩ := lt_some h
    refine r_put C fr_X8_227 (Or.inl rfl) hW a_100 rfl rfl rfl rfl dX8_reading_102 (fun H locs hW => ?_)
    rw [← e_I_102] at hW
    refine lv_goto (tgt := 119) hx hb dX8_reading_105 (by decide) ?_
    refine lv_iload hx hb dX8_reading_119 (lv_at hl 0 rfl) ?_
    have h := Option.some.inj h
    subst h
    exact r_iret C hW dX8_reading_121
def f_X8_reading (I : MI) (R : MR) (x1 : Int32) (x2 : Int32) : Option (Int32 × MI) := bd (f_X8_isBank I R x1) (fun z_2 => (if z_2 = 0 then (some ((-1000000), I)) else (bd (f_X8_in I R x2 0 400) (fun z_13 => (if z_13 = 0 then (some ((-1000000), I)) else (gd (ix x1 (ln 105)) (gd (ix x1 (ln 104)) (gd (¬ (I 104 x1.toNatClampNeg) = 0) (lt ((I 105 x1.toNatClampNeg) / (I 104 x1.toNatClampNeg)) (fun v_35 => (if x2 < (v_35 - (I 100 29)) then (f_X8_reading_58 I R x1 x2) else ((if (v_35 + (I 100 29)) < x2 then (f_X8_reading_58 I R x1 x2) else (some (0, I)))))))))))))))
set_option maxHeartbeats 4000000 in
set_option maxRecDepth 100000 in
theorem c_X8_reading {l : Launch} {E : EV} {q : Nat → Nat} {al : Nat → Bool} {n : Nat} {I : MI} {R : MR} {x1 : Int32} {x2 : Int32} (a_100 : al 100 = true) (hF : Fx al R) {res : Int32 × MI} (h : f_X8_reading I R x1 x2 = some res) : Ct l yX8_reading cX8_reading 5 (some .int) 3 0 0 E q al I R n [.ref (q 100), .int x1, .int x2] (some (.int res.1)) al res.2 R n := by
  refine Ct.of (own := RX8) (mn := "reading") (by decide) rfl rfl (Nat.le_of_ble_eq_true rfl) ?_
  intro p e s m args below meth c ls C hmn hargs hW hl
  have hx := C.1
  have hb := C.2.1
  have hl : lv_has ls 5 [(0, .ref (q 100)), (1, .int x1), (2, .int x2)] := hl
  unfold f_X8_reading at h
  refine lv_aload_n hx hb dX8_reading_0 rfl (lv_at hl 0 rfl) ?_
  refine lv_iload_n hx hb dX8_reading_1 rfl (lv_at hl 1 rfl) ?_
  obtain ⟨z_2, e_z_2, h⟩ := bd_some h
  refine r_callV (v := (some (.int z_2))) (As := [.int x1]) (rest := []) C ml_X8_isBank gm_888 gm_890 gs_26 (ci := 8) rfl hW a_100 rfl hl.1 (c_X8_isBank a_100 e_z_2) rfl ⟨(by decide), (by decide)⟩ ⟨(by decide), (by decide)⟩ rfl (Nat.le_of_ble_eq_true rfl) dX8_reading_2 (fun H locs hW => ?_)
  refine lv_if_eq (tgt := 19) hx hb dX8_reading_5 (by decide) (fun c_5 => ?_) (fun c_5 => ?_)
  · have h := (if_pos c_5).symm.trans h
    refine lv_ldc hx hb C.2.2.2.1 (C.2.2.2.2.1 _ gm_996) dX8_reading_19 ?_
    have h := Option.some.inj h
    subst h
    exact r_iret C hW dX8_reading_21
  · have h := (if_neg c_5).symm.trans h
    refine lv_iload_n hx hb dX8_reading_8 rfl (lv_at hl 2 rfl) ?_
    refine lv_iconst (v := 0) hx hb dX8_reading_9 (by decide) ?_
    refine lv_sipush (v := 400) hx hb dX8_reading_10 (by decide) ?_
    obtain ⟨z_13, e_z_13, h⟩ := bd_some h
    refine r_callS (v := (some (.int z_13))) (As := [.int x2, .int 0, .int 400]) (rest := []) C ml_X8_in gm_881 gm_882 hW hl.1 (c_X8_in  e_z_13) rfl ⟨(by decide), (by decide)⟩ ⟨(by decide), (by decide)⟩ rfl (Nat.le_of_ble_eq_true rfl) dX8_reading_13 (fun H locs hW => ?_)
    refine lv_if_ne (tgt := 22) hx hb dX8_reading_16 (by decide) (fun c_16 => ?_) (fun c_16 => ?_)
    · have h := (if_neg c_16).symm.trans h
      refine lv_aload_n hx hb dX8_reading_22 rfl (lv_at hl 0 rfl) ?_
      have ap_23 : al 105 = true := hW.cl a_100 (hF _ 4 _ a_100 rfl)
      refine r_getq C fr_X8_17 hW a_100 rfl rfl (hF _ 4 _ a_100 rfl) dX8_reading_23 ?_
      refine lv_iload_n hx hb dX8_reading_26 rfl (lv_at hl 1 rfl) ?_
      obtain ⟨g_27, h⟩ := gd_some h
      refine r_iald C hW ap_23 rfl (ix_in g_27) dX8_reading_27 ?_
      refine lv_aload_n hx hb dX8_reading_28 rfl (lv_at hl 0 rfl) ?_
      have ap_29 : al 104 = true := hW.cl a_100 (hF _ 3 _ a_100 rfl)
      refine r_getq C fr_X8_13 hW a_100 rfl rfl (hF _ 3 _ a_100 rfl) dX8_reading_29 ?_
      refine lv_iload_n hx hb dX8_reading_32 rfl (lv_at hl 1 rfl) ?_
      obtain ⟨g_33, h⟩ := gd_some h
      refine r_iald C hW ap_29 rfl (ix_in g_33) dX8_reading_33 ?_
      obtain ⟨g_34, h⟩ := gd_some h
      refine lv_idiv hx hb dX8_reading_34 g_34 ?_
      obtain ⟨v_35, e_v_35, h⟩ := lt_some h
      rw [← e_v_35]
      refine lv_istore_n (lv' := [(3, .int v_35), (0, .ref (q 100)), (1, .int x1), (2, .int x2)]) hx hb dX8_reading_35 rfl hl (by decide) rfl (fun ls hl => ?_)
      refine lv_iload_n hx hb dX8_reading_36 rfl (lv_at hl 3 rfl) ?_
      refine lv_iload_n hx hb dX8_reading_37 rfl (lv_at hl 0 rfl) ?_
      refine lv_aload_n hx hb dX8_reading_38 rfl (lv_at hl 1 rfl) ?_
      refine r_get C fr_X8_75 hW a_100 rfl rfl dX8_reading_39 ?_
      refine lv_isub hx hb dX8_reading_42 ?_
      refine lv_icmp_lt (tgt := 58) hx hb dX8_reading_43 (by decide) (fun c_43 => ?_) (fun c_43 => ?_)
      · have h := (if_pos c_43).symm.trans h
        exact t_X8_reading_58 C a_100 h hW hF (lv_sub hl [1, 2, 3] rfl)
      · have h := (if_neg c_43).symm.trans h
        refine lv_iload_n hx hb dX8_reading_46 rfl (lv_at hl 3 rfl) ?_
        refine lv_iload_n hx hb dX8_reading_47 rfl (lv_at hl 0 rfl) ?_
        refine lv_aload_n hx hb dX8_reading_48 rfl (lv_at hl 1 rfl) ?_
        refine r_get C fr_X8_75 hW a_100 rfl rfl dX8_reading_49 ?_
        refine lv_iadd hx hb dX8_reading_52 ?_
        refine lv_icmp_gt (tgt := 58) hx hb dX8_reading_53 (by decide) (fun c_53 => ?_) (fun c_53 => ?_)
        · have h := (if_pos c_53).symm.trans h
          exact t_X8_reading_58 C a_100 h hW hF (lv_sub hl [1, 2, 3] rfl)
        · have h := (if_neg c_53).symm.trans h
          refine lv_iconst (v := 0) hx hb dX8_reading_56 (by decide) ?_
          have h := Option.some.inj h
          subst h
          exact r_iret C hW dX8_reading_57
    · have h := (if_pos c_16).symm.trans h
      refine lv_ldc hx hb C.2.2.2.1 (C.2.2.2.2.1 _ gm_996) dX8_reading_19 ?_
      have h := Option.some.inj h
      subst h
      exact r_iret C hW dX8_reading_21
