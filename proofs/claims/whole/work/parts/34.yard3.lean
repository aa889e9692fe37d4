def f_X7_bestOf (I : MI) (R : MR) (x1 : Int32) (x2 : Int32) : Option (Int32) := bd (f_X4_answer I R x1 x2) (fun z_6 => some (z_6))
set_option maxHeartbeats 4000000 in
set_option maxRecDepth 100000 in
theorem c_X7_bestOf {l : Launch} {E : EV} {q : Nat → Nat} {al : Nat → Bool} {n : Nat} {I : MI} {R : MR} {x1 : Int32} {x2 : Int32} (a_0 : al 0 = true) (hF : Fx al R) {res : Int32} (h : f_X7_bestOf I R x1 x2 = some res) : Ct l yX7_bestOf cX7_bestOf 3 (some .int) 2 0 0 E q al I R n [.ref (q 0), .int x1, .int x2] (some (.int res)) al I R n := by
  refine Ct.of (own := RX7) (mn := "bestOf") (by decide) rfl rfl (Nat.le_of_ble_eq_true rfl) ?_
  intro p e s m args below meth c ls C hmn hargs hW hl
  have hx := C.1
  have hb := C.2.1
  have hl : lv_has ls 3 [(0, .ref (q 0)), (1, .int x1), (2, .int x2)] := hl
  unfold f_X7_bestOf at h
  refine lv_aload_n hx hb dX7_bestOf_0 rfl (lv_at hl 0 rfl) ?_
  have ap_1 : al 11 = true := hW.cl a_0 (hF _ 15 _ a_0 rfl)
  refine r_getq C fr_X7_80 hW a_0 rfl rfl (hF _ 15 _ a_0 rfl) dX7_bestOf_1 ?_
  refine lv_iload_n hx hb dX7_bestOf_4 rfl (lv_at hl 1 rfl) ?_
  refine lv_iload_n hx hb dX7_bestOf_5 rfl (lv_at hl 2 rfl) ?_
  obtain ⟨z_6, e_z_6, h⟩ := bd_some h
  refine r_callV (v := (some (.int z_6))) (As := [.int x1, .int x2]) (rest := []) C ml_X4_answer gm_669 gm_670 gm_671 (ci := 4) rfl hW ap_1 rfl hl.1 (c_X4_answer ap_1 hF e_z_6) rfl ⟨(by decide), (by decide)⟩ ⟨(by decide), (by decide)⟩ rfl (Nat.le_of_ble_eq_true rfl) dX7_bestOf_6 (fun H locs hW => ?_)
  have h := Option.some.inj h
  subst h
  exact r_iret C hW dX7_bestOf_9
def f_X7_bank (q : Nat → Nat) (I : MI) (R : MR) (al : Nat → Bool) (n : Nat) (x1 : Int32) (x2 : Int32) (x3 : Int32) : Option (Int32 × MI × MR × (Nat → Bool) × Nat) := (if 4 ≤ (I 0 1) then (some ((-1), I, R, al, n)) else (bd (f_X7_within I R x1 1 100) (fun z_12 => (if z_12 = 0 then (some ((-1), I, R, al, n)) else (bd (f_X7_within I R x2 0 (x1 * 400)) (fun z_25 => (if z_25 = 0 then (some ((-1), I, R, al, n)) else (bd (f_X7_within I R x3 0 400) (fun z_36 => (if z_36 = 0 then (some ((-1), I, R, al, n)) else (gd (al (30 + (I 0 1).toNatClampNeg) = false ∧ q (30 + (I 0 1).toNatClampNeg) = n ∧ kd (30 + (I 0 1).toNatClampNeg) = 0 ∧ 30 ≤ (30 + (I 0 1).toNatClampNeg) ∧ (30 + (I 0 1).toNatClampNeg) < 100) (lt (zI I (30 + (I 0 1).toNatClampNeg)) (fun I_44 => lt (zR R (30 + (I 0 1).toNatClampNeg)) (fun R_44 => lt (alu al (30 + (I 0 1).toNatClampNeg)) (fun al_44 => bd (f_X0_init I_44 R_44 (30 + (I 0 1).toNatClampNeg)) (fun z_48 => lt (p2 z_48 (30 + (I 0 1).toNatClampNeg) 0 x1) (fun I_56 => lt (p2 I_56 (30 + (I 0 1).toNatClampNeg) 1 x2) (fun I_62 => lt (p2 I_62 (30 + (I 0 1).toNatClampNeg) 2 x3) (fun I_68 => gd (ix (I_68 0 1) (ln 1)) (lt (pq R_44 1 (I_68 0 1).toNatClampNeg (some (30 + (I 0 1).toNatClampNeg))) (fun R_81 => lt (p2 I_68 10 0 ((I_68 10 0) + x2)) (fun I_92 => lt (p2 I_92 0 1 ((I_92 0 1) + 1)) (fun I_102 => some ((I_102 0 1) - 1, I_102, R_81, al_44, (n + 1)))))))))))))))))))))))))
set_option maxHeartbeats 4000000 in
set_option maxRecDepth 100000 in
theorem c_X7_bank {l : Launch} {E : EV} {q : Nat → Nat} {al : Nat → Bool} {n : Nat} {I : MI} {R : MR} {x1 : Int32} {x2 : Int32} {x3 : Int32} (a_0 : al 0 = true) (hF : Fx al R) {res : Int32 × MI × MR × (Nat → Bool) × Nat} (h : f_X7_bank q I R al n x1 x2 x3 = some res) : Ct l yX7_bank cX7_bank 5 (some .int) 2 1 6 E q al I R n [.ref (q 0), .int x1, .int x2, .int x3] (some (.int res.1)) res.2.2.2.1 res.2.1 res.2.2.1 res.2.2.2.2 := by
  refine Ct.of (own := RX7) (mn := "bank") (by decide) rfl rfl (Nat.le_of_ble_eq_true rfl) ?_
  intro p e s m args below meth c ls C hmn hargs hW hl
  have hx := C.1
  have hb := C.2.1
  have hl : lv_has ls 5 [(0, .ref (q 0)), (1, .int x1), (2, .int x2), (3, .int x3)] := hl
  unfold f_X7_bank at h
  refine lv_aload_n hx hb dX7_bank_0 rfl (lv_at hl 0 rfl) ?_
  refine r_get C fr_X7_15 hW a_0 rfl rfl dX7_bank_1 ?_
  refine lv_iconst (v := 4) hx hb dX7_bank_4 (by decide) ?_
  refine lv_icmp_ge (tgt := 42) hx hb dX7_bank_5 (by decide) (fun c_5 => ?_) (fun c_5 => ?_)
  · have h := (if_pos c_5).symm.trans h
    refine lv_iconst (v := (-1)) hx hb dX7_bank_42 (by decide) ?_
    have h := Option.some.inj h
    subst h
    refine W.widen (k := 1) (n := 6) (by decide) (by decide) ?_
    exact r_iret C hW dX7_bank_43
  · have h := (if_neg c_5).symm.trans h
    refine lv_iload_n hx hb dX7_bank_8 rfl (lv_at hl 1 rfl) ?_
    refine lv_iconst (v := 1) hx hb dX7_bank_9 (by decide) ?_
    refine lv_bipush (v := 100) hx hb dX7_bank_10 (by decide) ?_
    obtain ⟨z_12, e_z_12, h⟩ := bd_some h
    refine r_callS (v := (some (.int z_12))) (As := [.int x1, .int 1, .int 100]) (rest := []) C ml_X7_within gm_321 gm_322 hW hl.1 (c_X7_within  e_z_12) rfl ⟨(by decide), (by decide)⟩ ⟨(by decide), (by decide)⟩ rfl (Nat.le_of_ble_eq_true rfl) dX7_bank_12 (fun H locs hW => ?_)
    refine lv_if_eq (tgt := 42) hx hb dX7_bank_15 (by decide) (fun c_15 => ?_) (fun c_15 => ?_)
    · have h := (if_pos c_15).symm.trans h
      refine lv_iconst (v := (-1)) hx hb dX7_bank_42 (by decide) ?_
      have h := Option.some.inj h
      subst h
      refine W.widen (k := 1) (n := 6) (by decide) (by decide) ?_
      exact r_iret C hW dX7_bank_43
    · have h := (if_neg c_15).symm.trans h
      refine lv_iload_n hx hb dX7_bank_18 rfl (lv_at hl 2 rfl) ?_
      refine lv_iconst (v := 0) hx hb dX7_bank_19 (by decide) ?_
      refine lv_iload_n hx hb dX7_bank_20 rfl (lv_at hl 1 rfl) ?_
      refine lv_sipush (v := 400) hx hb dX7_bank_21 (by decide) ?_
      refine lv_imul hx hb dX7_bank_24 ?_
      obtain ⟨z_25, e_z_25, h⟩ := bd_some h
      refine r_callS (v := (some (.int z_25))) (As := [.int x2, .int 0, .int (x1 * 400)]) (rest := []) C ml_X7_within gm_321 gm_322 hW hl.1 (c_X7_within  e_z_25) rfl ⟨(by decide), (by decide)⟩ ⟨(by decide), (by decide)⟩ rfl (Nat.le_of_ble_eq_true rfl) dX7_bank_25 (fun H locs hW => ?_)
      refine lv_if_eq (tgt := 42) hx hb dX7_bank_28 (by decide) (fun c_28 => ?_) (fun c_28 => ?_)
      · have h := (if_pos c_28).symm.trans h
        refine lv_iconst (v := (-1)) hx hb dX7_bank_42 (by decide) ?_
        have h := Option.some.inj h
        subst h
        refine W.widen (k := 1) (n := 6) (by decide) (by decide) ?_
        exact r_iret C hW dX7_bank_43
      · have h := (if_neg c_28).symm.trans h
        refine lv_iload_n hx hb dX7_bank_31 rfl (lv_at hl 3 rfl) ?_
        refine lv_iconst (v := 0) hx hb dX7_bank_32 (by decide) ?_
        refine lv_sipush (v := 400) hx hb dX7_bank_33 (by decide) ?_
        obtain ⟨z_36, e_z_36, h⟩ := bd_some h
        refine r_callS (v := (some (.int z_36))) (As := [.int x3, .int 0, .int 400]) (rest := []) C ml_X7_within gm_321 gm_322 hW hl.1 (c_X7_within  e_z_36) rfl ⟨(by decide), (by decide)⟩ ⟨(by decide), (by decide)⟩ rfl (Nat.le_of_ble_eq_true rfl) dX7_bank_36 (fun H locs hW => ?_)
        refine lv_if_ne (tgt := 44) hx hb dX7_bank_39 (by decide) (fun c_39 => ?_) (fun c_39 => ?_)
        · have h := (if_neg c_39).symm.trans h
          obtain ⟨g_44, h⟩ := gd_some h
          obtain ⟨I_44, e_I_44, h⟩ := lt_some h
          obtain ⟨R_44, e_R_44, h⟩ := lt_some h
          obtain ⟨al_44, e_al_44, h⟩ := lt_some h
          refine r_new C nc_X7_9 hW g_44.1 g_44.2.1 g_44.2.2.1 (by decide) (by decide) dX7_bank_44 (fun H hW => ?_)
          have hF := hF.new g_44.2.2.2.2 g_44.2.2.2.1
          rw [← e_I_44, ← e_R_44, ← e_al_44] at hW
          rw [← e_R_44, ← e_al_44] at hF
          refine W.widen (k := 1) (n := 6) (by decide) (by decide) ?_
          have a_0_44 : al_44 0 = true := by rw [e_al_44]; exact alu_old a_0
          have a__30____I_0_1__toNatClampNeg__44 : al_44 (30 + (I 0 1).toNatClampNeg) = true := by rw [e_al_44]; exact alu_new
          have k__30____I_0_1__toNatClampNeg__44 : kd (30 + (I 0 1).toNatClampNeg) = 0 := g_44.2.2.1
          refine lv_dup hx hb dX7_bank_47 rfl ?_
          obtain ⟨z_48, e_z_48, h⟩ := bd_some h
          refine r_callIN (host := "GasYard") (v := none) (As := []) (rest := [.ref (q (30 + (I 0 1).toNatClampNeg))]) C ml_X0_init (by decide +kernel) gm_147 rfl hW hl.1 (c_X0_init a__30____I_0_1__toNatClampNeg__44 k__30____I_0_1__toNatClampNeg__44 e_z_48) rfl ⟨(by decide), (by decide)⟩ ⟨(by decide), (by decide)⟩ rfl (Nat.le_of_ble_eq_true rfl) dX7_bank_48 (fun H locs hW => ?_)
          refine lv_astore (lv' := [(4, .ref (q (30 + (I 0 1).toNatClampNeg))), (0, .ref (q 0)), (1, .int x1), (2, .int x2), (3, .int x3)]) hx hb dX7_bank_51 hl (by decide) rfl (fun ls hl => ?_)
          refine lv_aload hx hb dX7_bank_53 (lv_at hl 0 rfl) ?_
          refine lv_iload_n hx hb dX7_bank_55 rfl (lv_at hl 2 rfl) ?_
          obtain ⟨I_56, e_I_56, h⟩ := lt_some h
          refine r_put C fr_X7_99 (Or.inl rfl) hW a__30____I_0_1__toNatClampNeg__44 k__30____I_0_1__toNatClampNeg__44 rfl rfl rfl dX7_bank_56 (fun H locs hW => ?_)
          rw [← e_I_56] at hW
          refine lv_aload hx hb dX7_bank_59 (lv_at hl 0 rfl) ?_
          refine lv_iload_n hx hb dX7_bank_61 rfl (lv_at hl 3 rfl) ?_
          obtain ⟨I_62, e_I_62, h⟩ := lt_some h
          refine r_put C fr_X7_102 (Or.inl rfl) hW a__30____I_0_1__toNatClampNeg__44 k__30____I_0_1__toNatClampNeg__44 rfl rfl rfl dX7_bank_62 (fun H locs hW => ?_)
          rw [← e_I_62] at hW
          refine lv_aload hx hb dX7_bank_65 (lv_at hl 0 rfl) ?_
          refine lv_iload_n hx hb dX7_bank_67 rfl (lv_at hl 4 rfl) ?_
          obtain ⟨I_68, e_I_68, h⟩ := lt_some h
          refine r_put C fr_X7_105 (Or.inl rfl) hW a__30____I_0_1__toNatClampNeg__44 k__30____I_0_1__toNatClampNeg__44 rfl rfl rfl dX7_bank_68 (fun H locs hW => ?_)
          rw [← e_I_68] at hW
          refine lv_aload_n hx hb dX7_bank_71 rfl (lv_at hl 1 rfl) ?_
          have ap_72 : al_44 1 = true := hW.cl a_0_44 (hF _ 0 _ a_0_44 rfl)
          refine r_getq C fr_X7_11 hW a_0_44 rfl rfl (hF _ 0 _ a_0_44 rfl) dX7_bank_72 ?_
          refine lv_aload_n hx hb dX7_bank_75 rfl (lv_at hl 1 rfl) ?_
          refine r_get C fr_X7_15 hW a_0_44 rfl rfl dX7_bank_76 ?_
          refine lv_aload hx hb dX7_bank_79 (lv_at hl 0 rfl) ?_
          obtain ⟨g_81, h⟩ := gd_some h
          obtain ⟨R_81, e_R_81, h⟩ := lt_some h
          refine r_aast C hW ap_72 rfl (by decide) a__30____I_0_1__toNatClampNeg__44 k__30____I_0_1__toNatClampNeg__44 (ix_in g_81) dX7_bank_81 (fun H locs hW => ?_)
          have hF := hF.pq (a := 1) (j := (I_68 0 1).toNatClampNeg) (v := (some (30 + (I 0 1).toNatClampNeg))) rfl
          rw [← e_R_81] at hW hF
          refine lv_aload_n hx hb dX7_bank_82 rfl (lv_at hl 1 rfl) ?_
          have ap_83 : al_44 10 = true := hW.cl a_0_44 (hF _ 14 _ a_0_44 rfl)
          refine r_getq C fr_X7_73 hW a_0_44 rfl rfl (hF _ 14 _ a_0_44 rfl) dX7_bank_83 ?_
          refine lv_dup hx hb dX7_bank_86 rfl ?_
          refine r_get C fr_X7_108 hW ap_83 rfl rfl dX7_bank_87 ?_
          refine lv_iload_n hx hb dX7_bank_90 rfl (lv_at hl 3 rfl) ?_
          refine lv_iadd hx hb dX7_bank_91 ?_
          obtain ⟨I_92, e_I_92, h⟩ := lt_some h
          refine r_put C fr_X7_108 (Or.inl rfl) hW ap_83 rfl rfl rfl rfl dX7_bank_92 (fun H locs hW => ?_)
          rw [← e_I_92] at hW
          refine lv_aload_n hx hb dX7_bank_95 rfl (lv_at hl 1 rfl) ?_
          refine lv_dup hx hb dX7_bank_96 rfl ?_
          refine r_get C fr_X7_15 hW a_0_44 rfl rfl dX7_bank_97 ?_
          refine lv_iconst (v := 1) hx hb dX7_bank_100 (by decide) ?_
          refine lv_iadd hx hb dX7_bank_101 ?_
          obtain ⟨I_102, e_I_102, h⟩ := lt_some h
          refine r_put C fr_X7_15 (Or.inl rfl) hW a_0_44 rfl rfl rfl rfl dX7_bank_102 (fun H locs hW => ?_)
          rw [← e_I_102] at hW
          refine lv_aload_n hx hb dX7_bank_105 rfl (lv_at hl 1 rfl) ?_
          refine r_get C fr_X7_15 hW a_0_44 rfl rfl dX7_bank_106 ?_
          refine lv_iconst (v := 1) hx hb dX7_bank_109 (by decide) ?_
          refine lv_isub hx hb dX7_bank_110 ?_
          have h := Option.some.inj h
          subst h
          exact r_iret C hW dX7_bank_111
        · have h := (if_pos c_39).symm.trans h
          refine lv_iconst (v := (-1)) hx hb dX7_bank_42 (by decide) ?_
          have h := Option.some.inj h
          subst h
          refine W.widen (k := 1) (n := 6) (by decide) (by decide) ?_
          exact r_iret C hW dX7_bank_43
def f_X7_car (q : Nat → Nat) (I : MI) (R : MR) (al : Nat → Bool) (n : Nat) (x1 : Int32) (x2 : Int32) (x3 : Int32) : Option (Int32 × MI × MR × (Nat → Bool) × Nat) := (if 60 ≤ (I 0 3) then (some ((-1), I, R, al, n)) else (bd (f_X7_carAsTold I R x1 x2 x3) (fun z_12 => (if z_12 = 0 then (some ((-1), I, R, al, n)) else (gd (al (40 + (I 0 3).toNatClampNeg) = false ∧ q (40 + (I 0 3).toNatClampNeg) = n ∧ kd (40 + (I 0 3).toNatClampNeg) = 2 ∧ 30 ≤ (40 + (I 0 3).toNatClampNeg) ∧ (40 + (I 0 3).toNatClampNeg) < 100) (lt (zI I (40 + (I 0 3).toNatClampNeg)) (fun I_20 => lt (zR R (40 + (I 0 3).toNatClampNeg)) (fun R_20 => lt (alu al (40 + (I 0 3).toNatClampNeg)) (fun al_20 => bd (f_X2_init I_20 R_20 (40 + (I 0 3).toNatClampNeg)) (fun z_24 => bd (f_X7_airTenths z_24 R_20) (fun z_35 => bd (f_X2_comeWith z_24 R_20 (40 + (I 0 3).toNatClampNeg) x1 x2 x3 z_35) (fun z_38 => gd (ix (z_38 0 3) (ln 2)) (lt (pq R_20 2 (z_38 0 3).toNatClampNeg (some (40 + (I 0 3).toNatClampNeg))) (fun R_51 => lt (p2 z_38 10 0 ((z_38 10 0) + x2)) (fun I_62 => lt (p2 I_62 0 3 ((I_62 0 3) + 1)) (fun I_72 => some ((I_72 0 3) - 1, I_72, R_51, al_20, (n + 1))))))))))))))))))
set_option maxHeartbeats 4000000 in
set_option maxRecDepth 100000 in
theorem c_X7_car {l : Launch} {E : EV} {q : Nat → Nat} {al : Nat → Bool} {n : Nat} {I : MI} {R : MR} {x1 : Int32} {x2 : Int32} {x3 : Int32} (a_0 : al 0 = true) (hF : Fx al R) {res : Int32 × MI × MR × (Nat → Bool) × Nat} (h : f_X7_car q I R al n x1 x2 x3 = some res) : Ct l yX7_car cX7_car 5 (some .int) 3 1 10 E q al I R n [.ref (q 0), .int x1, .int x2, .int x3] (some (.int res.1)) res.2.2.2.1 res.2.1 res.2.2.1 res.2.2.2.2 := by
  refine Ct.of (own := RX7) (mn := "car") (by decide) rfl rfl (Nat.le_of_ble_eq_true rfl) ?_
  intro p e s m args below meth c ls C hmn hargs hW hl
  have hx := C.1
  have hb := C.2.1
  have hl : lv_has ls 5 [(0, .ref (q 0)), (1, .int x1), (2, .int x2), (3, .int x3)] := hl
  unfold f_X7_car at h
  refine lv_aload_n hx hb dX7_car_0 rfl (lv_at hl 0 rfl) ?_
  refine r_get C fr_X7_25 hW a_0 rfl rfl dX7_car_1 ?_
  refine lv_bipush (v := 60) hx hb dX7_car_4 (by decide) ?_
  refine lv_icmp_ge (tgt := 18) hx hb dX7_car_6 (by decide) (fun c_6 => ?_) (fun c_6 => ?_)
  · have h := (if_pos c_6).symm.trans h
    refine lv_iconst (v := (-1)) hx hb dX7_car_18 (by decide) ?_
    have h := Option.some.inj h
    subst h
    refine W.widen (k := 1) (n := 10) (by decide) (by decide) ?_
    exact r_iret C hW dX7_car_19
  · have h := (if_neg c_6).symm.trans h
    refine lv_iload_n hx hb dX7_car_9 rfl (lv_at hl 1 rfl) ?_
    refine lv_iload_n hx hb dX7_car_10 rfl (lv_at hl 2 rfl) ?_
    refine lv_iload_n hx hb dX7_car_11 rfl (lv_at hl 3 rfl) ?_
    obtain ⟨z_12, e_z_12, h⟩ := bd_some h
    refine r_callS (v := (some (.int z_12))) (As := [.int x1, .int x2, .int x3]) (rest := []) C ml_X7_carAsTold gm_520 gm_521 hW hl.1 (c_X7_carAsTold  e_z_12) rfl ⟨(by decide), (by decide)⟩ ⟨(by decide), (by decide)⟩ rfl (Nat.le_of_ble_eq_true rfl) dX7_car_12 (fun H locs hW => ?_)
    refine lv_if_ne (tgt := 20) hx hb dX7_car_15 (by decide) (fun c_15 => ?_) (fun c_15 => ?_)
    · have h := (if_neg c_15).symm.trans h
      obtain ⟨g_20, h⟩ := gd_some h
      obtain ⟨I_20, e_I_20, h⟩ := lt_some h
      obtain ⟨R_20, e_R_20, h⟩ := lt_some h
      obtain ⟨al_20, e_al_20, h⟩ := lt_some h
      refine r_new C nc_X7_19 hW g_20.1 g_20.2.1 g_20.2.2.1 (by decide) (by decide) dX7_car_20 (fun H hW => ?_)
      have hF := hF.new g_20.2.2.2.2 g_20.2.2.2.1
      rw [← e_I_20, ← e_R_20, ← e_al_20] at hW
      rw [← e_R_20, ← e_al_20] at hF
      refine W.widen (k := 1) (n := 10) (by decide) (by decide) ?_
      have a_0_20 : al_20 0 = true := by rw [e_al_20]; exact alu_old a_0
      have a__40____I_0_3__toNatClampNeg__20 : al_20 (40 + (I 0 3).toNatClampNeg) = true := by rw [e_al_20]; exact alu_new
      have k__40____I_0_3__toNatClampNeg__20 : kd (40 + (I 0 3).toNatClampNeg) = 2 := g_20.2.2.1
      refine lv_dup hx hb dX7_car_23 rfl ?_
      obtain ⟨z_24, e_z_24, h⟩ := bd_some h
      refine r_callIN (host := "GasYard") (v := none) (As := []) (rest := [.ref (q (40 + (I 0 3).toNatClampNeg))]) C ml_X2_init (by decide +kernel) gm_99 rfl hW hl.1 (c_X2_init a__40____I_0_3__toNatClampNeg__20 k__40____I_0_3__toNatClampNeg__20 e_z_24) rfl ⟨(by decide), (by decide)⟩ ⟨(by decide), (by decide)⟩ rfl (Nat.le_of_ble_eq_true rfl) dX7_car_24 (fun H locs hW => ?_)
      refine lv_astore (lv' := [(4, .ref (q (40 + (I 0 3).toNatClampNeg))), (0, .ref (q 0)), (1, .int x1), (2, .int x2), (3, .int x3)]) hx hb dX7_car_27 hl (by decide) rfl (fun ls hl => ?_)
      refine lv_aload hx hb dX7_car_29 (lv_at hl 0 rfl) ?_
      refine lv_iload_n hx hb dX7_car_31 rfl (lv_at hl 2 rfl) ?_
      refine lv_iload_n hx hb dX7_car_32 rfl (lv_at hl 3 rfl) ?_
      refine lv_iload_n hx hb dX7_car_33 rfl (lv_at hl 4 rfl) ?_
      refine lv_aload_n hx hb dX7_car_34 rfl (lv_at hl 1 rfl) ?_
      obtain ⟨z_35, e_z_35, h⟩ := bd_some h
      refine r_callV (v := (some (.int z_35))) (As := []) (rest := [.int x3, .int x2, .int x1, .ref (q (40 + (I 0 3).toNatClampNeg))]) C ml_X7_airTenths gm_524 gm_526 gs_13 (ci := 7) rfl hW a_0_20 rfl hl.1 (c_X7_airTenths a_0_20 e_z_35) rfl ⟨(by decide), (by decide)⟩ ⟨(by decide), (by decide)⟩ rfl (Nat.le_of_ble_eq_true rfl) dX7_car_35 (fun H locs hW => ?_)
      obtain ⟨z_38, e_z_38, h⟩ := bd_some h
      refine r_callV (v := none) (As := [.int x1, .int x2, .int x3, .int z_35]) (rest := []) C ml_X2_comeWith gm_528 gm_529 gm_530 (ci := 2) rfl hW a__40____I_0_3__toNatClampNeg__20 k__40____I_0_3__toNatClampNeg__20 hl.1 (c_X2_comeWith a__40____I_0_3__toNatClampNeg__20 k__40____I_0_3__toNatClampNeg__20 e_z_38) rfl ⟨(by decide), (by decide)⟩ ⟨(by decide), (by decide)⟩ rfl (Nat.le_of_ble_eq_true rfl) dX7_car_38 (fun H locs hW => ?_)
      refine lv_aload_n hx hb dX7_car_41 rfl (lv_at hl 1 rfl) ?_
      have ap_42 : al_20 2 = true := hW.cl a_0_20 (hF _ 2 _ a_0_20 rfl)
      refine r_getq C fr_X7_21 hW a_0_20 rfl rfl (hF _ 2 _ a_0_20 rfl) dX7_car_42 ?_
      refine lv_aload_n hx hb dX7_car_45 rfl (lv_at hl 1 rfl) ?_
      refine r_get C fr_X7_25 hW a_0_20 rfl rfl dX7_car_46 ?_
      refine lv_aload hx hb dX7_car_49 (lv_at hl 0 rfl) ?_
      obtain ⟨g_51, h⟩ := gd_some h
      obtain ⟨R_51, e_R_51, h⟩ := lt_some h
      refine r_aast C hW ap_42 rfl (by decide) a__40____I_0_3__toNatClampNeg__20 k__40____I_0_3__toNatClampNeg__20 (ix_in g_51) dX7_car_51 (fun H locs hW => ?_)
      have hF := hF.pq (a := 2) (j := (z_38 0 3).toNatClampNeg) (v := (some (40 + (I 0 3).toNatClampNeg))) rfl
      rw [← e_R_51] at hW hF
      refine lv_aload_n hx hb dX7_car_52 rfl (lv_at hl 1 rfl) ?_
      have ap_53 : al_20 10 = true := hW.cl a_0_20 (hF _ 14 _ a_0_20 rfl)
      refine r_getq C fr_X7_73 hW a_0_20 rfl rfl (hF _ 14 _ a_0_20 rfl) dX7_car_53 ?_
      refine lv_dup hx hb dX7_car_56 rfl ?_
      refine r_get C fr_X7_108 hW ap_53 rfl rfl dX7_car_57 ?_
      refine lv_iload_n hx hb dX7_car_60 rfl (lv_at hl 3 rfl) ?_
      refine lv_iadd hx hb dX7_car_61 ?_
      obtain ⟨I_62, e_I_62, h⟩ := lt_some h
      refine r_put C fr_X7_108 (Or.inl rfl) hW ap_53 rfl rfl rfl rfl dX7_car_62 (fun H locs hW => ?_)
      rw [← e_I_62] at hW
      refine lv_aload_n hx hb dX7_car_65 rfl (lv_at hl 1 rfl) ?_
      refine lv_dup hx hb dX7_car_66 rfl ?_
      refine r_get C fr_X7_25 hW a_0_20 rfl rfl dX7_car_67 ?_
      refine lv_iconst (v := 1) hx hb dX7_car_70 (by decide) ?_
      refine lv_iadd hx hb dX7_car_71 ?_
      obtain ⟨I_72, e_I_72, h⟩ := lt_some h
      refine r_put C fr_X7_25 (Or.inl rfl) hW a_0_20 rfl rfl rfl rfl dX7_car_72 (fun H locs hW => ?_)
      rw [← e_I_72] at hW
      refine lv_aload_n hx hb dX7_car_75 rfl (lv_at hl 1 rfl) ?_
      refine r_get C fr_X7_25 hW a_0_20 rfl rfl dX7_car_76 ?_
      refine lv_iconst (v := 1) hx hb dX7_car_79 (by decide) ?_
      refine lv_isub hx hb dX7_car_80 ?_
      have h := Option.some.inj h
      subst h
      exact r_iret C hW dX7_car_81
    · have h := (if_pos c_15).symm.trans h
      refine lv_iconst (v := (-1)) hx hb dX7_car_18 (by decide) ?_
      have h := Option.some.inj h
      subst h
      refine W.widen (k := 1) (n := 10) (by decide) (by decide) ?_
      exact r_iret C hW dX7_car_19
