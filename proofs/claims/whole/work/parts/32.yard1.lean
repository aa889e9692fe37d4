def f_X7_air (I : MI) (R : MR) (x1 : Int32) : Option (Int32 × MI) := bd (f_X7_within I R x1 (-30) 50) (fun z_5 => (if z_5 = 0 then (some ((-100), I)) else (lt (p2 I 0 7 x1) (fun I_21 => some (I 0 7, I_21)))))
set_option maxHeartbeats 4000000 in
set_option maxRecDepth 100000 in
theorem c_X7_air {l : Launch} {E : EV} {q : Nat → Nat} {al : Nat → Bool} {n : Nat} {I : MI} {R : MR} {x1 : Int32} (a_0 : al 0 = true) {res : Int32 × MI} (h : f_X7_air I R x1 = some res) : Ct l yX7_air cX7_air 3 (some .int) 2 0 0 E q al I R n [.ref (q 0), .int x1] (some (.int res.1)) al res.2 R n := by
  refine Ct.of (own := RX7) (mn := "air") (by decide) rfl rfl (Nat.le_of_ble_eq_true rfl) ?_
  intro p e s m args below meth c ls C hmn hargs hW hl
  have hx := C.1
  have hb := C.2.1
  have hl : lv_has ls 3 [(0, .ref (q 0)), (1, .int x1)] := hl
  unfold f_X7_air at h
  refine lv_iload_n hx hb dX7_air_0 rfl (lv_at hl 1 rfl) ?_
  refine lv_bipush (v := (-30)) hx hb dX7_air_1 (by decide) ?_
  refine lv_bipush (v := 50) hx hb dX7_air_3 (by decide) ?_
  obtain ⟨z_5, e_z_5, h⟩ := bd_some h
  refine r_callS (v := (some (.int z_5))) (As := [.int x1, .int (-30), .int 50]) (rest := []) C ml_X7_within gm_321 gm_322 hW hl.1 (c_X7_within  e_z_5) rfl ⟨(by decide), (by decide)⟩ ⟨(by decide), (by decide)⟩ rfl (Nat.le_of_ble_eq_true rfl) dX7_air_5 (fun H locs hW => ?_)
  refine lv_if_ne (tgt := 14) hx hb dX7_air_8 (by decide) (fun c_8 => ?_) (fun c_8 => ?_)
  · have h := (if_neg c_8).symm.trans h
    refine lv_aload_n hx hb dX7_air_14 rfl (lv_at hl 0 rfl) ?_
    refine r_get C fr_X7_37 hW a_0 rfl rfl dX7_air_15 ?_
    refine lv_istore_n (lv' := [(2, .int (I 0 7)), (0, .ref (q 0)), (1, .int x1)]) hx hb dX7_air_18 rfl hl (by decide) rfl (fun ls hl => ?_)
    refine lv_aload_n hx hb dX7_air_19 rfl (lv_at hl 1 rfl) ?_
    refine lv_iload_n hx hb dX7_air_20 rfl (lv_at hl 2 rfl) ?_
    obtain ⟨I_21, e_I_21, h⟩ := lt_some h
    refine r_put C fr_X7_37 (Or.inl rfl) hW a_0 rfl rfl rfl rfl dX7_air_21 (fun H locs hW => ?_)
    rw [← e_I_21] at hW
    refine lv_iload_n hx hb dX7_air_24 rfl (lv_at hl 0 rfl) ?_
    have h := Option.some.inj h
    subst h
    exact r_iret C hW dX7_air_25
  · have h := (if_pos c_8).symm.trans h
    refine lv_bipush (v := (-100)) hx hb dX7_air_11 (by decide) ?_
    have h := Option.some.inj h
    subst h
    exact r_iret C hW dX7_air_13
def f_X7_airTenths (I : MI) (R : MR) : Option (Int32) := some (10 * (I 0 7))
set_option maxHeartbeats 4000000 in
set_option maxRecDepth 100000 in
theorem c_X7_airTenths {l : Launch} {E : EV} {q : Nat → Nat} {al : Nat → Bool} {n : Nat} {I : MI} {R : MR}  (a_0 : al 0 = true) {res : Int32} (h : f_X7_airTenths I R = some res) : Ct l yX7_airTenths cX7_airTenths 1 (some .int) 1 0 0 E q al I R n [.ref (q 0)] (some (.int res)) al I R n := by
  refine Ct.of (own := RX7) (mn := "airTenths") (by decide) rfl rfl (Nat.le_of_ble_eq_true rfl) ?_
  intro p e s m args below meth c ls C hmn hargs hW hl
  have hx := C.1
  have hb := C.2.1
  have hl : lv_has ls 1 [(0, .ref (q 0))] := hl
  unfold f_X7_airTenths at h
  refine lv_bipush (v := 10) hx hb dX7_airTenths_0 (by decide) ?_
  refine lv_aload_n hx hb dX7_airTenths_2 rfl (lv_at hl 0 rfl) ?_
  refine r_get C fr_X7_37 hW a_0 rfl rfl dX7_airTenths_3 ?_
  refine lv_imul hx hb dX7_airTenths_6 ?_
  have h := Option.some.inj h
  subst h
  exact r_iret C hW dX7_airTenths_7
def f_X7_bankAt (I : MI) (R : MR) (x1 : Int32) : Option (Option Nat) := bd (f_X7_within I R x1 0 ((I 0 1) - 1)) (fun z_8 => (if z_8 = 0 then (some (none)) else ((if 4 ≤ x1 then (some (none)) else (gd (ix x1 (ln 1)) (mt (R 1 x1.toNatClampNeg) (some (none)) (fun t_24 => some (some t_24))))))))
set_option maxHeartbeats 4000000 in
set_option maxRecDepth 100000 in
theorem c_X7_bankAt {l : Launch} {E : EV} {q : Nat → Nat} {al : Nat → Bool} {n : Nat} {I : MI} {R : MR} {x1 : Int32} (a_0 : al 0 = true) (hF : Fx al R) {res : Option Nat} (h : f_X7_bankAt I R x1 = some res) : Ct l yX7_bankAt cX7_bankAt 2 (some (.object "GasYard$Bank")) 2 0 0 E q al I R n [.ref (q 0), .int x1] (some (va_rf (res.map q))) al I R n := by
  refine Ct.of (own := RX7) (mn := "bankAt") (by decide) rfl rfl (Nat.le_of_ble_eq_true rfl) ?_
  intro p e s m args below meth c ls C hmn hargs hW hl
  have hx := C.1
  have hb := C.2.1
  have hl : lv_has ls 2 [(0, .ref (q 0)), (1, .int x1)] := hl
  unfold f_X7_bankAt at h
  refine lv_iload_n hx hb dX7_bankAt_0 rfl (lv_at hl 1 rfl) ?_
  refine lv_iconst (v := 0) hx hb dX7_bankAt_1 (by decide) ?_
  refine lv_aload_n hx hb dX7_bankAt_2 rfl (lv_at hl 0 rfl) ?_
  refine r_get C fr_X7_15 hW a_0 rfl rfl dX7_bankAt_3 ?_
  refine lv_iconst (v := 1) hx hb dX7_bankAt_6 (by decide) ?_
  refine lv_isub hx hb dX7_bankAt_7 ?_
  obtain ⟨z_8, e_z_8, h⟩ := bd_some h
  refine r_callS (v := (some (.int z_8))) (As := [.int x1, .int 0, .int ((I 0 1) - 1)]) (rest := []) C ml_X7_within gm_321 gm_322 hW hl.1 (c_X7_within  e_z_8) rfl ⟨(by decide), (by decide)⟩ ⟨(by decide), (by decide)⟩ rfl (Nat.le_of_ble_eq_true rfl) dX7_bankAt_8 (fun H locs hW => ?_)
  refine lv_if_eq (tgt := 28) hx hb dX7_bankAt_11 (by decide) (fun c_11 => ?_) (fun c_11 => ?_)
  · have h := (if_pos c_11).symm.trans h
    refine lv_null hx hb dX7_bankAt_28 ?_
    have h := Option.some.inj h
    subst h
    exact r_aret C rfl hW (Or.inl rfl) dX7_bankAt_29
  · have h := (if_neg c_11).symm.trans h
    refine lv_iload_n hx hb dX7_bankAt_14 rfl (lv_at hl 1 rfl) ?_
    refine lv_iconst (v := 4) hx hb dX7_bankAt_15 (by decide) ?_
    refine lv_icmp_ge (tgt := 28) hx hb dX7_bankAt_16 (by decide) (fun c_16 => ?_) (fun c_16 => ?_)
    · have h := (if_pos c_16).symm.trans h
      refine lv_null hx hb dX7_bankAt_28 ?_
      have h := Option.some.inj h
      subst h
      exact r_aret C rfl hW (Or.inl rfl) dX7_bankAt_29
    · have h := (if_neg c_16).symm.trans h
      refine lv_aload_n hx hb dX7_bankAt_19 rfl (lv_at hl 0 rfl) ?_
      have ap_20 : al 1 = true := hW.cl a_0 (hF _ 0 _ a_0 rfl)
      refine r_getq C fr_X7_11 hW a_0 rfl rfl (hF _ 0 _ a_0 rfl) dX7_bankAt_20 ?_
      refine lv_iload_n hx hb dX7_bankAt_23 rfl (lv_at hl 1 rfl) ?_
      obtain ⟨g_24, h⟩ := gd_some h
      have hm := mt_cases h
      clear h
      rcases hm with ⟨o_24, h⟩ | ⟨t_24, o_24, h⟩
      · refine r_aaldN C hW ap_20 rfl (by decide) (ix_in g_24) o_24 dX7_bankAt_24 ?_
        refine lv_goto (tgt := 29) hx hb dX7_bankAt_25 (by decide) ?_
        have h := Option.some.inj h
        subst h
        exact r_aret C rfl hW (Or.inl rfl) dX7_bankAt_29
      · have a_t_24 := hW.cl ap_20 o_24
        have k_t_24 : kd t_24 = 0 := hW.kn ap_20 o_24 (by rfl)
        refine r_aaldS C hW ap_20 rfl (by decide) (ix_in g_24) o_24 dX7_bankAt_24 ?_
        refine lv_goto (tgt := 29) hx hb dX7_bankAt_25 (by decide) ?_
        have h := Option.some.inj h
        subst h
        exact r_aret C rfl hW (Or.inr ⟨_, rfl⟩) dX7_bankAt_29
theorem rf_X7_bankAt {E : EV} {q : Nat → Nat} {al : Nat → Bool} {H0 : Heap} {I : MI} {R : MR} {n : Nat} {H : Heap} {locs : List Loc} {x1 : Int32} {t : Nat} (hW : Wd E q al H0 I R n H locs) (a_0 : al 0 = true) (hF : Fx al R) (h : f_X7_bankAt I R x1 = some (some t)) : al t = true ∧ kd t = 0 := by
  unfold f_X7_bankAt at h
  obtain ⟨z, e, h⟩ := bd_some h
  by_cases c1 : z = 0
  · have h := (if_pos c1).symm.trans h
    cases h
  · have h := (if_neg c1).symm.trans h
    by_cases c2 : 4 ≤ x1
    · have h := (if_pos c2).symm.trans h
      cases h
    · have h := (if_neg c2).symm.trans h
      obtain ⟨g, h⟩ := gd_some h
      have a1 : al 1 = true := hW.cl a_0 (hF _ 0 _ a_0 rfl)
      rcases mt_cases h with ⟨o, h⟩ | ⟨u, o, h⟩
      · cases h
      · have h := Option.some.inj (Option.some.inj h)
        subst h
        exact ⟨hW.cl a1 o, hW.kn a1 o rfl⟩
def f_X7_carAt (I : MI) (R : MR) (x1 : Int32) : Option (Option Nat) := bd (f_X7_within I R x1 0 ((I 0 3) - 1)) (fun z_8 => (if z_8 = 0 then (some (none)) else ((if 60 ≤ x1 then (some (none)) else (gd (ix x1 (ln 2)) (mt (R 2 x1.toNatClampNeg) (some (none)) (fun t_25 => some (some t_25))))))))
set_option maxHeartbeats 4000000 in
set_option maxRecDepth 100000 in
theorem c_X7_carAt {l : Launch} {E : EV} {q : Nat → Nat} {al : Nat → Bool} {n : Nat} {I : MI} {R : MR} {x1 : Int32} (a_0 : al 0 = true) (hF : Fx al R) {res : Option Nat} (h : f_X7_carAt I R x1 = some res) : Ct l yX7_carAt cX7_carAt 2 (some (.object "GasYard$Car")) 2 0 0 E q al I R n [.ref (q 0), .int x1] (some (va_rf (res.map q))) al I R n := by
  refine Ct.of (own := RX7) (mn := "carAt") (by decide) rfl rfl (Nat.le_of_ble_eq_true rfl) ?_
  intro p e s m args below meth c ls C hmn hargs hW hl
  have hx := C.1
  have hb := C.2.1
  have hl : lv_has ls 2 [(0, .ref (q 0)), (1, .int x1)] := hl
  unfold f_X7_carAt at h
  refine lv_iload_n hx hb dX7_carAt_0 rfl (lv_at hl 1 rfl) ?_
  refine lv_iconst (v := 0) hx hb dX7_carAt_1 (by decide) ?_
  refine lv_aload_n hx hb dX7_carAt_2 rfl (lv_at hl 0 rfl) ?_
  refine r_get C fr_X7_25 hW a_0 rfl rfl dX7_carAt_3 ?_
  refine lv_iconst (v := 1) hx hb dX7_carAt_6 (by decide) ?_
  refine lv_isub hx hb dX7_carAt_7 ?_
  obtain ⟨z_8, e_z_8, h⟩ := bd_some h
  refine r_callS (v := (some (.int z_8))) (As := [.int x1, .int 0, .int ((I 0 3) - 1)]) (rest := []) C ml_X7_within gm_321 gm_322 hW hl.1 (c_X7_within  e_z_8) rfl ⟨(by decide), (by decide)⟩ ⟨(by decide), (by decide)⟩ rfl (Nat.le_of_ble_eq_true rfl) dX7_carAt_8 (fun H locs hW => ?_)
  refine lv_if_eq (tgt := 29) hx hb dX7_carAt_11 (by decide) (fun c_11 => ?_) (fun c_11 => ?_)
  · have h := (if_pos c_11).symm.trans h
    refine lv_null hx hb dX7_carAt_29 ?_
    have h := Option.some.inj h
    subst h
    exact r_aret C rfl hW (Or.inl rfl) dX7_carAt_30
  · have h := (if_neg c_11).symm.trans h
    refine lv_iload_n hx hb dX7_carAt_14 rfl (lv_at hl 1 rfl) ?_
    refine lv_bipush (v := 60) hx hb dX7_carAt_15 (by decide) ?_
    refine lv_icmp_ge (tgt := 29) hx hb dX7_carAt_17 (by decide) (fun c_17 => ?_) (fun c_17 => ?_)
    · have h := (if_pos c_17).symm.trans h
      refine lv_null hx hb dX7_carAt_29 ?_
      have h := Option.some.inj h
      subst h
      exact r_aret C rfl hW (Or.inl rfl) dX7_carAt_30
    · have h := (if_neg c_17).symm.trans h
      refine lv_aload_n hx hb dX7_carAt_20 rfl (lv_at hl 0 rfl) ?_
      have ap_21 : al 2 = true := hW.cl a_0 (hF _ 2 _ a_0 rfl)
      refine r_getq C fr_X7_21 hW a_0 rfl rfl (hF _ 2 _ a_0 rfl) dX7_carAt_21 ?_
      refine lv_iload_n hx hb dX7_carAt_24 rfl (lv_at hl 1 rfl) ?_
      obtain ⟨g_25, h⟩ := gd_some h
      have hm := mt_cases h
      clear h
      rcases hm with ⟨o_25, h⟩ | ⟨t_25, o_25, h⟩
      · refine r_aaldN C hW ap_21 rfl (by decide) (ix_in g_25) o_25 dX7_carAt_25 ?_
        refine lv_goto (tgt := 30) hx hb dX7_carAt_26 (by decide) ?_
        have h := Option.some.inj h
        subst h
        exact r_aret C rfl hW (Or.inl rfl) dX7_carAt_30
      · have a_t_25 := hW.cl ap_21 o_25
        have k_t_25 : kd t_25 = 2 := hW.kn ap_21 o_25 (by rfl)
        refine r_aaldS C hW ap_21 rfl (by decide) (ix_in g_25) o_25 dX7_carAt_25 ?_
        refine lv_goto (tgt := 30) hx hb dX7_carAt_26 (by decide) ?_
        have h := Option.some.inj h
        subst h
        exact r_aret C rfl hW (Or.inr ⟨_, rfl⟩) dX7_carAt_30
theorem rf_X7_carAt {E : EV} {q : Nat → Nat} {al : Nat → Bool} {H0 : Heap} {I : MI} {R : MR} {n : Nat} {H : Heap} {locs : List Loc} {x1 : Int32} {t : Nat} (hW : Wd E q al H0 I R n H locs) (a_0 : al 0 = true) (hF : Fx al R) (h : f_X7_carAt I R x1 = some (some t)) : al t = true ∧ kd t = 2 := by
  unfold f_X7_carAt at h
  obtain ⟨z, e, h⟩ := bd_some h
  by_cases c1 : z = 0
  · have h := (if_pos c1).symm.trans h
    cases h
  · have h := (if_neg c1).symm.trans h
    by_cases c2 : 60 ≤ x1
    · have h := (if_pos c2).symm.trans h
      cases h
    · have h := (if_neg c2).symm.trans h
      obtain ⟨g, h⟩ := gd_some h
      have a1 : al 2 = true := hW.cl a_0 (hF _ 2 _ a_0 rfl)
      rcases mt_cases h with ⟨o, h⟩ | ⟨u, o, h⟩
      · cases h
      · have h := Option.some.inj (Option.some.inj h)
        subst h
        exact ⟨hW.cl a1 o, hW.kn a1 o rfl⟩
def f_X7_carAsTold (I : MI) (R : MR) (x0 : Int32) (x1 : Int32) (x2 : Int32) : Option (Int32) := bd (f_X7_within I R x0 1 20) (fun z_4 => (if z_4 = 0 then (some (0)) else (bd (f_X7_within I R x2 1 300) (fun z_15 => (if z_15 = 0 then (some (0)) else (bd (f_X7_within I R x1 0 (x0 * x2)) (fun z_26 => (if z_26 = 0 then (some (0)) else (some (1))))))))))
set_option maxHeartbeats 4000000 in
set_option maxRecDepth 100000 in
theorem c_X7_carAsTold {l : Launch} {E : EV} {q : Nat → Nat} {al : Nat → Bool} {n : Nat} {I : MI} {R : MR} {x0 : Int32} {x1 : Int32} {x2 : Int32}  {res : Int32} (h : f_X7_carAsTold I R x0 x1 x2 = some res) : Ct l yX7_carAsTold cX7_carAsTold 3 (some .boolean) 2 0 0 E q al I R n [.int x0, .int x1, .int x2] (some (.int res)) al I R n := by
  refine Ct.of (own := RX7) (mn := "carAsTold") (by decide) rfl rfl (Nat.le_of_ble_eq_true rfl) ?_
  intro p e s m args below meth c ls C hmn hargs hW hl
  have hx := C.1
  have hb := C.2.1
  have hl : lv_has ls 3 [(0, .int x0), (1, .int x1), (2, .int x2)] := hl
  unfold f_X7_carAsTold at h
  refine lv_iload_n hx hb dX7_carAsTold_0 rfl (lv_at hl 0 rfl) ?_
  refine lv_iconst (v := 1) hx hb dX7_carAsTold_1 (by decide) ?_
  refine lv_bipush (v := 20) hx hb dX7_carAsTold_2 (by decide) ?_
  obtain ⟨z_4, e_z_4, h⟩ := bd_some h
  refine r_callS (v := (some (.int z_4))) (As := [.int x0, .int 1, .int 20]) (rest := []) C ml_X7_within gm_321 gm_322 hW hl.1 (c_X7_within  e_z_4) rfl ⟨(by decide), (by decide)⟩ ⟨(by decide), (by decide)⟩ rfl (Nat.le_of_ble_eq_true rfl) dX7_carAsTold_4 (fun H locs hW => ?_)
  refine lv_if_eq (tgt := 36) hx hb dX7_carAsTold_7 (by decide) (fun c_7 => ?_) (fun c_7 => ?_)
  · have h := (if_pos c_7).symm.trans h
    refine lv_iconst (v := 0) hx hb dX7_carAsTold_36 (by decide) ?_
    have h := Option.some.inj h
    subst h
    exact r_zret C hW (Or.inl rfl) dX7_carAsTold_37
  · have h := (if_neg c_7).symm.trans h
    refine lv_iload_n hx hb dX7_carAsTold_10 rfl (lv_at hl 2 rfl) ?_
    refine lv_iconst (v := 1) hx hb dX7_carAsTold_11 (by decide) ?_
    refine lv_sipush (v := 300) hx hb dX7_carAsTold_12 (by decide) ?_
    obtain ⟨z_15, e_z_15, h⟩ := bd_some h
    refine r_callS (v := (some (.int z_15))) (As := [.int x2, .int 1, .int 300]) (rest := []) C ml_X7_within gm_321 gm_322 hW hl.1 (c_X7_within  e_z_15) rfl ⟨(by decide), (by decide)⟩ ⟨(by decide), (by decide)⟩ rfl (Nat.le_of_ble_eq_true rfl) dX7_carAsTold_15 (fun H locs hW => ?_)
    refine lv_if_eq (tgt := 36) hx hb dX7_carAsTold_18 (by decide) (fun c_18 => ?_) (fun c_18 => ?_)
    · have h := (if_pos c_18).symm.trans h
      refine lv_iconst (v := 0) hx hb dX7_carAsTold_36 (by decide) ?_
      have h := Option.some.inj h
      subst h
      exact r_zret C hW (Or.inl rfl) dX7_carAsTold_37
    · have h := (if_neg c_18).symm.trans h
      refine lv_iload_n hx hb dX7_carAsTold_21 rfl (lv_at hl 1 rfl) ?_
      refine lv_iconst (v := 0) hx hb dX7_carAsTold_22 (by decide) ?_
      refine lv_iload_n hx hb dX7_carAsTold_23 rfl (lv_at hl 0 rfl) ?_
      refine lv_iload_n hx hb dX7_carAsTold_24 rfl (lv_at hl 2 rfl) ?_
      refine lv_imul hx hb dX7_carAsTold_25 ?_
      obtain ⟨z_26, e_z_26, h⟩ := bd_some h
      refine r_callS (v := (some (.int z_26))) (As := [.int x1, .int 0, .int (x0 * x2)]) (rest := []) C ml_X7_within gm_321 gm_322 hW hl.1 (c_X7_within  e_z_26) rfl ⟨(by decide), (by decide)⟩ ⟨(by decide), (by decide)⟩ rfl (Nat.le_of_ble_eq_true rfl) dX7_carAsTold_26 (fun H locs hW => ?_)
      refine lv_if_eq (tgt := 36) hx hb dX7_carAsTold_29 (by decide) (fun c_29 => ?_) (fun c_29 => ?_)
      · have h := (if_pos c_29).symm.trans h
        refine lv_iconst (v := 0) hx hb dX7_carAsTold_36 (by decide) ?_
        have h := Option.some.inj h
        subst h
        exact r_zret C hW (Or.inl rfl) dX7_carAsTold_37
      · have h := (if_neg c_29).symm.trans h
        refine lv_iconst (v := 1) hx hb dX7_carAsTold_32 (by decide) ?_
        refine lv_goto (tgt := 37) hx hb dX7_carAsTold_33 (by decide) ?_
        have h := Option.some.inj h
        subst h
        exact r_zret C hW (Or.inr rfl) dX7_carAsTold_37
