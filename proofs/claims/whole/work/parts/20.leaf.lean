def f_X0_pressure (I : MI) (R : MR) (o0 : Nat) : Option (Int32) := (if 1 ≤ (I o0 0) then (gd (¬ (I o0 0) = 0) (some ((I o0 1) / (I o0 0)))) else (some (0)))
set_option maxHeartbeats 4000000 in
set_option maxRecDepth 100000 in
theorem c_X0_pressure {l : Launch} {E : EV} {q : Nat → Nat} {al : Nat → Bool} {n : Nat} {I : MI} {R : MR} {o0 : Nat} (a_o0 : al o0 = true) (k_o0 : kd o0 = 0) {res : Int32} (h : f_X0_pressure I R o0 = some res) : Ct l yX0_pressure cX0_pressure 1 (some .int) 1 0 0 E q al I R n [.ref (q o0)] (some (.int res)) al I R n := by
  refine Ct.of (own := RX0) (mn := "pressure") (by decide) rfl rfl (Nat.le_of_ble_eq_true rfl) ?_
  intro p e s m args below meth c ls C hmn hargs hW hl
  have hx := C.1
  have hb := C.2.1
  have hl : lv_has ls 1 [(0, .ref (q o0))] := hl
  unfold f_X0_pressure at h
  refine lv_aload_n hx hb dX0_pressure_0 rfl (lv_at hl 0 rfl) ?_
  refine r_get C fr_X0_9 hW a_o0 k_o0 rfl dX0_pressure_1 ?_
  refine lv_iconst (v := 1) hx hb dX0_pressure_4 (by decide) ?_
  refine lv_icmp_ge (tgt := 12) hx hb dX0_pressure_5 (by decide) (fun c_5 => ?_) (fun c_5 => ?_)
  · have h := (if_pos c_5).symm.trans h
    refine lv_aload_n hx hb dX0_pressure_12 rfl (lv_at hl 0 rfl) ?_
    refine r_get C fr_X0_15 hW a_o0 k_o0 rfl dX0_pressure_13 ?_
    refine lv_aload_n hx hb dX0_pressure_16 rfl (lv_at hl 0 rfl) ?_
    refine r_get C fr_X0_9 hW a_o0 k_o0 rfl dX0_pressure_17 ?_
    obtain ⟨g_20, h⟩ := gd_some h
    refine lv_idiv hx hb dX0_pressure_20 g_20 ?_
    have h := Option.some.inj h
    subst h
    exact r_iret C hW dX0_pressure_21
  · have h := (if_neg c_5).symm.trans h
    refine lv_iconst (v := 0) hx hb dX0_pressure_8 (by decide) ?_
    refine lv_goto (tgt := 21) hx hb dX0_pressure_9 (by decide) ?_
    have h := Option.some.inj h
    subst h
    exact r_iret C hW dX0_pressure_21
def f_X0_lacks (I : MI) (R : MR) (o0 : Nat) : Option (Int32) := lt (if (0 : Int32) < (((I o0 0) * (I o0 2)) - (I o0 1)) then (((I o0 0) * (I o0 2)) - (I o0 1)) else (0 : Int32)) (fun v_15 => some (v_15))
set_option maxHeartbeats 4000000 in
set_option maxRecDepth 100000 in
theorem c_X0_lacks {l : Launch} {E : EV} {q : Nat → Nat} {al : Nat → Bool} {n : Nat} {I : MI} {R : MR} {o0 : Nat} (a_o0 : al o0 = true) (k_o0 : kd o0 = 0) {res : Int32} (h : f_X0_lacks I R o0 = some res) : Ct l yX0_lacks cX0_lacks 1 (some .int) 1 0 0 E q al I R n [.ref (q o0)] (some (.int res)) al I R n := by
  refine Ct.of (own := RX0) (mn := "lacks") (by decide) rfl rfl (Nat.le_of_ble_eq_true rfl) ?_
  intro p e s m args below meth c ls C hmn hargs hW hl
  have hx := C.1
  have hb := C.2.1
  have hl : lv_has ls 1 [(0, .ref (q o0))] := hl
  unfold f_X0_lacks at h
  refine lv_iconst (v := 0) hx hb dX0_lacks_0 (by decide) ?_
  refine lv_aload_n hx hb dX0_lacks_1 rfl (lv_at hl 0 rfl) ?_
  refine r_get C fr_X0_9 hW a_o0 k_o0 rfl dX0_lacks_2 ?_
  refine lv_aload_n hx hb dX0_lacks_5 rfl (lv_at hl 0 rfl) ?_
  refine r_get C fr_X0_18 hW a_o0 k_o0 rfl dX0_lacks_6 ?_
  refine lv_imul hx hb dX0_lacks_9 ?_
  refine lv_aload_n hx hb dX0_lacks_10 rfl (lv_at hl 0 rfl) ?_
  refine r_get C fr_X0_15 hW a_o0 k_o0 rfl dX0_lacks_11 ?_
  refine lv_isub hx hb dX0_lacks_14 ?_
  obtain ⟨v_15, e_v_15, h⟩ := lt_some h
  refine r_max C gm_600 gm_573 gm_14 gm_574 hl.1 ⟨Nat.le_of_ble_eq_true rfl, Nat.le_of_ble_eq_true rfl, Nat.le_of_ble_eq_true rfl, Nat.le_of_ble_eq_true rfl⟩ dX0_lacks_15 ?_
  rw [← e_v_15]
  have h := Option.some.inj h
  subst h
  exact r_iret C hW dX0_lacks_18
def f_X0_answer (I : MI) (R : MR) (o0 : Nat) (x1 : Int32) : Option (Int32) := (if x1 = 0 then (some (I o0 1)) else (if x1 = 1 then (bd (f_X0_pressure I R o0) (fun z_46 => some (z_46))) else (if x1 = 2 then (some (I o0 2)) else (if x1 = 3 then (some (I o0 3)) else (if x1 = 4 then (some (I o0 4)) else (if x1 = 5 then ((if (I o0 5) = 0 then (some (0)) else (some (1)))) else (some ((-1)))))))))
set_option maxHeartbeats 4000000 in
set_option maxRecDepth 100000 in
theorem c_X0_answer {l : Launch} {E : EV} {q : Nat → Nat} {al : Nat → Bool} {n : Nat} {I : MI} {R : MR} {o0 : Nat} {x1 : Int32} (a_o0 : al o0 = true) (k_o0 : kd o0 = 0) {res : Int32} (h : f_X0_answer I R o0 x1 = some res) : Ct l yX0_answer cX0_answer 2 (some .int) 2 0 0 E q al I R n [.ref (q o0), .int x1] (some (.int res)) al I R n := by
  refine Ct.of (own := RX0) (mn := "answer") (by decide) rfl rfl (Nat.le_of_ble_eq_true rfl) ?_
  intro p e s m args below meth c ls C hmn hargs hW hl
  have hx := C.1
  have hb := C.2.1
  have hl : lv_has ls 2 [(0, .ref (q o0)), (1, .int x1)] := hl
  unfold f_X0_answer at h
  refine lv_iload_n hx hb dX0_answer_0 rfl (lv_at hl 1 rfl) ?_
  by_cases c_1_0 : x1 = 0
  · have h := (if_pos c_1_0).symm.trans h
    refine lv_tableIn (off := 39) (tgt := 40) hx hb dX0_answer_1 (by rw [c_1_0]; decide) (by rw [c_1_0]; decide) (by rw [c_1_0]; decide) (by decide) ?_
    refine lv_aload_n hx hb dX0_answer_40 rfl (lv_at hl 0 rfl) ?_
    refine r_get C fr_X0_15 hW a_o0 k_o0 rfl dX0_answer_41 ?_
    have h := Option.some.inj h
    subst h
    exact r_iret C hW dX0_answer_44
  · have h := (if_neg c_1_0).symm.trans h
    by_cases c_1_1 : x1 = 1
    · have h := (if_pos c_1_1).symm.trans h
      refine lv_tableIn (off := 44) (tgt := 45) hx hb dX0_answer_1 (by rw [c_1_1]; decide) (by rw [c_1_1]; decide) (by rw [c_1_1]; decide) (by decide) ?_
      refine lv_aload_n hx hb dX0_answer_45 rfl (lv_at hl 0 rfl) ?_
      obtain ⟨z_46, e_z_46, h⟩ := bd_some h
      refine r_callV (v := (some (.int z_46))) (As := []) (rest := []) C ml_X0_pressure gm_681 gm_553 gm_554 (ci := 0) rfl hW a_o0 k_o0 hl.1 (c_X0_pressure a_o0 k_o0 e_z_46) rfl ⟨(by decide), (by decide)⟩ ⟨(by decide), (by decide)⟩ rfl (Nat.le_of_ble_eq_true rfl) dX0_answer_46 (fun H locs hW => ?_)
      have h := Option.some.inj h
      subst h
      exact r_iret C hW dX0_answer_49
    · have h := (if_neg c_1_1).symm.trans h
      by_cases c_1_2 : x1 = 2
      · have h := (if_pos c_1_2).symm.trans h
        refine lv_tableIn (off := 49) (tgt := 50) hx hb dX0_answer_1 (by rw [c_1_2]; decide) (by rw [c_1_2]; decide) (by rw [c_1_2]; decide) (by decide) ?_
        refine lv_aload_n hx hb dX0_answer_50 rfl (lv_at hl 0 rfl) ?_
        refine r_get C fr_X0_18 hW a_o0 k_o0 rfl dX0_answer_51 ?_
        have h := Option.some.inj h
        subst h
        exact r_iret C hW dX0_answer_54
      · have h := (if_neg c_1_2).symm.trans h
        by_cases c_1_3 : x1 = 3
        · have h := (if_pos c_1_3).symm.trans h
          refine lv_tableIn (off := 54) (tgt := 55) hx hb dX0_answer_1 (by rw [c_1_3]; decide) (by rw [c_1_3]; decide) (by rw [c_1_3]; decide) (by decide) ?_
          refine lv_aload_n hx hb dX0_answer_55 rfl (lv_at hl 0 rfl) ?_
          refine r_get C fr_X0_21 hW a_o0 k_o0 rfl dX0_answer_56 ?_
          have h := Option.some.inj h
          subst h
          exact r_iret C hW dX0_answer_59
        · have h := (if_neg c_1_3).symm.trans h
          by_cases c_1_4 : x1 = 4
          · have h := (if_pos c_1_4).symm.trans h
            refine lv_tableIn (off := 59) (tgt := 60) hx hb dX0_answer_1 (by rw [c_1_4]; decide) (by rw [c_1_4]; decide) (by rw [c_1_4]; decide) (by decide) ?_
            refine lv_aload_n hx hb dX0_answer_60 rfl (lv_at hl 0 rfl) ?_
            refine r_get C fr_X0_24 hW a_o0 k_o0 rfl dX0_answer_61 ?_
            have h := Option.some.inj h
            subst h
            exact r_iret C hW dX0_answer_64
          · have h := (if_neg c_1_4).symm.trans h
            by_cases c_1_5 : x1 = 5
            · have h := (if_pos c_1_5).symm.trans h
              refine lv_tableIn (off := 64) (tgt := 65) hx hb dX0_answer_1 (by rw [c_1_5]; decide) (by rw [c_1_5]; decide) (by rw [c_1_5]; decide) (by decide) ?_
              refine lv_aload_n hx hb dX0_answer_65 rfl (lv_at hl 0 rfl) ?_
              refine r_get C fr_X0_27 hW a_o0 k_o0 rfl dX0_answer_66 ?_
              refine lv_if_eq (tgt := 76) hx hb dX0_answer_69 (by decide) (fun c_69 => ?_) (fun c_69 => ?_)
              · have h := (if_pos c_69).symm.trans h
                refine lv_iconst (v := 0) hx hb dX0_answer_76 (by decide) ?_
                have h := Option.some.inj h
                subst h
                exact r_iret C hW dX0_answer_77
              · have h := (if_neg c_69).symm.trans h
                refine lv_iconst (v := 1) hx hb dX0_answer_72 (by decide) ?_
                refine lv_goto (tgt := 77) hx hb dX0_answer_73 (by decide) ?_
                have h := Option.some.inj h
                subst h
                exact r_iret C hW dX0_answer_77
            · have h := (if_neg c_1_5).symm.trans h
              have n_0 := lv_neT (a := 0) c_1_0 (by decide)
              have n_1 := lv_neT (a := 1) c_1_1 (by decide)
              have n_2 := lv_neT (a := 2) c_1_2 (by decide)
              have n_3 := lv_neT (a := 3) c_1_3 (by decide)
              have n_4 := lv_neT (a := 4) c_1_4 (by decide)
              have n_5 := lv_neT (a := 5) c_1_5 (by decide)
              refine lv_tableOut (tgt := 78) hx hb dX0_answer_1 (by omega) (by decide) ?_
              refine lv_iconst (v := (-1)) hx hb dX0_answer_78 (by decide) ?_
              have h := Option.some.inj h
              subst h
              exact r_iret C hW dX0_answer_79
def f_X0_copyFrom (I : MI) (R : MR) (o0 : Nat) (o1 : Nat) : Option (MI) := lt (p2 I o0 0 (I o1 0)) (fun I_5 => lt (p2 I_5 o0 1 (I_5 o1 1)) (fun I_13 => gd (I_13 o1 5 = 0 ∨ I_13 o1 5 = 1) (lt (p2 I_13 o0 5 (I_13 o1 5)) (fun I_21 => lt (p2 I_21 o0 3 0) (fun I_26 => some (I_26))))))
set_option maxHeartbeats 4000000 in
set_option maxRecDepth 100000 in
theorem c_X0_copyFrom {l : Launch} {E : EV} {q : Nat → Nat} {al : Nat → Bool} {n : Nat} {I : MI} {R : MR} {o0 : Nat} {o1 : Nat} (a_o0 : al o0 = true) (k_o0 : kd o0 = 0) (a_o1 : al o1 = true) (k_o1 : kd o1 = 0) {res : MI} (h : f_X0_copyFrom I R o0 o1 = some res) : Ct l yX0_copyFrom cX0_copyFrom 2 none 1 0 0 E q al I R n [.ref (q o0), .ref (q o1)] none al res R n := by
  refine Ct.of (own := RX0) (mn := "copyFrom") (by decide) rfl rfl (Nat.le_of_ble_eq_true rfl) ?_
  intro p e s m args below meth c ls C hmn hargs hW hl
  have hx := C.1
  have hb := C.2.1
  have hl : lv_has ls 2 [(0, .ref (q o0)), (1, .ref (q o1))] := hl
  unfold f_X0_copyFrom at h
  refine lv_aload_n hx hb dX0_copyFrom_0 rfl (lv_at hl 0 rfl) ?_
  refine lv_aload_n hx hb dX0_copyFrom_1 rfl (lv_at hl 1 rfl) ?_
  refine r_get C fr_X0_9 hW a_o1 k_o1 rfl dX0_copyFrom_2 ?_
  obtain ⟨I_5, e_I_5, h⟩ := lt_some h
  refine r_put C fr_X0_9 (Or.inl rfl) hW a_o0 k_o0 rfl rfl rfl dX0_copyFrom_5 (fun H locs hW => ?_)
  rw [← e_I_5] at hW
  refine lv_aload_n hx hb dX0_copyFrom_8 rfl (lv_at hl 0 rfl) ?_
  refine lv_aload_n hx hb dX0_copyFrom_9 rfl (lv_at hl 1 rfl) ?_
  refine r_get C fr_X0_15 hW a_o1 k_o1 rfl dX0_copyFrom_10 ?_
  obtain ⟨I_13, e_I_13, h⟩ := lt_some h
  refine r_put C fr_X0_15 (Or.inl rfl) hW a_o0 k_o0 rfl rfl rfl dX0_copyFrom_13 (fun H locs hW => ?_)
  rw [← e_I_13] at hW
  refine lv_aload_n hx hb dX0_copyFrom_16 rfl (lv_at hl 0 rfl) ?_
  refine lv_aload_n hx hb dX0_copyFrom_17 rfl (lv_at hl 1 rfl) ?_
  refine r_get C fr_X0_27 hW a_o1 k_o1 rfl dX0_copyFrom_18 ?_
  obtain ⟨g_21, h⟩ := gd_some h
  obtain ⟨I_21, e_I_21, h⟩ := lt_some h
  refine r_put C fr_X0_27 (Or.inl rfl) hW a_o0 k_o0 rfl (bo_n g_21) (bo_f g_21) dX0_copyFrom_21 (fun H locs hW => ?_)
  rw [← e_I_21] at hW
  refine lv_aload_n hx hb dX0_copyFrom_24 rfl (lv_at hl 0 rfl) ?_
  refine lv_iconst (v := 0) hx hb dX0_copyFrom_25 (by decide) ?_
  obtain ⟨I_26, e_I_26, h⟩ := lt_some h
  refine r_put C fr_X0_21 (Or.inl rfl) hW a_o0 k_o0 rfl rfl rfl dX0_copyFrom_26 (fun H locs hW => ?_)
  rw [← e_I_26] at hW
  have h := Option.some.inj h
  subst h
  exact r_vret C hW dX0_copyFrom_29
def f_X0_init (I : MI) (R : MR) (o0 : Nat) : Option (MI) := lt (p2 I o0 0 1) (fun I_6 => lt (p2 I_6 o0 1 0) (fun I_11 => lt (p2 I_11 o0 2 0) (fun I_16 => lt (p2 I_16 o0 3 0) (fun I_21 => lt (p2 I_21 o0 4 0) (fun I_26 => lt (p2 I_26 o0 5 0) (fun I_31 => some (I_31)))))))
set_option maxHeartbeats 4000000 in
set_option maxRecDepth 100000 in
theorem c_X0_init {l : Launch} {E : EV} {q : Nat → Nat} {al : Nat → Bool} {n : Nat} {I : MI} {R : MR} {o0 : Nat} (a_o0 : al o0 = true) (k_o0 : kd o0 = 0) {res : MI} (h : f_X0_init I R o0 = some res) : Ct l yX0_init cX0_init 1 none 1 0 0 E q al I R n [.ref (q o0)] none al res R n := by
  refine Ct.of (own := RX0) (mn := "<init>") (by decide) rfl rfl (Nat.le_of_ble_eq_true rfl) ?_
  intro p e s m args below meth c ls C hmn hargs hW hl
  have hx := C.1
  have hb := C.2.1
  have hl : lv_has ls 1 [(0, .ref (q o0))] := hl
  unfold f_X0_init at h
  refine lv_aload_n hx hb dX0_init_0 rfl (lv_at hl 0 rfl) ?_
  refine r_obj C gm_149 gm_21 gm_22 hl.1 ⟨Nat.le_of_ble_eq_true rfl, Nat.le_of_ble_eq_true rfl⟩ dX0_init_1 ?_
  refine lv_aload_n hx hb dX0_init_4 rfl (lv_at hl 0 rfl) ?_
  refine lv_iconst (v := 1) hx hb dX0_init_5 (by decide) ?_
  obtain ⟨I_6, e_I_6, h⟩ := lt_some h
  refine r_put C fr_X0_9 (Or.inl rfl) hW a_o0 k_o0 rfl rfl rfl dX0_init_6 (fun H locs hW => ?_)
  rw [← e_I_6] at hW
  refine lv_aload_n hx hb dX0_init_9 rfl (lv_at hl 0 rfl) ?_
  refine lv_iconst (v := 0) hx hb dX0_init_10 (by decide) ?_
  obtain ⟨I_11, e_I_11, h⟩ := lt_some h
  refine r_put C fr_X0_15 (Or.inl rfl) hW a_o0 k_o0 rfl rfl rfl dX0_init_11 (fun H locs hW => ?_)
  rw [← e_I_11] at hW
  refine lv_aload_n hx hb dX0_init_14 rfl (lv_at hl 0 rfl) ?_
  refine lv_iconst (v := 0) hx hb dX0_init_15 (by decide) ?_
  obtain ⟨I_16, e_I_16, h⟩ := lt_some h
  refine r_put C fr_X0_18 (Or.inl rfl) hW a_o0 k_o0 rfl rfl rfl dX0_init_16 (fun H locs hW => ?_)
  rw [← e_I_16] at hW
  refine lv_aload_n hx hb dX0_init_19 rfl (lv_at hl 0 rfl) ?_
  refine lv_iconst (v := 0) hx hb dX0_init_20 (by decide) ?_
  obtain ⟨I_21, e_I_21, h⟩ := lt_some h
  refine r_put C fr_X0_21 (Or.inl rfl) hW a_o0 k_o0 rfl rfl rfl dX0_init_21 (fun H locs hW => ?_)
  rw [← e_I_21] at hW
  refine lv_aload_n hx hb dX0_init_24 rfl (lv_at hl 0 rfl) ?_
  refine lv_iconst (v := 0) hx hb dX0_init_25 (by decide) ?_
  obtain ⟨I_26, e_I_26, h⟩ := lt_some h
  refine r_put C fr_X0_24 (Or.inl rfl) hW a_o0 k_o0 rfl rfl rfl dX0_init_26 (fun H locs hW => ?_)
  rw [← e_I_26] at hW
  refine lv_aload_n hx hb dX0_init_29 rfl (lv_at hl 0 rfl) ?_
  refine lv_iconst (v := 0) hx hb dX0_init_30 (by decide) ?_
  obtain ⟨I_31, e_I_31, h⟩ := lt_some h
  refine r_put C fr_X0_27 (Or.inl rfl) hW a_o0 k_o0 rfl rfl rfl dX0_init_31 (fun H locs hW => ?_)
  rw [← e_I_31] at hW
  have h := Option.some.inj h
  subst h
  exact r_vret C hW dX0_init_34
def f_X2_comeWith (I : MI) (R : MR) (o0 : Nat) (x1 : Int32) (x2 : Int32) (x3 : Int32) (x4 : Int32) : Option (MI) := lt (p2 I o0 0 x1) (fun I_2 => lt (p2 I_2 o0 1 x2) (fun I_7 => lt (p2 I_7 o0 2 x3) (fun I_12 => lt (p2 I_12 o0 3 x4) (fun I_18 => lt (p2 I_18 o0 8 0) (fun I_23 => some (I_23))))))
set_option maxHeartbeats 4000000 in
set_option maxRecDepth 100000 in
theorem c_X2_comeWith {l : Launch} {E : EV} {q : Nat → Nat} {al : Nat → Bool} {n : Nat} {I : MI} {R : MR} {o0 : Nat} {x1 : Int32} {x2 : Int32} {x3 : Int32} {x4 : Int32} (a_o0 : al o0 = true) (k_o0 : kd o0 = 2) {res : MI} (h : f_X2_comeWith I R o0 x1 x2 x3 x4 = some res) : Ct l yX2_comeWith cX2_comeWith 5 none 1 0 0 E q al I R n [.ref (q o0), .int x1, .int x2, .int x3, .int x4] none al res R n := by
  refine Ct.of (own := RX2) (mn := "comeWith") (by decide) rfl rfl (Nat.le_of_ble_eq_true rfl) ?_
  intro p e s m args below meth c ls C hmn hargs hW hl
  have hx := C.1
  have hb := C.2.1
  have hl : lv_has ls 5 [(0, .ref (q o0)), (1, .int x1), (2, .int x2), (3, .int x3), (4, .int x4)] := hl
  unfold f_X2_comeWith at h
  refine lv_aload_n hx hb dX2_comeWith_0 rfl (lv_at hl 0 rfl) ?_
  refine lv_iload_n hx hb dX2_comeWith_1 rfl (lv_at hl 1 rfl) ?_
  obtain ⟨I_2, e_I_2, h⟩ := lt_some h
  refine r_put C fr_X2_9 (Or.inl rfl) hW a_o0 k_o0 rfl rfl rfl dX2_comeWith_2 (fun H locs hW => ?_)
  rw [← e_I_2] at hW
  refine lv_aload_n hx hb dX2_comeWith_5 rfl (lv_at hl 0 rfl) ?_
  refine lv_iload_n hx hb dX2_comeWith_6 rfl (lv_at hl 2 rfl) ?_
  obtain ⟨I_7, e_I_7, h⟩ := lt_some h
  refine r_put C fr_X2_15 (Or.inl rfl) hW a_o0 k_o0 rfl rfl rfl dX2_comeWith_7 (fun H locs hW => ?_)
  rw [← e_I_7] at hW
  refine lv_aload_n hx hb dX2_comeWith_10 rfl (lv_at hl 0 rfl) ?_
  refine lv_iload_n hx hb dX2_comeWith_11 rfl (lv_at hl 3 rfl) ?_
  obtain ⟨I_12, e_I_12, h⟩ := lt_some h
  refine r_put C fr_X2_18 (Or.inl rfl) hW a_o0 k_o0 rfl rfl rfl dX2_comeWith_12 (fun H locs hW => ?_)
  rw [← e_I_12] at hW
  refine lv_aload_n hx hb dX2_comeWith_15 rfl (lv_at hl 0 rfl) ?_
  refine lv_iload hx hb dX2_comeWith_16 (lv_at hl 4 rfl) ?_
  obtain ⟨I_18, e_I_18, h⟩ := lt_some h
  refine r_put C fr_X2_21 (Or.inl rfl) hW a_o0 k_o0 rfl rfl rfl dX2_comeWith_18 (fun H locs hW => ?_)
  rw [← e_I_18] at hW
  refine lv_aload_n hx hb dX2_comeWith_21 rfl (lv_at hl 0 rfl) ?_
  refine lv_iconst (v := 0) hx hb dX2_comeWith_22 (by decide) ?_
  obtain ⟨I_23, e_I_23, h⟩ := lt_some h
  refine r_put C fr_X2_36 (Or.inl rfl) hW a_o0 k_o0 rfl rfl rfl dX2_comeWith_23 (fun H locs hW => ?_)
  rw [← e_I_23] at hW
  have h := Option.some.inj h
  subst h
  exact r_vret C hW dX2_comeWith_26
def f_X2_isHere (I : MI) (R : MR) (o0 : Nat) : Option (Int32) := (if (I o0 4) = 0 then (some (1)) else ((if (I o0 4) = 1 then (some (1)) else (some (0)))))
set_option maxHeartbeats 4000000 in
set_option maxRecDepth 100000 in
theorem c_X2_isHere {l : Launch} {E : EV} {q : Nat → Nat} {al : Nat → Bool} {n : Nat} {I : MI} {R : MR} {o0 : Nat} (a_o0 : al o0 = true) (k_o0 : kd o0 = 2) {res : Int32} (h : f_X2_isHere I R o0 = some res) : Ct l yX2_isHere cX2_isHere 1 (some .boolean) 1 0 0 E q al I R n [.ref (q o0)] (some (.int res)) al I R n := by
  refine Ct.of (own := RX2) (mn := "isHere") (by decide) rfl rfl (Nat.le_of_ble_eq_true rfl) ?_
  intro p e s m args below meth c ls C hmn hargs hW hl
  have hx := C.1
  have hb := C.2.1
  have hl : lv_has ls 1 [(0, .ref (q o0))] := hl
  unfold f_X2_isHere at h
  refine lv_aload_n hx hb dX2_isHere_0 rfl (lv_at hl 0 rfl) ?_
  refine r_get C fr_X2_24 hW a_o0 k_o0 rfl dX2_isHere_1 ?_
  refine lv_if_eq (tgt := 15) hx hb dX2_isHere_4 (by decide) (fun c_4 => ?_) (fun c_4 => ?_)
  · have h := (if_pos c_4).symm.trans h
    refine lv_iconst (v := 1) hx hb dX2_isHere_15 (by decide) ?_
    refine lv_goto (tgt := 20) hx hb dX2_isHere_16 (by decide) ?_
    have h := Option.some.inj h
    subst h
    exact r_zret C hW (Or.inr rfl) dX2_isHere_20
  · have h := (if_neg c_4).symm.trans h
    refine lv_aload_n hx hb dX2_isHere_7 rfl (lv_at hl 0 rfl) ?_
    refine r_get C fr_X2_24 hW a_o0 k_o0 rfl dX2_isHere_8 ?_
    refine lv_iconst (v := 1) hx hb dX2_isHere_11 (by decide) ?_
    refine lv_icmp_ne (tgt := 19) hx hb dX2_isHere_12 (by decide) (fun c_12 => ?_) (fun c_12 => ?_)
    · have h := (if_neg c_12).symm.trans h
      refine lv_iconst (v := 0) hx hb dX2_isHere_19 (by decide) ?_
      have h := Option.some.inj h
      subst h
      exact r_zret C hW (Or.inl rfl) dX2_isHere_20
    · have h := (if_pos c_12).symm.trans h
      refine lv_iconst (v := 1) hx hb dX2_isHere_15 (by decide) ?_
      refine lv_goto (tgt := 20) hx hb dX2_isHere_16 (by decide) ?_
      have h := Option.some.inj h
      subst h
      exact r_zret C hW (Or.inr rfl) dX2_isHere_20
def f_X2_pressure (I : MI) (R : MR) (o0 : Nat) : Option (Int32) := (if 1 ≤ (I o0 0) then (gd (¬ (I o0 0) = 0) (some ((I o0 1) / (I o0 0)))) else (some (0)))
set_option maxHeartbeats 4000000 in
set_option maxRecDepth 100000 in
theorem c_X2_pressure {l : Launch} {E : EV} {q : Nat → Nat} {al : Nat → Bool} {n : Nat} {I : MI} {R : MR} {o0 : Nat} (a_o0 : al o0 = true) (k_o0 : kd o0 = 2) {res : Int32} (h : f_X2_pressure I R o0 = some res) : Ct l yX2_pressure cX2_pressure 1 (some .int) 1 0 0 E q al I R n [.ref (q o0)] (some (.int res)) al I R n := by
  refine Ct.of (own := RX2) (mn := "pressure") (by decide) rfl rfl (Nat.le_of_ble_eq_true rfl) ?_
  intro p e s m args below meth c ls C hmn hargs hW hl
  have hx := C.1
  have hb := C.2.1
  have hl : lv_has ls 1 [(0, .ref (q o0))] := hl
  unfold f_X2_pressure at h
  refine lv_aload_n hx hb dX2_pressure_0 rfl (lv_at hl 0 rfl) ?_
  refine r_get C fr_X2_9 hW a_o0 k_o0 rfl dX2_pressure_1 ?_
  refine lv_iconst (v := 1) hx hb dX2_pressure_4 (by decide) ?_
  refine lv_icmp_ge (tgt := 12) hx hb dX2_pressure_5 (by decide) (fun c_5 => ?_) (fun c_5 => ?_)
  · have h := (if_pos c_5).symm.trans h
    refine lv_aload_n hx hb dX2_pressure_12 rfl (lv_at hl 0 rfl) ?_
    refine r_get C fr_X2_15 hW a_o0 k_o0 rfl dX2_pressure_13 ?_
    refine lv_aload_n hx hb dX2_pressure_16 rfl (lv_at hl 0 rfl) ?_
    refine r_get C fr_X2_9 hW a_o0 k_o0 rfl dX2_pressure_17 ?_
    obtain ⟨g_20, h⟩ := gd_some h
    refine lv_idiv hx hb dX2_pressure_20 g_20 ?_
    have h := Option.some.inj h
    subst h
    exact r_iret C hW dX2_pressure_21
  · have h := (if_neg c_5).symm.trans h
    refine lv_iconst (v := 0) hx hb dX2_pressure_8 (by decide) ?_
    refine lv_goto (tgt := 21) hx hb dX2_pressure_9 (by decide) ?_
    have h := Option.some.inj h
    subst h
    exact r_iret C hW dX2_pressure_21
def f_X2_lacks (I : MI) (R : MR) (o0 : Nat) : Option (Int32) := lt (if (0 : Int32) < (((I o0 0) * (I o0 2)) - (I o0 1)) then (((I o0 0) * (I o0 2)) - (I o0 1)) else (0 : Int32)) (fun v_15 => some (v_15))
set_option maxHeartbeats 4000000 in
set_option maxRecDepth 100000 in
theorem c_X2_lacks {l : Launch} {E : EV} {q : Nat → Nat} {al : Nat → Bool} {n : Nat} {I : MI} {R : MR} {o0 : Nat} (a_o0 : al o0 = true) (k_o0 : kd o0 = 2) {res : Int32} (h : f_X2_lacks I R o0 = some res) : Ct l yX2_lacks cX2_lacks 1 (some .int) 1 0 0 E q al I R n [.ref (q o0)] (some (.int res)) al I R n := by
  refine Ct.of (own := RX2) (mn := "lacks") (by decide) rfl rfl (Nat.le_of_ble_eq_true rfl) ?_
  intro p e s m args below meth c ls C hmn hargs hW hl
  have hx := C.1
  have hb := C.2.1
  have hl : lv_has ls 1 [(0, .ref (q o0))] := hl
  unfold f_X2_lacks at h
  refine lv_iconst (v := 0) hx hb dX2_lacks_0 (by decide) ?_
  refine lv_aload_n hx hb dX2_lacks_1 rfl (lv_at hl 0 rfl) ?_
  refine r_get C fr_X2_9 hW a_o0 k_o0 rfl dX2_lacks_2 ?_
  refine lv_aload_n hx hb dX2_lacks_5 rfl (lv_at hl 0 rfl) ?_
  refine r_get C fr_X2_18 hW a_o0 k_o0 rfl dX2_lacks_6 ?_
  refine lv_imul hx hb dX2_lacks_9 ?_
  refine lv_aload_n hx hb dX2_lacks_10 rfl (lv_at hl 0 rfl) ?_
  refine r_get C fr_X2_15 hW a_o0 k_o0 rfl dX2_lacks_11 ?_
  refine lv_isub hx hb dX2_lacks_14 ?_
  obtain ⟨v_15, e_v_15, h⟩ := lt_some h
  refine r_max C gm_572 gm_573 gm_14 gm_574 hl.1 ⟨Nat.le_of_ble_eq_true rfl, Nat.le_of_ble_eq_true rfl, Nat.le_of_ble_eq_true rfl, Nat.le_of_ble_eq_true rfl⟩ dX2_lacks_15 ?_
  rw [← e_v_15]
  have h := Option.some.inj h
  subst h
  exact r_iret C hW dX2_lacks_18
def f_X2_answer (I : MI) (R : MR) (o0 : Nat) (x1 : Int32) : Option (Int32) := (if x1 = 0 then (some (I o0 4)) else (if x1 = 1 then (some (I o0 1)) else (if x1 = 2 then (bd (f_X2_pressure I R o0) (fun z_59 => some (z_59))) else (if x1 = 3 then (some (I o0 3)) else (if x1 = 4 then ((if (I o0 4) = 1 then (some (I o0 5)) else (some ((-1))))) else (if x1 = 5 then (some (I o0 6)) else (if x1 = 6 then (some (I o0 7)) else (if x1 = 7 then (some (I o0 8)) else (some ((-1)))))))))))
set_option maxHeartbeats 4000000 in
set_option maxRecDepth 100000 in
theorem c_X2_answer {l : Launch} {E : EV} {q : Nat → Nat} {al : Nat → Bool} {n : Nat} {I : MI} {R : MR} {o0 : Nat} {x1 : Int32} (a_o0 : al o0 = true) (k_o0 : kd o0 = 2) {res : Int32} (h : f_X2_answer I R o0 x1 = some res) : Ct l yX2_answer cX2_answer 2 (some .int) 2 0 0 E q al I R n [.ref (q o0), .int x1] (some (.int res)) al I R n := by
  refine Ct.of (own := RX2) (mn := "answer") (by decide) rfl rfl (Nat.le_of_ble_eq_true rfl) ?_
  intro p e s m args below meth c ls C hmn hargs hW hl
  have hx := C.1
  have hb := C.2.1
  have hl : lv_has ls 2 [(0, .ref (q o0)), (1, .int x1)] := hl
  unfold f_X2_answer at h
  refine lv_iload_n hx hb dX2_answer_0 rfl (lv_at hl 1 rfl) ?_
  by_cases c_1_0 : x1 = 0
  · have h := (if_pos c_1_0).symm.trans h
    refine lv_tableIn (off := 47) (tgt := 48) hx hb dX2_answer_1 (by rw [c_1_0]; decide) (by rw [c_1_0]; decide) (by rw [c_1_0]; decide) (by decide) ?_
    refine lv_aload_n hx hb dX2_answer_48 rfl (lv_at hl 0 rfl) ?_
    refine r_get C fr_X2_24 hW a_o0 k_o0 rfl dX2_answer_49 ?_
    have h := Option.some.inj h
    subst h
    exact r_iret C hW dX2_answer_52
  · have h := (if_neg c_1_0).symm.trans h
    by_cases c_1_1 : x1 = 1
    · have h := (if_pos c_1_1).symm.trans h
      refine lv_tableIn (off := 52) (tgt := 53) hx hb dX2_answer_1 (by rw [c_1_1]; decide) (by rw [c_1_1]; decide) (by rw [c_1_1]; decide) (by decide) ?_
      refine lv_aload_n hx hb dX2_answer_53 rfl (lv_at hl 0 rfl) ?_
      refine r_get C fr_X2_15 hW a_o0 k_o0 rfl dX2_answer_54 ?_
      have h := Option.some.inj h
      subst h
      exact r_iret C hW dX2_answer_57
    · have h := (if_neg c_1_1).symm.trans h
      by_cases c_1_2 : x1 = 2
      · have h := (if_pos c_1_2).symm.trans h
        refine lv_tableIn (off := 57) (tgt := 58) hx hb dX2_answer_1 (by rw [c_1_2]; decide) (by rw [c_1_2]; decide) (by rw [c_1_2]; decide) (by decide) ?_
        refine lv_aload_n hx hb dX2_answer_58 rfl (lv_at hl 0 rfl) ?_
        obtain ⟨z_59, e_z_59, h⟩ := bd_some h
        refine r_callV (v := (some (.int z_59))) (As := []) (rest := []) C ml_X2_pressure gm_690 gm_557 gm_558 (ci := 2) rfl hW a_o0 k_o0 hl.1 (c_X2_pressure a_o0 k_o0 e_z_59) rfl ⟨(by decide), (by decide)⟩ ⟨(by decide), (by decide)⟩ rfl (Nat.le_of_ble_eq_true rfl) dX2_answer_59 (fun H locs hW => ?_)
        have h := Option.some.inj h
        subst h
        exact r_iret C hW dX2_answer_62
      · have h := (if_neg c_1_2).symm.trans h
        by_cases c_1_3 : x1 = 3
        · have h := (if_pos c_1_3).symm.trans h
          refine lv_tableIn (off := 62) (tgt := 63) hx hb dX2_answer_1 (by rw [c_1_3]; decide) (by rw [c_1_3]; decide) (by rw [c_1_3]; decide) (by decide) ?_
          refine lv_aload_n hx hb dX2_answer_63 rfl (lv_at hl 0 rfl) ?_
          refine r_get C fr_X2_21 hW a_o0 k_o0 rfl dX2_answer_64 ?_
          have h := Option.some.inj h
          subst h
          exact r_iret C hW dX2_answer_67
        · have h := (if_neg c_1_3).symm.trans h
          by_cases c_1_4 : x1 = 4
          · have h := (if_pos c_1_4).symm.trans h
            refine lv_tableIn (off := 67) (tgt := 68) hx hb dX2_answer_1 (by rw [c_1_4]; decide) (by rw [c_1_4]; decide) (by rw [c_1_4]; decide) (by decide) ?_
            refine lv_aload_n hx hb dX2_answer_68 rfl (lv_at hl 0 rfl) ?_
            refine r_get C fr_X2_24 hW a_o0 k_o0 rfl dX2_answer_69 ?_
            refine lv_iconst (v := 1) hx hb dX2_answer_72 (by decide) ?_
            refine lv_icmp_ne (tgt := 83) hx hb dX2_answer_73 (by decide) (fun c_73 => ?_) (fun c_73 => ?_)
            · have h := (if_neg c_73).symm.trans h
              refine lv_iconst (v := (-1)) hx hb dX2_answer_83 (by decide) ?_
              have h := Option.some.inj h
              subst h
              exact r_iret C hW dX2_answer_84
            · have h := (if_pos c_73).symm.trans h
              refine lv_aload_n hx hb dX2_answer_76 rfl (lv_at hl 0 rfl) ?_
              refine r_get C fr_X2_27 hW a_o0 k_o0 rfl dX2_answer_77 ?_
              refine lv_goto (tgt := 84) hx hb dX2_answer_80 (by decide) ?_
              have h := Option.some.inj h
              subst h
              exact r_iret C hW dX2_answer_84
          · have h := (if_neg c_1_4).symm.trans h
            by_cases c_1_5 : x1 = 5
            · have h := (if_pos c_1_5).symm.trans h
              refine lv_tableIn (off := 84) (tgt := 85) hx hb dX2_answer_1 (by rw [c_1_5]; decide) (by rw [c_1_5]; decide) (by rw [c_1_5]; decide) (by decide) ?_
              refine lv_aload_n hx hb dX2_answer_85 rfl (lv_at hl 0 rfl) ?_
              refine r_get C fr_X2_30 hW a_o0 k_o0 rfl dX2_answer_86 ?_
              have h := Option.some.inj h
              subst h
              exact r_iret C hW dX2_answer_89
            · have h := (if_neg c_1_5).symm.trans h
              by_cases c_1_6 : x1 = 6
              · have h := (if_pos c_1_6).symm.trans h
                refine lv_tableIn (off := 89) (tgt := 90) hx hb dX2_answer_1 (by rw [c_1_6]; decide) (by rw [c_1_6]; decide) (by rw [c_1_6]; decide) (by decide) ?_
                refine lv_aload_n hx hb dX2_answer_90 rfl (lv_at hl 0 rfl) ?_
                refine r_get C fr_X2_33 hW a_o0 k_o0 rfl dX2_answer_91 ?_
                have h := Option.some.inj h
                subst h
                exact r_iret C hW dX2_answer_94
              · have h := (if_neg c_1_6).symm.trans h
                by_cases c_1_7 : x1 = 7
                · have h := (if_pos c_1_7).symm.trans h
                  refine lv_tableIn (off := 94) (tgt := 95) hx hb dX2_answer_1 (by rw [c_1_7]; decide) (by rw [c_1_7]; decide) (by rw [c_1_7]; decide) (by decide) ?_
                  refine lv_aload_n hx hb dX2_answer_95 rfl (lv_at hl 0 rfl) ?_
                  refine r_get C fr_X2_36 hW a_o0 k_o0 rfl dX2_answer_96 ?_
                  have h := Option.some.inj h
                  subst h
                  exact r_iret C hW dX2_answer_99
                · have h := (if_neg c_1_7).symm.trans h
                  have n_0 := lv_neT (a := 0) c_1_0 (by decide)
                  have n_1 := lv_neT (a := 1) c_1_1 (by decide)
                  have n_2 := lv_neT (a := 2) c_1_2 (by decide)
                  have n_3 := lv_neT (a := 3) c_1_3 (by decide)
                  have n_4 := lv_neT (a := 4) c_1_4 (by decide)
                  have n_5 := lv_neT (a := 5) c_1_5 (by decide)
                  have n_6 := lv_neT (a := 6) c_1_6 (by decide)
                  have n_7 := lv_neT (a := 7) c_1_7 (by decide)
                  refine lv_tableOut (tgt := 100) hx hb dX2_answer_1 (by omega) (by decide) ?_
                  refine lv_iconst (v := (-1)) hx hb dX2_answer_100 (by decide) ?_
                  have h := Option.some.inj h
                  subst h
                  exact r_iret C hW dX2_answer_101
def f_X2_init (I : MI) (R : MR) (o0 : Nat) : Option (MI) := lt (p2 I o0 0 1) (fun I_6 => lt (p2 I_6 o0 1 0) (fun I_11 => lt (p2 I_11 o0 2 1) (fun I_16 => lt (p2 I_16 o0 3 0) (fun I_21 => lt (p2 I_21 o0 4 0) (fun I_26 => lt (p2 I_26 o0 5 0) (fun I_31 => lt (p2 I_31 o0 6 (-1)) (fun I_36 => lt (p2 I_36 o0 7 (-1)) (fun I_41 => lt (p2 I_41 o0 8 0) (fun I_46 => lt (p2 I_46 o0 9 0) (fun I_51 => some (I_51)))))))))))
set_option maxHeartbeats 4000000 in
set_option maxRecDepth 100000 in
theorem c_X2_init {l : Launch} {E : EV} {q : Nat → Nat} {al : Nat → Bool} {n : Nat} {I : MI} {R : MR} {o0 : Nat} (a_o0 : al o0 = true) (k_o0 : kd o0 = 2) {res : MI} (h : f_X2_init I R o0 = some res) : Ct l yX2_init cX2_init 1 none 1 0 0 E q al I R n [.ref (q o0)] none al res R n := by
  refine Ct.of (own := RX2) (mn := "<init>") (by decide) rfl rfl (Nat.le_of_ble_eq_true rfl) ?_
  intro p e s m args below meth c ls C hmn hargs hW hl
  have hx := C.1
  have hb := C.2.1
  have hl : lv_has ls 1 [(0, .ref (q o0))] := hl
  unfold f_X2_init at h
  refine lv_aload_n hx hb dX2_init_0 rfl (lv_at hl 0 rfl) ?_
  refine r_obj C gm_101 gm_21 gm_22 hl.1 ⟨Nat.le_of_ble_eq_true rfl, Nat.le_of_ble_eq_true rfl⟩ dX2_init_1 ?_
  refine lv_aload_n hx hb dX2_init_4 rfl (lv_at hl 0 rfl) ?_
  refine lv_iconst (v := 1) hx hb dX2_init_5 (by decide) ?_
  obtain ⟨I_6, e_I_6, h⟩ := lt_some h
  refine r_put C fr_X2_9 (Or.inl rfl) hW a_o0 k_o0 rfl rfl rfl dX2_init_6 (fun H locs hW => ?_)
  rw [← e_I_6] at hW
  refine lv_aload_n hx hb dX2_init_9 rfl (lv_at hl 0 rfl) ?_
  refine lv_iconst (v := 0) hx hb dX2_init_10 (by decide) ?_
  obtain ⟨I_11, e_I_11, h⟩ := lt_some h
  refine r_put C fr_X2_15 (Or.inl rfl) hW a_o0 k_o0 rfl rfl rfl dX2_init_11 (fun H locs hW => ?_)
  rw [← e_I_11] at hW
  refine lv_aload_n hx hb dX2_init_14 rfl (lv_at hl 0 rfl) ?_
  refine lv_iconst (v := 1) hx hb dX2_init_15 (by decide) ?_
  obtain ⟨I_16, e_I_16, h⟩ := lt_some h
  refine r_put C fr_X2_18 (Or.inl rfl) hW a_o0 k_o0 rfl rfl rfl dX2_init_16 (fun H locs hW => ?_)
  rw [← e_I_16] at hW
  refine lv_aload_n hx hb dX2_init_19 rfl (lv_at hl 0 rfl) ?_
  refine lv_iconst (v := 0) hx hb dX2_init_20 (by decide) ?_
  obtain ⟨I_21, e_I_21, h⟩ := lt_some h
  refine r_put C fr_X2_21 (Or.inl rfl) hW a_o0 k_o0 rfl rfl rfl dX2_init_21 (fun H locs hW => ?_)
  rw [← e_I_21] at hW
  refine lv_aload_n hx hb dX2_init_24 rfl (lv_at hl 0 rfl) ?_
  refine lv_iconst (v := 0) hx hb dX2_init_25 (by decide) ?_
  obtain ⟨I_26, e_I_26, h⟩ := lt_some h
  refine r_put C fr_X2_24 (Or.inl rfl) hW a_o0 k_o0 rfl rfl rfl dX2_init_26 (fun H locs hW => ?_)
  rw [← e_I_26] at hW
  refine lv_aload_n hx hb dX2_init_29 rfl (lv_at hl 0 rfl) ?_
  refine lv_iconst (v := 0) hx hb dX2_init_30 (by decide) ?_
  obtain ⟨I_31, e_I_31, h⟩ := lt_some h
  refine r_put C fr_X2_27 (Or.inl rfl) hW a_o0 k_o0 rfl rfl rfl dX2_init_31 (fun H locs hW => ?_)
  rw [← e_I_31] at hW
  refine lv_aload_n hx hb dX2_init_34 rfl (lv_at hl 0 rfl) ?_
  refine lv_iconst (v := (-1)) hx hb dX2_init_35 (by decide) ?_
  obtain ⟨I_36, e_I_36, h⟩ := lt_some h
  refine r_put C fr_X2_30 (Or.inl rfl) hW a_o0 k_o0 rfl rfl rfl dX2_init_36 (fun H locs hW => ?_)
  rw [← e_I_36] at hW
  refine lv_aload_n hx hb dX2_init_39 rfl (lv_at hl 0 rfl) ?_
  refine lv_iconst (v := (-1)) hx hb dX2_init_40 (by decide) ?_
  obtain ⟨I_41, e_I_41, h⟩ := lt_some h
  refine r_put C fr_X2_33 (Or.inl rfl) hW a_o0 k_o0 rfl rfl rfl dX2_init_41 (fun H locs hW => ?_)
  rw [← e_I_41] at hW
  refine lv_aload_n hx hb dX2_init_44 rfl (lv_at hl 0 rfl) ?_
  refine lv_iconst (v := 0) hx hb dX2_init_45 (by decide) ?_
  obtain ⟨I_46, e_I_46, h⟩ := lt_some h
  refine r_put C fr_X2_36 (Or.inl rfl) hW a_o0 k_o0 rfl rfl rfl dX2_init_46 (fun H locs hW => ?_)
  rw [← e_I_46] at hW
  refine lv_aload_n hx hb dX2_init_49 rfl (lv_at hl 0 rfl) ?_
  refine lv_iconst (v := 0) hx hb dX2_init_50 (by decide) ?_
  obtain ⟨I_51, e_I_51, h⟩ := lt_some h
  refine r_put C fr_X2_39 (Or.inl rfl) hW a_o0 k_o0 rfl rfl rfl dX2_init_51 (fun H locs hW => ?_)
  rw [← e_I_51] at hW
  have h := Option.some.inj h
  subst h
  exact r_vret C hW dX2_init_54
def f_X3_allGas (I : MI) (R : MR) : Option (Int32) := some (((I 10 0) + (I 10 1)) + (I 10 4))
set_option maxHeartbeats 4000000 in
set_option maxRecDepth 100000 in
theorem c_X3_allGas {l : Launch} {E : EV} {q : Nat → Nat} {al : Nat → Bool} {n : Nat} {I : MI} {R : MR}  (a_10 : al 10 = true) {res : Int32} (h : f_X3_allGas I R = some res) : Ct l yX3_allGas cX3_allGas 1 (some .int) 1 0 0 E q al I R n [.ref (q 10)] (some (.int res)) al I R n := by
  refine Ct.of (own := RX3) (mn := "allGas") (by decide) rfl rfl (Nat.le_of_ble_eq_true rfl) ?_
  intro p e s m args below meth c ls C hmn hargs hW hl
  have hx := C.1
  have hb := C.2.1
  have hl : lv_has ls 1 [(0, .ref (q 10))] := hl
  unfold f_X3_allGas at h
  refine lv_aload_n hx hb dX3_allGas_0 rfl (lv_at hl 0 rfl) ?_
  refine r_get C fr_X3_7 hW a_10 rfl rfl dX3_allGas_1 ?_
  refine lv_aload_n hx hb dX3_allGas_4 rfl (lv_at hl 0 rfl) ?_
  refine r_get C fr_X3_13 hW a_10 rfl rfl dX3_allGas_5 ?_
  refine lv_iadd hx hb dX3_allGas_8 ?_
  refine lv_aload_n hx hb dX3_allGas_9 rfl (lv_at hl 0 rfl) ?_
  refine r_get C fr_X3_22 hW a_10 rfl rfl dX3_allGas_10 ?_
  refine lv_iadd hx hb dX3_allGas_13 ?_
  have h := Option.some.inj h
  subst h
  exact r_iret C hW dX3_allGas_14
def f_X3_init (I : MI) (R : MR) : Option (MI) := lt (p2 I 10 0 0) (fun I_6 => lt (p2 I_6 10 1 0) (fun I_11 => lt (p2 I_11 10 2 0) (fun I_16 => lt (p2 I_16 10 3 0) (fun I_21 => lt (p2 I_21 10 4 0) (fun I_26 => some (I_26))))))
set_option maxHeartbeats 4000000 in
set_option maxRecDepth 100000 in
theorem c_X3_init {l : Launch} {E : EV} {q : Nat → Nat} {al : Nat → Bool} {n : Nat} {I : MI} {R : MR}  (a_10 : al 10 = true) {res : MI} (h : f_X3_init I R = some res) : Ct l yX3_init cX3_init 1 none 1 0 0 E q al I R n [.ref (q 10)] none al res R n := by
  refine Ct.of (own := RX3) (mn := "<init>") (by decide) rfl rfl (Nat.le_of_ble_eq_true rfl) ?_
  intro p e s m args below meth c ls C hmn hargs hW hl
  have hx := C.1
  have hb := C.2.1
  have hl : lv_has ls 1 [(0, .ref (q 10))] := hl
  unfold f_X3_init at h
  refine lv_aload_n hx hb dX3_init_0 rfl (lv_at hl 0 rfl) ?_
  refine r_obj C gm_68 gm_21 gm_22 hl.1 ⟨Nat.le_of_ble_eq_true rfl, Nat.le_of_ble_eq_true rfl⟩ dX3_init_1 ?_
  refine lv_aload_n hx hb dX3_init_4 rfl (lv_at hl 0 rfl) ?_
  refine lv_iconst (v := 0) hx hb dX3_init_5 (by decide) ?_
  obtain ⟨I_6, e_I_6, h⟩ := lt_some h
  refine r_put C fr_X3_7 (Or.inl rfl) hW a_10 rfl rfl rfl rfl dX3_init_6 (fun H locs hW => ?_)
  rw [← e_I_6] at hW
  refine lv_aload_n hx hb dX3_init_9 rfl (lv_at hl 0 rfl) ?_
  refine lv_iconst (v := 0) hx hb dX3_init_10 (by decide) ?_
  obtain ⟨I_11, e_I_11, h⟩ := lt_some h
  refine r_put C fr_X3_13 (Or.inl rfl) hW a_10 rfl rfl rfl rfl dX3_init_11 (fun H locs hW => ?_)
  rw [← e_I_11] at hW
  refine lv_aload_n hx hb dX3_init_14 rfl (lv_at hl 0 rfl) ?_
  refine lv_iconst (v := 0) hx hb dX3_init_15 (by decide) ?_
  obtain ⟨I_16, e_I_16, h⟩ := lt_some h
  refine r_put C fr_X3_16 (Or.inl rfl) hW a_10 rfl rfl rfl rfl dX3_init_16 (fun H locs hW => ?_)
  rw [← e_I_16] at hW
  refine lv_aload_n hx hb dX3_init_19 rfl (lv_at hl 0 rfl) ?_
  refine lv_iconst (v := 0) hx hb dX3_init_20 (by decide) ?_
  obtain ⟨I_21, e_I_21, h⟩ := lt_some h
  refine r_put C fr_X3_19 (Or.inl rfl) hW a_10 rfl rfl rfl rfl dX3_init_21 (fun H locs hW => ?_)
  rw [← e_I_21] at hW
  refine lv_aload_n hx hb dX3_init_24 rfl (lv_at hl 0 rfl) ?_
  refine lv_iconst (v := 0) hx hb dX3_init_25 (by decide) ?_
  obtain ⟨I_26, e_I_26, h⟩ := lt_some h
  refine r_put C fr_X3_22 (Or.inl rfl) hW a_10 rfl rfl rfl rfl dX3_init_26 (fun H locs hW => ?_)
  rw [← e_I_26] at hW
  have h := Option.some.inj h
  subst h
  exact r_vret C hW dX3_init_29
def f_X3_press (I : MI) (R : MR) (x1 : Int32) (x2 : Int32) : Option (MI) := lt (p2 I 10 1 ((I 10 1) + x1)) (fun I_7 => lt (p2 I_7 10 2 ((I_7 10 2) + (x1 * x2))) (fun I_19 => some (I_19)))
set_option maxHeartbeats 4000000 in
set_option maxRecDepth 100000 in
theorem c_X3_press {l : Launch} {E : EV} {q : Nat → Nat} {al : Nat → Bool} {n : Nat} {I : MI} {R : MR} {x1 : Int32} {x2 : Int32} (a_10 : al 10 = true) {res : MI} (h : f_X3_press I R x1 x2 = some res) : Ct l yX3_press cX3_press 3 none 1 0 0 E q al I R n [.ref (q 10), .int x1, .int x2] none al res R n := by
  refine Ct.of (own := RX3) (mn := "press") (by decide) rfl rfl (Nat.le_of_ble_eq_true rfl) ?_
  intro p e s m args below meth c ls C hmn hargs hW hl
  have hx := C.1
  have hb := C.2.1
  have hl : lv_has ls 3 [(0, .ref (q 10)), (1, .int x1), (2, .int x2)] := hl
  unfold f_X3_press at h
  refine lv_aload_n hx hb dX3_press_0 rfl (lv_at hl 0 rfl) ?_
  refine lv_dup hx hb dX3_press_1 rfl ?_
  refine r_get C fr_X3_13 hW a_10 rfl rfl dX3_press_2 ?_
  refine lv_iload_n hx hb dX3_press_5 rfl (lv_at hl 1 rfl) ?_
  refine lv_iadd hx hb dX3_press_6 ?_
  obtain ⟨I_7, e_I_7, h⟩ := lt_some h
  refine r_put C fr_X3_13 (Or.inl rfl) hW a_10 rfl rfl rfl rfl dX3_press_7 (fun H locs hW => ?_)
  rw [← e_I_7] at hW
  refine lv_aload_n hx hb dX3_press_10 rfl (lv_at hl 0 rfl) ?_
  refine lv_dup hx hb dX3_press_11 rfl ?_
  refine r_get C fr_X3_16 hW a_10 rfl rfl dX3_press_12 ?_
  refine lv_iload_n hx hb dX3_press_15 rfl (lv_at hl 1 rfl) ?_
  refine lv_iload_n hx hb dX3_press_16 rfl (lv_at hl 2 rfl) ?_
  refine lv_imul hx hb dX3_press_17 ?_
  refine lv_iadd hx hb dX3_press_18 ?_
  obtain ⟨I_19, e_I_19, h⟩ := lt_some h
  refine r_put C fr_X3_16 (Or.inl rfl) hW a_10 rfl rfl rfl rfl dX3_press_19 (fun H locs hW => ?_)
  rw [← e_I_19] at hW
  have h := Option.some.inj h
  subst h
  exact r_vret C hW dX3_press_22
def f_X6_append_3  : Nat → MI → MR → Int32 → Int32 → Option (MI)
  | 0, _, _, _, _ => none
  | nn + 1, I, R, x1, x2 => (if x2 < 0 then (some (I)) else ((if (I 6 1) < 0 then (f_X6_append_3 nn I R x1 (x2 + (-8))) else ((if 200 ≤ (I 6 1) then (f_X6_append_3 nn I R x1 (x2 + (-8))) else (gd (ix (I 6 1) (ln 7)) (lt (p2 I 7 (I 6 1).toNatClampNeg (vp_nar .byte (((x1.toUInt32 >>> (x2.toUInt32 &&& Int32.toUInt32 31)).toInt32).toInt8.toInt32))) (fun I_36 => lt (p2 I_36 6 1 ((I_36 6 1) + 1)) (fun I_44 => f_X6_append_3 nn I_44 R x1 (x2 + (-8)))))))))))
set_option maxHeartbeats 4000000 in
set_option maxRecDepth 100000 in
theorem t_X6_append_3 {p : Program} {l : Launch} {e : Env} {s : State} {m : MethodId} {args : Array Value} {below : List Frame} {meth : Method} {c : Code} {E : EV} {q : Nat → Nat} {al : Nat → Bool} {n : Nat} (C : CX p s m args meth c E cX6_append RX6 3 none) {res : MI}   : ∀ (nn : Nat) {I : MI} {R : MR} {x1 : Int32} {x2 : Int32} {H : Heap} {locs : List Loc} {ls : Array Slot} (a_6 : al 6 = true) (h : f_X6_append_3 nn I R x1 x2 = some res) (hW : Wd E q al s.heap I R n H locs) (hF : Fx al R) (hl : lv_has ls 3 [(0, .ref (q 6)), (1, .int x1), (2, .int x2)]), W p l e (rmL 1 0 0) s m args below meth c H locs 0 0 (MQ below (Pst E q none al res R n) args s 0 0 (Bs E)) (F0 m 3 ls []) := by
  have hx := C.1
  have hb := C.2.1
  intro nn
  induction nn with
  | zero =>
    intro I R x1 x2 H locs ls a_6 h
    cases (show (none : Option (MI)) = some res from h)
  | succ nn ih =>
    intro I R x1 x2 H locs ls a_6 h hW hF hl
    rw [f_X6_append_3.eq_2] at h
    refine lv_iload_n hx hb dX6_append_3 rfl (lv_at hl 2 rfl) ?_
    refine lv_if_lt (tgt := 53) hx hb dX6_append_4 (by decide) (fun c_4 => ?_) (fun c_4 => ?_)
    · have h := (if_pos c_4).symm.trans h
      have h := Option.some.inj h
      subst h
      exact r_vret C hW dX6_append_53
    · have h := (if_neg c_4).symm.trans h
      refine lv_aload_n hx hb dX6_append_7 rfl (lv_at hl 0 rfl) ?_
      refine r_get C fr_X6_15 hW a_6 rfl rfl dX6_append_8 ?_
      refine lv_if_lt (tgt := 47) hx hb dX6_append_11 (by decide) (fun c_11 => ?_) (fun c_11 => ?_)
      · have h := (if_pos c_11).symm.trans h
        refine lv_iinc (v := x2 + (-8)) (lv' := [(2, .int (x2 + (-8))), (0, .ref (q 6)), (1, .int x1)]) hx hb dX6_append_47 hl (k := 2) rfl rfl (by decide) rfl (fun ls hl => ?_)
        refine lv_goto (tgt := 3) hx hb dX6_append_50 (by decide) ?_
        exact ih a_6 h hW hF (lv_sub hl [1, 2, 0] rfl)
      · have h := (if_neg c_11).symm.trans h
        refine lv_aload_n hx hb dX6_append_14 rfl (lv_at hl 0 rfl) ?_
        refine r_get C fr_X6_15 hW a_6 rfl rfl dX6_append_15 ?_
        refine lv_sipush (v := 200) hx hb dX6_append_18 (by decide) ?_
        refine lv_icmp_ge (tgt := 47) hx hb dX6_append_21 (by decide) (fun c_21 => ?_) (fun c_21 => ?_)
        · have h := (if_pos c_21).symm.trans h
          refine lv_iinc (v := x2 + (-8)) (lv' := [(2, .int (x2 + (-8))), (0, .ref (q 6)), (1, .int x1)]) hx hb dX6_append_47 hl (k := 2) rfl rfl (by decide) rfl (fun ls hl => ?_)
          refine lv_goto (tgt := 3) hx hb dX6_append_50 (by decide) ?_
          exact ih a_6 h hW hF (lv_sub hl [1, 2, 0] rfl)
        · have h := (if_neg c_21).symm.trans h
          refine lv_aload_n hx hb dX6_append_24 rfl (lv_at hl 0 rfl) ?_
          have ap_25 : al 7 = true := hW.cl a_6 (hF _ 0 _ a_6 rfl)
          refine r_getq C fr_X6_9 hW a_6 rfl rfl (hF _ 0 _ a_6 rfl) dX6_append_25 ?_
          refine lv_aload_n hx hb dX6_append_28 rfl (lv_at hl 0 rfl) ?_
          refine r_get C fr_X6_15 hW a_6 rfl rfl dX6_append_29 ?_
          refine lv_iload_n hx hb dX6_append_32 rfl (lv_at hl 1 rfl) ?_
          refine lv_iload_n hx hb dX6_append_33 rfl (lv_at hl 2 rfl) ?_
          refine lv_iushr hx hb dX6_append_34 rfl ?_
          refine lv_i2b hx hb dX6_append_35 rfl ?_
          obtain ⟨g_36, h⟩ := gd_some h
          obtain ⟨I_36, e_I_36, h⟩ := lt_some h
          refine r_bast C hW ap_25 rfl (ix_in g_36) dX6_append_36 (fun H locs hW => ?_)
          rw [← e_I_36] at hW
          refine lv_aload_n hx hb dX6_append_37 rfl (lv_at hl 0 rfl) ?_
          refine lv_dup hx hb dX6_append_38 rfl ?_
          refine r_get C fr_X6_15 hW a_6 rfl rfl dX6_append_39 ?_
          refine lv_iconst (v := 1) hx hb dX6_append_42 (by decide) ?_
          refine lv_iadd hx hb dX6_append_43 ?_
          obtain ⟨I_44, e_I_44, h⟩ := lt_some h
          refine r_put C fr_X6_15 (Or.inl rfl) hW a_6 rfl rfl rfl rfl dX6_append_44 (fun H locs hW => ?_)
          rw [← e_I_44] at hW
          refine lv_iinc (v := x2 + (-8)) (lv' := [(2, .int (x2 + (-8))), (0, .ref (q 6)), (1, .int x1)]) hx hb dX6_append_47 hl (k := 2) rfl rfl (by decide) rfl (fun ls hl => ?_)
          refine lv_goto (tgt := 3) hx hb dX6_append_50 (by decide) ?_
          exact ih a_6 h hW hF (lv_sub hl [1, 2, 0] rfl)
def f_X6_append (I : MI) (R : MR) (x1 : Int32) : Option (MI) := f_X6_append_3 1000000 I R x1 24
set_option maxHeartbeats 4000000 in
set_option maxRecDepth 100000 in
theorem c_X6_append {l : Launch} {E : EV} {q : Nat → Nat} {al : Nat → Bool} {n : Nat} {I : MI} {R : MR} {x1 : Int32} (a_6 : al 6 = true) (hF : Fx al R) {res : MI} (h : f_X6_append I R x1 = some res) : Ct l yX6_append cX6_append 3 none 1 0 0 E q al I R n [.ref (q 6), .int x1] none al res R n := by
  refine Ct.of (own := RX6) (mn := "append") (by decide) rfl rfl (Nat.le_of_ble_eq_true rfl) ?_
  intro p e s m args below meth c ls C hmn hargs hW hl
  have hx := C.1
  have hb := C.2.1
  have hl : lv_has ls 3 [(0, .ref (q 6)), (1, .int x1)] := hl
  unfold f_X6_append at h
  refine lv_bipush (v := 24) hx hb dX6_append_0 (by decide) ?_
  refine lv_istore_n (lv' := [(2, .int 24), (0, .ref (q 6)), (1, .int x1)]) hx hb dX6_append_2 rfl hl (by decide) rfl (fun ls hl => ?_)
  exact t_X6_append_3 C 1000000 a_6 h hW hF (lv_sub hl [1, 2, 0] rfl)
def f_X6_at (I : MI) (R : MR) (x1 : Int32) : Option (Int32) := (if x1 < 0 then (some ((-1))) else ((if (I 6 1) ≤ x1 then (some ((-1))) else ((if 200 ≤ x1 then (some ((-1))) else (gd (ix x1 (ln 7)) (some ((I 7 x1.toNatClampNeg) &&& 255))))))))
set_option maxHeartbeats 4000000 in
set_option maxRecDepth 100000 in
theorem c_X6_at {l : Launch} {E : EV} {q : Nat → Nat} {al : Nat → Bool} {n : Nat} {I : MI} {R : MR} {x1 : Int32} (a_6 : al 6 = true) (hF : Fx al R) {res : Int32} (h : f_X6_at I R x1 = some res) : Ct l yX6_at cX6_at 2 (some .int) 1 0 0 E q al I R n [.ref (q 6), .int x1] (some (.int res)) al I R n := by
  refine Ct.of (own := RX6) (mn := "at") (by decide) rfl rfl (Nat.le_of_ble_eq_true rfl) ?_
  intro p e s m args below meth c ls C hmn hargs hW hl
  have hx := C.1
  have hb := C.2.1
  have hl : lv_has ls 2 [(0, .ref (q 6)), (1, .int x1)] := hl
  unfold f_X6_at at h
  refine lv_iload_n hx hb dX6_at_0 rfl (lv_at hl 1 rfl) ?_
  refine lv_if_lt (tgt := 32) hx hb dX6_at_1 (by decide) (fun c_1 => ?_) (fun c_1 => ?_)
  · have h := (if_pos c_1).symm.trans h
    refine lv_iconst (v := (-1)) hx hb dX6_at_32 (by decide) ?_
    have h := Option.some.inj h
    subst h
    exact r_iret C hW dX6_at_33
  · have h := (if_neg c_1).symm.trans h
    refine lv_iload_n hx hb dX6_at_4 rfl (lv_at hl 1 rfl) ?_
    refine lv_aload_n hx hb dX6_at_5 rfl (lv_at hl 0 rfl) ?_
    refine r_get C fr_X6_15 hW a_6 rfl rfl dX6_at_6 ?_
    refine lv_icmp_ge (tgt := 32) hx hb dX6_at_9 (by decide) (fun c_9 => ?_) (fun c_9 => ?_)
    · have h := (if_pos c_9).symm.trans h
      refine lv_iconst (v := (-1)) hx hb dX6_at_32 (by decide) ?_
      have h := Option.some.inj h
      subst h
      exact r_iret C hW dX6_at_33
    · have h := (if_neg c_9).symm.trans h
      refine lv_iload_n hx hb dX6_at_12 rfl (lv_at hl 1 rfl) ?_
      refine lv_sipush (v := 200) hx hb dX6_at_13 (by decide) ?_
      refine lv_icmp_ge (tgt := 32) hx hb dX6_at_16 (by decide) (fun c_16 => ?_) (fun c_16 => ?_)
      · have h := (if_pos c_16).symm.trans h
        refine lv_iconst (v := (-1)) hx hb dX6_at_32 (by decide) ?_
        have h := Option.some.inj h
        subst h
        exact r_iret C hW dX6_at_33
      · have h := (if_neg c_16).symm.trans h
        refine lv_aload_n hx hb dX6_at_19 rfl (lv_at hl 0 rfl) ?_
        have ap_20 : al 7 = true := hW.cl a_6 (hF _ 0 _ a_6 rfl)
        refine r_getq C fr_X6_9 hW a_6 rfl rfl (hF _ 0 _ a_6 rfl) dX6_at_20 ?_
        refine lv_iload_n hx hb dX6_at_23 rfl (lv_at hl 1 rfl) ?_
        obtain ⟨g_24, h⟩ := gd_some h
        refine r_bald C hW ap_20 rfl (ix_in g_24) dX6_at_24 ?_
        refine lv_sipush (v := 255) hx hb dX6_at_25 (by decide) ?_
        refine lv_iand hx hb dX6_at_28 ?_
        refine lv_goto (tgt := 33) hx hb dX6_at_29 (by decide) ?_
        have h := Option.some.inj h
        subst h
        exact r_iret C hW dX6_at_33
def f_X6_init (q : Nat → Nat) (I : MI) (R : MR) (al : Nat → Bool) (n : Nat) : Option (MI × MR) := gd (al 7 = false ∧ q 7 = n ∧ kd 7 = 9 ∧ (200 : Int32).toNatClampNeg = ln 7) (lt (zI I 7) (fun I_8 => lt (zR R 7) (fun R_8 => lt (pq R_8 6 0 (some 7)) (fun R_10 => lt (p2 I_8 6 1 0) (fun I_15 => some (I_15, R_10))))))
set_option maxHeartbeats 4000000 in
set_option maxRecDepth 100000 in
theorem c_X6_init {l : Launch} {E : EV} {q : Nat → Nat} {al : Nat → Bool} {n : Nat} {I : MI} {R : MR}  (a_6 : al 6 = true) {res : MI × MR} (h : f_X6_init q I R al n = some res) : Ct l yX6_init cX6_init 1 none 1 1 200 E q al I R n [.ref (q 6)] none (alu al 7) res.1 res.2 (n + 1) := by
  refine Ct.of (own := RX6) (mn := "<init>") (by decide) rfl rfl (Nat.le_of_ble_eq_true rfl) ?_
  intro p e s m args below meth c ls C hmn hargs hW hl
  have hx := C.1
  have hb := C.2.1
  have hl : lv_has ls 1 [(0, .ref (q 6))] := hl
  unfold f_X6_init at h
  refine lv_aload_n hx hb dX6_init_0 rfl (lv_at hl 0 rfl) ?_
  refine r_obj C gm_32 gm_21 gm_22 hl.1 ⟨Nat.le_of_ble_eq_true rfl, Nat.le_of_ble_eq_true rfl⟩ dX6_init_1 ?_
  refine lv_aload_n hx hb dX6_init_4 rfl (lv_at hl 0 rfl) ?_
  refine lv_sipush (v := 200) hx hb dX6_init_5 (by decide) ?_
  obtain ⟨g_8, h⟩ := gd_some h
  obtain ⟨I_8, e_I_8, h⟩ := lt_some h
  obtain ⟨R_8, e_R_8, h⟩ := lt_some h
  refine r_newa (at_ := .byte) C gm_43 (Or.inl ⟨rfl, rfl⟩) hW g_8.1 g_8.2.1 g_8.2.2.1 (by decide) g_8.2.2.2 (by rw [← g_8.2.2.2]; decide) (by decide) (by rw [← g_8.2.2.2]; decide) dX6_init_8 (fun H hW => ?_)
  rw [← g_8.2.2.2]
  rw [← e_I_8, ← e_R_8] at hW
  refine W.widen (k := 1) (n := 200) (by decide) (by decide) ?_
  have a_6_8 : (alu al 7) 6 = true := alu_old a_6
  have a_7_8 : (alu al 7) 7 = true := alu_new
  have k_7_8 : kd 7 = 9 := g_8.2.2.1
  obtain ⟨R_10, e_R_10, h⟩ := lt_some h
  refine r_putq C fr_X6_9 (Or.inr ⟨rfl, hmn, ⟨_, rfl, rfl⟩⟩) hW a_6_8 rfl rfl a_7_8 k_7_8 rfl rfl dX6_init_10 (fun H locs hW => ?_)
  rw [← e_R_10] at hW
  refine lv_aload_n hx hb dX6_init_13 rfl (lv_at hl 0 rfl) ?_
  refine lv_iconst (v := 0) hx hb dX6_init_14 (by decide) ?_
  obtain ⟨I_15, e_I_15, h⟩ := lt_some h
  refine r_put C fr_X6_15 (Or.inl rfl) hW a_6_8 rfl rfl rfl rfl dX6_init_15 (fun H locs hW => ?_)
  rw [← e_I_15] at hW
  have h := Option.some.inj h
  subst h
  exact r_vret C hW dX6_init_18
def f_X5_addFlow (I : MI) (R : MR) (o0 : Nat) (x1 : Int32) (x2 : Int32) : Option (MI) := (if (I o0 7) < 0 then (some (I)) else ((if 8 ≤ (I o0 7) then (some (I)) else (gd (ix (I o0 7) (ln (o0 + 1))) (lt (p2 I (o0 + 1) (I o0 7).toNatClampNeg x1) (fun I_25 => gd (ix (I_25 o0 7) (ln (o0 + 2))) (lt (p2 I_25 (o0 + 2) (I_25 o0 7).toNatClampNeg x2) (fun I_35 => lt (p2 I_35 o0 7 ((I_35 o0 7) + 1)) (fun I_43 => some (I_43))))))))))
set_option maxHeartbeats 4000000 in
set_option maxRecDepth 100000 in
theorem c_X5_addFlow {l : Launch} {E : EV} {q : Nat → Nat} {al : Nat → Bool} {n : Nat} {I : MI} {R : MR} {o0 : Nat} {x1 : Int32} {x2 : Int32} (a_o0 : al o0 = true) (k_o0 : kd o0 = 5) (hF : Fx al R) {res : MI} (h : f_X5_addFlow I R o0 x1 x2 = some res) : Ct l yX5_addFlow cX5_addFlow 3 none 1 0 0 E q al I R n [.ref (q o0), .int x1, .int x2] none al res R n := by
  refine Ct.of (own := RX5) (mn := "addFlow") (by decide) rfl rfl (Nat.le_of_ble_eq_true rfl) ?_
  intro p e s m args below meth c ls C hmn hargs hW hl
  have hx := C.1
  have hb := C.2.1
  have hl : lv_has ls 3 [(0, .ref (q o0)), (1, .int x1), (2, .int x2)] := hl
  unfold f_X5_addFlow at h
  refine lv_aload_n hx hb dX5_addFlow_0 rfl (lv_at hl 0 rfl) ?_
  refine r_get C fr_X5_34 hW a_o0 k_o0 rfl dX5_addFlow_1 ?_
  refine lv_if_lt (tgt := 46) hx hb dX5_addFlow_4 (by decide) (fun c_4 => ?_) (fun c_4 => ?_)
  · have h := (if_pos c_4).symm.trans h
    have h := Option.some.inj h
    subst h
    exact r_vret C hW dX5_addFlow_46
  · have h := (if_neg c_4).symm.trans h
    refine lv_aload_n hx hb dX5_addFlow_7 rfl (lv_at hl 0 rfl) ?_
    refine r_get C fr_X5_34 hW a_o0 k_o0 rfl dX5_addFlow_8 ?_
    refine lv_bipush (v := 8) hx hb dX5_addFlow_11 (by decide) ?_
    refine lv_icmp_ge (tgt := 46) hx hb dX5_addFlow_13 (by decide) (fun c_13 => ?_) (fun c_13 => ?_)
    · have h := (if_pos c_13).symm.trans h
      have h := Option.some.inj h
      subst h
      exact r_vret C hW dX5_addFlow_46
    · have h := (if_neg c_13).symm.trans h
      refine lv_aload_n hx hb dX5_addFlow_16 rfl (lv_at hl 0 rfl) ?_
      have ap_17 : al (o0 + 1) = true := hW.cl a_o0 (hF _ 5 _ a_o0 (fx5a k_o0))
      have kp_17 : kd (o0 + 1) = 10 := hW.kn a_o0 (hF _ 5 _ a_o0 (fx5a k_o0)) (by rw [k_o0]; rfl)
      refine r_getq C fr_X5_27 hW a_o0 k_o0 rfl (hF _ 5 _ a_o0 (fx5a k_o0)) dX5_addFlow_17 ?_
      refine lv_aload_n hx hb dX5_addFlow_20 rfl (lv_at hl 0 rfl) ?_
      refine r_get C fr_X5_34 hW a_o0 k_o0 rfl dX5_addFlow_21 ?_
      refine lv_iload_n hx hb dX5_addFlow_24 rfl (lv_at hl 1 rfl) ?_
      obtain ⟨g_25, h⟩ := gd_some h
      obtain ⟨I_25, e_I_25, h⟩ := lt_some h
      refine r_iast C hW ap_17 kp_17 (ix_in g_25) dX5_addFlow_25 (fun H locs hW => ?_)
      rw [← e_I_25] at hW
      refine lv_aload_n hx hb dX5_addFlow_26 rfl (lv_at hl 0 rfl) ?_
      have ap_27 : al (o0 + 2) = true := hW.cl a_o0 (hF _ 6 _ a_o0 (fx5b k_o0))
      have kp_27 : kd (o0 + 2) = 10 := hW.kn a_o0 (hF _ 6 _ a_o0 (fx5b k_o0)) (by rw [k_o0]; rfl)
      refine r_getq C fr_X5_31 hW a_o0 k_o0 rfl (hF _ 6 _ a_o0 (fx5b k_o0)) dX5_addFlow_27 ?_
      refine lv_aload_n hx hb dX5_addFlow_30 rfl (lv_at hl 0 rfl) ?_
      refine r_get C fr_X5_34 hW a_o0 k_o0 rfl dX5_addFlow_31 ?_
      refine lv_iload_n hx hb dX5_addFlow_34 rfl (lv_at hl 2 rfl) ?_
      obtain ⟨g_35, h⟩ := gd_some h
      obtain ⟨I_35, e_I_35, h⟩ := lt_some h
      refine r_iast C hW ap_27 kp_27 (ix_in g_35) dX5_addFlow_35 (fun H locs hW => ?_)
      rw [← e_I_35] at hW
      refine lv_aload_n hx hb dX5_addFlow_36 rfl (lv_at hl 0 rfl) ?_
      refine lv_dup hx hb dX5_addFlow_37 rfl ?_
      refine r_get C fr_X5_34 hW a_o0 k_o0 rfl dX5_addFlow_38 ?_
      refine lv_iconst (v := 1) hx hb dX5_addFlow_41 (by decide) ?_
      refine lv_iadd hx hb dX5_addFlow_42 ?_
      obtain ⟨I_43, e_I_43, h⟩ := lt_some h
      refine r_put C fr_X5_34 (Or.inl rfl) hW a_o0 k_o0 rfl rfl rfl dX5_addFlow_43 (fun H locs hW => ?_)
      rw [← e_I_43] at hW
      have h := Option.some.inj h
      subst h
      exact r_vret C hW dX5_addFlow_46
def f_X5_asWithout (I : MI) (R : MR) (o0 : Nat) : Option (MI) := lt (p2 I o0 0 10) (fun I_3 => lt (p2 I_3 o0 1 10) (fun I_9 => lt (p2 I_9 o0 2 85) (fun I_15 => lt (p2 I_15 o0 3 20) (fun I_21 => lt (p2 I_21 o0 4 1) (fun I_26 => lt (p2 I_26 o0 7 0) (fun I_31 => some (I_31)))))))
set_option maxHeartbeats 4000000 in
set_option maxRecDepth 100000 in
theorem c_X5_asWithout {l : Launch} {E : EV} {q : Nat → Nat} {al : Nat → Bool} {n : Nat} {I : MI} {R : MR} {o0 : Nat} (a_o0 : al o0 = true) (k_o0 : kd o0 = 5) {res : MI} (h : f_X5_asWithout I R o0 = some res) : Ct l yX5_asWithout cX5_asWithout 1 none 1 0 0 E q al I R n [.ref (q o0)] none al res R n := by
  refine Ct.of (own := RX5) (mn := "asWithout") (by decide) rfl rfl (Nat.le_of_ble_eq_true rfl) ?_
  intro p e s m args below meth c ls C hmn hargs hW hl
  have hx := C.1
  have hb := C.2.1
  have hl : lv_has ls 1 [(0, .ref (q o0))] := hl
  unfold f_X5_asWithout at h
  refine lv_aload_n hx hb dX5_asWithout_0 rfl (lv_at hl 0 rfl) ?_
  refine lv_bipush (v := 10) hx hb dX5_asWithout_1 (by decide) ?_
  obtain ⟨I_3, e_I_3, h⟩ := lt_some h
  refine r_put C fr_X5_9 (Or.inl rfl) hW a_o0 k_o0 rfl rfl rfl dX5_asWithout_3 (fun H locs hW => ?_)
  rw [← e_I_3] at hW
  refine lv_aload_n hx hb dX5_asWithout_6 rfl (lv_at hl 0 rfl) ?_
  refine lv_bipush (v := 10) hx hb dX5_asWithout_7 (by decide) ?_
  obtain ⟨I_9, e_I_9, h⟩ := lt_some h
  refine r_put C fr_X5_15 (Or.inl rfl) hW a_o0 k_o0 rfl rfl rfl dX5_asWithout_9 (fun H locs hW => ?_)
  rw [← e_I_9] at hW
  refine lv_aload_n hx hb dX5_asWithout_12 rfl (lv_at hl 0 rfl) ?_
  refine lv_bipush (v := 85) hx hb dX5_asWithout_13 (by decide) ?_
  obtain ⟨I_15, e_I_15, h⟩ := lt_some h
  refine r_put C fr_X5_18 (Or.inl rfl) hW a_o0 k_o0 rfl rfl rfl dX5_asWithout_15 (fun H locs hW => ?_)
  rw [← e_I_15] at hW
  refine lv_aload_n hx hb dX5_asWithout_18 rfl (lv_at hl 0 rfl) ?_
  refine lv_bipush (v := 20) hx hb dX5_asWithout_19 (by decide) ?_
  obtain ⟨I_21, e_I_21, h⟩ := lt_some h
  refine r_put C fr_X5_21 (Or.inl rfl) hW a_o0 k_o0 rfl rfl rfl dX5_asWithout_21 (fun H locs hW => ?_)
  rw [← e_I_21] at hW
  refine lv_aload_n hx hb dX5_asWithout_24 rfl (lv_at hl 0 rfl) ?_
  refine lv_iconst (v := 1) hx hb dX5_asWithout_25 (by decide) ?_
  obtain ⟨I_26, e_I_26, h⟩ := lt_some h
  refine r_put C fr_X5_24 (Or.inl rfl) hW a_o0 k_o0 rfl rfl rfl dX5_asWithout_26 (fun H locs hW => ?_)
  rw [← e_I_26] at hW
  refine lv_aload_n hx hb dX5_asWithout_29 rfl (lv_at hl 0 rfl) ?_
  refine lv_iconst (v := 0) hx hb dX5_asWithout_30 (by decide) ?_
  obtain ⟨I_31, e_I_31, h⟩ := lt_some h
  refine r_put C fr_X5_34 (Or.inl rfl) hW a_o0 k_o0 rfl rfl rfl dX5_asWithout_31 (fun H locs hW => ?_)
  rw [← e_I_31] at hW
  have h := Option.some.inj h
  subst h
  exact r_vret C hW dX5_asWithout_34
def f_X5_coolDown (I : MI) (R : MR) (o0 : Nat) (o1 : Nat) (x2 : Int32) : Option (MI) := (if 1 ≤ (I o0 1) then (gd (¬ (I o0 1) = 0) (lt (p2 I o1 3 ((I o1 3) - (((I o1 3) - x2) / (I o0 1)))) (fun I_29 => some (I_29)))) else (lt (p2 I o1 3 ((I o1 3) - 0)) (fun I_29 => some (I_29))))
set_option maxHeartbeats 4000000 in
set_option maxRecDepth 100000 in
theorem c_X5_coolDown {l : Launch} {E : EV} {q : Nat → Nat} {al : Nat → Bool} {n : Nat} {I : MI} {R : MR} {o0 : Nat} {o1 : Nat} {x2 : Int32} (a_o0 : al o0 = true) (k_o0 : kd o0 = 5) (a_o1 : al o1 = true) (k_o1 : kd o1 = 2) {res : MI} (h : f_X5_coolDown I R o0 o1 x2 = some res) : Ct l yX5_coolDown cX5_coolDown 3 none 1 0 0 E q al I R n [.ref (q o0), .ref (q o1), .int x2] none al res R n := by
  refine Ct.of (own := RX5) (mn := "coolDown") (by decide) rfl rfl (Nat.le_of_ble_eq_true rfl) ?_
  intro p e s m args below meth c ls C hmn hargs hW hl
  have hx := C.1
  have hb := C.2.1
  have hl : lv_has ls 3 [(0, .ref (q o0)), (1, .ref (q o1)), (2, .int x2)] := hl
  unfold f_X5_coolDown at h
  refine lv_aload_n hx hb dX5_coolDown_0 rfl (lv_at hl 1 rfl) ?_
  refine lv_dup hx hb dX5_coolDown_1 rfl ?_
  refine r_get C fr_X5_78 hW a_o1 k_o1 rfl dX5_coolDown_2 ?_
  refine lv_aload_n hx hb dX5_coolDown_5 rfl (lv_at hl 0 rfl) ?_
  refine r_get C fr_X5_15 hW a_o0 k_o0 rfl dX5_coolDown_6 ?_
  refine lv_iconst (v := 1) hx hb dX5_coolDown_9 (by decide) ?_
  refine lv_icmp_ge (tgt := 17) hx hb dX5_coolDown_10 (by decide) (fun c_10 => ?_) (fun c_10 => ?_)
  · have h := (if_pos c_10).symm.trans h
    refine lv_aload_n hx hb dX5_coolDown_17 rfl (lv_at hl 1 rfl) ?_
    refine r_get C fr_X5_78 hW a_o1 k_o1 rfl dX5_coolDown_18 ?_
    refine lv_iload_n hx hb dX5_coolDown_21 rfl (lv_at hl 2 rfl) ?_
    refine lv_isub hx hb dX5_coolDown_22 ?_
    refine lv_aload_n hx hb dX5_coolDown_23 rfl (lv_at hl 0 rfl) ?_
    refine r_get C fr_X5_15 hW a_o0 k_o0 rfl dX5_coolDown_24 ?_
    obtain ⟨g_27, h⟩ := gd_some h
    refine lv_idiv hx hb dX5_coolDown_27 g_27 ?_
    refine lv_isub hx hb dX5_coolDown_28 ?_
    obtain ⟨I_29, e_I_29, h⟩ := lt_some h
    refine r_put C fr_X5_78 (Or.inl rfl) hW a_o1 k_o1 rfl rfl rfl dX5_coolDown_29 (fun H locs hW => ?_)
    rw [← e_I_29] at hW
    have h := Option.some.inj h
    subst h
    exact r_vret C hW dX5_coolDown_32
  · have h := (if_neg c_10).symm.trans h
    refine lv_iconst (v := 0) hx hb dX5_coolDown_13 (by decide) ?_
    refine lv_goto (tgt := 28) hx hb dX5_coolDown_14 (by decide) ?_
    refine lv_isub hx hb dX5_coolDown_28 ?_
    obtain ⟨I_29, e_I_29, h⟩ := lt_some h
    refine r_put C fr_X5_78 (Or.inl rfl) hW a_o1 k_o1 rfl rfl rfl dX5_coolDown_29 (fun H locs hW => ?_)
    rw [← e_I_29] at hW
    have h := Option.some.inj h
    subst h
    exact r_vret C hW dX5_coolDown_32
def f_X5_flowAt_22  : Nat → MI → MR → Nat → Int32 → Int32 → Int32 → Option (Int32)
  | 0, _, _, _, _, _, _ => none
  | nn + 1, I, R, o0, x1, x2, x3 => (if (I o0 7) ≤ x3 then (some (x2)) else ((if 8 ≤ x3 then (some (x2)) else (gd (ix x3 (ln (o0 + 1))) ((if x1 < (I (o0 + 1) x3.toNatClampNeg) then (f_X5_flowAt_22 nn I R o0 x1 x2 (x3 + 1)) else (gd (ix x3 (ln (o0 + 2))) (lt (I (o0 + 2) x3.toNatClampNeg) (fun v_52 => f_X5_flowAt_22 nn I R o0 x1 v_52 (x3 + 1))))))))))
set_option maxHeartbeats 4000000 in
set_option maxRecDepth 100000 in
theorem t_X5_flowAt_22 {p : Program} {l : Launch} {e : Env} {s : State} {m : MethodId} {args : Array Value} {below : List Frame} {meth : Method} {c : Code} {E : EV} {q : Nat → Nat} {al : Nat → Bool} {n : Nat} (C : CX p s m args meth c E cX5_flowAt RX5 4 (some .int)) {res : Int32}   : ∀ (nn : Nat) {I : MI} {R : MR} {o0 : Nat} {x1 : Int32} {x2 : Int32} {x3 : Int32} {H : Heap} {locs : List Loc} {ls : Array Slot} (a_o0 : al o0 = true) (k_o0 : kd o0 = 5) (h : f_X5_flowAt_22 nn I R o0 x1 x2 x3 = some res) (hW : Wd E q al s.heap I R n H locs) (hF : Fx al R) (hl : lv_has ls 4 [(0, .ref (q o0)), (1, .int x1), (2, .int x2), (3, .int x3)]), W p l e (rmL 1 0 0) s m args below meth c H locs 0 0 (MQ below (Pst E q (some (.int res)) al I R n) args s 0 0 (Bs E)) (F0 m 22 ls []) := by
  have hx := C.1
  have hb := C.2.1
  intro nn
  induction nn with
  | zero =>
    intro I R o0 x1 x2 x3 H locs ls a_o0 k_o0 h
    cases (show (none : Option (Int32)) = some res from h)
  | succ nn ih =>
    intro I R o0 x1 x2 x3 H locs ls a_o0 k_o0 h hW hF hl
    rw [f_X5_flowAt_22.eq_2] at h
    refine lv_iload_n hx hb dX5_flowAt_22 rfl (lv_at hl 3 rfl) ?_
    refine lv_aload_n hx hb dX5_flowAt_23 rfl (lv_at hl 0 rfl) ?_
    refine r_get C fr_X5_34 hW a_o0 k_o0 rfl dX5_flowAt_24 ?_
    refine lv_icmp_ge (tgt := 59) hx hb dX5_flowAt_27 (by decide) (fun c_27 => ?_) (fun c_27 => ?_)
    · have h := (if_pos c_27).symm.trans h
      refine lv_iload_n hx hb dX5_flowAt_59 rfl (lv_at hl 2 rfl) ?_
      have h := Option.some.inj h
      subst h
      exact r_iret C hW dX5_flowAt_60
    · have h := (if_neg c_27).symm.trans h
      refine lv_iload_n hx hb dX5_flowAt_30 rfl (lv_at hl 3 rfl) ?_
      refine lv_bipush (v := 8) hx hb dX5_flowAt_31 (by decide) ?_
      refine lv_icmp_ge (tgt := 59) hx hb dX5_flowAt_33 (by decide) (fun c_33 => ?_) (fun c_33 => ?_)
      · have h := (if_pos c_33).symm.trans h
        refine lv_iload_n hx hb dX5_flowAt_59 rfl (lv_at hl 2 rfl) ?_
        have h := Option.some.inj h
        subst h
        exact r_iret C hW dX5_flowAt_60
      · have h := (if_neg c_33).symm.trans h
        refine lv_aload_n hx hb dX5_flowAt_36 rfl (lv_at hl 0 rfl) ?_
        have ap_37 : al (o0 + 1) = true := hW.cl a_o0 (hF _ 5 _ a_o0 (fx5a k_o0))
        have kp_37 : kd (o0 + 1) = 10 := hW.kn a_o0 (hF _ 5 _ a_o0 (fx5a k_o0)) (by rw [k_o0]; rfl)
        refine r_getq C fr_X5_27 hW a_o0 k_o0 rfl (hF _ 5 _ a_o0 (fx5a k_o0)) dX5_flowAt_37 ?_
        refine lv_iload_n hx hb dX5_flowAt_40 rfl (lv_at hl 3 rfl) ?_
        obtain ⟨g_41, h⟩ := gd_some h
        refine r_iald C hW ap_37 kp_37 (ix_in g_41) dX5_flowAt_41 ?_
        refine lv_iload_n hx hb dX5_flowAt_42 rfl (lv_at hl 1 rfl) ?_
        refine lv_icmp_gt (tgt := 53) hx hb dX5_flowAt_43 (by decide) (fun c_43 => ?_) (fun c_43 => ?_)
        · have h := (if_pos c_43).symm.trans h
          refine lv_iinc (v := x3 + 1) (lv' := [(3, .int (x3 + 1)), (0, .ref (q o0)), (1, .int x1), (2, .int x2)]) hx hb dX5_flowAt_53 hl (k := 3) rfl rfl (by decide) rfl (fun ls hl => ?_)
          refine lv_goto (tgt := 22) hx hb dX5_flowAt_56 (by decide) ?_
          exact ih a_o0 k_o0 h hW hF (lv_sub hl [1, 2, 3, 0] rfl)
        · have h := (if_neg c_43).symm.trans h
          refine lv_aload_n hx hb dX5_flowAt_46 rfl (lv_at hl 0 rfl) ?_
          have ap_47 : al (o0 + 2) = true := hW.cl a_o0 (hF _ 6 _ a_o0 (fx5b k_o0))
          have kp_47 : kd (o0 + 2) = 10 := hW.kn a_o0 (hF _ 6 _ a_o0 (fx5b k_o0)) (by rw [k_o0]; rfl)
          refine r_getq C fr_X5_31 hW a_o0 k_o0 rfl (hF _ 6 _ a_o0 (fx5b k_o0)) dX5_flowAt_47 ?_
          refine lv_iload_n hx hb dX5_flowAt_50 rfl (lv_at hl 3 rfl) ?_
          obtain ⟨g_51, h⟩ := gd_some h
          refine r_iald C hW ap_47 kp_47 (ix_in g_51) dX5_flowAt_51 ?_
          obtain ⟨v_52, e_v_52, h⟩ := lt_some h
          rw [← e_v_52]
          refine lv_istore_n (lv' := [(2, .int v_52), (0, .ref (q o0)), (1, .int x1), (3, .int x3)]) hx hb dX5_flowAt_52 rfl hl (by decide) rfl (fun ls hl => ?_)
          refine lv_iinc (v := x3 + 1) (lv' := [(3, .int (x3 + 1)), (2, .int v_52), (0, .ref (q o0)), (1, .int x1)]) hx hb dX5_flowAt_53 hl (k := 3) rfl rfl (by decide) rfl (fun ls hl => ?_)
          refine lv_goto (tgt := 22) hx hb dX5_flowAt_56 (by decide) ?_
          exact ih a_o0 k_o0 h hW hF (lv_sub hl [2, 3, 1, 0] rfl)
def f_X5_flowAt (I : MI) (R : MR) (o0 : Nat) (x1 : Int32) : Option (Int32) := (if 0 ≤ x1 then ((if (I o0 7) = 0 then (f_X5_flowAt_22 1000000 I R o0 x1 20 0) else (f_X5_flowAt_22 1000000 I R o0 x1 0 0))) else (some (0)))
set_option maxHeartbeats 4000000 in
set_option maxRecDepth 100000 in
theorem c_X5_flowAt {l : Launch} {E : EV} {q : Nat → Nat} {al : Nat → Bool} {n : Nat} {I : MI} {R : MR} {o0 : Nat} {x1 : Int32} (a_o0 : al o0 = true) (k_o0 : kd o0 = 5) (hF : Fx al R) {res : Int32} (h : f_X5_flowAt I R o0 x1 = some res) : Ct l yX5_flowAt cX5_flowAt 4 (some .int) 1 0 0 E q al I R n [.ref (q o0), .int x1] (some (.int res)) al I R n := by
  refine Ct.of (own := RX5) (mn := "flowAt") (by decide) rfl rfl (Nat.le_of_ble_eq_true rfl) ?_
  intro p e s m args below meth c ls C hmn hargs hW hl
  have hx := C.1
  have hb := C.2.1
  have hl : lv_has ls 4 [(0, .ref (q o0)), (1, .int x1)] := hl
  unfold f_X5_flowAt at h
  refine lv_iload_n hx hb dX5_flowAt_0 rfl (lv_at hl 1 rfl) ?_
  refine lv_if_ge (tgt := 6) hx hb dX5_flowAt_1 (by decide) (fun c_1 => ?_) (fun c_1 => ?_)
  · have h := (if_pos c_1).symm.trans h
    refine lv_aload_n hx hb dX5_flowAt_6 rfl (lv_at hl 0 rfl) ?_
    refine r_get C fr_X5_34 hW a_o0 k_o0 rfl dX5_flowAt_7 ?_
    refine lv_if_ne (tgt := 18) hx hb dX5_flowAt_10 (by decide) (fun c_10 => ?_) (fun c_10 => ?_)
    · have h := (if_neg c_10).symm.trans h
      refine lv_iconst (v := 0) hx hb dX5_flowAt_18 (by decide) ?_
      refine lv_istore_n (lv' := [(2, .int 0), (0, .ref (q o0)), (1, .int x1)]) hx hb dX5_flowAt_19 rfl hl (by decide) rfl (fun ls hl => ?_)
      refine lv_iconst (v := 0) hx hb dX5_flowAt_20 (by decide) ?_
      refine lv_istore_n (lv' := [(3, .int 0), (2, .int 0), (0, .ref (q o0)), (1, .int x1)]) hx hb dX5_flowAt_21 rfl hl (by decide) rfl (fun ls hl => ?_)
      exact t_X5_flowAt_22 C 1000000 a_o0 k_o0 h hW hF (lv_sub hl [2, 3, 1, 0] rfl)
    · have h := (if_pos c_10).symm.trans h
      refine lv_bipush (v := 20) hx hb dX5_flowAt_13 (by decide) ?_
      refine lv_goto (tgt := 19) hx hb dX5_flowAt_15 (by decide) ?_
      refine lv_istore_n (lv' := [(2, .int 20), (0, .ref (q o0)), (1, .int x1)]) hx hb dX5_flowAt_19 rfl hl (by decide) rfl (fun ls hl => ?_)
      refine lv_iconst (v := 0) hx hb dX5_flowAt_20 (by decide) ?_
      refine lv_istore_n (lv' := [(3, .int 0), (2, .int 20), (0, .ref (q o0)), (1, .int x1)]) hx hb dX5_flowAt_21 rfl hl (by decide) rfl (fun ls hl => ?_)
      exact t_X5_flowAt_22 C 1000000 a_o0 k_o0 h hW hF (lv_sub hl [2, 3, 1, 0] rfl)
  · have h := (if_neg c_1).symm.trans h
    refine lv_iconst (v := 0) hx hb dX5_flowAt_4 (by decide) ?_
    have h := Option.some.inj h
    subst h
    exact r_iret C hW dX5_flowAt_5
def f_X5_init (q : Nat → Nat) (I : MI) (R : MR) (al : Nat → Bool) (n : Nat) (o0 : Nat) : Option (MI × MR) := lt (p2 I o0 0 10) (fun I_7 => lt (p2 I_7 o0 1 10) (fun I_13 => lt (p2 I_13 o0 2 85) (fun I_19 => lt (p2 I_19 o0 3 20) (fun I_25 => lt (p2 I_25 o0 4 1) (fun I_30 => gd (al (o0 + 1) = false ∧ q (o0 + 1) = n ∧ kd (o0 + 1) = 10 ∧ (8 : Int32).toNatClampNeg = ln (o0 + 1)) (lt (zI I_30 (o0 + 1)) (fun I_36 => lt (zR R (o0 + 1)) (fun R_36 => lt (pq R_36 o0 5 (some (o0 + 1))) (fun R_38 => gd ((alu al (o0 + 1)) (o0 + 2) = false ∧ q (o0 + 2) = (n + 1) ∧ kd (o0 + 2) = 10 ∧ (8 : Int32).toNatClampNeg = ln (o0 + 2)) (lt (zI I_36 (o0 + 2)) (fun I_44 => lt (zR R_38 (o0 + 2)) (fun R_44 => lt (pq R_44 o0 6 (some (o0 + 2))) (fun R_46 => lt (p2 I_44 o0 7 0) (fun I_51 => some (I_51, R_46)))))))))))))))
set_option maxHeartbeats 4000000 in
set_option maxRecDepth 100000 in
theorem c_X5_init {l : Launch} {E : EV} {q : Nat → Nat} {al : Nat → Bool} {n : Nat} {I : MI} {R : MR} {o0 : Nat} (a_o0 : al o0 = true) (k_o0 : kd o0 = 5) {res : MI × MR} (h : f_X5_init q I R al n o0 = some res) : Ct l yX5_init cX5_init 1 none 1 2 16 E q al I R n [.ref (q o0)] none (alu (alu al (o0 + 1)) (o0 + 2)) res.1 res.2 ((n + 1) + 1) := by
  refine Ct.of (own := RX5) (mn := "<init>") (by decide) rfl rfl (Nat.le_of_ble_eq_true rfl) ?_
  intro p e s m args below meth c ls C hmn hargs hW hl
  have hx := C.1
  have hb := C.2.1
  have hl : lv_has ls 1 [(0, .ref (q o0))] := hl
  unfold f_X5_init at h
  refine lv_aload_n hx hb dX5_init_0 rfl (lv_at hl 0 rfl) ?_
  refine r_obj C gm_225 gm_21 gm_22 hl.1 ⟨Nat.le_of_ble_eq_true rfl, Nat.le_of_ble_eq_true rfl⟩ dX5_init_1 ?_
  refine lv_aload_n hx hb dX5_init_4 rfl (lv_at hl 0 rfl) ?_
  refine lv_bipush (v := 10) hx hb dX5_init_5 (by decide) ?_
  obtain ⟨I_7, e_I_7, h⟩ := lt_some h
  refine r_put C fr_X5_9 (Or.inl rfl) hW a_o0 k_o0 rfl rfl rfl dX5_init_7 (fun H locs hW => ?_)
  rw [← e_I_7] at hW
  refine lv_aload_n hx hb dX5_init_10 rfl (lv_at hl 0 rfl) ?_
  refine lv_bipush (v := 10) hx hb dX5_init_11 (by decide) ?_
  obtain ⟨I_13, e_I_13, h⟩ := lt_some h
  refine r_put C fr_X5_15 (Or.inl rfl) hW a_o0 k_o0 rfl rfl rfl dX5_init_13 (fun H locs hW => ?_)
  rw [← e_I_13] at hW
  refine lv_aload_n hx hb dX5_init_16 rfl (lv_at hl 0 rfl) ?_
  refine lv_bipush (v := 85) hx hb dX5_init_17 (by decide) ?_
  obtain ⟨I_19, e_I_19, h⟩ := lt_some h
  refine r_put C fr_X5_18 (Or.inl rfl) hW a_o0 k_o0 rfl rfl rfl dX5_init_19 (fun H locs hW => ?_)
  rw [← e_I_19] at hW
  refine lv_aload_n hx hb dX5_init_22 rfl (lv_at hl 0 rfl) ?_
  refine lv_bipush (v := 20) hx hb dX5_init_23 (by decide) ?_
  obtain ⟨I_25, e_I_25, h⟩ := lt_some h
  refine r_put C fr_X5_21 (Or.inl rfl) hW a_o0 k_o0 rfl rfl rfl dX5_init_25 (fun H locs hW => ?_)
  rw [← e_I_25] at hW
  refine lv_aload_n hx hb dX5_init_28 rfl (lv_at hl 0 rfl) ?_
  refine lv_iconst (v := 1) hx hb dX5_init_29 (by decide) ?_
  obtain ⟨I_30, e_I_30, h⟩ := lt_some h
  refine r_put C fr_X5_24 (Or.inl rfl) hW a_o0 k_o0 rfl rfl rfl dX5_init_30 (fun H locs hW => ?_)
  rw [← e_I_30] at hW
  refine lv_aload_n hx hb dX5_init_33 rfl (lv_at hl 0 rfl) ?_
  refine lv_bipush (v := 8) hx hb dX5_init_34 (by decide) ?_
  obtain ⟨g_36, h⟩ := gd_some h
  obtain ⟨I_36, e_I_36, h⟩ := lt_some h
  obtain ⟨R_36, e_R_36, h⟩ := lt_some h
  refine r_newa (at_ := .int) C gm_41 (Or.inr (Or.inl ⟨rfl, rfl⟩)) hW g_36.1 g_36.2.1 g_36.2.2.1 (by decide) g_36.2.2.2 (by rw [← g_36.2.2.2]; decide) (by decide) (by rw [← g_36.2.2.2]; decide) dX5_init_36 (fun H hW => ?_)
  rw [← g_36.2.2.2]
  rw [← e_I_36, ← e_R_36] at hW
  refine W.widen (k := 1) (n := 8) (by decide) (by decide) ?_
  have a_o0_36 : (alu al (o0 + 1)) o0 = true := alu_old a_o0
  have a__o0___1__36 : (alu al (o0 + 1)) (o0 + 1) = true := alu_new
  have k__o0___1__36 : kd (o0 + 1) = 10 := g_36.2.2.1
  obtain ⟨R_38, e_R_38, h⟩ := lt_some h
  refine r_putq C fr_X5_27 (Or.inr ⟨rfl, hmn, ⟨_, rfl, rfl⟩⟩) hW a_o0_36 k_o0 rfl a__o0___1__36 k__o0___1__36 rfl rfl dX5_init_38 (fun H locs hW => ?_)
  rw [← e_R_38] at hW
  refine lv_aload_n hx hb dX5_init_41 rfl (lv_at hl 0 rfl) ?_
  refine lv_bipush (v := 8) hx hb dX5_init_42 (by decide) ?_
  obtain ⟨g_44, h⟩ := gd_some h
  obtain ⟨I_44, e_I_44, h⟩ := lt_some h
  obtain ⟨R_44, e_R_44, h⟩ := lt_some h
  refine r_newa (at_ := .int) C gm_41 (Or.inr (Or.inl ⟨rfl, rfl⟩)) hW g_44.1 g_44.2.1 g_44.2.2.1 (by decide) g_44.2.2.2 (by rw [← g_44.2.2.2]; decide) (by decide) (by rw [← g_44.2.2.2]; decide) dX5_init_44 (fun H hW => ?_)
  rw [← g_44.2.2.2]
  rw [← e_I_44, ← e_R_44] at hW
  refine W.widen (k := 2) (n := 16) (by decide) (by decide) ?_
  have a_o0_44 : (alu (alu al (o0 + 1)) (o0 + 2)) o0 = true := alu_old a_o0_36
  have a__o0___1__44 : (alu (alu al (o0 + 1)) (o0 + 2)) (o0 + 1) = true := alu_old a__o0___1__36
  have a__o0___2__44 : (alu (alu al (o0 + 1)) (o0 + 2)) (o0 + 2) = true := alu_new
  have k__o0___2__44 : kd (o0 + 2) = 10 := g_44.2.2.1
  obtain ⟨R_46, e_R_46, h⟩ := lt_some h
  refine r_putq C fr_X5_31 (Or.inr ⟨rfl, hmn, ⟨_, rfl, rfl⟩⟩) hW a_o0_44 k_o0 rfl a__o0___2__44 k__o0___2__44 rfl rfl dX5_init_46 (fun H locs hW => ?_)
  rw [← e_R_46] at hW
  refine lv_aload_n hx hb dX5_init_49 rfl (lv_at hl 0 rfl) ?_
  refine lv_iconst (v := 0) hx hb dX5_init_50 (by decide) ?_
  obtain ⟨I_51, e_I_51, h⟩ := lt_some h
  refine r_put C fr_X5_34 (Or.inl rfl) hW a_o0_44 k_o0 rfl rfl rfl dX5_init_51 (fun H locs hW => ?_)
  rw [← e_I_51] at hW
  have h := Option.some.inj h
  subst h
  exact r_vret C hW dX5_init_54
def f_X5_mostFlow_16  : Nat → MI → MR → Nat → Int32 → Int32 → Option (Int32)
  | 0, _, _, _, _, _ => none
  | nn + 1, I, R, o0, x1, x2 => (if (I o0 7) ≤ x2 then (some (x1)) else ((if 8 ≤ x2 then (some (x1)) else (gd (ix x2 (ln (o0 + 2))) (lt (if x1 < (I (o0 + 2) x2.toNatClampNeg) then (I (o0 + 2) x2.toNatClampNeg) else x1) (fun v_37 => f_X5_mostFlow_16 nn I R o0 v_37 (x2 + 1)))))))
set_option maxHeartbeats 4000000 in
set_option maxRecDepth 100000 in
theorem t_X5_mostFlow_16 {p : Program} {l : Launch} {e : Env} {s : State} {m : MethodId} {args : Array Value} {below : List Frame} {meth : Method} {c : Code} {E : EV} {q : Nat → Nat} {al : Nat → Bool} {n : Nat} (C : CX p s m args meth c E cX5_mostFlow RX5 3 (some .int)) {res : Int32}   : ∀ (nn : Nat) {I : MI} {R : MR} {o0 : Nat} {x1 : Int32} {x2 : Int32} {H : Heap} {locs : List Loc} {ls : Array Slot} (a_o0 : al o0 = true) (k_o0 : kd o0 = 5) (h : f_X5_mostFlow_16 nn I R o0 x1 x2 = some res) (hW : Wd E q al s.heap I R n H locs) (hF : Fx al R) (hl : lv_has ls 3 [(0, .ref (q o0)), (1, .int x1), (2, .int x2)]), W p l e (rmL 1 0 0) s m args below meth c H locs 0 0 (MQ below (Pst E q (some (.int res)) al I R n) args s 0 0 (Bs E)) (F0 m 16 ls []) := by
  have hx := C.1
  have hb := C.2.1
  intro nn
  induction nn with
  | zero =>
    intro I R o0 x1 x2 H locs ls a_o0 k_o0 h
    cases (show (none : Option (Int32)) = some res from h)
  | succ nn ih =>
    intro I R o0 x1 x2 H locs ls a_o0 k_o0 h hW hF hl
    rw [f_X5_mostFlow_16.eq_2] at h
    refine lv_iload_n hx hb dX5_mostFlow_16 rfl (lv_at hl 2 rfl) ?_
    refine lv_aload_n hx hb dX5_mostFlow_17 rfl (lv_at hl 0 rfl) ?_
    refine r_get C fr_X5_34 hW a_o0 k_o0 rfl dX5_mostFlow_18 ?_
    refine lv_icmp_ge (tgt := 47) hx hb dX5_mostFlow_21 (by decide) (fun c_21 => ?_) (fun c_21 => ?_)
    · have h := (if_pos c_21).symm.trans h
      refine lv_iload_n hx hb dX5_mostFlow_47 rfl (lv_at hl 1 rfl) ?_
      have h := Option.some.inj h
      subst h
      exact r_iret C hW dX5_mostFlow_48
    · have h := (if_neg c_21).symm.trans h
      refine lv_iload_n hx hb dX5_mostFlow_24 rfl (lv_at hl 2 rfl) ?_
      refine lv_bipush (v := 8) hx hb dX5_mostFlow_25 (by decide) ?_
      refine lv_icmp_ge (tgt := 47) hx hb dX5_mostFlow_27 (by decide) (fun c_27 => ?_) (fun c_27 => ?_)
      · have h := (if_pos c_27).symm.trans h
        refine lv_iload_n hx hb dX5_mostFlow_47 rfl (lv_at hl 1 rfl) ?_
        have h := Option.some.inj h
        subst h
        exact r_iret C hW dX5_mostFlow_48
      · have h := (if_neg c_27).symm.trans h
        refine lv_iload_n hx hb dX5_mostFlow_30 rfl (lv_at hl 1 rfl) ?_
        refine lv_aload_n hx hb dX5_mostFlow_31 rfl (lv_at hl 0 rfl) ?_
        have ap_32 : al (o0 + 2) = true := hW.cl a_o0 (hF _ 6 _ a_o0 (fx5b k_o0))
        have kp_32 : kd (o0 + 2) = 10 := hW.kn a_o0 (hF _ 6 _ a_o0 (fx5b k_o0)) (by rw [k_o0]; rfl)
        refine r_getq C fr_X5_31 hW a_o0 k_o0 rfl (hF _ 6 _ a_o0 (fx5b k_o0)) dX5_mostFlow_32 ?_
        refine lv_iload_n hx hb dX5_mostFlow_35 rfl (lv_at hl 2 rfl) ?_
        obtain ⟨g_36, h⟩ := gd_some h
        refine r_iald C hW ap_32 kp_32 (ix_in g_36) dX5_mostFlow_36 ?_
        obtain ⟨v_37, e_v_37, h⟩ := lt_some h
        refine r_max C gm_644 gm_573 gm_14 gm_574 hl.1 ⟨Nat.le_of_ble_eq_true rfl, Nat.le_of_ble_eq_true rfl, Nat.le_of_ble_eq_true rfl, Nat.le_of_ble_eq_true rfl⟩ dX5_mostFlow_37 ?_
        rw [← e_v_37]
        refine lv_istore_n (lv' := [(1, .int v_37), (0, .ref (q o0)), (2, .int x2)]) hx hb dX5_mostFlow_40 rfl hl (by decide) rfl (fun ls hl => ?_)
        refine lv_iinc (v := x2 + 1) (lv' := [(2, .int (x2 + 1)), (1, .int v_37), (0, .ref (q o0))]) hx hb dX5_mostFlow_41 hl (k := 2) rfl rfl (by decide) rfl (fun ls hl => ?_)
        refine lv_goto (tgt := 16) hx hb dX5_mostFlow_44 (by decide) ?_
        exact ih a_o0 k_o0 h hW hF (lv_sub hl [2, 1, 0] rfl)
def f_X5_mostFlow (I : MI) (R : MR) (o0 : Nat) : Option (Int32) := (if (I o0 7) = 0 then (f_X5_mostFlow_16 1000000 I R o0 20 0) else (f_X5_mostFlow_16 1000000 I R o0 0 0))
set_option maxHeartbeats 4000000 in
set_option maxRecDepth 100000 in
theorem c_X5_mostFlow {l : Launch} {E : EV} {q : Nat → Nat} {al : Nat → Bool} {n : Nat} {I : MI} {R : MR} {o0 : Nat} (a_o0 : al o0 = true) (k_o0 : kd o0 = 5) (hF : Fx al R) {res : Int32} (h : f_X5_mostFlow I R o0 = some res) : Ct l yX5_mostFlow cX5_mostFlow 3 (some .int) 1 0 0 E q al I R n [.ref (q o0)] (some (.int res)) al I R n := by
  refine Ct.of (own := RX5) (mn := "mostFlow") (by decide) rfl rfl (Nat.le_of_ble_eq_true rfl) ?_
  intro p e s m args below meth c ls C hmn hargs hW hl
  have hx := C.1
  have hb := C.2.1
  have hl : lv_has ls 3 [(0, .ref (q o0))] := hl
  unfold f_X5_mostFlow at h
  refine lv_aload_n hx hb dX5_mostFlow_0 rfl (lv_at hl 0 rfl) ?_
  refine r_get C fr_X5_34 hW a_o0 k_o0 rfl dX5_mostFlow_1 ?_
  refine lv_if_ne (tgt := 12) hx hb dX5_mostFlow_4 (by decide) (fun c_4 => ?_) (fun c_4 => ?_)
  · have h := (if_neg c_4).symm.trans h
    refine lv_iconst (v := 0) hx hb dX5_mostFlow_12 (by decide) ?_
    refine lv_istore_n (lv' := [(1, .int 0), (0, .ref (q o0))]) hx hb dX5_mostFlow_13 rfl hl (by decide) rfl (fun ls hl => ?_)
    refine lv_iconst (v := 0) hx hb dX5_mostFlow_14 (by decide) ?_
    refine lv_istore_n (lv' := [(2, .int 0), (1, .int 0), (0, .ref (q o0))]) hx hb dX5_mostFlow_15 rfl hl (by decide) rfl (fun ls hl => ?_)
    exact t_X5_mostFlow_16 C 1000000 a_o0 k_o0 h hW hF (lv_sub hl [2, 1, 0] rfl)
  · have h := (if_pos c_4).symm.trans h
    refine lv_bipush (v := 20) hx hb dX5_mostFlow_7 (by decide) ?_
    refine lv_goto (tgt := 13) hx hb dX5_mostFlow_9 (by decide) ?_
    refine lv_istore_n (lv' := [(1, .int 20), (0, .ref (q o0))]) hx hb dX5_mostFlow_13 rfl hl (by decide) rfl (fun ls hl => ?_)
    refine lv_iconst (v := 0) hx hb dX5_mostFlow_14 (by decide) ?_
    refine lv_istore_n (lv' := [(2, .int 0), (1, .int 20), (0, .ref (q o0))]) hx hb dX5_mostFlow_15 rfl hl (by decide) rfl (fun ls hl => ?_)
    exact t_X5_mostFlow_16 C 1000000 a_o0 k_o0 h hW hF (lv_sub hl [2, 1, 0] rfl)
def f_X5_moveOver (I : MI) (R : MR) (o0 : Nat) (o1 : Nat) (o2 : Nat) (x3 : Int32) : Option (MI) := lt (p2 I o1 1 ((I o1 1) - x3)) (fun I_7 => lt (p2 I_7 o1 3 ((I_7 o1 3) + x3)) (fun I_17 => lt (p2 I_17 o2 1 ((I_17 o2 1) + x3)) (fun I_27 => lt (p2 I_27 o2 8 ((I_27 o2 8) + x3)) (fun I_37 => (if 1 ≤ (I_37 o2 0) then (gd (¬ (I_37 o2 0) = 0) (lt (p2 I_37 o2 3 ((I_37 o2 3) + ((x3 * (I_37 o0 0)) / (I_37 o2 0)))) (fun I_69 => some (I_69)))) else (lt (p2 I_37 o2 3 ((I_37 o2 3) + 0)) (fun I_69 => some (I_69))))))))
set_option maxHeartbeats 4000000 in
set_option maxRecDepth 100000 in
theorem c_X5_moveOver {l : Launch} {E : EV} {q : Nat → Nat} {al : Nat → Bool} {n : Nat} {I : MI} {R : MR} {o0 : Nat} {o1 : Nat} {o2 : Nat} {x3 : Int32} (a_o0 : al o0 = true) (k_o0 : kd o0 = 5) (a_o1 : al o1 = true) (k_o1 : kd o1 = 0) (a_o2 : al o2 = true) (k_o2 : kd o2 = 2) {res : MI} (h : f_X5_moveOver I R o0 o1 o2 x3 = some res) : Ct l yX5_moveOver cX5_moveOver 4 none 1 0 0 E q al I R n [.ref (q o0), .ref (q o1), .ref (q o2), .int x3] none al res R n := by
  refine Ct.of (own := RX5) (mn := "moveOver") (by decide) rfl rfl (Nat.le_of_ble_eq_true rfl) ?_
  intro p e s m args below meth c ls C hmn hargs hW hl
  have hx := C.1
  have hb := C.2.1
  have hl : lv_has ls 4 [(0, .ref (q o0)), (1, .ref (q o1)), (2, .ref (q o2)), (3, .int x3)] := hl
  unfold f_X5_moveOver at h
  refine lv_aload_n hx hb dX5_moveOver_0 rfl (lv_at hl 1 rfl) ?_
  refine lv_dup hx hb dX5_moveOver_1 rfl ?_
  refine r_get C fr_X5_70 hW a_o1 k_o1 rfl dX5_moveOver_2 ?_
  refine lv_iload_n hx hb dX5_moveOver_5 rfl (lv_at hl 3 rfl) ?_
  refine lv_isub hx hb dX5_moveOver_6 ?_
  obtain ⟨I_7, e_I_7, h⟩ := lt_some h
  refine r_put C fr_X5_70 (Or.inl rfl) hW a_o1 k_o1 rfl rfl rfl dX5_moveOver_7 (fun H locs hW => ?_)
  rw [← e_I_7] at hW
  refine lv_aload_n hx hb dX5_moveOver_10 rfl (lv_at hl 1 rfl) ?_
  refine lv_dup hx hb dX5_moveOver_11 rfl ?_
  refine r_get C fr_X5_81 hW a_o1 k_o1 rfl dX5_moveOver_12 ?_
  refine lv_iload_n hx hb dX5_moveOver_15 rfl (lv_at hl 3 rfl) ?_
  refine lv_iadd hx hb dX5_moveOver_16 ?_
  obtain ⟨I_17, e_I_17, h⟩ := lt_some h
  refine r_put C fr_X5_81 (Or.inl rfl) hW a_o1 k_o1 rfl rfl rfl dX5_moveOver_17 (fun H locs hW => ?_)
  rw [← e_I_17] at hW
  refine lv_aload_n hx hb dX5_moveOver_20 rfl (lv_at hl 2 rfl) ?_
  refine lv_dup hx hb dX5_moveOver_21 rfl ?_
  refine r_get C fr_X5_76 hW a_o2 k_o2 rfl dX5_moveOver_22 ?_
  refine lv_iload_n hx hb dX5_moveOver_25 rfl (lv_at hl 3 rfl) ?_
  refine lv_iadd hx hb dX5_moveOver_26 ?_
  obtain ⟨I_27, e_I_27, h⟩ := lt_some h
  refine r_put C fr_X5_76 (Or.inl rfl) hW a_o2 k_o2 rfl rfl rfl dX5_moveOver_27 (fun H locs hW => ?_)
  rw [← e_I_27] at hW
  refine lv_aload_n hx hb dX5_moveOver_30 rfl (lv_at hl 2 rfl) ?_
  refine lv_dup hx hb dX5_moveOver_31 rfl ?_
  refine r_get C fr_X5_84 hW a_o2 k_o2 rfl dX5_moveOver_32 ?_
  refine lv_iload_n hx hb dX5_moveOver_35 rfl (lv_at hl 3 rfl) ?_
  refine lv_iadd hx hb dX5_moveOver_36 ?_
  obtain ⟨I_37, e_I_37, h⟩ := lt_some h
  refine r_put C fr_X5_84 (Or.inl rfl) hW a_o2 k_o2 rfl rfl rfl dX5_moveOver_37 (fun H locs hW => ?_)
  rw [← e_I_37] at hW
  refine lv_aload_n hx hb dX5_moveOver_40 rfl (lv_at hl 2 rfl) ?_
  refine lv_dup hx hb dX5_moveOver_41 rfl ?_
  refine r_get C fr_X5_78 hW a_o2 k_o2 rfl dX5_moveOver_42 ?_
  refine lv_aload_n hx hb dX5_moveOver_45 rfl (lv_at hl 2 rfl) ?_
  refine r_get C fr_X5_73 hW a_o2 k_o2 rfl dX5_moveOver_46 ?_
  refine lv_iconst (v := 1) hx hb dX5_moveOver_49 (by decide) ?_
  refine lv_icmp_ge (tgt := 57) hx hb dX5_moveOver_50 (by decide) (fun c_50 => ?_) (fun c_50 => ?_)
  · have h := (if_pos c_50).symm.trans h
    refine lv_iload_n hx hb dX5_moveOver_57 rfl (lv_at hl 3 rfl) ?_
    refine lv_aload_n hx hb dX5_moveOver_58 rfl (lv_at hl 0 rfl) ?_
    refine r_get C fr_X5_9 hW a_o0 k_o0 rfl dX5_moveOver_59 ?_
    refine lv_imul hx hb dX5_moveOver_62 ?_
    refine lv_aload_n hx hb dX5_moveOver_63 rfl (lv_at hl 2 rfl) ?_
    refine r_get C fr_X5_73 hW a_o2 k_o2 rfl dX5_moveOver_64 ?_
    obtain ⟨g_67, h⟩ := gd_some h
    refine lv_idiv hx hb dX5_moveOver_67 g_67 ?_
    refine lv_iadd hx hb dX5_moveOver_68 ?_
    obtain ⟨I_69, e_I_69, h⟩ := lt_some h
    refine r_put C fr_X5_78 (Or.inl rfl) hW a_o2 k_o2 rfl rfl rfl dX5_moveOver_69 (fun H locs hW => ?_)
    rw [← e_I_69] at hW
    have h := Option.some.inj h
    subst h
    exact r_vret C hW dX5_moveOver_72
  · have h := (if_neg c_50).symm.trans h
    refine lv_iconst (v := 0) hx hb dX5_moveOver_53 (by decide) ?_
    refine lv_goto (tgt := 68) hx hb dX5_moveOver_54 (by decide) ?_
    refine lv_iadd hx hb dX5_moveOver_68 ?_
    obtain ⟨I_69, e_I_69, h⟩ := lt_some h
    refine r_put C fr_X5_78 (Or.inl rfl) hW a_o2 k_o2 rfl rfl rfl dX5_moveOver_69 (fun H locs hW => ?_)
    rw [← e_I_69] at hW
    have h := Option.some.inj h
    subst h
    exact r_vret C hW dX5_moveOver_72
def f_X5_nextFrom (I : MI) (R : MR) (o0 : Nat) : Option (Int32) := (if (I o0 7) < 1 then (some (0)) else ((if 8 < (I o0 7) then (some (0)) else (gd (ix ((I o0 7) - 1) (ln (o0 + 1))) (some ((I (o0 + 1) ((I o0 7) - 1).toNatClampNeg) + 1))))))
set_option maxHeartbeats 4000000 in
set_option maxRecDepth 100000 in
theorem c_X5_nextFrom {l : Launch} {E : EV} {q : Nat → Nat} {al : Nat → Bool} {n : Nat} {I : MI} {R : MR} {o0 : Nat} (a_o0 : al o0 = true) (k_o0 : kd o0 = 5) (hF : Fx al R) {res : Int32} (h : f_X5_nextFrom I R o0 = some res) : Ct l yX5_nextFrom cX5_nextFrom 1 (some .int) 1 0 0 E q al I R n [.ref (q o0)] (some (.int res)) al I R n := by
  refine Ct.of (own := RX5) (mn := "nextFrom") (by decide) rfl rfl (Nat.le_of_ble_eq_true rfl) ?_
  intro p e s m args below meth c ls C hmn hargs hW hl
  have hx := C.1
  have hb := C.2.1
  have hl : lv_has ls 1 [(0, .ref (q o0))] := hl
  unfold f_X5_nextFrom at h
  refine lv_aload_n hx hb dX5_nextFrom_0 rfl (lv_at hl 0 rfl) ?_
  refine r_get C fr_X5_34 hW a_o0 k_o0 rfl dX5_nextFrom_1 ?_
  refine lv_iconst (v := 1) hx hb dX5_nextFrom_4 (by decide) ?_
  refine lv_icmp_lt (tgt := 33) hx hb dX5_nextFrom_5 (by decide) (fun c_5 => ?_) (fun c_5 => ?_)
  · have h := (if_pos c_5).symm.trans h
    refine lv_iconst (v := 0) hx hb dX5_nextFrom_33 (by decide) ?_
    have h := Option.some.inj h
    subst h
    exact r_iret C hW dX5_nextFrom_34
  · have h := (if_neg c_5).symm.trans h
    refine lv_aload_n hx hb dX5_nextFrom_8 rfl (lv_at hl 0 rfl) ?_
    refine r_get C fr_X5_34 hW a_o0 k_o0 rfl dX5_nextFrom_9 ?_
    refine lv_bipush (v := 8) hx hb dX5_nextFrom_12 (by decide) ?_
    refine lv_icmp_gt (tgt := 33) hx hb dX5_nextFrom_14 (by decide) (fun c_14 => ?_) (fun c_14 => ?_)
    · have h := (if_pos c_14).symm.trans h
      refine lv_iconst (v := 0) hx hb dX5_nextFrom_33 (by decide) ?_
      have h := Option.some.inj h
      subst h
      exact r_iret C hW dX5_nextFrom_34
    · have h := (if_neg c_14).symm.trans h
      refine lv_aload_n hx hb dX5_nextFrom_17 rfl (lv_at hl 0 rfl) ?_
      have ap_18 : al (o0 + 1) = true := hW.cl a_o0 (hF _ 5 _ a_o0 (fx5a k_o0))
      have kp_18 : kd (o0 + 1) = 10 := hW.kn a_o0 (hF _ 5 _ a_o0 (fx5a k_o0)) (by rw [k_o0]; rfl)
      refine r_getq C fr_X5_27 hW a_o0 k_o0 rfl (hF _ 5 _ a_o0 (fx5a k_o0)) dX5_nextFrom_18 ?_
      refine lv_aload_n hx hb dX5_nextFrom_21 rfl (lv_at hl 0 rfl) ?_
      refine r_get C fr_X5_34 hW a_o0 k_o0 rfl dX5_nextFrom_22 ?_
      refine lv_iconst (v := 1) hx hb dX5_nextFrom_25 (by decide) ?_
      refine lv_isub hx hb dX5_nextFrom_26 ?_
      obtain ⟨g_27, h⟩ := gd_some h
      refine r_iald C hW ap_18 kp_18 (ix_in g_27) dX5_nextFrom_27 ?_
      refine lv_iconst (v := 1) hx hb dX5_nextFrom_28 (by decide) ?_
      refine lv_iadd hx hb dX5_nextFrom_29 ?_
      refine lv_goto (tgt := 34) hx hb dX5_nextFrom_30 (by decide) ?_
      have h := Option.some.inj h
      subst h
      exact r_iret C hW dX5_nextFrom_34
def f_X5_unitsToEven (I : MI) (R : MR) (o0 : Nat) (o1 : Nat) (o2 : Nat) : Option (Int32) := lt (((I o1 1) * (I o2 0)) - ((I o2 1) * (I o1 0))) (fun v_19 => (if v_19 ≤ 0 then (some (0)) else ((if 1 ≤ ((I o1 0) + (I o2 0)) then (gd (¬ ((I o1 0) + (I o2 0)) = 0) (some (v_19 / ((I o1 0) + (I o2 0))))) else (some (0))))))
set_option maxHeartbeats 4000000 in
set_option maxRecDepth 100000 in
theorem c_X5_unitsToEven {l : Launch} {E : EV} {q : Nat → Nat} {al : Nat → Bool} {n : Nat} {I : MI} {R : MR} {o0 : Nat} {o1 : Nat} {o2 : Nat} (a_o0 : al o0 = true) (k_o0 : kd o0 = 5) (a_o1 : al o1 = true) (k_o1 : kd o1 = 0) (a_o2 : al o2 = true) (k_o2 : kd o2 = 2) {res : Int32} (h : f_X5_unitsToEven I R o0 o1 o2 = some res) : Ct l yX5_unitsToEven cX5_unitsToEven 5 (some .int) 1 0 0 E q al I R n [.ref (q o0), .ref (q o1), .ref (q o2)] (some (.int res)) al I R n := by
  refine Ct.of (own := RX5) (mn := "unitsToEven") (by decide) rfl rfl (Nat.le_of_ble_eq_true rfl) ?_
  intro p e s m args below meth c ls C hmn hargs hW hl
  have hx := C.1
  have hb := C.2.1
  have hl : lv_has ls 5 [(0, .ref (q o0)), (1, .ref (q o1)), (2, .ref (q o2))] := hl
  unfold f_X5_unitsToEven at h
  refine lv_aload_n hx hb dX5_unitsToEven_0 rfl (lv_at hl 1 rfl) ?_
  refine r_get C fr_X5_70 hW a_o1 k_o1 rfl dX5_unitsToEven_1 ?_
  refine lv_aload_n hx hb dX5_unitsToEven_4 rfl (lv_at hl 2 rfl) ?_
  refine r_get C fr_X5_73 hW a_o2 k_o2 rfl dX5_unitsToEven_5 ?_
  refine lv_imul hx hb dX5_unitsToEven_8 ?_
  refine lv_aload_n hx hb dX5_unitsToEven_9 rfl (lv_at hl 2 rfl) ?_
  refine r_get C fr_X5_76 hW a_o2 k_o2 rfl dX5_unitsToEven_10 ?_
  refine lv_aload_n hx hb dX5_unitsToEven_13 rfl (lv_at hl 1 rfl) ?_
  refine r_get C fr_X5_77 hW a_o1 k_o1 rfl dX5_unitsToEven_14 ?_
  refine lv_imul hx hb dX5_unitsToEven_17 ?_
  refine lv_isub hx hb dX5_unitsToEven_18 ?_
  obtain ⟨v_19, e_v_19, h⟩ := lt_some h
  rw [← e_v_19]
  refine lv_istore_n (lv' := [(3, .int v_19), (0, .ref (q o0)), (1, .ref (q o1)), (2, .ref (q o2))]) hx hb dX5_unitsToEven_19 rfl hl (by decide) rfl (fun ls hl => ?_)
  refine lv_aload_n hx hb dX5_unitsToEven_20 rfl (lv_at hl 2 rfl) ?_
  refine r_get C fr_X5_77 hW a_o1 k_o1 rfl dX5_unitsToEven_21 ?_
  refine lv_aload_n hx hb dX5_unitsToEven_24 rfl (lv_at hl 3 rfl) ?_
  refine r_get C fr_X5_73 hW a_o2 k_o2 rfl dX5_unitsToEven_25 ?_
  refine lv_iadd hx hb dX5_unitsToEven_28 ?_
  refine lv_istore (lv' := [(4, .int ((I o1 0) + (I o2 0))), (3, .int v_19), (0, .ref (q o0)), (1, .ref (q o1)), (2, .ref (q o2))]) hx hb dX5_unitsToEven_29 hl (by decide) rfl (fun ls hl => ?_)
  refine lv_iload_n hx hb dX5_unitsToEven_31 rfl (lv_at hl 1 rfl) ?_
  refine lv_if_le (tgt := 41) hx hb dX5_unitsToEven_32 (by decide) (fun c_32 => ?_) (fun c_32 => ?_)
  · have h := (if_pos c_32).symm.trans h
    refine lv_iconst (v := 0) hx hb dX5_unitsToEven_41 (by decide) ?_
    refine lv_goto (tgt := 49) hx hb dX5_unitsToEven_42 (by decide) ?_
    have h := Option.some.inj h
    subst h
    exact r_iret C hW dX5_unitsToEven_49
  · have h := (if_neg c_32).symm.trans h
    refine lv_iload hx hb dX5_unitsToEven_35 (lv_at hl 0 rfl) ?_
    refine lv_iconst (v := 1) hx hb dX5_unitsToEven_37 (by decide) ?_
    refine lv_icmp_ge (tgt := 45) hx hb dX5_unitsToEven_38 (by decide) (fun c_38 => ?_) (fun c_38 => ?_)
    · have h := (if_pos c_38).symm.trans h
      refine lv_iload_n hx hb dX5_unitsToEven_45 rfl (lv_at hl 1 rfl) ?_
      refine lv_iload hx hb dX5_unitsToEven_46 (lv_at hl 0 rfl) ?_
      obtain ⟨g_48, h⟩ := gd_some h
      refine lv_idiv hx hb dX5_unitsToEven_48 g_48 ?_
      have h := Option.some.inj h
      subst h
      exact r_iret C hW dX5_unitsToEven_49
    · have h := (if_neg c_38).symm.trans h
      refine lv_iconst (v := 0) hx hb dX5_unitsToEven_41 (by decide) ?_
      refine lv_goto (tgt := 49) hx hb dX5_unitsToEven_42 (by decide) ?_
      have h := Option.some.inj h
      subst h
      exact r_iret C hW dX5_unitsToEven_49
def f_X5_unitsToLimit (I : MI) (R : MR) (o0 : Nat) (o1 : Nat) : Option (Int32) := lt ((10 * (I o0 2)) - (I o1 3)) (fun v_12 => (if 0 ≤ v_12 then ((if 1 ≤ (I o0 0) then (gd (¬ (I o0 0) = 0) (some ((((v_12 + 1) * (I o1 0)) - 1) / (I o0 0)))) else (some (500)))) else (some (0))))
set_option maxHeartbeats 4000000 in
set_option maxRecDepth 100000 in
theorem c_X5_unitsToLimit {l : Launch} {E : EV} {q : Nat → Nat} {al : Nat → Bool} {n : Nat} {I : MI} {R : MR} {o0 : Nat} {o1 : Nat} (a_o0 : al o0 = true) (k_o0 : kd o0 = 5) (a_o1 : al o1 = true) (k_o1 : kd o1 = 2) {res : Int32} (h : f_X5_unitsToLimit I R o0 o1 = some res) : Ct l yX5_unitsToLimit cX5_unitsToLimit 3 (some .int) 1 0 0 E q al I R n [.ref (q o0), .ref (q o1)] (some (.int res)) al I R n := by
  refine Ct.of (own := RX5) (mn := "unitsToLimit") (by decide) rfl rfl (Nat.le_of_ble_eq_true rfl) ?_
  intro p e s m args below meth c ls C hmn hargs hW hl
  have hx := C.1
  have hb := C.2.1
  have hl : lv_has ls 3 [(0, .ref (q o0)), (1, .ref (q o1))] := hl
  unfold f_X5_unitsToLimit at h
  refine lv_bipush (v := 10) hx hb dX5_unitsToLimit_0 (by decide) ?_
  refine lv_aload_n hx hb dX5_unitsToLimit_2 rfl (lv_at hl 0 rfl) ?_
  refine r_get C fr_X5_18 hW a_o0 k_o0 rfl dX5_unitsToLimit_3 ?_
  refine lv_imul hx hb dX5_unitsToLimit_6 ?_
  refine lv_aload_n hx hb dX5_unitsToLimit_7 rfl (lv_at hl 1 rfl) ?_
  refine r_get C fr_X5_78 hW a_o1 k_o1 rfl dX5_unitsToLimit_8 ?_
  refine lv_isub hx hb dX5_unitsToLimit_11 ?_
  obtain ⟨v_12, e_v_12, h⟩ := lt_some h
  rw [← e_v_12]
  refine lv_istore_n (lv' := [(2, .int v_12), (0, .ref (q o0)), (1, .ref (q o1))]) hx hb dX5_unitsToLimit_12 rfl hl (by decide) rfl (fun ls hl => ?_)
  refine lv_iload_n hx hb dX5_unitsToLimit_13 rfl (lv_at hl 0 rfl) ?_
  refine lv_if_ge (tgt := 19) hx hb dX5_unitsToLimit_14 (by decide) (fun c_14 => ?_) (fun c_14 => ?_)
  · have h := (if_pos c_14).symm.trans h
    refine lv_aload_n hx hb dX5_unitsToLimit_19 rfl (lv_at hl 1 rfl) ?_
    refine r_get C fr_X5_9 hW a_o0 k_o0 rfl dX5_unitsToLimit_20 ?_
    refine lv_iconst (v := 1) hx hb dX5_unitsToLimit_23 (by decide) ?_
    refine lv_icmp_ge (tgt := 33) hx hb dX5_unitsToLimit_24 (by decide) (fun c_24 => ?_) (fun c_24 => ?_)
    · have h := (if_pos c_24).symm.trans h
      refine lv_iload_n hx hb dX5_unitsToLimit_33 rfl (lv_at hl 0 rfl) ?_
      refine lv_iconst (v := 1) hx hb dX5_unitsToLimit_34 (by decide) ?_
      refine lv_iadd hx hb dX5_unitsToLimit_35 ?_
      refine lv_aload_n hx hb dX5_unitsToLimit_36 rfl (lv_at hl 2 rfl) ?_
      refine r_get C fr_X5_73 hW a_o1 k_o1 rfl dX5_unitsToLimit_37 ?_
      refine lv_imul hx hb dX5_unitsToLimit_40 ?_
      refine lv_iconst (v := 1) hx hb dX5_unitsToLimit_41 (by decide) ?_
      refine lv_isub hx hb dX5_unitsToLimit_42 ?_
      refine lv_aload_n hx hb dX5_unitsToLimit_43 rfl (lv_at hl 1 rfl) ?_
      refine r_get C fr_X5_9 hW a_o0 k_o0 rfl dX5_unitsToLimit_44 ?_
      obtain ⟨g_47, h⟩ := gd_some h
      refine lv_idiv hx hb dX5_unitsToLimit_47 g_47 ?_
      have h := Option.some.inj h
      subst h
      exact r_iret C hW dX5_unitsToLimit_48
    · have h := (if_neg c_24).symm.trans h
      refine lv_sipush (v := 500) hx hb dX5_unitsToLimit_27 (by decide) ?_
      refine lv_goto (tgt := 48) hx hb dX5_unitsToLimit_30 (by decide) ?_
      have h := Option.some.inj h
      subst h
      exact r_iret C hW dX5_unitsToLimit_48
  · have h := (if_neg c_14).symm.trans h
    refine lv_iconst (v := 0) hx hb dX5_unitsToLimit_17 (by decide) ?_
    have h := Option.some.inj h
    subst h
    exact r_iret C hW dX5_unitsToLimit_18
def f_X5_unitsOver (I : MI) (R : MR) (o0 : Nat) (o1 : Nat) (o2 : Nat) : Option (Int32) := bd (f_X0_pressure I R o1) (fun z_2 => bd (f_X2_pressure I R o2) (fun z_6 => bd (f_X5_flowAt I R o0 (z_2 - z_6)) (fun z_10 => bd (f_X5_unitsToEven I R o0 o1 o2) (fun z_18 => lt (if z_18 < z_10 then z_18 else z_10) (fun v_21 => bd (f_X2_lacks I R o2) (fun z_27 => lt (if z_27 < v_21 then z_27 else v_21) (fun v_30 => bd (f_X5_unitsToLimit I R o0 o2) (fun z_37 => lt (if z_37 < v_30 then z_37 else v_30) (fun v_40 => some (v_40))))))))))
set_option maxHeartbeats 4000000 in
set_option maxRecDepth 100000 in
theorem c_X5_unitsOver {l : Launch} {E : EV} {q : Nat → Nat} {al : Nat → Bool} {n : Nat} {I : MI} {R : MR} {o0 : Nat} {o1 : Nat} {o2 : Nat} (a_o0 : al o0 = true) (k_o0 : kd o0 = 5) (a_o1 : al o1 = true) (k_o1 : kd o1 = 0) (a_o2 : al o2 = true) (k_o2 : kd o2 = 2) (hF : Fx al R) {res : Int32} (h : f_X5_unitsOver I R o0 o1 o2 = some res) : Ct l yX5_unitsOver cX5_unitsOver 4 (some .int) 2 0 0 E q al I R n [.ref (q o0), .ref (q o1), .ref (q o2)] (some (.int res)) al I R n := by
  refine Ct.of (own := RX5) (mn := "unitsOver") (by decide) rfl rfl (Nat.le_of_ble_eq_true rfl) ?_
  intro p e s m args below meth c ls C hmn hargs hW hl
  have hx := C.1
  have hb := C.2.1
  have hl : lv_has ls 4 [(0, .ref (q o0)), (1, .ref (q o1)), (2, .ref (q o2))] := hl
  unfold f_X5_unitsOver at h
  refine lv_aload_n hx hb dX5_unitsOver_0 rfl (lv_at hl 0 rfl) ?_
  refine lv_aload_n hx hb dX5_unitsOver_1 rfl (lv_at hl 1 rfl) ?_
  obtain ⟨z_2, e_z_2, h⟩ := bd_some h
  refine r_callV (v := (some (.int z_2))) (As := []) (rest := [.ref (q o0)]) C ml_X0_pressure gm_552 gm_553 gm_554 (ci := 0) rfl hW a_o1 k_o1 hl.1 (c_X0_pressure a_o1 k_o1 e_z_2) rfl ⟨(by decide), (by decide)⟩ ⟨(by decide), (by decide)⟩ rfl (Nat.le_of_ble_eq_true rfl) dX5_unitsOver_2 (fun H locs hW => ?_)
  refine lv_aload_n hx hb dX5_unitsOver_5 rfl (lv_at hl 2 rfl) ?_
  obtain ⟨z_6, e_z_6, h⟩ := bd_some h
  refine r_callV (v := (some (.int z_6))) (As := []) (rest := [.int z_2, .ref (q o0)]) C ml_X2_pressure gm_556 gm_557 gm_558 (ci := 2) rfl hW a_o2 k_o2 hl.1 (c_X2_pressure a_o2 k_o2 e_z_6) rfl ⟨(by decide), (by decide)⟩ ⟨(by decide), (by decide)⟩ rfl (Nat.le_of_ble_eq_true rfl) dX5_unitsOver_6 (fun H locs hW => ?_)
  refine lv_isub hx hb dX5_unitsOver_9 ?_
  obtain ⟨z_10, e_z_10, h⟩ := bd_some h
  refine r_callV (v := (some (.int z_10))) (As := [.int (z_2 - z_6)]) (rest := []) C ml_X5_flowAt gm_560 gm_487 gm_488 (ci := 5) rfl hW a_o0 k_o0 hl.1 (c_X5_flowAt a_o0 k_o0 hF e_z_10) rfl ⟨(by decide), (by decide)⟩ ⟨(by decide), (by decide)⟩ rfl (Nat.le_of_ble_eq_true rfl) dX5_unitsOver_10 (fun H locs hW => ?_)
  refine lv_istore_n (lv' := [(3, .int z_10), (0, .ref (q o0)), (1, .ref (q o1)), (2, .ref (q o2))]) hx hb dX5_unitsOver_13 rfl hl (by decide) rfl (fun ls hl => ?_)
  refine lv_iload_n hx hb dX5_unitsOver_14 rfl (lv_at hl 0 rfl) ?_
  refine lv_aload_n hx hb dX5_unitsOver_15 rfl (lv_at hl 1 rfl) ?_
  refine lv_aload_n hx hb dX5_unitsOver_16 rfl (lv_at hl 2 rfl) ?_
  refine lv_aload_n hx hb dX5_unitsOver_17 rfl (lv_at hl 3 rfl) ?_
  obtain ⟨z_18, e_z_18, h⟩ := bd_some h
  refine r_callV (v := (some (.int z_18))) (As := [.ref (q o1), .ref (q o2)]) (rest := [.int z_10]) C ml_X5_unitsToEven gm_561 gm_563 gs_17 (ci := 5) rfl hW a_o0 k_o0 hl.1 (c_X5_unitsToEven a_o0 k_o0 a_o1 k_o1 a_o2 k_o2 e_z_18) rfl ⟨(by decide), (by decide)⟩ ⟨(by decide), (by decide)⟩ rfl (Nat.le_of_ble_eq_true rfl) dX5_unitsOver_18 (fun H locs hW => ?_)
  obtain ⟨v_21, e_v_21, h⟩ := lt_some h
  refine r_min C gm_565 gm_566 gm_14 gm_567 hl.1 ⟨Nat.le_of_ble_eq_true rfl, Nat.le_of_ble_eq_true rfl, Nat.le_of_ble_eq_true rfl, Nat.le_of_ble_eq_true rfl⟩ dX5_unitsOver_21 ?_
  rw [← e_v_21]
  refine lv_istore_n (lv' := [(3, .int v_21), (0, .ref (q o0)), (1, .ref (q o1)), (2, .ref (q o2))]) hx hb dX5_unitsOver_24 rfl hl (by decide) rfl (fun ls hl => ?_)
  refine lv_iload_n hx hb dX5_unitsOver_25 rfl (lv_at hl 0 rfl) ?_
  refine lv_aload_n hx hb dX5_unitsOver_26 rfl (lv_at hl 3 rfl) ?_
  obtain ⟨z_27, e_z_27, h⟩ := bd_some h
  refine r_callV (v := (some (.int z_27))) (As := []) (rest := [.int v_21]) C ml_X2_lacks gm_568 gm_569 gm_570 (ci := 2) rfl hW a_o2 k_o2 hl.1 (c_X2_lacks a_o2 k_o2 e_z_27) rfl ⟨(by decide), (by decide)⟩ ⟨(by decide), (by decide)⟩ rfl (Nat.le_of_ble_eq_true rfl) dX5_unitsOver_27 (fun H locs hW => ?_)
  obtain ⟨v_30, e_v_30, h⟩ := lt_some h
  refine r_min C gm_565 gm_566 gm_14 gm_567 hl.1 ⟨Nat.le_of_ble_eq_true rfl, Nat.le_of_ble_eq_true rfl, Nat.le_of_ble_eq_true rfl, Nat.le_of_ble_eq_true rfl⟩ dX5_unitsOver_30 ?_
  rw [← e_v_30]
  refine lv_istore_n (lv' := [(3, .int v_30), (0, .ref (q o0)), (1, .ref (q o1)), (2, .ref (q o2))]) hx hb dX5_unitsOver_33 rfl hl (by decide) rfl (fun ls hl => ?_)
  refine lv_iload_n hx hb dX5_unitsOver_34 rfl (lv_at hl 0 rfl) ?_
  refine lv_aload_n hx hb dX5_unitsOver_35 rfl (lv_at hl 1 rfl) ?_
  refine lv_aload_n hx hb dX5_unitsOver_36 rfl (lv_at hl 3 rfl) ?_
  obtain ⟨z_37, e_z_37, h⟩ := bd_some h
  refine r_callV (v := (some (.int z_37))) (As := [.ref (q o2)]) (rest := [.int v_30]) C ml_X5_unitsToLimit gm_575 gm_577 gs_18 (ci := 5) rfl hW a_o0 k_o0 hl.1 (c_X5_unitsToLimit a_o0 k_o0 a_o2 k_o2 e_z_37) rfl ⟨(by decide), (by decide)⟩ ⟨(by decide), (by decide)⟩ rfl (Nat.le_of_ble_eq_true rfl) dX5_unitsOver_37 (fun H locs hW => ?_)
  obtain ⟨v_40, e_v_40, h⟩ := lt_some h
  refine r_min C gm_565 gm_566 gm_14 gm_567 hl.1 ⟨Nat.le_of_ble_eq_true rfl, Nat.le_of_ble_eq_true rfl, Nat.le_of_ble_eq_true rfl, Nat.le_of_ble_eq_true rfl⟩ dX5_unitsOver_40 ?_
  rw [← e_v_40]
  have h := Option.some.inj h
  subst h
  exact r_iret C hW dX5_unitsOver_43
def f_X7_within (I : MI) (R : MR) (x0 : Int32) (x1 : Int32) (x2 : Int32) : Option (Int32) := (if x0 < x1 then (some (0)) else ((if x2 < x0 then (some (0)) else (some (1)))))
set_option maxHeartbeats 4000000 in
set_option maxRecDepth 100000 in
theorem c_X7_within {l : Launch} {E : EV} {q : Nat → Nat} {al : Nat → Bool} {n : Nat} {I : MI} {R : MR} {x0 : Int32} {x1 : Int32} {x2 : Int32}  {res : Int32} (h : f_X7_within I R x0 x1 x2 = some res) : Ct l yX7_within cX7_within 3 (some .boolean) 1 0 0 E q al I R n [.int x0, .int x1, .int x2] (some (.int res)) al I R n := by
  refine Ct.of (own := RX7) (mn := "within") (by decide) rfl rfl (Nat.le_of_ble_eq_true rfl) ?_
  intro p e s m args below meth c ls C hmn hargs hW hl
  have hx := C.1
  have hb := C.2.1
  have hl : lv_has ls 3 [(0, .int x0), (1, .int x1), (2, .int x2)] := hl
  unfold f_X7_within at h
  refine lv_iload_n hx hb dX7_within_0 rfl (lv_at hl 0 rfl) ?_
  refine lv_iload_n hx hb dX7_within_1 rfl (lv_at hl 1 rfl) ?_
  refine lv_icmp_lt (tgt := 14) hx hb dX7_within_2 (by decide) (fun c_2 => ?_) (fun c_2 => ?_)
  · have h := (if_pos c_2).symm.trans h
    refine lv_iconst (v := 0) hx hb dX7_within_14 (by decide) ?_
    have h := Option.some.inj h
    subst h
    exact r_zret C hW (Or.inl rfl) dX7_within_15
  · have h := (if_neg c_2).symm.trans h
    refine lv_iload_n hx hb dX7_within_5 rfl (lv_at hl 0 rfl) ?_
    refine lv_iload_n hx hb dX7_within_6 rfl (lv_at hl 2 rfl) ?_
    refine lv_icmp_gt (tgt := 14) hx hb dX7_within_7 (by decide) (fun c_7 => ?_) (fun c_7 => ?_)
    · have h := (if_pos c_7).symm.trans h
      refine lv_iconst (v := 0) hx hb dX7_within_14 (by decide) ?_
      have h := Option.some.inj h
      subst h
      exact r_zret C hW (Or.inl rfl) dX7_within_15
    · have h := (if_neg c_7).symm.trans h
      refine lv_iconst (v := 1) hx hb dX7_within_10 (by decide) ?_
      refine lv_goto (tgt := 15) hx hb dX7_within_11 (by decide) ?_
      have h := Option.some.inj h
      subst h
      exact r_zret C hW (Or.inr rfl) dX7_within_15
