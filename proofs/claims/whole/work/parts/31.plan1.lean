def f_X4_answer (I : MI) (R : MR) (x1 : Int32) (x2 : Int32) : Option (Int32) := (if x1 < 0 then (some ((-1))) else ((if (I 11 11) ≤ x1 then (some ((-1))) else ((if x1 < 6 then ((if x2 = 0 then (gd (ix x1 (ln 20)) (some (I 20 x1.toNatClampNeg))) else (if x2 = 1 then (gd (ix x1 (ln 21)) (some (I 21 x1.toNatClampNeg))) else (some ((-1)))))) else (some ((-1))))))))
set_option maxHeartbeats 4000000 in
set_option maxRecDepth 100000 in
theorem c_X4_answer {l : Launch} {E : EV} {q : Nat → Nat} {al : Nat → Bool} {n : Nat} {I : MI} {R : MR} {x1 : Int32} {x2 : Int32} (a_11 : al 11 = true) (hF : Fx al R) {res : Int32} (h : f_X4_answer I R x1 x2 = some res) : Ct l yX4_answer cX4_answer 3 (some .int) 1 0 0 E q al I R n [.ref (q 11), .int x1, .int x2] (some (.int res)) al I R n := by
  refine Ct.of (own := RX4) (mn := "answer") (by decide) rfl rfl (Nat.le_of_ble_eq_true rfl) ?_
  intro p e s m args below meth c ls C hmn hargs hW hl
  have hx := C.1
  have hb := C.2.1
  have hl : lv_has ls 3 [(0, .ref (q 11)), (1, .int x1), (2, .int x2)] := hl
  unfold f_X4_answer at h
  refine lv_iload_n hx hb dX4_answer_0 rfl (lv_at hl 1 rfl) ?_
  refine lv_if_lt (tgt := 18) hx hb dX4_answer_1 (by decide) (fun c_1 => ?_) (fun c_1 => ?_)
  · have h := (if_pos c_1).symm.trans h
    refine lv_iconst (v := (-1)) hx hb dX4_answer_18 (by decide) ?_
    have h := Option.some.inj h
    subst h
    exact r_iret C hW dX4_answer_19
  · have h := (if_neg c_1).symm.trans h
    refine lv_iload_n hx hb dX4_answer_4 rfl (lv_at hl 1 rfl) ?_
    refine lv_aload_n hx hb dX4_answer_5 rfl (lv_at hl 0 rfl) ?_
    refine r_get C fr_X4_53 hW a_11 rfl rfl dX4_answer_6 ?_
    refine lv_icmp_ge (tgt := 18) hx hb dX4_answer_9 (by decide) (fun c_9 => ?_) (fun c_9 => ?_)
    · have h := (if_pos c_9).symm.trans h
      refine lv_iconst (v := (-1)) hx hb dX4_answer_18 (by decide) ?_
      have h := Option.some.inj h
      subst h
      exact r_iret C hW dX4_answer_19
    · have h := (if_neg c_9).symm.trans h
      refine lv_iload_n hx hb dX4_answer_12 rfl (lv_at hl 1 rfl) ?_
      refine lv_bipush (v := 6) hx hb dX4_answer_13 (by decide) ?_
      refine lv_icmp_lt (tgt := 20) hx hb dX4_answer_15 (by decide) (fun c_15 => ?_) (fun c_15 => ?_)
      · have h := (if_pos c_15).symm.trans h
        refine lv_iload_n hx hb dX4_answer_20 rfl (lv_at hl 2 rfl) ?_
        by_cases c_21_0 : x2 = 0
        · have h := (if_pos c_21_0).symm.trans h
          refine lv_lookup (off := 27) (tgt := 48) hx hb dX4_answer_21 (by decide) (by rw [c_21_0]; rfl) (by decide) ?_
          refine lv_aload_n hx hb dX4_answer_48 rfl (lv_at hl 0 rfl) ?_
          have ap_49 : al 20 = true := hW.cl a_11 (hF _ 8 _ a_11 rfl)
          refine r_getq C fr_X4_44 hW a_11 rfl rfl (hF _ 8 _ a_11 rfl) dX4_answer_49 ?_
          refine lv_iload_n hx hb dX4_answer_52 rfl (lv_at hl 1 rfl) ?_
          obtain ⟨g_53, h⟩ := gd_some h
          refine r_iald C hW ap_49 rfl (ix_in g_53) dX4_answer_53 ?_
          have h := Option.some.inj h
          subst h
          exact r_iret C hW dX4_answer_54
        · have h := (if_neg c_21_0).symm.trans h
          by_cases c_21_1 : x2 = 1
          · have h := (if_pos c_21_1).symm.trans h
            refine lv_lookup (off := 34) (tgt := 55) hx hb dX4_answer_21 (by decide) (by rw [c_21_1]; rfl) (by decide) ?_
            refine lv_aload_n hx hb dX4_answer_55 rfl (lv_at hl 0 rfl) ?_
            have ap_56 : al 21 = true := hW.cl a_11 (hF _ 9 _ a_11 rfl)
            refine r_getq C fr_X4_47 hW a_11 rfl rfl (hF _ 9 _ a_11 rfl) dX4_answer_56 ?_
            refine lv_iload_n hx hb dX4_answer_59 rfl (lv_at hl 1 rfl) ?_
            obtain ⟨g_60, h⟩ := gd_some h
            refine r_iald C hW ap_56 rfl (ix_in g_60) dX4_answer_60 ?_
            have h := Option.some.inj h
            subst h
            exact r_iret C hW dX4_answer_61
          · have h := (if_neg c_21_1).symm.trans h
            have n_0 := lv_neT (a := 0) c_21_0 (by decide)
            have n_1 := lv_neT (a := 1) c_21_1 (by decide)
            refine lv_lookup (off := 41) (tgt := 62) hx hb dX4_answer_21 (by decide) (by show Op.lookupswitch.offset [(0, 27), (1, 34)] 41 _ = _; rw [lv_osw c_21_0 (by decide), lv_osw c_21_1 (by decide)]; rfl) (by decide) ?_
            refine lv_iconst (v := (-1)) hx hb dX4_answer_62 (by decide) ?_
            have h := Option.some.inj h
            subst h
            exact r_iret C hW dX4_answer_63
      · have h := (if_neg c_15).symm.trans h
        refine lv_iconst (v := (-1)) hx hb dX4_answer_18 (by decide) ?_
        have h := Option.some.inj h
        subst h
        exact r_iret C hW dX4_answer_19
def f_X4_copyBanks_7  : Nat → MI → MR → Nat → Int32 → Int32 → Option (MI)
  | 0, _, _, _, _, _ => none
  | nn + 1, I, R, o1, x2, x3 => (if x2 ≤ x3 then (some (I)) else ((if 4 ≤ x3 then (some (I)) else ((if (nI (ln o1)) ≤ x3 then (some (I)) else (gd (ix x3 (ln o1)) (mt (R o1 x3.toNatClampNeg) (f_X4_copyBanks_7 nn I R o1 x2 (x3 + 1)) (fun t_25 => gd (ix x3 (ln 13)) (mt (R 13 x3.toNatClampNeg) (gd (ix x3 (ln o1)) (mt (R o1 x3.toNatClampNeg) (none) (fun t_37 => none))) (fun t_34 => gd (ix x3 (ln o1)) (mt (R o1 x3.toNatClampNeg) (none) (fun t_37 => bd (f_X0_copyFrom I R t_34 t_37) (fun z_38 => lt (p2 z_38 11 2 (x3 + 1)) (fun I_45 => f_X4_copyBanks_7 nn I_45 R o1 x2 (x3 + 1)))))))))))))))
set_option maxHeartbeats 4000000 in
set_option maxRecDepth 100000 in
theorem t_X4_copyBanks_7 {p : Program} {l : Launch} {e : Env} {s : State} {m : MethodId} {args : Array Value} {below : List Frame} {meth : Method} {c : Code} {E : EV} {q : Nat → Nat} {al : Nat → Bool} {n : Nat} (C : CX p s m args meth c E cX4_copyBanks RX4 4 none) {res : MI}   : ∀ (nn : Nat) {I : MI} {R : MR} {o1 : Nat} {x2 : Int32} {x3 : Int32} {H : Heap} {locs : List Loc} {ls : Array Slot} (a_11 : al 11 = true) (a_o1 : al o1 = true) (k_o1 : kd o1 = 12) (h : f_X4_copyBanks_7 nn I R o1 x2 x3 = some res) (hW : Wd E q al s.heap I R n H locs) (hF : Fx al R) (hl : lv_has ls 4 [(0, .ref (q 11)), (1, .ref (q o1)), (2, .int x2), (3, .int x3)]), W p l e (rmL 2 0 0) s m args below meth c H locs 0 0 (MQ below (Pst E q none al res R n) args s 0 0 (Bs E)) (F0 m 7 ls []) := by
  have hx := C.1
  have hb := C.2.1
  intro nn
  induction nn with
  | zero =>
    intro I R o1 x2 x3 H locs ls a_11 a_o1 k_o1 h
    cases (show (none : Option (MI)) = some res from h)
  | succ nn ih =>
    intro I R o1 x2 x3 H locs ls a_11 a_o1 k_o1 h hW hF hl
    rw [f_X4_copyBanks_7.eq_2] at h
    refine lv_iload_n hx hb dX4_copyBanks_7 rfl (lv_at hl 3 rfl) ?_
    refine lv_iload_n hx hb dX4_copyBanks_8 rfl (lv_at hl 2 rfl) ?_
    refine lv_icmp_ge (tgt := 54) hx hb dX4_copyBanks_9 (by decide) (fun c_9 => ?_) (fun c_9 => ?_)
    · have h := (if_pos c_9).symm.trans h
      have h := Option.some.inj h
      subst h
      exact r_vret C hW dX4_copyBanks_54
    · have h := (if_neg c_9).symm.trans h
      refine lv_iload_n hx hb dX4_copyBanks_12 rfl (lv_at hl 3 rfl) ?_
      refine lv_iconst (v := 4) hx hb dX4_copyBanks_13 (by decide) ?_
      refine lv_icmp_ge (tgt := 54) hx hb dX4_copyBanks_14 (by decide) (fun c_14 => ?_) (fun c_14 => ?_)
      · have h := (if_pos c_14).symm.trans h
        have h := Option.some.inj h
        subst h
        exact r_vret C hW dX4_copyBanks_54
      · have h := (if_neg c_14).symm.trans h
        refine lv_iload_n hx hb dX4_copyBanks_17 rfl (lv_at hl 3 rfl) ?_
        refine lv_aload_n hx hb dX4_copyBanks_18 rfl (lv_at hl 1 rfl) ?_
        refine r_alen C hW a_o1 k_o1 (by decide) dX4_copyBanks_19 ?_
        refine lv_icmp_ge (tgt := 54) hx hb dX4_copyBanks_20 (by decide) (fun c_20 => ?_) (fun c_20 => ?_)
        · have h := (if_pos c_20).symm.trans h
          have h := Option.some.inj h
          subst h
          exact r_vret C hW dX4_copyBanks_54
        · have h := (if_neg c_20).symm.trans h
          refine lv_aload_n hx hb dX4_copyBanks_23 rfl (lv_at hl 1 rfl) ?_
          refine lv_iload_n hx hb dX4_copyBanks_24 rfl (lv_at hl 3 rfl) ?_
          obtain ⟨g_25, h⟩ := gd_some h
          have hm := mt_cases h
          clear h
          rcases hm with ⟨o_25, h⟩ | ⟨t_25, o_25, h⟩
          · refine r_aaldN C hW a_o1 k_o1 (by decide) (ix_in g_25) o_25 dX4_copyBanks_25 ?_
            refine lv_ifnullN (tgt := 48) hx hb dX4_copyBanks_26 (by decide) ?_
            refine lv_iinc (v := x3 + 1) (lv' := [(3, .int (x3 + 1)), (0, .ref (q 11)), (1, .ref (q o1)), (2, .int x2)]) hx hb dX4_copyBanks_48 hl (k := 3) rfl rfl (by decide) rfl (fun ls hl => ?_)
            refine lv_goto (tgt := 7) hx hb dX4_copyBanks_51 (by decide) ?_
            exact ih a_11 a_o1 k_o1 h hW hF (lv_sub hl [1, 2, 3, 0] rfl)
          · have a_t_25 := hW.cl a_o1 o_25
            have k_t_25 : kd t_25 = 0 := hW.kn a_o1 o_25 (by rw [k_o1]; rfl)
            refine r_aaldS C hW a_o1 k_o1 (by decide) (ix_in g_25) o_25 dX4_copyBanks_25 ?_
            refine lv_ifnull hx hb dX4_copyBanks_26 ?_
            refine lv_aload_n hx hb dX4_copyBanks_29 rfl (lv_at hl 0 rfl) ?_
            have ap_30 : al 13 = true := hW.cl a_11 (hF _ 1 _ a_11 rfl)
            refine r_getq C fr_X4_20 hW a_11 rfl rfl (hF _ 1 _ a_11 rfl) dX4_copyBanks_30 ?_
            refine lv_iload_n hx hb dX4_copyBanks_33 rfl (lv_at hl 3 rfl) ?_
            obtain ⟨g_34, h⟩ := gd_some h
            have hm := mt_cases h
            clear h
            rcases hm with ⟨o_34, h⟩ | ⟨t_34, o_34, h⟩
            · refine r_aaldN C hW ap_30 rfl (by decide) (ix_in g_34) o_34 dX4_copyBanks_34 ?_
              refine lv_aload_n hx hb dX4_copyBanks_35 rfl (lv_at hl 1 rfl) ?_
              refine lv_iload_n hx hb dX4_copyBanks_36 rfl (lv_at hl 3 rfl) ?_
              obtain ⟨g_37, h⟩ := gd_some h
              have hm := mt_cases h
              clear h
              rcases hm with ⟨o_37, h⟩ | ⟨t_37, o_37, h⟩
              · refine r_aaldN C hW a_o1 k_o1 (by decide) (ix_in g_37) o_37 dX4_copyBanks_37 ?_
                cases h
              · have a_t_37 := hW.cl a_o1 o_37
                have k_t_37 : kd t_37 = 0 := hW.kn a_o1 o_37 (by rw [k_o1]; rfl)
                refine r_aaldS C hW a_o1 k_o1 (by decide) (ix_in g_37) o_37 dX4_copyBanks_37 ?_
                cases h
            · have a_t_34 := hW.cl ap_30 o_34
              have k_t_34 : kd t_34 = 0 := hW.kn ap_30 o_34 (by rfl)
              refine r_aaldS C hW ap_30 rfl (by decide) (ix_in g_34) o_34 dX4_copyBanks_34 ?_
              refine lv_aload_n hx hb dX4_copyBanks_35 rfl (lv_at hl 1 rfl) ?_
              refine lv_iload_n hx hb dX4_copyBanks_36 rfl (lv_at hl 3 rfl) ?_
              obtain ⟨g_37, h⟩ := gd_some h
              have hm := mt_cases h
              clear h
              rcases hm with ⟨o_37, h⟩ | ⟨t_37, o_37, h⟩
              · refine r_aaldN C hW a_o1 k_o1 (by decide) (ix_in g_37) o_37 dX4_copyBanks_37 ?_
                cases h
              · have a_t_37 := hW.cl a_o1 o_37
                have k_t_37 : kd t_37 = 0 := hW.kn a_o1 o_37 (by rw [k_o1]; rfl)
                refine r_aaldS C hW a_o1 k_o1 (by decide) (ix_in g_37) o_37 dX4_copyBanks_37 ?_
                obtain ⟨z_38, e_z_38, h⟩ := bd_some h
                refine r_callV (v := none) (As := [.ref (q t_37)]) (rest := []) C ml_X0_copyFrom gm_631 gm_632 gm_633 (ci := 0) rfl hW a_t_34 k_t_34 hl.1 (c_X0_copyFrom a_t_34 k_t_34 a_t_37 k_t_37 e_z_38) rfl ⟨(by decide), (by decide)⟩ ⟨(by decide), (by decide)⟩ rfl (Nat.le_of_ble_eq_true rfl) dX4_copyBanks_38 (fun H locs hW => ?_)
                refine lv_aload_n hx hb dX4_copyBanks_41 rfl (lv_at hl 0 rfl) ?_
                refine lv_iload_n hx hb dX4_copyBanks_42 rfl (lv_at hl 3 rfl) ?_
                refine lv_iconst (v := 1) hx hb dX4_copyBanks_43 (by decide) ?_
                refine lv_iadd hx hb dX4_copyBanks_44 ?_
                obtain ⟨I_45, e_I_45, h⟩ := lt_some h
                refine r_put C fr_X4_24 (Or.inl rfl) hW a_11 rfl rfl rfl rfl dX4_copyBanks_45 (fun H locs hW => ?_)
                rw [← e_I_45] at hW
                refine lv_iinc (v := x3 + 1) (lv' := [(3, .int (x3 + 1)), (0, .ref (q 11)), (1, .ref (q o1)), (2, .int x2)]) hx hb dX4_copyBanks_48 hl (k := 3) rfl rfl (by decide) rfl (fun ls hl => ?_)
                refine lv_goto (tgt := 7) hx hb dX4_copyBanks_51 (by decide) ?_
                exact ih a_11 a_o1 k_o1 h hW hF (lv_sub hl [1, 2, 3, 0] rfl)
def f_X4_copyBanks (I : MI) (R : MR) (o1 : Nat) (x2 : Int32) : Option (MI) := lt (p2 I 11 2 0) (fun I_2 => f_X4_copyBanks_7 1000000 I_2 R o1 x2 0)
set_option maxHeartbeats 4000000 in
set_option maxRecDepth 100000 in
theorem c_X4_copyBanks {l : Launch} {E : EV} {q : Nat → Nat} {al : Nat → Bool} {n : Nat} {I : MI} {R : MR} {o1 : Nat} {x2 : Int32} (a_11 : al 11 = true) (a_o1 : al o1 = true) (k_o1 : kd o1 = 12) (hF : Fx al R) {res : MI} (h : f_X4_copyBanks I R o1 x2 = some res) : Ct l yX4_copyBanks cX4_copyBanks 4 none 2 0 0 E q al I R n [.ref (q 11), .ref (q o1), .int x2] none al res R n := by
  refine Ct.of (own := RX4) (mn := "copyBanks") (by decide) rfl rfl (Nat.le_of_ble_eq_true rfl) ?_
  intro p e s m args below meth c ls C hmn hargs hW hl
  have hx := C.1
  have hb := C.2.1
  have hl : lv_has ls 4 [(0, .ref (q 11)), (1, .ref (q o1)), (2, .int x2)] := hl
  unfold f_X4_copyBanks at h
  refine lv_aload_n hx hb dX4_copyBanks_0 rfl (lv_at hl 0 rfl) ?_
  refine lv_iconst (v := 0) hx hb dX4_copyBanks_1 (by decide) ?_
  obtain ⟨I_2, e_I_2, h⟩ := lt_some h
  refine r_put C fr_X4_24 (Or.inl rfl) hW a_11 rfl rfl rfl rfl dX4_copyBanks_2 (fun H locs hW => ?_)
  rw [← e_I_2] at hW
  refine lv_iconst (v := 0) hx hb dX4_copyBanks_5 (by decide) ?_
  refine lv_istore_n (lv' := [(3, .int 0), (0, .ref (q 11)), (1, .ref (q o1)), (2, .int x2)]) hx hb dX4_copyBanks_6 rfl hl (by decide) rfl (fun ls hl => ?_)
  exact t_X4_copyBanks_7 C 1000000 a_11 a_o1 k_o1 h hW hF (lv_sub hl [1, 2, 3, 0] rfl)
def f_X4_isBetter_33  : Nat → MI → MR → Int32 → Option (Int32)
  | 0, _, _, _ => none
  | nn + 1, I, R, x2 => (if x2 < 0 then (some (0)) else (gd (ix x2 (ln 13)) (mt (R 13 x2.toNatClampNeg) (none) (fun t_42 => gd (ix x2 (ln 22)) ((if (I t_42 3) = (I 22 x2.toNatClampNeg) then (f_X4_isBetter_33 nn I R (x2 + (-1))) else (gd (ix x2 (ln 13)) (mt (R 13 x2.toNatClampNeg) (none) (fun t_60 => gd (ix x2 (ln 22)) ((if (I 22 x2.toNatClampNeg) ≤ (I t_60 3) then (some (0)) else (some (1)))))))))))))
set_option maxHeartbeats 4000000 in
set_option maxRecDepth 100000 in
theorem t_X4_isBetter_33 {p : Program} {l : Launch} {e : Env} {s : State} {m : MethodId} {args : Array Value} {below : List Frame} {meth : Method} {c : Code} {E : EV} {q : Nat → Nat} {al : Nat → Bool} {n : Nat} (C : CX p s m args meth c E cX4_isBetter RX4 3 (some .boolean)) {res : Int32}   : ∀ (nn : Nat) {I : MI} {R : MR} {x2 : Int32} {H : Heap} {locs : List Loc} {ls : Array Slot} (a_11 : al 11 = true) (h : f_X4_isBetter_33 nn I R x2 = some res) (hW : Wd E q al s.heap I R n H locs) (hF : Fx al R) (hl : lv_has ls 3 [(0, .ref (q 11)), (2, .int x2)]), W p l e (rmL 1 0 0) s m args below meth c H locs 0 0 (MQ below (Pst E q (some (.int res)) al I R n) args s 0 0 (Bs E)) (F0 m 33 ls []) := by
  have hx := C.1
  have hb := C.2.1
  intro nn
  induction nn with
  | zero =>
    intro I R x2 H locs ls a_11 h
    cases (show (none : Option (Int32)) = some res from h)
  | succ nn ih =>
    intro I R x2 H locs ls a_11 h hW hF hl
    rw [f_X4_isBetter_33.eq_2] at h
    refine lv_iload_n hx hb dX4_isBetter_33 rfl (lv_at hl 1 rfl) ?_
    refine lv_if_lt (tgt := 85) hx hb dX4_isBetter_34 (by decide) (fun c_34 => ?_) (fun c_34 => ?_)
    · have h := (if_pos c_34).symm.trans h
      refine lv_iconst (v := 0) hx hb dX4_isBetter_85 (by decide) ?_
      have h := Option.some.inj h
      subst h
      exact r_zret C hW (Or.inl rfl) dX4_isBetter_86
    · have h := (if_neg c_34).symm.trans h
      refine lv_aload_n hx hb dX4_isBetter_37 rfl (lv_at hl 0 rfl) ?_
      have ap_38 : al 13 = true := hW.cl a_11 (hF _ 1 _ a_11 rfl)
      refine r_getq C fr_X4_20 hW a_11 rfl rfl (hF _ 1 _ a_11 rfl) dX4_isBetter_38 ?_
      refine lv_iload_n hx hb dX4_isBetter_41 rfl (lv_at hl 1 rfl) ?_
      obtain ⟨g_42, h⟩ := gd_some h
      have hm := mt_cases h
      clear h
      rcases hm with ⟨o_42, h⟩ | ⟨t_42, o_42, h⟩
      · refine r_aaldN C hW ap_38 rfl (by decide) (ix_in g_42) o_42 dX4_isBetter_42 ?_
        cases h
      · have a_t_42 := hW.cl ap_38 o_42
        have k_t_42 : kd t_42 = 0 := hW.kn ap_38 o_42 (by rfl)
        refine r_aaldS C hW ap_38 rfl (by decide) (ix_in g_42) o_42 dX4_isBetter_42 ?_
        refine r_get C fr_X4_116 hW a_t_42 k_t_42 rfl dX4_isBetter_43 ?_
        refine lv_aload_n hx hb dX4_isBetter_46 rfl (lv_at hl 0 rfl) ?_
        have ap_47 : al 22 = true := hW.cl a_11 (hF _ 10 _ a_11 rfl)
        refine r_getq C fr_X4_50 hW a_11 rfl rfl (hF _ 10 _ a_11 rfl) dX4_isBetter_47 ?_
        refine lv_iload_n hx hb dX4_isBetter_50 rfl (lv_at hl 1 rfl) ?_
        obtain ⟨g_51, h⟩ := gd_some h
        refine r_iald C hW ap_47 rfl (ix_in g_51) dX4_isBetter_51 ?_
        refine lv_icmp_eq (tgt := 79) hx hb dX4_isBetter_52 (by decide) (fun c_52 => ?_) (fun c_52 => ?_)
        · have h := (if_pos c_52).symm.trans h
          refine lv_iinc (v := x2 + (-1)) (lv' := [(2, .int (x2 + (-1))), (0, .ref (q 11))]) hx hb dX4_isBetter_79 hl (k := 1) rfl rfl (by decide) rfl (fun ls hl => ?_)
          refine lv_goto (tgt := 33) hx hb dX4_isBetter_82 (by decide) ?_
          exact ih a_11 h hW hF (lv_sub hl [1, 0] rfl)
        · have h := (if_neg c_52).symm.trans h
          refine lv_aload_n hx hb dX4_isBetter_55 rfl (lv_at hl 0 rfl) ?_
          refine r_getq C fr_X4_20 hW a_11 rfl rfl (hF _ 1 _ a_11 rfl) dX4_isBetter_56 ?_
          refine lv_iload_n hx hb dX4_isBetter_59 rfl (lv_at hl 1 rfl) ?_
          obtain ⟨g_60, h⟩ := gd_some h
          have hm := mt_cases h
          clear h
          rcases hm with ⟨o_60, h⟩ | ⟨t_60, o_60, h⟩
          · refine r_aaldN C hW ap_38 rfl (by decide) (ix_in g_60) o_60 dX4_isBetter_60 ?_
            cases h
          · have a_t_60 := hW.cl ap_38 o_60
            have k_t_60 : kd t_60 = 0 := hW.kn ap_38 o_60 (by rfl)
            refine r_aaldS C hW ap_38 rfl (by decide) (ix_in g_60) o_60 dX4_isBetter_60 ?_
            refine r_get C fr_X4_116 hW a_t_60 k_t_60 rfl dX4_isBetter_61 ?_
            refine lv_aload_n hx hb dX4_isBetter_64 rfl (lv_at hl 0 rfl) ?_
            refine r_getq C fr_X4_50 hW a_11 rfl rfl (hF _ 10 _ a_11 rfl) dX4_isBetter_65 ?_
            refine lv_iload_n hx hb dX4_isBetter_68 rfl (lv_at hl 1 rfl) ?_
            obtain ⟨g_69, h⟩ := gd_some h
            refine r_iald C hW ap_47 rfl (ix_in g_69) dX4_isBetter_69 ?_
            refine lv_icmp_ge (tgt := 77) hx hb dX4_isBetter_70 (by decide) (fun c_70 => ?_) (fun c_70 => ?_)
            · have h := (if_pos c_70).symm.trans h
              refine lv_iconst (v := 0) hx hb dX4_isBetter_77 (by decide) ?_
              have h := Option.some.inj h
              subst h
              exact r_zret C hW (Or.inl rfl) dX4_isBetter_78
            · have h := (if_neg c_70).symm.trans h
              refine lv_iconst (v := 1) hx hb dX4_isBetter_73 (by decide) ?_
              refine lv_goto (tgt := 78) hx hb dX4_isBetter_74 (by decide) ?_
              have h := Option.some.inj h
              subst h
              exact r_zret C hW (Or.inr rfl) dX4_isBetter_78
def f_X4_isBetter (I : MI) (R : MR) (x1 : Int32) : Option (Int32) := (if x1 = (I 11 12) then (lt (if 4 < (I 11 2) then 4 else (I 11 2)) (fun v_27 => f_X4_isBetter_33 1000000 I R (v_27 - 1))) else ((if x1 ≤ (I 11 12) then (some (0)) else (some (1)))))
set_option maxHeartbeats 4000000 in
set_option maxRecDepth 100000 in
theorem c_X4_isBetter {l : Launch} {E : EV} {q : Nat → Nat} {al : Nat → Bool} {n : Nat} {I : MI} {R : MR} {x1 : Int32} (a_11 : al 11 = true) (hF : Fx al R) {res : Int32} (h : f_X4_isBetter I R x1 = some res) : Ct l yX4_isBetter cX4_isBetter 3 (some .boolean) 1 0 0 E q al I R n [.ref (q 11), .int x1] (some (.int res)) al I R n := by
  refine Ct.of (own := RX4) (mn := "isBetter") (by decide) rfl rfl (Nat.le_of_ble_eq_true rfl) ?_
  intro p e s m args below meth c ls C hmn hargs hW hl
  have hx := C.1
  have hb := C.2.1
  have hl : lv_has ls 3 [(0, .ref (q 11)), (1, .int x1)] := hl
  unfold f_X4_isBetter at h
  refine lv_iload_n hx hb dX4_isBetter_0 rfl (lv_at hl 1 rfl) ?_
  refine lv_aload_n hx hb dX4_isBetter_1 rfl (lv_at hl 0 rfl) ?_
  refine r_get C fr_X4_56 hW a_11 rfl rfl dX4_isBetter_2 ?_
  refine lv_icmp_eq (tgt := 22) hx hb dX4_isBetter_5 (by decide) (fun c_5 => ?_) (fun c_5 => ?_)
  · have h := (if_pos c_5).symm.trans h
    refine lv_aload_n hx hb dX4_isBetter_22 rfl (lv_at hl 0 rfl) ?_
    refine r_get C fr_X4_24 hW a_11 rfl rfl dX4_isBetter_23 ?_
    refine lv_iconst (v := 4) hx hb dX4_isBetter_26 (by decide) ?_
    obtain ⟨v_27, e_v_27, h⟩ := lt_some h
    refine r_min C gm_639 gm_566 gm_14 gm_567 hl.1 ⟨Nat.le_of_ble_eq_true rfl, Nat.le_of_ble_eq_true rfl, Nat.le_of_ble_eq_true rfl, Nat.le_of_ble_eq_true rfl⟩ dX4_isBetter_27 ?_
    rw [← e_v_27]
    refine lv_iconst (v := 1) hx hb dX4_isBetter_30 (by decide) ?_
    refine lv_isub hx hb dX4_isBetter_31 ?_
    refine lv_istore_n (lv' := [(2, .int (v_27 - 1)), (0, .ref (q 11)), (1, .int x1)]) hx hb dX4_isBetter_32 rfl hl (by decide) rfl (fun ls hl => ?_)
    exact t_X4_isBetter_33 C 1000000 a_11 h hW hF (lv_sub hl [1, 0] rfl)
  · have h := (if_neg c_5).symm.trans h
    refine lv_iload_n hx hb dX4_isBetter_8 rfl (lv_at hl 1 rfl) ?_
    refine lv_aload_n hx hb dX4_isBetter_9 rfl (lv_at hl 0 rfl) ?_
    refine r_get C fr_X4_56 hW a_11 rfl rfl dX4_isBetter_10 ?_
    refine lv_icmp_le (tgt := 20) hx hb dX4_isBetter_13 (by decide) (fun c_13 => ?_) (fun c_13 => ?_)
    · have h := (if_pos c_13).symm.trans h
      refine lv_iconst (v := 0) hx hb dX4_isBetter_20 (by decide) ?_
      have h := Option.some.inj h
      subst h
      exact r_zret C hW (Or.inl rfl) dX4_isBetter_21
    · have h := (if_neg c_13).symm.trans h
      refine lv_iconst (v := 1) hx hb dX4_isBetter_16 (by decide) ?_
      refine lv_goto (tgt := 21) hx hb dX4_isBetter_17 (by decide) ?_
      have h := Option.some.inj h
      subst h
      exact r_zret C hW (Or.inr rfl) dX4_isBetter_21
def f_X4_keepRow_51  : Nat → MI → MR → Int32 → Option (MI)
  | 0, _, _, _ => none
  | nn + 1, I, R, x1 => (if 4 ≤ x1 then (some (I)) else (gd (ix x1 (ln 13)) (mt (R 13 x1.toNatClampNeg) (none) (fun t_66 => gd (ix x1 (ln 22)) (lt (p2 I 22 x1.toNatClampNeg (I t_66 3)) (fun I_70 => f_X4_keepRow_51 nn I_70 R (x1 + 1)))))))
set_option maxHeartbeats 4000000 in
set_option maxRecDepth 100000 in
theorem t_X4_keepRow_51 {p : Program} {l : Launch} {e : Env} {s : State} {m : MethodId} {args : Array Value} {below : List Frame} {meth : Method} {c : Code} {E : EV} {q : Nat → Nat} {al : Nat → Bool} {n : Nat} (C : CX p s m args meth c E cX4_keepRow RX4 2 none) {res : MI}   : ∀ (nn : Nat) {I : MI} {R : MR} {x1 : Int32} {H : Heap} {locs : List Loc} {ls : Array Slot} (a_11 : al 11 = true) (h : f_X4_keepRow_51 nn I R x1 = some res) (hW : Wd E q al s.heap I R n H locs) (hF : Fx al R) (hl : lv_has ls 2 [(0, .ref (q 11)), (1, .int x1)]), W p l e (rmL 1 0 0) s m args below meth c H locs 0 0 (MQ below (Pst E q none al res R n) args s 0 0 (Bs E)) (F0 m 51 ls []) := by
  have hx := C.1
  have hb := C.2.1
  intro nn
  induction nn with
  | zero =>
    intro I R x1 H locs ls a_11 h
    cases (show (none : Option (MI)) = some res from h)
  | succ nn ih =>
    intro I R x1 H locs ls a_11 h hW hF hl
    rw [f_X4_keepRow_51.eq_2] at h
    refine lv_iload_n hx hb dX4_keepRow_51 rfl (lv_at hl 1 rfl) ?_
    refine lv_iconst (v := 4) hx hb dX4_keepRow_52 (by decide) ?_
    refine lv_icmp_ge (tgt := 77) hx hb dX4_keepRow_53 (by decide) (fun c_53 => ?_) (fun c_53 => ?_)
    · have h := (if_pos c_53).symm.trans h
      have h := Option.some.inj h
      subst h
      exact r_vret C hW dX4_keepRow_77
    · have h := (if_neg c_53).symm.trans h
      refine lv_aload_n hx hb dX4_keepRow_56 rfl (lv_at hl 0 rfl) ?_
      have ap_57 : al 22 = true := hW.cl a_11 (hF _ 10 _ a_11 rfl)
      refine r_getq C fr_X4_50 hW a_11 rfl rfl (hF _ 10 _ a_11 rfl) dX4_keepRow_57 ?_
      refine lv_iload_n hx hb dX4_keepRow_60 rfl (lv_at hl 1 rfl) ?_
      refine lv_aload_n hx hb dX4_keepRow_61 rfl (lv_at hl 0 rfl) ?_
      have ap_62 : al 13 = true := hW.cl a_11 (hF _ 1 _ a_11 rfl)
      refine r_getq C fr_X4_20 hW a_11 rfl rfl (hF _ 1 _ a_11 rfl) dX4_keepRow_62 ?_
      refine lv_iload_n hx hb dX4_keepRow_65 rfl (lv_at hl 1 rfl) ?_
      obtain ⟨g_66, h⟩ := gd_some h
      have hm := mt_cases h
      clear h
      rcases hm with ⟨o_66, h⟩ | ⟨t_66, o_66, h⟩
      · refine r_aaldN C hW ap_62 rfl (by decide) (ix_in g_66) o_66 dX4_keepRow_66 ?_
        cases h
      · have a_t_66 := hW.cl ap_62 o_66
        have k_t_66 : kd t_66 = 0 := hW.kn ap_62 o_66 (by rfl)
        refine r_aaldS C hW ap_62 rfl (by decide) (ix_in g_66) o_66 dX4_keepRow_66 ?_
        refine r_get C fr_X4_116 hW a_t_66 k_t_66 rfl dX4_keepRow_67 ?_
        obtain ⟨g_70, h⟩ := gd_some h
        obtain ⟨I_70, e_I_70, h⟩ := lt_some h
        refine r_iast C hW ap_57 rfl (ix_in g_70) dX4_keepRow_70 (fun H locs hW => ?_)
        rw [← e_I_70] at hW
        refine lv_iinc (v := x1 + 1) (lv' := [(1, .int (x1 + 1)), (0, .ref (q 11))]) hx hb dX4_keepRow_71 hl (k := 1) rfl rfl (by decide) rfl (fun ls hl => ?_)
        refine lv_goto (tgt := 51) hx hb dX4_keepRow_74 (by decide) ?_
        exact ih a_11 h hW hF (lv_sub hl [1, 0] rfl)
def f_X4_keepRow_13  : Nat → MI → MR → Int32 → Option (MI)
  | 0, _, _, _ => none
  | nn + 1, I, R, x1 => (if 6 ≤ x1 then (f_X4_keepRow_51 1000000 I R 0) else (gd (ix x1 (ln 18)) (gd (ix x1 (ln 20)) (lt (p2 I 20 x1.toNatClampNeg (I 18 x1.toNatClampNeg)) (fun I_30 => gd (ix x1 (ln 19)) (gd (ix x1 (ln 21)) (lt (p2 I_30 21 x1.toNatClampNeg (I_30 19 x1.toNatClampNeg)) (fun I_42 => f_X4_keepRow_13 nn I_42 R (x1 + 1)))))))))
set_option maxHeartbeats 4000000 in
set_option maxRecDepth 100000 in
theorem t_X4_keepRow_13 {p : Program} {l : Launch} {e : Env} {s : State} {m : MethodId} {args : Array Value} {below : List Frame} {meth : Method} {c : Code} {E : EV} {q : Nat → Nat} {al : Nat → Bool} {n : Nat} (C : CX p s m args meth c E cX4_keepRow RX4 2 none) {res : MI}   : ∀ (nn : Nat) {I : MI} {R : MR} {x1 : Int32} {H : Heap} {locs : List Loc} {ls : Array Slot} (a_11 : al 11 = true) (h : f_X4_keepRow_13 nn I R x1 = some res) (hW : Wd E q al s.heap I R n H locs) (hF : Fx al R) (hl : lv_has ls 2 [(0, .ref (q 11)), (1, .int x1)]), W p l e (rmL 1 0 0) s m args below meth c H locs 0 0 (MQ below (Pst E q none al res R n) args s 0 0 (Bs E)) (F0 m 13 ls []) := by
  have hx := C.1
  have hb := C.2.1
  intro nn
  induction nn with
  | zero =>
    intro I R x1 H locs ls a_11 h
    cases (show (none : Option (MI)) = some res from h)
  | succ nn ih =>
    intro I R x1 H locs ls a_11 h hW hF hl
    rw [f_X4_keepRow_13.eq_2] at h
    refine lv_iload_n hx hb dX4_keepRow_13 rfl (lv_at hl 1 rfl) ?_
    refine lv_bipush (v := 6) hx hb dX4_keepRow_14 (by decide) ?_
    refine lv_icmp_ge (tgt := 49) hx hb dX4_keepRow_16 (by decide) (fun c_16 => ?_) (fun c_16 => ?_)
    · have h := (if_pos c_16).symm.trans h
      refine lv_iconst (v := 0) hx hb dX4_keepRow_49 (by decide) ?_
      refine lv_istore_n (lv' := [(1, .int 0), (0, .ref (q 11))]) hx hb dX4_keepRow_50 rfl hl (by decide) rfl (fun ls hl => ?_)
      exact t_X4_keepRow_51 C 1000000 a_11 h hW hF (lv_sub hl [1, 0] rfl)
    · have h := (if_neg c_16).symm.trans h
      refine lv_aload_n hx hb dX4_keepRow_19 rfl (lv_at hl 0 rfl) ?_
      have ap_20 : al 20 = true := hW.cl a_11 (hF _ 8 _ a_11 rfl)
      refine r_getq C fr_X4_44 hW a_11 rfl rfl (hF _ 8 _ a_11 rfl) dX4_keepRow_20 ?_
      refine lv_iload_n hx hb dX4_keepRow_23 rfl (lv_at hl 1 rfl) ?_
      refine lv_aload_n hx hb dX4_keepRow_24 rfl (lv_at hl 0 rfl) ?_
      have ap_25 : al 18 = true := hW.cl a_11 (hF _ 6 _ a_11 rfl)
      refine r_getq C fr_X4_37 hW a_11 rfl rfl (hF _ 6 _ a_11 rfl) dX4_keepRow_25 ?_
      refine lv_iload_n hx hb dX4_keepRow_28 rfl (lv_at hl 1 rfl) ?_
      obtain ⟨g_29, h⟩ := gd_some h
      refine r_iald C hW ap_25 rfl (ix_in g_29) dX4_keepRow_29 ?_
      obtain ⟨g_30, h⟩ := gd_some h
      obtain ⟨I_30, e_I_30, h⟩ := lt_some h
      refine r_iast C hW ap_20 rfl (ix_in g_30) dX4_keepRow_30 (fun H locs hW => ?_)
      rw [← e_I_30] at hW
      refine lv_aload_n hx hb dX4_keepRow_31 rfl (lv_at hl 0 rfl) ?_
      have ap_32 : al 21 = true := hW.cl a_11 (hF _ 9 _ a_11 rfl)
      refine r_getq C fr_X4_47 hW a_11 rfl rfl (hF _ 9 _ a_11 rfl) dX4_keepRow_32 ?_
      refine lv_iload_n hx hb dX4_keepRow_35 rfl (lv_at hl 1 rfl) ?_
      refine lv_aload_n hx hb dX4_keepRow_36 rfl (lv_at hl 0 rfl) ?_
      have ap_37 : al 19 = true := hW.cl a_11 (hF _ 7 _ a_11 rfl)
      refine r_getq C fr_X4_41 hW a_11 rfl rfl (hF _ 7 _ a_11 rfl) dX4_keepRow_37 ?_
      refine lv_iload_n hx hb dX4_keepRow_40 rfl (lv_at hl 1 rfl) ?_
      obtain ⟨g_41, h⟩ := gd_some h
      refine r_iald C hW ap_37 rfl (ix_in g_41) dX4_keepRow_41 ?_
      obtain ⟨g_42, h⟩ := gd_some h
      obtain ⟨I_42, e_I_42, h⟩ := lt_some h
      refine r_iast C hW ap_32 rfl (ix_in g_42) dX4_keepRow_42 (fun H locs hW => ?_)
      rw [← e_I_42] at hW
      refine lv_iinc (v := x1 + 1) (lv' := [(1, .int (x1 + 1)), (0, .ref (q 11))]) hx hb dX4_keepRow_43 hl (k := 1) rfl rfl (by decide) rfl (fun ls hl => ?_)
      refine lv_goto (tgt := 13) hx hb dX4_keepRow_46 (by decide) ?_
      exact ih a_11 h hW hF (lv_sub hl [1, 0] rfl)
def f_X4_keepRow (I : MI) (R : MR) : Option (MI) := lt (p2 I 11 12 (I 12 1)) (fun I_8 => f_X4_keepRow_13 1000000 I_8 R 0)
set_option maxHeartbeats 4000000 in
set_option maxRecDepth 100000 in
theorem c_X4_keepRow {l : Launch} {E : EV} {q : Nat → Nat} {al : Nat → Bool} {n : Nat} {I : MI} {R : MR}  (a_11 : al 11 = true) (hF : Fx al R) {res : MI} (h : f_X4_keepRow I R = some res) : Ct l yX4_keepRow cX4_keepRow 2 none 1 0 0 E q al I R n [.ref (q 11)] none al res R n := by
  refine Ct.of (own := RX4) (mn := "keepRow") (by decide) rfl rfl (Nat.le_of_ble_eq_true rfl) ?_
  intro p e s m args below meth c ls C hmn hargs hW hl
  have hx := C.1
  have hb := C.2.1
  have hl : lv_has ls 2 [(0, .ref (q 11))] := hl
  unfold f_X4_keepRow at h
  refine lv_aload_n hx hb dX4_keepRow_0 rfl (lv_at hl 0 rfl) ?_
  refine lv_aload_n hx hb dX4_keepRow_1 rfl (lv_at hl 0 rfl) ?_
  have ap_2 : al 12 = true := hW.cl a_11 (hF _ 0 _ a_11 rfl)
  refine r_getq C fr_X4_12 hW a_11 rfl rfl (hF _ 0 _ a_11 rfl) dX4_keepRow_2 ?_
  refine r_get C fr_X4_80 hW ap_2 rfl rfl dX4_keepRow_5 ?_
  obtain ⟨I_8, e_I_8, h⟩ := lt_some h
  refine r_put C fr_X4_56 (Or.inl rfl) hW a_11 rfl rfl rfl rfl dX4_keepRow_8 (fun H locs hW => ?_)
  rw [← e_I_8] at hW
  refine lv_iconst (v := 0) hx hb dX4_keepRow_11 (by decide) ?_
  refine lv_istore_n (lv' := [(1, .int 0), (0, .ref (q 11))]) hx hb dX4_keepRow_12 rfl hl (by decide) rfl (fun ls hl => ?_)
  exact t_X4_keepRow_13 C 1000000 a_11 h hW hF (lv_sub hl [1, 0] rfl)
def f_X4_init (q : Nat → Nat) (I : MI) (R : MR) (al : Nat → Bool) (n : Nat) : Option (MI × MR) := gd (al 12 = false ∧ q 12 = n ∧ kd 12 = 2) (lt (zI I 12) (fun I_5 => lt (zR R 12) (fun R_5 => bd (f_X2_init I_5 R_5 12) (fun z_9 => lt (pq R_5 11 0 (some 12)) (fun R_12 => gd ((alu al 12) 13 = false ∧ q 13 = (n + 1) ∧ kd 13 = 12 ∧ (4 : Int32).toNatClampNeg = ln 13) (lt (zI z_9 13) (fun I_17 => lt (zR R_12 13) (fun R_17 => lt (pq R_17 11 1 (some 13)) (fun R_20 => lt (p2 I_17 11 2 0) (fun I_25 => lt (p2 I_25 11 3 0) (fun I_30 => lt (p2 I_30 11 4 0) (fun I_35 => lt (p2 I_35 11 5 0) (fun I_40 => gd ((alu (alu al 12) 13) 18 = false ∧ q 18 = ((n + 1) + 1) ∧ kd 18 = 10 ∧ (6 : Int32).toNatClampNeg = ln 18) (lt (zI I_40 18) (fun I_46 => lt (zR R_20 18) (fun R_46 => lt (pq R_46 11 6 (some 18)) (fun R_48 => gd ((alu (alu (alu al 12) 13) 18) 19 = false ∧ q 19 = (((n + 1) + 1) + 1) ∧ kd 19 = 10 ∧ (6 : Int32).toNatClampNeg = ln 19) (lt (zI I_46 19) (fun I_54 => lt (zR R_48 19) (fun R_54 => lt (pq R_54 11 7 (some 19)) (fun R_56 => gd ((alu (alu (alu (alu al 12) 13) 18) 19) 20 = false ∧ q 20 = ((((n + 1) + 1) + 1) + 1) ∧ kd 20 = 10 ∧ (6 : Int32).toNatClampNeg = ln 20) (lt (zI I_54 20) (fun I_62 => lt (zR R_56 20) (fun R_62 => lt (pq R_62 11 8 (some 20)) (fun R_64 => gd ((alu (alu (alu (alu (alu al 12) 13) 18) 19) 20) 21 = false ∧ q 21 = (((((n + 1) + 1) + 1) + 1) + 1) ∧ kd 21 = 10 ∧ (6 : Int32).toNatClampNeg = ln 21) (lt (zI I_62 21) (fun I_70 => lt (zR R_64 21) (fun R_70 => lt (pq R_70 11 9 (some 21)) (fun R_72 => gd ((alu (alu (alu (alu (alu (alu al 12) 13) 18) 19) 20) 21) 22 = false ∧ q 22 = ((((((n + 1) + 1) + 1) + 1) + 1) + 1) ∧ kd 22 = 10 ∧ (4 : Int32).toNatClampNeg = ln 22) (lt (zI I_70 22) (fun I_77 => lt (zR R_72 22) (fun R_77 => lt (pq R_77 11 10 (some 22)) (fun R_79 => lt (p2 I_77 11 11 0) (fun I_84 => lt (p2 I_84 11 12 (-1)) (fun I_89 => bd (R_79 11 1) (fun z_100 => gd ((alu (alu (alu (alu (alu (alu (alu al 12) 13) 18) 19) 20) 21) 22) 14 = false ∧ q 14 = (((((((n + 1) + 1) + 1) + 1) + 1) + 1) + 1) ∧ kd 14 = 0) (lt (zI I_89 14) (fun I_104 => lt (zR R_79 14) (fun R_104 => bd (f_X0_init I_104 R_104 14) (fun z_108 => gd (ix 0 (ln z_100)) (lt (pq R_104 z_100 (0 : Int32).toNatClampNeg (some 14)) (fun R_111 => bd (R_111 11 1) (fun z_100 => gd ((alu (alu (alu (alu (alu (alu (alu (alu al 12) 13) 18) 19) 20) 21) 22) 14) 15 = false ∧ q 15 = ((((((((n + 1) + 1) + 1) + 1) + 1) + 1) + 1) + 1) ∧ kd 15 = 0) (lt (zI z_108 15) (fun I_104 => lt (zR R_111 15) (fun R_104 => bd (f_X0_init I_104 R_104 15) (fun z_108 => gd (ix 1 (ln z_100)) (lt (pq R_104 z_100 (1 : Int32).toNatClampNeg (some 15)) (fun R_111 => bd (R_111 11 1) (fun z_100 => gd ((alu (alu (alu (alu (alu (alu (alu (alu (alu al 12) 13) 18) 19) 20) 21) 22) 14) 15) 16 = false ∧ q 16 = (((((((((n + 1) + 1) + 1) + 1) + 1) + 1) + 1) + 1) + 1) ∧ kd 16 = 0) (lt (zI z_108 16) (fun I_104 => lt (zR R_111 16) (fun R_104 => bd (f_X0_init I_104 R_104 16) (fun z_108 => gd (ix 2 (ln z_100)) (lt (pq R_104 z_100 (2 : Int32).toNatClampNeg (some 16)) (fun R_111 => bd (R_111 11 1) (fun z_100 => gd ((alu (alu (alu (alu (alu (alu (alu (alu (alu (alu al 12) 13) 18) 19) 20) 21) 22) 14) 15) 16) 17 = false ∧ q 17 = ((((((((((n + 1) + 1) + 1) + 1) + 1) + 1) + 1) + 1) + 1) + 1) ∧ kd 17 = 0) (lt (zI z_108 17) (fun I_104 => lt (zR R_111 17) (fun R_104 => bd (f_X0_init I_104 R_104 17) (fun z_108 => gd (ix 3 (ln z_100)) (lt (pq R_104 z_100 (3 : Int32).toNatClampNeg (some 17)) (fun R_111 => some (z_108, R_111))))))))))))))))))))))))))))))))))))))))))))))))))))))))))))))))
set_option maxHeartbeats 4000000 in
set_option maxRecDepth 100000 in
theorem c_X4_init {l : Launch} {E : EV} {q : Nat → Nat} {al : Nat → Bool} {n : Nat} {I : MI} {R : MR}  (a_11 : al 11 = true) {res : MI × MR} (h : f_X4_init q I R al n = some res) : Ct l yX4_init cX4_init 2 none 2 11 66 E q al I R n [.ref (q 11)] none (alu (alu (alu (alu (alu (alu (alu (alu (alu (alu (alu al 12) 13) 18) 19) 20) 21) 22) 14) 15) 16) 17) res.1 res.2 (((((((((((n + 1) + 1) + 1) + 1) + 1) + 1) + 1) + 1) + 1) + 1) + 1) := by
  refine Ct.of (own := RX4) (mn := "<init>") (by decide) rfl rfl (Nat.le_of_ble_eq_true rfl) ?_
  intro p e s m args below meth c ls C hmn hargs hW hl
  have hx := C.1
  have hb := C.2.1
  have hl : lv_has ls 2 [(0, .ref (q 11))] := hl
  unfold f_X4_init at h
  refine lv_aload_n hx hb dX4_init_0 rfl (lv_at hl 0 rfl) ?_
  refine r_obj C gm_95 gm_21 gm_22 hl.1 ⟨Nat.le_of_ble_eq_true rfl, Nat.le_of_ble_eq_true rfl⟩ dX4_init_1 ?_
  refine lv_aload_n hx hb dX4_init_4 rfl (lv_at hl 0 rfl) ?_
  obtain ⟨g_5, h⟩ := gd_some h
  obtain ⟨I_5, e_I_5, h⟩ := lt_some h
  obtain ⟨R_5, e_R_5, h⟩ := lt_some h
  refine r_new C nc_X4_9 hW g_5.1 g_5.2.1 g_5.2.2 (by decide) (by decide) dX4_init_5 (fun H hW => ?_)
  rw [← e_I_5, ← e_R_5] at hW
  refine W.widen (k := 1) (n := 10) (by decide) (by decide) ?_
  have a_11_5 : (alu al 12) 11 = true := alu_old a_11
  have a_12_5 : (alu al 12) 12 = true := alu_new
  have k_12_5 : kd 12 = 2 := g_5.2.2
  refine lv_dup hx hb dX4_init_8 rfl ?_
  obtain ⟨z_9, e_z_9, h⟩ := bd_some h
  refine r_callIN (host := "GasYard") (v := none) (As := []) (rest := [.ref (q 12), .ref (q 11)]) C ml_X2_init (by decide +kernel) gm_99 rfl hW hl.1 (c_X2_init a_12_5 k_12_5 e_z_9) rfl ⟨(by decide), (by decide)⟩ ⟨(by decide), (by decide)⟩ rfl (Nat.le_of_ble_eq_true rfl) dX4_init_9 (fun H locs hW => ?_)
  obtain ⟨R_12, e_R_12, h⟩ := lt_some h
  refine r_putq C fr_X4_12 (Or.inr ⟨rfl, hmn, ⟨_, rfl, rfl⟩⟩) hW a_11_5 rfl rfl a_12_5 k_12_5 rfl rfl dX4_init_12 (fun H locs hW => ?_)
  rw [← e_R_12] at hW
  refine lv_aload_n hx hb dX4_init_15 rfl (lv_at hl 0 rfl) ?_
  refine lv_iconst (v := 4) hx hb dX4_init_16 (by decide) ?_
  obtain ⟨g_17, h⟩ := gd_some h
  obtain ⟨I_17, e_I_17, h⟩ := lt_some h
  obtain ⟨R_17, e_R_17, h⟩ := lt_some h
  refine r_anew C gm_144 (Or.inl ⟨rfl, rfl⟩) hW g_17.1 g_17.2.1 g_17.2.2.1 (by decide) g_17.2.2.2 (by rw [← g_17.2.2.2]; decide) (by decide) (by rw [← g_17.2.2.2]; decide) dX4_init_17 (fun H hW => ?_)
  rw [← g_17.2.2.2]
  rw [← e_I_17, ← e_R_17] at hW
  refine W.widen (k := 2) (n := 14) (by decide) (by decide) ?_
  have a_11_17 : (alu (alu al 12) 13) 11 = true := alu_old a_11_5
  have a_12_17 : (alu (alu al 12) 13) 12 = true := alu_old a_12_5
  have a_13_17 : (alu (alu al 12) 13) 13 = true := alu_new
  have k_13_17 : kd 13 = 12 := g_17.2.2.1
  obtain ⟨R_20, e_R_20, h⟩ := lt_some h
  refine r_putq C fr_X4_20 (Or.inr ⟨rfl, hmn, ⟨_, rfl, rfl⟩⟩) hW a_11_17 rfl rfl a_13_17 k_13_17 rfl rfl dX4_init_20 (fun H locs hW => ?_)
  rw [← e_R_20] at hW
  refine lv_aload_n hx hb dX4_init_23 rfl (lv_at hl 0 rfl) ?_
  refine lv_iconst (v := 0) hx hb dX4_init_24 (by decide) ?_
  obtain ⟨I_25, e_I_25, h⟩ := lt_some h
  refine r_put C fr_X4_24 (Or.inl rfl) hW a_11_17 rfl rfl rfl rfl dX4_init_25 (fun H locs hW => ?_)
  rw [← e_I_25] at hW
  refine lv_aload_n hx hb dX4_init_28 rfl (lv_at hl 0 rfl) ?_
  refine lv_iconst (v := 0) hx hb dX4_init_29 (by decide) ?_
  obtain ⟨I_30, e_I_30, h⟩ := lt_some h
  refine r_put C fr_X4_28 (Or.inl rfl) hW a_11_17 rfl rfl rfl rfl dX4_init_30 (fun H locs hW => ?_)
  rw [← e_I_30] at hW
  refine lv_aload_n hx hb dX4_init_33 rfl (lv_at hl 0 rfl) ?_
  refine lv_iconst (v := 0) hx hb dX4_init_34 (by decide) ?_
  obtain ⟨I_35, e_I_35, h⟩ := lt_some h
  refine r_put C fr_X4_31 (Or.inl rfl) hW a_11_17 rfl rfl rfl rfl dX4_init_35 (fun H locs hW => ?_)
  rw [← e_I_35] at hW
  refine lv_aload_n hx hb dX4_init_38 rfl (lv_at hl 0 rfl) ?_
  refine lv_iconst (v := 0) hx hb dX4_init_39 (by decide) ?_
  obtain ⟨I_40, e_I_40, h⟩ := lt_some h
  refine r_put C fr_X4_34 (Or.inl rfl) hW a_11_17 rfl rfl rfl rfl dX4_init_40 (fun H locs hW => ?_)
  rw [← e_I_40] at hW
  refine lv_aload_n hx hb dX4_init_43 rfl (lv_at hl 0 rfl) ?_
  refine lv_bipush (v := 6) hx hb dX4_init_44 (by decide) ?_
  obtain ⟨g_46, h⟩ := gd_some h
  obtain ⟨I_46, e_I_46, h⟩ := lt_some h
  obtain ⟨R_46, e_R_46, h⟩ := lt_some h
  refine r_newa (at_ := .int) C gm_41 (Or.inr (Or.inl ⟨rfl, rfl⟩)) hW g_46.1 g_46.2.1 g_46.2.2.1 (by decide) g_46.2.2.2 (by rw [← g_46.2.2.2]; decide) (by decide) (by rw [← g_46.2.2.2]; decide) dX4_init_46 (fun H hW => ?_)
  rw [← g_46.2.2.2]
  rw [← e_I_46, ← e_R_46] at hW
  refine W.widen (k := 3) (n := 20) (by decide) (by decide) ?_
  have a_11_46 : (alu (alu (alu al 12) 13) 18) 11 = true := alu_old a_11_17
  have a_12_46 : (alu (alu (alu al 12) 13) 18) 12 = true := alu_old a_12_17
  have a_13_46 : (alu (alu (alu al 12) 13) 18) 13 = true := alu_old a_13_17
  have a_18_46 : (alu (alu (alu al 12) 13) 18) 18 = true := alu_new
  have k_18_46 : kd 18 = 10 := g_46.2.2.1
  obtain ⟨R_48, e_R_48, h⟩ := lt_some h
  refine r_putq C fr_X4_37 (Or.inr ⟨rfl, hmn, ⟨_, rfl, rfl⟩⟩) hW a_11_46 rfl rfl a_18_46 k_18_46 rfl rfl dX4_init_48 (fun H locs hW => ?_)
  rw [← e_R_48] at hW
  refine lv_aload_n hx hb dX4_init_51 rfl (lv_at hl 0 rfl) ?_
  refine lv_bipush (v := 6) hx hb dX4_init_52 (by decide) ?_
  obtain ⟨g_54, h⟩ := gd_some h
  obtain ⟨I_54, e_I_54, h⟩ := lt_some h
  obtain ⟨R_54, e_R_54, h⟩ := lt_some h
  refine r_newa (at_ := .int) C gm_41 (Or.inr (Or.inl ⟨rfl, rfl⟩)) hW g_54.1 g_54.2.1 g_54.2.2.1 (by decide) g_54.2.2.2 (by rw [← g_54.2.2.2]; decide) (by decide) (by rw [← g_54.2.2.2]; decide) dX4_init_54 (fun H hW => ?_)
  rw [← g_54.2.2.2]
  rw [← e_I_54, ← e_R_54] at hW
  refine W.widen (k := 4) (n := 26) (by decide) (by decide) ?_
  have a_11_54 : (alu (alu (alu (alu al 12) 13) 18) 19) 11 = true := alu_old a_11_46
  have a_12_54 : (alu (alu (alu (alu al 12) 13) 18) 19) 12 = true := alu_old a_12_46
  have a_13_54 : (alu (alu (alu (alu al 12) 13) 18) 19) 13 = true := alu_old a_13_46
  have a_18_54 : (alu (alu (alu (alu al 12) 13) 18) 19) 18 = true := alu_old a_18_46
  have a_19_54 : (alu (alu (alu (alu al 12) 13) 18) 19) 19 = true := alu_new
  have k_19_54 : kd 19 = 10 := g_54.2.2.1
  obtain ⟨R_56, e_R_56, h⟩ := lt_some h
  refine r_putq C fr_X4_41 (Or.inr ⟨rfl, hmn, ⟨_, rfl, rfl⟩⟩) hW a_11_54 rfl rfl a_19_54 k_19_54 rfl rfl dX4_init_56 (fun H locs hW => ?_)
  rw [← e_R_56] at hW
  refine lv_aload_n hx hb dX4_init_59 rfl (lv_at hl 0 rfl) ?_
  refine lv_bipush (v := 6) hx hb dX4_init_60 (by decide) ?_
  obtain ⟨g_62, h⟩ := gd_some h
  obtain ⟨I_62, e_I_62, h⟩ := lt_some h
  obtain ⟨R_62, e_R_62, h⟩ := lt_some h
  refine r_newa (at_ := .int) C gm_41 (Or.inr (Or.inl ⟨rfl, rfl⟩)) hW g_62.1 g_62.2.1 g_62.2.2.1 (by decide) g_62.2.2.2 (by rw [← g_62.2.2.2]; decide) (by decide) (by rw [← g_62.2.2.2]; decide) dX4_init_62 (fun H hW => ?_)
  rw [← g_62.2.2.2]
  rw [← e_I_62, ← e_R_62] at hW
  refine W.widen (k := 5) (n := 32) (by decide) (by decide) ?_
  have a_11_62 : (alu (alu (alu (alu (alu al 12) 13) 18) 19) 20) 11 = true := alu_old a_11_54
  have a_12_62 : (alu (alu (alu (alu (alu al 12) 13) 18) 19) 20) 12 = true := alu_old a_12_54
  have a_13_62 : (alu (alu (alu (alu (alu al 12) 13) 18) 19) 20) 13 = true := alu_old a_13_54
  have a_18_62 : (alu (alu (alu (alu (alu al 12) 13) 18) 19) 20) 18 = true := alu_old a_18_54
  have a_19_62 : (alu (alu (alu (alu (alu al 12) 13) 18) 19) 20) 19 = true := alu_old a_19_54
  have a_20_62 : (alu (alu (alu (alu (alu al 12) 13) 18) 19) 20) 20 = true := alu_new
  have k_20_62 : kd 20 = 10 := g_62.2.2.1
  obtain ⟨R_64, e_R_64, h⟩ := lt_some h
  refine r_putq C fr_X4_44 (Or.inr ⟨rfl, hmn, ⟨_, rfl, rfl⟩⟩) hW a_11_62 rfl rfl a_20_62 k_20_62 rfl rfl dX4_init_64 (fun H locs hW => ?_)
  rw [← e_R_64] at hW
  refine lv_aload_n hx hb dX4_init_67 rfl (lv_at hl 0 rfl) ?_
  refine lv_bipush (v := 6) hx hb dX4_init_68 (by decide) ?_
  obtain ⟨g_70, h⟩ := gd_some h
  obtain ⟨I_70, e_I_70, h⟩ := lt_some h
  obtain ⟨R_70, e_R_70, h⟩ := lt_some h
  refine r_newa (at_ := .int) C gm_41 (Or.inr (Or.inl ⟨rfl, rfl⟩)) hW g_70.1 g_70.2.1 g_70.2.2.1 (by decide) g_70.2.2.2 (by rw [← g_70.2.2.2]; decide) (by decide) (by rw [← g_70.2.2.2]; decide) dX4_init_70 (fun H hW => ?_)
  rw [← g_70.2.2.2]
  rw [← e_I_70, ← e_R_70] at hW
  refine W.widen (k := 6) (n := 38) (by decide) (by decide) ?_
  have a_11_70 : (alu (alu (alu (alu (alu (alu al 12) 13) 18) 19) 20) 21) 11 = true := alu_old a_11_62
  have a_12_70 : (alu (alu (alu (alu (alu (alu al 12) 13) 18) 19) 20) 21) 12 = true := alu_old a_12_62
  have a_13_70 : (alu (alu (alu (alu (alu (alu al 12) 13) 18) 19) 20) 21) 13 = true := alu_old a_13_62
  have a_18_70 : (alu (alu (alu (alu (alu (alu al 12) 13) 18) 19) 20) 21) 18 = true := alu_old a_18_62
  have a_19_70 : (alu (alu (alu (alu (alu (alu al 12) 13) 18) 19) 20) 21) 19 = true := alu_old a_19_62
  have a_20_70 : (alu (alu (alu (alu (alu (alu al 12) 13) 18) 19) 20) 21) 20 = true := alu_old a_20_62
  have a_21_70 : (alu (alu (alu (alu (alu (alu al 12) 13) 18) 19) 20) 21) 21 = true := alu_new
  have k_21_70 : kd 21 = 10 := g_70.2.2.1
  obtain ⟨R_72, e_R_72, h⟩ := lt_some h
  refine r_putq C fr_X4_47 (Or.inr ⟨rfl, hmn, ⟨_, rfl, rfl⟩⟩) hW a_11_70 rfl rfl a_21_70 k_21_70 rfl rfl dX4_init_72 (fun H locs hW => ?_)
  rw [← e_R_72] at hW
  refine lv_aload_n hx hb dX4_init_75 rfl (lv_at hl 0 rfl) ?_
  refine lv_iconst (v := 4) hx hb dX4_init_76 (by decide) ?_
  obtain ⟨g_77, h⟩ := gd_some h
  obtain ⟨I_77, e_I_77, h⟩ := lt_some h
  obtain ⟨R_77, e_R_77, h⟩ := lt_some h
  refine r_newa (at_ := .int) C gm_41 (Or.inr (Or.inl ⟨rfl, rfl⟩)) hW g_77.1 g_77.2.1 g_77.2.2.1 (by decide) g_77.2.2.2 (by rw [← g_77.2.2.2]; decide) (by decide) (by rw [← g_77.2.2.2]; decide) dX4_init_77 (fun H hW => ?_)
  rw [← g_77.2.2.2]
  rw [← e_I_77, ← e_R_77] at hW
  refine W.widen (k := 7) (n := 42) (by decide) (by decide) ?_
  have a_11_77 : (alu (alu (alu (alu (alu (alu (alu al 12) 13) 18) 19) 20) 21) 22) 11 = true := alu_old a_11_70
  have a_12_77 : (alu (alu (alu (alu (alu (alu (alu al 12) 13) 18) 19) 20) 21) 22) 12 = true := alu_old a_12_70
  have a_13_77 : (alu (alu (alu (alu (alu (alu (alu al 12) 13) 18) 19) 20) 21) 22) 13 = true := alu_old a_13_70
  have a_18_77 : (alu (alu (alu (alu (alu (alu (alu al 12) 13) 18) 19) 20) 21) 22) 18 = true := alu_old a_18_70
  have a_19_77 : (alu (alu (alu (alu (alu (alu (alu al 12) 13) 18) 19) 20) 21) 22) 19 = true := alu_old a_19_70
  have a_20_77 : (alu (alu (alu (alu (alu (alu (alu al 12) 13) 18) 19) 20) 21) 22) 20 = true := alu_old a_20_70
  have a_21_77 : (alu (alu (alu (alu (alu (alu (alu al 12) 13) 18) 19) 20) 21) 22) 21 = true := alu_old a_21_70
  have a_22_77 : (alu (alu (alu (alu (alu (alu (alu al 12) 13) 18) 19) 20) 21) 22) 22 = true := alu_new
  have k_22_77 : kd 22 = 10 := g_77.2.2.1
  obtain ⟨R_79, e_R_79, h⟩ := lt_some h
  refine r_putq C fr_X4_50 (Or.inr ⟨rfl, hmn, ⟨_, rfl, rfl⟩⟩) hW a_11_77 rfl rfl a_22_77 k_22_77 rfl rfl dX4_init_79 (fun H locs hW => ?_)
  rw [← e_R_79] at hW
  refine lv_aload_n hx hb dX4_init_82 rfl (lv_at hl 0 rfl) ?_
  refine lv_iconst (v := 0) hx hb dX4_init_83 (by decide) ?_
  obtain ⟨I_84, e_I_84, h⟩ := lt_some h
  refine r_put C fr_X4_53 (Or.inl rfl) hW a_11_77 rfl rfl rfl rfl dX4_init_84 (fun H locs hW => ?_)
  rw [← e_I_84] at hW
  refine lv_aload_n hx hb dX4_init_87 rfl (lv_at hl 0 rfl) ?_
  refine lv_iconst (v := (-1)) hx hb dX4_init_88 (by decide) ?_
  obtain ⟨I_89, e_I_89, h⟩ := lt_some h
  refine r_put C fr_X4_56 (Or.inl rfl) hW a_11_77 rfl rfl rfl rfl dX4_init_89 (fun H locs hW => ?_)
  rw [← e_I_89] at hW
  refine lv_iconst (v := 0) hx hb dX4_init_92 (by decide) ?_
  refine lv_istore_n (lv' := [(1, .int 0), (0, .ref (q 11))]) hx hb dX4_init_93 rfl hl (by decide) rfl (fun ls hl => ?_)
  refine lv_iload_n hx hb dX4_init_94 rfl (lv_at hl 0 rfl) ?_
  refine lv_iconst (v := 4) hx hb dX4_init_95 (by decide) ?_
  refine lv_icmp_ge (tgt := 118) hx hb dX4_init_96 (by decide) (fun c_ => absurd c_ (by decide)) (fun c_96 => ?_)
  refine lv_aload_n hx hb dX4_init_99 rfl (lv_at hl 1 rfl) ?_
  obtain ⟨z_100, e_z_100, h⟩ := bd_some h
  have a_z_100 : (alu (alu (alu (alu (alu (alu (alu al 12) 13) 18) 19) 20) 21) 22) z_100 = true := hW.cl a_11_77 e_z_100
  have k_z_100 : kd z_100 = 12 := hW.kn a_11_77 e_z_100 (by rfl)
  refine r_getq C fr_X4_20 hW a_11_77 rfl rfl e_z_100 dX4_init_100 ?_
  refine lv_iload_n hx hb dX4_init_103 rfl (lv_at hl 0 rfl) ?_
  obtain ⟨g_104, h⟩ := gd_some h
  obtain ⟨I_104, e_I_104, h⟩ := lt_some h
  obtain ⟨R_104, e_R_104, h⟩ := lt_some h
  refine r_new C nc_X4_18 hW g_104.1 g_104.2.1 g_104.2.2 (by decide) (by decide) dX4_init_104 (fun H hW => ?_)
  rw [← e_I_104, ← e_R_104] at hW
  refine W.widen (k := 8) (n := 48) (by decide) (by decide) ?_
  have a_11_104 : (alu (alu (alu (alu (alu (alu (alu (alu al 12) 13) 18) 19) 20) 21) 22) 14) 11 = true := alu_old a_11_77
  have a_12_104 : (alu (alu (alu (alu (alu (alu (alu (alu al 12) 13) 18) 19) 20) 21) 22) 14) 12 = true := alu_old a_12_77
  have a_13_104 : (alu (alu (alu (alu (alu (alu (alu (alu al 12) 13) 18) 19) 20) 21) 22) 14) 13 = true := alu_old a_13_77
  have a_18_104 : (alu (alu (alu (alu (alu (alu (alu (alu al 12) 13) 18) 19) 20) 21) 22) 14) 18 = true := alu_old a_18_77
  have a_19_104 : (alu (alu (alu (alu (alu (alu (alu (alu al 12) 13) 18) 19) 20) 21) 22) 14) 19 = true := alu_old a_19_77
  have a_20_104 : (alu (alu (alu (alu (alu (alu (alu (alu al 12) 13) 18) 19) 20) 21) 22) 14) 20 = true := alu_old a_20_77
  have a_21_104 : (alu (alu (alu (alu (alu (alu (alu (alu al 12) 13) 18) 19) 20) 21) 22) 14) 21 = true := alu_old a_21_77
  have a_22_104 : (alu (alu (alu (alu (alu (alu (alu (alu al 12) 13) 18) 19) 20) 21) 22) 14) 22 = true := alu_old a_22_77
  have a_z_100_104 : (alu (alu (alu (alu (alu (alu (alu (alu al 12) 13) 18) 19) 20) 21) 22) 14) z_100 = true := alu_old a_z_100
  have a_14_104 : (alu (alu (alu (alu (alu (alu (alu (alu al 12) 13) 18) 19) 20) 21) 22) 14) 14 = true := alu_new
  have k_14_104 : kd 14 = 0 := g_104.2.2
  refine lv_dup hx hb dX4_init_107 rfl ?_
  obtain ⟨z_108, e_z_108, h⟩ := bd_some h
  refine r_callIN (host := "GasYard") (v := none) (As := []) (rest := [.ref (q 14), .int 0, .ref (q z_100)]) C ml_X0_init (by decide +kernel) gm_147 rfl hW hl.1 (c_X0_init a_14_104 k_14_104 e_z_108) rfl ⟨(by decide), (by decide)⟩ ⟨(by decide), (by decide)⟩ rfl (Nat.le_of_ble_eq_true rfl) dX4_init_108 (fun H locs hW => ?_)
  obtain ⟨g_111, h⟩ := gd_some h
  obtain ⟨R_111, e_R_111, h⟩ := lt_some h
  refine r_aast C hW a_z_100_104 k_z_100 (by decide) a_14_104 k_14_104 (ix_in g_111) dX4_init_111 (fun H locs hW => ?_)
  rw [← e_R_111] at hW
  refine lv_iinc (v := 1) (lv' := [(1, .int 1), (0, .ref (q 11))]) hx hb dX4_init_112 hl (k := 0) rfl rfl (by decide) rfl (fun ls hl => ?_)
  refine lv_goto (tgt := 94) hx hb dX4_init_115 (by decide) ?_
  refine lv_iload_n hx hb dX4_init_94 rfl (lv_at hl 0 rfl) ?_
  refine lv_iconst (v := 4) hx hb dX4_init_95 (by decide) ?_
  refine lv_icmp_ge (tgt := 118) hx hb dX4_init_96 (by decide) (fun c_ => absurd c_ (by decide)) (fun c_96 => ?_)
  refine lv_aload_n hx hb dX4_init_99 rfl (lv_at hl 1 rfl) ?_
  obtain ⟨z_100, e_z_100, h⟩ := bd_some h
  have a_z_100 : (alu (alu (alu (alu (alu (alu (alu (alu al 12) 13) 18) 19) 20) 21) 22) 14) z_100 = true := hW.cl a_11_104 e_z_100
  have k_z_100 : kd z_100 = 12 := hW.kn a_11_104 e_z_100 (by rfl)
  refine r_getq C fr_X4_20 hW a_11_104 rfl rfl e_z_100 dX4_init_100 ?_
  refine lv_iload_n hx hb dX4_init_103 rfl (lv_at hl 0 rfl) ?_
  obtain ⟨g_104, h⟩ := gd_some h
  obtain ⟨I_104, e_I_104, h⟩ := lt_some h
  obtain ⟨R_104, e_R_104, h⟩ := lt_some h
  refine r_new C nc_X4_18 hW g_104.1 g_104.2.1 g_104.2.2 (by decide) (by decide) dX4_init_104 (fun H hW => ?_)
  rw [← e_I_104, ← e_R_104] at hW
  refine W.widen (k := 9) (n := 54) (by decide) (by decide) ?_
  have a_11_104 : (alu (alu (alu (alu (alu (alu (alu (alu (alu al 12) 13) 18) 19) 20) 21) 22) 14) 15) 11 = true := alu_old a_11_104
  have a_12_104 : (alu (alu (alu (alu (alu (alu (alu (alu (alu al 12) 13) 18) 19) 20) 21) 22) 14) 15) 12 = true := alu_old a_12_104
  have a_13_104 : (alu (alu (alu (alu (alu (alu (alu (alu (alu al 12) 13) 18) 19) 20) 21) 22) 14) 15) 13 = true := alu_old a_13_104
  have a_18_104 : (alu (alu (alu (alu (alu (alu (alu (alu (alu al 12) 13) 18) 19) 20) 21) 22) 14) 15) 18 = true := alu_old a_18_104
  have a_19_104 : (alu (alu (alu (alu (alu (alu (alu (alu (alu al 12) 13) 18) 19) 20) 21) 22) 14) 15) 19 = true := alu_old a_19_104
  have a_20_104 : (alu (alu (alu (alu (alu (alu (alu (alu (alu al 12) 13) 18) 19) 20) 21) 22) 14) 15) 20 = true := alu_old a_20_104
  have a_21_104 : (alu (alu (alu (alu (alu (alu (alu (alu (alu al 12) 13) 18) 19) 20) 21) 22) 14) 15) 21 = true := alu_old a_21_104
  have a_22_104 : (alu (alu (alu (alu (alu (alu (alu (alu (alu al 12) 13) 18) 19) 20) 21) 22) 14) 15) 22 = true := alu_old a_22_104
  have a_z_100_104 : (alu (alu (alu (alu (alu (alu (alu (alu (alu al 12) 13) 18) 19) 20) 21) 22) 14) 15) z_100 = true := alu_old a_z_100
  have a_14_104 : (alu (alu (alu (alu (alu (alu (alu (alu (alu al 12) 13) 18) 19) 20) 21) 22) 14) 15) 14 = true := alu_old a_14_104
  have a_15_104 : (alu (alu (alu (alu (alu (alu (alu (alu (alu al 12) 13) 18) 19) 20) 21) 22) 14) 15) 15 = true := alu_new
  have k_15_104 : kd 15 = 0 := g_104.2.2
  refine lv_dup hx hb dX4_init_107 rfl ?_
  obtain ⟨z_108, e_z_108, h⟩ := bd_some h
  refine r_callIN (host := "GasYard") (v := none) (As := []) (rest := [.ref (q 15), .int 1, .ref (q z_100)]) C ml_X0_init (by decide +kernel) gm_147 rfl hW hl.1 (c_X0_init a_15_104 k_15_104 e_z_108) rfl ⟨(by decide), (by decide)⟩ ⟨(by decide), (by decide)⟩ rfl (Nat.le_of_ble_eq_true rfl) dX4_init_108 (fun H locs hW => ?_)
  obtain ⟨g_111, h⟩ := gd_some h
  obtain ⟨R_111, e_R_111, h⟩ := lt_some h
  refine r_aast C hW a_z_100_104 k_z_100 (by decide) a_15_104 k_15_104 (ix_in g_111) dX4_init_111 (fun H locs hW => ?_)
  rw [← e_R_111] at hW
  refine lv_iinc (v := 2) (lv' := [(1, .int 2), (0, .ref (q 11))]) hx hb dX4_init_112 hl (k := 0) rfl rfl (by decide) rfl (fun ls hl => ?_)
  refine lv_goto (tgt := 94) hx hb dX4_init_115 (by decide) ?_
  refine lv_iload_n hx hb dX4_init_94 rfl (lv_at hl 0 rfl) ?_
  refine lv_iconst (v := 4) hx hb dX4_init_95 (by decide) ?_
  refine lv_icmp_ge (tgt := 118) hx hb dX4_init_96 (by decide) (fun c_ => absurd c_ (by decide)) (fun c_96 => ?_)
  refine lv_aload_n hx hb dX4_init_99 rfl (lv_at hl 1 rfl) ?_
  obtain ⟨z_100, e_z_100, h⟩ := bd_some h
  have a_z_100 : (alu (alu (alu (alu (alu (alu (alu (alu (alu al 12) 13) 18) 19) 20) 21) 22) 14) 15) z_100 = true := hW.cl a_11_104 e_z_100
  have k_z_100 : kd z_100 = 12 := hW.kn a_11_104 e_z_100 (by rfl)
  refine r_getq C fr_X4_20 hW a_11_104 rfl rfl e_z_100 dX4_init_100 ?_
  refine lv_iload_n hx hb dX4_init_103 rfl (lv_at hl 0 rfl) ?_
  obtain ⟨g_104, h⟩ := gd_some h
  obtain ⟨I_104, e_I_104, h⟩ := lt_some h
  obtain ⟨R_104, e_R_104, h⟩ := lt_some h
  refine r_new C nc_X4_18 hW g_104.1 g_104.2.1 g_104.2.2 (by decide) (by decide) dX4_init_104 (fun H hW => ?_)
  rw [← e_I_104, ← e_R_104] at hW
  refine W.widen (k := 10) (n := 60) (by decide) (by decide) ?_
  have a_11_104 : (alu (alu (alu (alu (alu (alu (alu (alu (alu (alu al 12) 13) 18) 19) 20) 21) 22) 14) 15) 16) 11 = true := alu_old a_11_104
  have a_12_104 : (alu (alu (alu (alu (alu (alu (alu (alu (alu (alu al 12) 13) 18) 19) 20) 21) 22) 14) 15) 16) 12 = true := alu_old a_12_104
  have a_13_104 : (alu (alu (alu (alu (alu (alu (alu (alu (alu (alu al 12) 13) 18) 19) 20) 21) 22) 14) 15) 16) 13 = true := alu_old a_13_104
  have a_18_104 : (alu (alu (alu (alu (alu (alu (alu (alu (alu (alu al 12) 13) 18) 19) 20) 21) 22) 14) 15) 16) 18 = true := alu_old a_18_104
  have a_19_104 : (alu (alu (alu (alu (alu (alu (alu (alu (alu (alu al 12) 13) 18) 19) 20) 21) 22) 14) 15) 16) 19 = true := alu_old a_19_104
  have a_20_104 : (alu (alu (alu (alu (alu (alu (alu (alu (alu (alu al 12) 13) 18) 19) 20) 21) 22) 14) 15) 16) 20 = true := alu_old a_20_104
  have a_21_104 : (alu (alu (alu (alu (alu (alu (alu (alu (alu (alu al 12) 13) 18) 19) 20) 21) 22) 14) 15) 16) 21 = true := alu_old a_21_104
  have a_22_104 : (alu (alu (alu (alu (alu (alu (alu (alu (alu (alu al 12) 13) 18) 19) 20) 21) 22) 14) 15) 16) 22 = true := alu_old a_22_104
  have a_z_100_104 : (alu (alu (alu (alu (alu (alu (alu (alu (alu (alu al 12) 13) 18) 19) 20) 21) 22) 14) 15) 16) z_100 = true := alu_old a_z_100
  have a_14_104 : (alu (alu (alu (alu (alu (alu (alu (alu (alu (alu al 12) 13) 18) 19) 20) 21) 22) 14) 15) 16) 14 = true := alu_old a_14_104
  have a_15_104 : (alu (alu (alu (alu (alu (alu (alu (alu (alu (alu al 12) 13) 18) 19) 20) 21) 22) 14) 15) 16) 15 = true := alu_old a_15_104
  have a_16_104 : (alu (alu (alu (alu (alu (alu (alu (alu (alu (alu al 12) 13) 18) 19) 20) 21) 22) 14) 15) 16) 16 = true := alu_new
  have k_16_104 : kd 16 = 0 := g_104.2.2
  refine lv_dup hx hb dX4_init_107 rfl ?_
  obtain ⟨z_108, e_z_108, h⟩ := bd_some h
  refine r_callIN (host := "GasYard") (v := none) (As := []) (rest := [.ref (q 16), .int 2, .ref (q z_100)]) C ml_X0_init (by decide +kernel) gm_147 rfl hW hl.1 (c_X0_init a_16_104 k_16_104 e_z_108) rfl ⟨(by decide), (by decide)⟩ ⟨(by decide), (by decide)⟩ rfl (Nat.le_of_ble_eq_true rfl) dX4_init_108 (fun H locs hW => ?_)
  obtain ⟨g_111, h⟩ := gd_some h
  obtain ⟨R_111, e_R_111, h⟩ := lt_some h
  refine r_aast C hW a_z_100_104 k_z_100 (by decide) a_16_104 k_16_104 (ix_in g_111) dX4_init_111 (fun H locs hW => ?_)
  rw [← e_R_111] at hW
  refine lv_iinc (v := 3) (lv' := [(1, .int 3), (0, .ref (q 11))]) hx hb dX4_init_112 hl (k := 0) rfl rfl (by decide) rfl (fun ls hl => ?_)
  refine lv_goto (tgt := 94) hx hb dX4_init_115 (by decide) ?_
  refine lv_iload_n hx hb dX4_init_94 rfl (lv_at hl 0 rfl) ?_
  refine lv_iconst (v := 4) hx hb dX4_init_95 (by decide) ?_
  refine lv_icmp_ge (tgt := 118) hx hb dX4_init_96 (by decide) (fun c_ => absurd c_ (by decide)) (fun c_96 => ?_)
  refine lv_aload_n hx hb dX4_init_99 rfl (lv_at hl 1 rfl) ?_
  obtain ⟨z_100, e_z_100, h⟩ := bd_some h
  have a_z_100 : (alu (alu (alu (alu (alu (alu (alu (alu (alu (alu al 12) 13) 18) 19) 20) 21) 22) 14) 15) 16) z_100 = true := hW.cl a_11_104 e_z_100
  have k_z_100 : kd z_100 = 12 := hW.kn a_11_104 e_z_100 (by rfl)
  refine r_getq C fr_X4_20 hW a_11_104 rfl rfl e_z_100 dX4_init_100 ?_
  refine lv_iload_n hx hb dX4_init_103 rfl (lv_at hl 0 rfl) ?_
  obtain ⟨g_104, h⟩ := gd_some h
  obtain ⟨I_104, e_I_104, h⟩ := lt_some h
  obtain ⟨R_104, e_R_104, h⟩ := lt_some h
  refine r_new C nc_X4_18 hW g_104.1 g_104.2.1 g_104.2.2 (by decide) (by decide) dX4_init_104 (fun H hW => ?_)
  rw [← e_I_104, ← e_R_104] at hW
  refine W.widen (k := 11) (n := 66) (by decide) (by decide) ?_
  have a_11_104 : (alu (alu (alu (alu (alu (alu (alu (alu (alu (alu (alu al 12) 13) 18) 19) 20) 21) 22) 14) 15) 16) 17) 11 = true := alu_old a_11_104
  have a_12_104 : (alu (alu (alu (alu (alu (alu (alu (alu (alu (alu (alu al 12) 13) 18) 19) 20) 21) 22) 14) 15) 16) 17) 12 = true := alu_old a_12_104
  have a_13_104 : (alu (alu (alu (alu (alu (alu (alu (alu (alu (alu (alu al 12) 13) 18) 19) 20) 21) 22) 14) 15) 16) 17) 13 = true := alu_old a_13_104
  have a_18_104 : (alu (alu (alu (alu (alu (alu (alu (alu (alu (alu (alu al 12) 13) 18) 19) 20) 21) 22) 14) 15) 16) 17) 18 = true := alu_old a_18_104
  have a_19_104 : (alu (alu (alu (alu (alu (alu (alu (alu (alu (alu (alu al 12) 13) 18) 19) 20) 21) 22) 14) 15) 16) 17) 19 = true := alu_old a_19_104
  have a_20_104 : (alu (alu (alu (alu (alu (alu (alu (alu (alu (alu (alu al 12) 13) 18) 19) 20) 21) 22) 14) 15) 16) 17) 20 = true := alu_old a_20_104
  have a_21_104 : (alu (alu (alu (alu (alu (alu (alu (alu (alu (alu (alu al 12) 13) 18) 19) 20) 21) 22) 14) 15) 16) 17) 21 = true := alu_old a_21_104
  have a_22_104 : (alu (alu (alu (alu (alu (alu (alu (alu (alu (alu (alu al 12) 13) 18) 19) 20) 21) 22) 14) 15) 16) 17) 22 = true := alu_old a_22_104
  have a_z_100_104 : (alu (alu (alu (alu (alu (alu (alu (alu (alu (alu (alu al 12) 13) 18) 19) 20) 21) 22) 14) 15) 16) 17) z_100 = true := alu_old a_z_100
  have a_14_104 : (alu (alu (alu (alu (alu (alu (alu (alu (alu (alu (alu al 12) 13) 18) 19) 20) 21) 22) 14) 15) 16) 17) 14 = true := alu_old a_14_104
  have a_15_104 : (alu (alu (alu (alu (alu (alu (alu (alu (alu (alu (alu al 12) 13) 18) 19) 20) 21) 22) 14) 15) 16) 17) 15 = true := alu_old a_15_104
  have a_16_104 : (alu (alu (alu (alu (alu (alu (alu (alu (alu (alu (alu al 12) 13) 18) 19) 20) 21) 22) 14) 15) 16) 17) 16 = true := alu_old a_16_104
  have a_17_104 : (alu (alu (alu (alu (alu (alu (alu (alu (alu (alu (alu al 12) 13) 18) 19) 20) 21) 22) 14) 15) 16) 17) 17 = true := alu_new
  have k_17_104 : kd 17 = 0 := g_104.2.2
  refine lv_dup hx hb dX4_init_107 rfl ?_
  obtain ⟨z_108, e_z_108, h⟩ := bd_some h
  refine r_callIN (host := "GasYard") (v := none) (As := []) (rest := [.ref (q 17), .int 3, .ref (q z_100)]) C ml_X0_init (by decide +kernel) gm_147 rfl hW hl.1 (c_X0_init a_17_104 k_17_104 e_z_108) rfl ⟨(by decide), (by decide)⟩ ⟨(by decide), (by decide)⟩ rfl (Nat.le_of_ble_eq_true rfl) dX4_init_108 (fun H locs hW => ?_)
  obtain ⟨g_111, h⟩ := gd_some h
  obtain ⟨R_111, e_R_111, h⟩ := lt_some h
  refine r_aast C hW a_z_100_104 k_z_100 (by decide) a_17_104 k_17_104 (ix_in g_111) dX4_init_111 (fun H locs hW => ?_)
  rw [← e_R_111] at hW
  refine lv_iinc (v := 4) (lv' := [(1, .int 4), (0, .ref (q 11))]) hx hb dX4_init_112 hl (k := 0) rfl rfl (by decide) rfl (fun ls hl => ?_)
  refine lv_goto (tgt := 94) hx hb dX4_init_115 (by decide) ?_
  refine lv_iload_n hx hb dX4_init_94 rfl (lv_at hl 0 rfl) ?_
  refine lv_iconst (v := 4) hx hb dX4_init_95 (by decide) ?_
  refine lv_icmp_ge (tgt := 118) hx hb dX4_init_96 (by decide) (fun c_96 => ?_) (fun c_ => absurd c_ (by decide))
  have h := Option.some.inj h
  subst h
  exact r_vret C hW dX4_init_118
