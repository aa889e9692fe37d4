def f_X4_drawAndGoOn (srch : MI → MR → Nat → Int32 → Option MI) (I : MI) (R : MR) (o1 : Nat) (x2 : Int32) (x3 : Int32) : Option (MI) := gd (ix x2 (ln 13)) (mt (R 13 x2.toNatClampNeg) (none) (fun t_15 => bd (f_X5_unitsOver I R o1 t_15 12) (fun z_20 => gd (ix x3 (ln 18)) (lt (p2 I 18 x3.toNatClampNeg x2) (fun I_31 => gd (ix x3 (ln 19)) (lt (p2 I_31 19 x3.toNatClampNeg z_20) (fun I_39 => gd (ix x2 (ln 13)) (mt (R 13 x2.toNatClampNeg) (none) (fun t_46 => bd (f_X5_moveOver I_39 R o1 t_46 12 z_20) (fun z_53 => bd (f_X5_coolDown z_53 R o1 12 (z_53 11 3)) (fun z_65 => bd (srch z_65 R o1 (x3 + 1)) (fun z_73 => gd (ix x2 (ln 13)) (mt (R 13 x2.toNatClampNeg) (none) (fun t_82 => bd (f_X5_moveOver z_73 R o1 t_82 12 (-z_20)) (fun z_90 => lt (p2 z_90 12 3 (I 12 3)) (fun I_99 => some (I_99)))))))))))))))))
set_option maxHeartbeats 4000000 in
set_option maxRecDepth 100000 in
theorem c_X4_drawAndGoOn {l : Launch} {E : EV} {q : Nat → Nat} {al : Nat → Bool} {n : Nat} {I : MI} {R : MR} {o1 : Nat} {x2 : Int32} {x3 : Int32} {Ls : Nat} (h3 : 3 ≤ Ls) {srch : MI → MR → Nat → Int32 → Option MI} (hs : ∀ {I : MI} {R : MR} {o1 : Nat} {x2 : Int32} {res : MI}, al 11 = true → al o1 = true → kd o1 = 5 → Fx al R → srch I R o1 x2 = some res → Ct l yX4_search cX4_search 5 none Ls 0 0 E q al I R n [.ref (q 11), .ref (q o1), .int x2] none al res R n) (a_11 : al 11 = true) (a_o1 : al o1 = true) (k_o1 : kd o1 = 5) (hF : Fx al R) {res : MI} (h : f_X4_drawAndGoOn srch I R o1 x2 x3 = some res) : Ct l yX4_drawAndGoOn cX4_drawAndGoOn 6 none (Ls + 1) 0 0 E q al I R n [.ref (q 11), .ref (q o1), .int x2, .int x3] none al res R n := by
  refine Ct.of (own := RX4) (mn := "drawAndGoOn") (by decide) rfl rfl (Nat.le_of_ble_eq_true rfl) ?_
  intro p e s m args below meth c ls C hmn hargs hW hl
  have hx := C.1
  have hb := C.2.1
  have hl : lv_has ls 6 [(0, .ref (q 11)), (1, .ref (q o1)), (2, .int x2), (3, .int x3)] := hl
  unfold f_X4_drawAndGoOn at h
  refine lv_aload_n hx hb dX4_drawAndGoOn_0 rfl (lv_at hl 0 rfl) ?_
  have ap_1 : al 12 = true := hW.cl a_11 (hF _ 0 _ a_11 rfl)
  refine r_getq C fr_X4_12 hW a_11 rfl rfl (hF _ 0 _ a_11 rfl) dX4_drawAndGoOn_1 ?_
  refine r_get C fr_X4_101 hW ap_1 rfl rfl dX4_drawAndGoOn_4 ?_
  refine lv_istore (lv' := [(4, .int (I 12 3)), (0, .ref (q 11)), (1, .ref (q o1)), (2, .int x2), (3, .int x3)]) hx hb dX4_drawAndGoOn_7 hl (by decide) rfl (fun ls hl => ?_)
  refine lv_aload_n hx hb dX4_drawAndGoOn_9 rfl (lv_at hl 2 rfl) ?_
  refine lv_aload_n hx hb dX4_drawAndGoOn_10 rfl (lv_at hl 1 rfl) ?_
  have ap_11 : al 13 = true := hW.cl a_11 (hF _ 1 _ a_11 rfl)
  refine r_getq C fr_X4_20 hW a_11 rfl rfl (hF _ 1 _ a_11 rfl) dX4_drawAndGoOn_11 ?_
  refine lv_iload_n hx hb dX4_drawAndGoOn_14 rfl (lv_at hl 3 rfl) ?_
  obtain ⟨g_15, h⟩ := gd_some h
  have hm := mt_cases h
  clear h
  rcases hm with ⟨o_15, h⟩ | ⟨t_15, o_15, h⟩
  · refine r_aaldN C hW ap_11 rfl (by decide) (ix_in g_15) o_15 dX4_drawAndGoOn_15 ?_
    refine lv_aload_n hx hb dX4_drawAndGoOn_16 rfl (lv_at hl 1 rfl) ?_
    refine r_getq C fr_X4_12 hW a_11 rfl rfl (hF _ 0 _ a_11 rfl) dX4_drawAndGoOn_17 ?_
    cases h
  · have a_t_15 := hW.cl ap_11 o_15
    have k_t_15 : kd t_15 = 0 := hW.kn ap_11 o_15 (by rfl)
    refine r_aaldS C hW ap_11 rfl (by decide) (ix_in g_15) o_15 dX4_drawAndGoOn_15 ?_
    refine lv_aload_n hx hb dX4_drawAndGoOn_16 rfl (lv_at hl 1 rfl) ?_
    refine r_getq C fr_X4_12 hW a_11 rfl rfl (hF _ 0 _ a_11 rfl) dX4_drawAndGoOn_17 ?_
    obtain ⟨z_20, e_z_20, h⟩ := bd_some h
    refine r_callV (v := (some (.int z_20))) (As := [.ref (q t_15), .ref (q 12)]) (rest := []) C ml_X5_unitsOver gm_662 gm_549 gm_550 (ci := 5) rfl hW a_o1 k_o1 hl.1 (c_X5_unitsOver a_o1 k_o1 a_t_15 k_t_15 ap_1 rfl hF e_z_20) rfl ⟨(by simp only [rmL]; omega), (by simp only [rmL]; omega)⟩ ⟨(by simp only [rmL]; omega), (by simp only [rmL]; omega)⟩ rfl (Nat.le_of_ble_eq_true rfl) dX4_drawAndGoOn_20 (fun H locs hW => ?_)
    refine lv_istore (lv' := [(5, .int z_20), (4, .int (I 12 3)), (0, .ref (q 11)), (1, .ref (q o1)), (2, .int x2), (3, .int x3)]) hx hb dX4_drawAndGoOn_23 hl (by decide) rfl (fun ls hl => ?_)
    refine lv_aload_n hx hb dX4_drawAndGoOn_25 rfl (lv_at hl 2 rfl) ?_
    have ap_26 : al 18 = true := hW.cl a_11 (hF _ 6 _ a_11 rfl)
    refine r_getq C fr_X4_37 hW a_11 rfl rfl (hF _ 6 _ a_11 rfl) dX4_drawAndGoOn_26 ?_
    refine lv_iload_n hx hb dX4_drawAndGoOn_29 rfl (lv_at hl 5 rfl) ?_
    refine lv_iload_n hx hb dX4_drawAndGoOn_30 rfl (lv_at hl 4 rfl) ?_
    obtain ⟨g_31, h⟩ := gd_some h
    obtain ⟨I_31, e_I_31, h⟩ := lt_some h
    refine r_iast C hW ap_26 rfl (ix_in g_31) dX4_drawAndGoOn_31 (fun H locs hW => ?_)
    rw [← e_I_31] at hW
    refine lv_aload_n hx hb dX4_drawAndGoOn_32 rfl (lv_at hl 2 rfl) ?_
    have ap_33 : al 19 = true := hW.cl a_11 (hF _ 7 _ a_11 rfl)
    refine r_getq C fr_X4_41 hW a_11 rfl rfl (hF _ 7 _ a_11 rfl) dX4_drawAndGoOn_33 ?_
    refine lv_iload_n hx hb dX4_drawAndGoOn_36 rfl (lv_at hl 5 rfl) ?_
    refine lv_iload hx hb dX4_drawAndGoOn_37 (lv_at hl 0 rfl) ?_
    obtain ⟨g_39, h⟩ := gd_some h
    obtain ⟨I_39, e_I_39, h⟩ := lt_some h
    refine r_iast C hW ap_33 rfl (ix_in g_39) dX4_drawAndGoOn_39 (fun H locs hW => ?_)
    rw [← e_I_39] at hW
    refine lv_aload_n hx hb dX4_drawAndGoOn_40 rfl (lv_at hl 3 rfl) ?_
    refine lv_aload_n hx hb dX4_drawAndGoOn_41 rfl (lv_at hl 2 rfl) ?_
    refine r_getq C fr_X4_20 hW a_11 rfl rfl (hF _ 1 _ a_11 rfl) dX4_drawAndGoOn_42 ?_
    refine lv_iload_n hx hb dX4_drawAndGoOn_45 rfl (lv_at hl 4 rfl) ?_
    obtain ⟨g_46, h⟩ := gd_some h
    have hm := mt_cases h
    clear h
    rcases hm with ⟨o_46, h⟩ | ⟨t_46, o_46, h⟩
    · refine r_aaldN C hW ap_11 rfl (by decide) (ix_in g_46) o_46 dX4_drawAndGoOn_46 ?_
      refine lv_aload_n hx hb dX4_drawAndGoOn_47 rfl (lv_at hl 2 rfl) ?_
      refine r_getq C fr_X4_12 hW a_11 rfl rfl (hF _ 0 _ a_11 rfl) dX4_drawAndGoOn_48 ?_
      refine lv_iload hx hb dX4_drawAndGoOn_51 (lv_at hl 0 rfl) ?_
      cases h
    · have a_t_46 := hW.cl ap_11 o_46
      have k_t_46 : kd t_46 = 0 := hW.kn ap_11 o_46 (by rfl)
      refine r_aaldS C hW ap_11 rfl (by decide) (ix_in g_46) o_46 dX4_drawAndGoOn_46 ?_
      refine lv_aload_n hx hb dX4_drawAndGoOn_47 rfl (lv_at hl 2 rfl) ?_
      refine r_getq C fr_X4_12 hW a_11 rfl rfl (hF _ 0 _ a_11 rfl) dX4_drawAndGoOn_48 ?_
      refine lv_iload hx hb dX4_drawAndGoOn_51 (lv_at hl 0 rfl) ?_
      obtain ⟨z_53, e_z_53, h⟩ := bd_some h
      refine r_callV (v := none) (As := [.ref (q t_46), .ref (q 12), .int z_20]) (rest := []) C ml_X5_moveOver gm_663 gm_580 gm_581 (ci := 5) rfl hW a_o1 k_o1 hl.1 (c_X5_moveOver a_o1 k_o1 a_t_46 k_t_46 ap_1 rfl e_z_53) rfl ⟨(by simp only [rmL]; omega), (by simp only [rmL]; omega)⟩ ⟨(by simp only [rmL]; omega), (by simp only [rmL]; omega)⟩ rfl (Nat.le_of_ble_eq_true rfl) dX4_drawAndGoOn_53 (fun H locs hW => ?_)
      refine lv_aload_n hx hb dX4_drawAndGoOn_56 rfl (lv_at hl 3 rfl) ?_
      refine lv_aload_n hx hb dX4_drawAndGoOn_57 rfl (lv_at hl 2 rfl) ?_
      refine r_getq C fr_X4_12 hW a_11 rfl rfl (hF _ 0 _ a_11 rfl) dX4_drawAndGoOn_58 ?_
      refine lv_aload_n hx hb dX4_drawAndGoOn_61 rfl (lv_at hl 2 rfl) ?_
      refine r_get C fr_X4_28 hW a_11 rfl rfl dX4_drawAndGoOn_62 ?_
      obtain ⟨z_65, e_z_65, h⟩ := bd_some h
      refine r_callV (v := none) (As := [.ref (q 12), .int (z_53 11 3)]) (rest := []) C ml_X5_coolDown gm_664 gm_589 gm_590 (ci := 5) rfl hW a_o1 k_o1 hl.1 (c_X5_coolDown a_o1 k_o1 ap_1 rfl e_z_65) rfl ⟨(by simp only [rmL]; omega), (by simp only [rmL]; omega)⟩ ⟨(by simp only [rmL]; omega), (by simp only [rmL]; omega)⟩ rfl (Nat.le_of_ble_eq_true rfl) dX4_drawAndGoOn_65 (fun H locs hW => ?_)
      refine lv_aload_n hx hb dX4_drawAndGoOn_68 rfl (lv_at hl 2 rfl) ?_
      refine lv_aload_n hx hb dX4_drawAndGoOn_69 rfl (lv_at hl 3 rfl) ?_
      refine lv_iload_n hx hb dX4_drawAndGoOn_70 rfl (lv_at hl 5 rfl) ?_
      refine lv_iconst (v := 1) hx hb dX4_drawAndGoOn_71 (by decide) ?_
      refine lv_iadd hx hb dX4_drawAndGoOn_72 ?_
      obtain ⟨z_73, e_z_73, h⟩ := bd_some h
      refine r_callV (v := none) (As := [.ref (q o1), .int (x3 + 1)]) (rest := []) C ml_X4_search gm_645 gm_647 gs_22 (ci := 4) rfl hW a_11 rfl hl.1 (hs a_11 a_o1 k_o1 hF e_z_73) rfl ⟨(by simp only [rmL]; omega), (by simp only [rmL]; omega)⟩ ⟨(by simp only [rmL]; omega), (by simp only [rmL]; omega)⟩ rfl (Nat.le_of_ble_eq_true rfl) dX4_drawAndGoOn_73 (fun H locs hW => ?_)
      refine lv_aload_n hx hb dX4_drawAndGoOn_76 rfl (lv_at hl 3 rfl) ?_
      refine lv_aload_n hx hb dX4_drawAndGoOn_77 rfl (lv_at hl 2 rfl) ?_
      refine r_getq C fr_X4_20 hW a_11 rfl rfl (hF _ 1 _ a_11 rfl) dX4_drawAndGoOn_78 ?_
      refine lv_iload_n hx hb dX4_drawAndGoOn_81 rfl (lv_at hl 4 rfl) ?_
      obtain ⟨g_82, h⟩ := gd_some h
      have hm := mt_cases h
      clear h
      rcases hm with ⟨o_82, h⟩ | ⟨t_82, o_82, h⟩
      · refine r_aaldN C hW ap_11 rfl (by decide) (ix_in g_82) o_82 dX4_drawAndGoOn_82 ?_
        refine lv_aload_n hx hb dX4_drawAndGoOn_83 rfl (lv_at hl 2 rfl) ?_
        refine r_getq C fr_X4_12 hW a_11 rfl rfl (hF _ 0 _ a_11 rfl) dX4_drawAndGoOn_84 ?_
        refine lv_iload hx hb dX4_drawAndGoOn_87 (lv_at hl 0 rfl) ?_
        refine lv_ineg hx hb dX4_drawAndGoOn_89 ?_
        cases h
      · have a_t_82 := hW.cl ap_11 o_82
        have k_t_82 : kd t_82 = 0 := hW.kn ap_11 o_82 (by rfl)
        refine r_aaldS C hW ap_11 rfl (by decide) (ix_in g_82) o_82 dX4_drawAndGoOn_82 ?_
        refine lv_aload_n hx hb dX4_drawAndGoOn_83 rfl (lv_at hl 2 rfl) ?_
        refine r_getq C fr_X4_12 hW a_11 rfl rfl (hF _ 0 _ a_11 rfl) dX4_drawAndGoOn_84 ?_
        refine lv_iload hx hb dX4_drawAndGoOn_87 (lv_at hl 0 rfl) ?_
        refine lv_ineg hx hb dX4_drawAndGoOn_89 ?_
        obtain ⟨z_90, e_z_90, h⟩ := bd_some h
        refine r_callV (v := none) (As := [.ref (q t_82), .ref (q 12), .int (-z_20)]) (rest := []) C ml_X5_moveOver gm_663 gm_580 gm_581 (ci := 5) rfl hW a_o1 k_o1 hl.1 (c_X5_moveOver a_o1 k_o1 a_t_82 k_t_82 ap_1 rfl e_z_90) rfl ⟨(by simp only [rmL]; omega), (by simp only [rmL]; omega)⟩ ⟨(by simp only [rmL]; omega), (by simp only [rmL]; omega)⟩ rfl (Nat.le_of_ble_eq_true rfl) dX4_drawAndGoOn_90 (fun H locs hW => ?_)
        refine lv_aload_n hx hb dX4_drawAndGoOn_93 rfl (lv_at hl 2 rfl) ?_
        refine r_getq C fr_X4_12 hW a_11 rfl rfl (hF _ 0 _ a_11 rfl) dX4_drawAndGoOn_94 ?_
        refine lv_iload hx hb dX4_drawAndGoOn_97 (lv_at hl 1 rfl) ?_
        obtain ⟨I_99, e_I_99, h⟩ := lt_some h
        refine r_put C fr_X4_101 (Or.inl rfl) hW ap_1 rfl rfl rfl rfl dX4_drawAndGoOn_99 (fun H locs hW => ?_)
        rw [← e_I_99] at hW
        have h := Option.some.inj h
        subst h
        exact r_vret C hW dX4_drawAndGoOn_102
def f_X4_search_57 (srch : MI → MR → Nat → Int32 → Option MI)  (I : MI) (R : MR)  : Option (MI) := bd (f_X4_keepRow I R) (fun z_58 => some (z_58))
set_option maxHeartbeats 4000000 in
set_option maxRecDepth 100000 in
theorem t_X4_search_57 {p : Program} {l : Launch} {e : Env} {s : State} {m : MethodId} {args : Array Value} {below : List Frame} {meth : Method} {c : Code} {E : EV} {q : Nat → Nat} {al : Nat → Bool} {n : Nat} (C : CX p s m args meth c E cX4_search RX4 5 none) {Ls : Nat} (h3 : 3 ≤ Ls) {srch : MI → MR → Nat → Int32 → Option MI} (hs : ∀ {I : MI} {R : MR} {o1 : Nat} {x2 : Int32} {res : MI}, al 11 = true → al o1 = true → kd o1 = 5 → Fx al R → srch I R o1 x2 = some res → Ct l yX4_search cX4_search 5 none Ls 0 0 E q al I R n [.ref (q 11), .ref (q o1), .int x2] none al res R n) {res : MI}   {I : MI} {R : MR}  (a_11 : al 11 = true) {H : Heap} {locs : List Loc} {ls : Array Slot} (h : f_X4_search_57 srch I R = some res) (hW : Wd E q al s.heap I R n H locs) (hF : Fx al R) (hl : lv_has ls 5 [(0, .ref (q 11))]) : W p l e (rmL (Ls + 2) 0 0) s m args below meth c H locs 0 0 (MQ below (Pst E q none al res R n) args s 0 0 (Bs E)) (F0 m 57 ls []) := by
  have hx := C.1
  have hb := C.2.1
  unfold f_X4_search_57 at h
  refine lv_aload_n hx hb dX4_search_57 rfl (lv_at hl 0 rfl) ?_
  obtain ⟨z_58, e_z_58, h⟩ := bd_some h
  refine r_callV (v := none) (As := []) (rest := []) C ml_X4_keepRow gm_654 gm_656 gs_24 (ci := 4) rfl hW a_11 rfl hl.1 (c_X4_keepRow a_11 hF e_z_58) rfl ⟨(by simp only [rmL]; omega), (by simp only [rmL]; omega)⟩ ⟨(by simp only [rmL]; omega), (by simp only [rmL]; omega)⟩ rfl (Nat.le_of_ble_eq_true rfl) dX4_search_58 (fun H locs hW => ?_)
  have h := Option.some.inj h
  subst h
  exact r_vret C hW dX4_search_61
def f_X4_search_65 (srch : MI → MR → Nat → Int32 → Option MI)  : Nat → MI → MR → Nat → Int32 → Int32 → Option (MI)
  | 0, _, _, _, _, _ => none
  | nn + 1, I, R, o1, x2, x4 => (if (I 11 2) ≤ x4 then (some (I)) else ((if 4 ≤ x4 then (some (I)) else (gd (ix x4 (ln 13)) (mt (R 13 x4.toNatClampNeg) (none) (fun t_86 => (if (I t_86 5) = 0 then (bd (f_X4_drawAndGoOn srch I R o1 x4 x2) (fun z_98 => f_X4_search_65 srch nn z_98 R o1 x2 (x4 + 1))) else (f_X4_search_65 srch nn I R o1 x2 (x4 + 1)))))))))
set_option maxHeartbeats 4000000 in
set_option maxRecDepth 100000 in
theorem t_X4_search_65 {p : Program} {l : Launch} {e : Env} {s : State} {m : MethodId} {args : Array Value} {below : List Frame} {meth : Method} {c : Code} {E : EV} {q : Nat → Nat} {al : Nat → Bool} {n : Nat} (C : CX p s m args meth c E cX4_search RX4 5 none) {Ls : Nat} (h3 : 3 ≤ Ls) {srch : MI → MR → Nat → Int32 → Option MI} (hs : ∀ {I : MI} {R : MR} {o1 : Nat} {x2 : Int32} {res : MI}, al 11 = true → al o1 = true → kd o1 = 5 → Fx al R → srch I R o1 x2 = some res → Ct l yX4_search cX4_search 5 none Ls 0 0 E q al I R n [.ref (q 11), .ref (q o1), .int x2] none al res R n) {res : MI}   : ∀ (nn : Nat) {I : MI} {R : MR} {o1 : Nat} {x2 : Int32} {x4 : Int32} {H : Heap} {locs : List Loc} {ls : Array Slot} (a_11 : al 11 = true) (a_o1 : al o1 = true) (k_o1 : kd o1 = 5) (h : f_X4_search_65 srch nn I R o1 x2 x4 = some res) (hW : Wd E q al s.heap I R n H locs) (hF : Fx al R) (hl : lv_has ls 5 [(0, .ref (q 11)), (1, .ref (q o1)), (2, .int x2), (4, .int x4)]), W p l e (rmL (Ls + 2) 0 0) s m args below meth c H locs 0 0 (MQ below (Pst E q none al res R n) args s 0 0 (Bs E)) (F0 m 65 ls []) := by
  have hx := C.1
  have hb := C.2.1
  intro nn
  induction nn with
  | zero =>
    intro I R o1 x2 x4 H locs ls a_11 a_o1 k_o1 h
    cases (show (none : Option (MI)) = some res from h)
  | succ nn ih =>
    intro I R o1 x2 x4 H locs ls a_11 a_o1 k_o1 h hW hF hl
    rw [f_X4_search_65.eq_2] at h
    refine lv_iload hx hb dX4_search_65 (lv_at hl 3 rfl) ?_
    refine lv_aload_n hx hb dX4_search_67 rfl (lv_at hl 0 rfl) ?_
    refine r_get C fr_X4_24 hW a_11 rfl rfl dX4_search_68 ?_
    refine lv_icmp_ge (tgt := 107) hx hb dX4_search_71 (by decide) (fun c_71 => ?_) (fun c_71 => ?_)
    · have h := (if_pos c_71).symm.trans h
      have h := Option.some.inj h
      subst h
      exact r_vret C hW dX4_search_107
    · have h := (if_neg c_71).symm.trans h
      refine lv_iload hx hb dX4_search_74 (lv_at hl 3 rfl) ?_
      refine lv_iconst (v := 4) hx hb dX4_search_76 (by decide) ?_
      refine lv_icmp_ge (tgt := 107) hx hb dX4_search_77 (by decide) (fun c_77 => ?_) (fun c_77 => ?_)
      · have h := (if_pos c_77).symm.trans h
        have h := Option.some.inj h
        subst h
        exact r_vret C hW dX4_search_107
      · have h := (if_neg c_77).symm.trans h
        refine lv_aload_n hx hb dX4_search_80 rfl (lv_at hl 0 rfl) ?_
        have ap_81 : al 13 = true := hW.cl a_11 (hF _ 1 _ a_11 rfl)
        refine r_getq C fr_X4_20 hW a_11 rfl rfl (hF _ 1 _ a_11 rfl) dX4_search_81 ?_
        refine lv_iload hx hb dX4_search_84 (lv_at hl 3 rfl) ?_
        obtain ⟨g_86, h⟩ := gd_some h
        have hm := mt_cases h
        clear h
        rcases hm with ⟨o_86, h⟩ | ⟨t_86, o_86, h⟩
        · refine r_aaldN C hW ap_81 rfl (by decide) (ix_in g_86) o_86 dX4_search_86 ?_
          cases h
        · have a_t_86 := hW.cl ap_81 o_86
          have k_t_86 : kd t_86 = 0 := hW.kn ap_81 o_86 (by rfl)
          refine r_aaldS C hW ap_81 rfl (by decide) (ix_in g_86) o_86 dX4_search_86 ?_
          refine r_get C fr_X4_93 hW a_t_86 k_t_86 rfl dX4_search_87 ?_
          refine lv_if_ne (tgt := 101) hx hb dX4_search_90 (by decide) (fun c_90 => ?_) (fun c_90 => ?_)
          · have h := (if_neg c_90).symm.trans h
            refine lv_iinc (v := x4 + 1) (lv' := [(4, .int (x4 + 1)), (0, .ref (q 11)), (1, .ref (q o1)), (2, .int x2)]) hx hb dX4_search_101 hl (k := 3) rfl rfl (by decide) rfl (fun ls hl => ?_)
            refine lv_goto (tgt := 65) hx hb dX4_search_104 (by decide) ?_
            exact ih a_11 a_o1 k_o1 h hW hF (lv_sub hl [1, 2, 3, 0] rfl)
          · have h := (if_pos c_90).symm.trans h
            refine lv_aload_n hx hb dX4_search_93 rfl (lv_at hl 0 rfl) ?_
            refine lv_aload_n hx hb dX4_search_94 rfl (lv_at hl 1 rfl) ?_
            refine lv_iload hx hb dX4_search_95 (lv_at hl 3 rfl) ?_
            refine lv_iload_n hx hb dX4_search_97 rfl (lv_at hl 2 rfl) ?_
            obtain ⟨z_98, e_z_98, h⟩ := bd_some h
            refine r_callV (v := none) (As := [.ref (q o1), .int x4, .int x2]) (rest := []) C ml_X4_drawAndGoOn gm_658 gm_660 gs_25 (ci := 4) rfl hW a_11 rfl hl.1 (c_X4_drawAndGoOn h3 hs a_11 a_o1 k_o1 hF e_z_98) rfl ⟨(by simp only [rmL]; omega), (by simp only [rmL]; omega)⟩ ⟨(by simp only [rmL]; omega), (by simp only [rmL]; omega)⟩ rfl (Nat.le_of_ble_eq_true rfl) dX4_search_98 (fun H locs hW => ?_)
            refine lv_iinc (v := x4 + 1) (lv' := [(4, .int (x4 + 1)), (0, .ref (q 11)), (1, .ref (q o1)), (2, .int x2)]) hx hb dX4_search_101 hl (k := 3) rfl rfl (by decide) rfl (fun ls hl => ?_)
            refine lv_goto (tgt := 65) hx hb dX4_search_104 (by decide) ?_
            exact ih a_11 a_o1 k_o1 h hW hF (lv_sub hl [1, 2, 3, 0] rfl)
def f_X4_search : Nat → MI → MR → Nat → Int32 → Option MI
  | 0, _, _, _, _ => none
  | dd + 1, I, R, o1, x2 => bd (f_X2_lacks I R 12) (fun z_11 => lt (if (((I 11 4) - x2) * (I 11 5)) < z_11 then (((I 11 4) - x2) * (I 11 5)) else z_11) (fun v_25 => bd (f_X4_isBetter I R ((I 12 1) + v_25)) (fun z_32 => (if z_32 = 0 then (some (I)) else ((if x2 < 0 then (f_X4_search_57 (f_X4_search dd) I R) else ((if (I 11 4) ≤ x2 then (f_X4_search_57 (f_X4_search dd) I R) else ((if x2 < 6 then (f_X4_search_65 (f_X4_search dd) 1000000 I R o1 x2 0) else (f_X4_search_57 (f_X4_search dd) I R)))))))))))
def lvS : Nat → Nat
  | 0 => 3
  | d + 1 => lvS d + 2
theorem lvS_3 : ∀ d, 3 ≤ lvS d
  | 0 => Nat.le_refl 3
  | d + 1 => Nat.le_trans (lvS_3 d) (Nat.le_add_right _ 2)
set_option maxHeartbeats 4000000 in
set_option maxRecDepth 100000 in
theorem c_X4_search {l : Launch} {E : EV} {q : Nat → Nat} {al : Nat → Bool} {n : Nat} : ∀ (dd : Nat) {I : MI} {R : MR} {o1 : Nat} {x2 : Int32} (a_11 : al 11 = true) (a_o1 : al o1 = true) (k_o1 : kd o1 = 5) (hF : Fx al R) {res : MI} (h : f_X4_search dd I R o1 x2 = some res), Ct l yX4_search cX4_search 5 none (lvS dd) 0 0 E q al I R n [.ref (q 11), .ref (q o1), .int x2] none al res R n := by
  intro dd
  induction dd with
  | zero =>
    intro I R o1 x2 a_11 a_o1 k_o1 hF res h
    cases (show (none : Option MI) = some res from h)
  | succ dd ih =>
    intro I R o1 x2 a_11 a_o1 k_o1 hF res h
    rw [f_X4_search.eq_2] at h
    have hs : ∀ {I : MI} {R : MR} {o1 : Nat} {x2 : Int32} {res : MI}, al 11 = true → al o1 = true → kd o1 = 5 → Fx al R → (f_X4_search dd) I R o1 x2 = some res → Ct l yX4_search cX4_search 5 none (lvS dd) 0 0 E q al I R n [.ref (q 11), .ref (q o1), .int x2] none al res R n := fun a b c d e => ih a b c d e
    have h3 := lvS_3 dd
    rw [show lvS (dd + 1) = lvS dd + 2 from rfl]
    generalize lvS dd = Ls at hs h3 ⊢
    generalize f_X4_search dd = srch at hs h
    refine Ct.of (own := RX4) (mn := "search") (by decide) rfl rfl (Nat.le_of_ble_eq_true rfl) ?_
    intro p e s m args below meth c ls C hmn hargs hW hl
    have hx := C.1
    have hb := C.2.1
    have hl : lv_has ls 5 [(0, .ref (q 11)), (1, .ref (q o1)), (2, .int x2)] := hl
    refine lv_aload_n hx hb dX4_search_0 rfl (lv_at hl 0 rfl) ?_
    have ap_1 : al 12 = true := hW.cl a_11 (hF _ 0 _ a_11 rfl)
    refine r_getq C fr_X4_12 hW a_11 rfl rfl (hF _ 0 _ a_11 rfl) dX4_search_1 ?_
    refine r_get C fr_X4_80 hW ap_1 rfl rfl dX4_search_4 ?_
    refine lv_aload_n hx hb dX4_search_7 rfl (lv_at hl 0 rfl) ?_
    refine r_getq C fr_X4_12 hW a_11 rfl rfl (hF _ 0 _ a_11 rfl) dX4_search_8 ?_
    obtain ⟨z_11, e_z_11, h⟩ := bd_some h
    refine r_callV (v := (some (.int z_11))) (As := []) (rest := [.int (I 12 1)]) C ml_X2_lacks gm_649 gm_569 gm_570 (ci := 2) rfl hW ap_1 rfl hl.1 (c_X2_lacks ap_1 rfl e_z_11) rfl ⟨(by simp only [rmL]; omega), (by simp only [rmL]; omega)⟩ ⟨(by simp only [rmL]; omega), (by simp only [rmL]; omega)⟩ rfl (Nat.le_of_ble_eq_true rfl) dX4_search_11 (fun H locs hW => ?_)
    refine lv_aload_n hx hb dX4_search_14 rfl (lv_at hl 0 rfl) ?_
    refine r_get C fr_X4_31 hW a_11 rfl rfl dX4_search_15 ?_
    refine lv_iload_n hx hb dX4_search_18 rfl (lv_at hl 2 rfl) ?_
    refine lv_isub hx hb dX4_search_19 ?_
    refine lv_aload_n hx hb dX4_search_20 rfl (lv_at hl 0 rfl) ?_
    refine r_get C fr_X4_34 hW a_11 rfl rfl dX4_search_21 ?_
    refine lv_imul hx hb dX4_search_24 ?_
    obtain ⟨v_25, e_v_25, h⟩ := lt_some h
    refine r_min C gm_639 gm_566 gm_14 gm_567 hl.1 ⟨by simp only [rmL]; omega, Nat.le_trans (Nat.add_le_add_right (m := 8) (Nat.le_of_ble_eq_true rfl) 13) (by simp only [rmL]; omega), by simp only [rmL]; omega, by simp only [rmL]; omega⟩ dX4_search_25 ?_
    rw [← e_v_25]
    refine lv_iadd hx hb dX4_search_28 ?_
    refine lv_istore_n (lv' := [(3, .int ((I 12 1) + v_25)), (0, .ref (q 11)), (1, .ref (q o1)), (2, .int x2)]) hx hb dX4_search_29 rfl hl (by decide) rfl (fun ls hl => ?_)
    refine lv_aload_n hx hb dX4_search_30 rfl (lv_at hl 1 rfl) ?_
    refine lv_iload_n hx hb dX4_search_31 rfl (lv_at hl 0 rfl) ?_
    obtain ⟨z_32, e_z_32, h⟩ := bd_some h
    refine r_callV (v := (some (.int z_32))) (As := [.int ((I 12 1) + v_25)]) (rest := []) C ml_X4_isBetter gm_650 gm_652 gs_23 (ci := 4) rfl hW a_11 rfl hl.1 (c_X4_isBetter a_11 hF e_z_32) rfl ⟨(by simp only [rmL]; omega), (by simp only [rmL]; omega)⟩ ⟨(by simp only [rmL]; omega), (by simp only [rmL]; omega)⟩ rfl (Nat.le_of_ble_eq_true rfl) dX4_search_32 (fun H locs hW => ?_)
    refine lv_if_ne (tgt := 39) hx hb dX4_search_35 (by decide) (fun c_35 => ?_) (fun c_35 => ?_)
    · have h := (if_neg c_35).symm.trans h
      refine lv_iload_n hx hb dX4_search_39 rfl (lv_at hl 3 rfl) ?_
      refine lv_if_lt (tgt := 57) hx hb dX4_search_40 (by decide) (fun c_40 => ?_) (fun c_40 => ?_)
      · have h := (if_pos c_40).symm.trans h
        exact t_X4_search_57 C h3 hs a_11 h hW hF (lv_sub hl [1] rfl)
      · have h := (if_neg c_40).symm.trans h
        refine lv_iload_n hx hb dX4_search_43 rfl (lv_at hl 3 rfl) ?_
        refine lv_aload_n hx hb dX4_search_44 rfl (lv_at hl 1 rfl) ?_
        refine r_get C fr_X4_31 hW a_11 rfl rfl dX4_search_45 ?_
        refine lv_icmp_ge (tgt := 57) hx hb dX4_search_48 (by decide) (fun c_48 => ?_) (fun c_48 => ?_)
        · have h := (if_pos c_48).symm.trans h
          exact t_X4_search_57 C h3 hs a_11 h hW hF (lv_sub hl [1] rfl)
        · have h := (if_neg c_48).symm.trans h
          refine lv_iload_n hx hb dX4_search_51 rfl (lv_at hl 3 rfl) ?_
          refine lv_bipush (v := 6) hx hb dX4_search_52 (by decide) ?_
          refine lv_icmp_lt (tgt := 62) hx hb dX4_search_54 (by decide) (fun c_54 => ?_) (fun c_54 => ?_)
          · have h := (if_pos c_54).symm.trans h
            refine lv_iconst (v := 0) hx hb dX4_search_62 (by decide) ?_
            refine lv_istore (lv' := [(4, .int 0), (3, .int ((I 12 1) + v_25)), (0, .ref (q 11)), (1, .ref (q o1)), (2, .int x2)]) hx hb dX4_search_63 hl (by decide) rfl (fun ls hl => ?_)
            exact t_X4_search_65 C h3 hs 1000000 a_11 a_o1 k_o1 h hW hF (lv_sub hl [2, 3, 4, 0] rfl)
          · have h := (if_neg c_54).symm.trans h
            exact t_X4_search_57 C h3 hs a_11 h hW hF (lv_sub hl [1] rfl)
    · have h := (if_pos c_35).symm.trans h
      have h := Option.some.inj h
      subst h
      exact r_vret C hW dX4_search_38
def f_X4_plan (I : MI) (R : MR) (o1 : Nat) (x2 : Int32) (x3 : Int32) : Option (Int32 × MI) := lt (p2 I 11 3 x2) (fun I_2 => lt (if 6 < x3 then 6 else x3) (fun v_9 => lt (p2 I_2 11 4 v_9) (fun I_12 => bd (f_X5_mostFlow I_12 R o1) (fun z_17 => lt (p2 I_12 11 5 z_17) (fun I_20 => lt (p2 I_20 11 11 (I_20 11 4)) (fun I_28 => lt (p2 I_28 11 12 (-1)) (fun I_33 => bd (f_X4_search 10 I_33 R o1 0) (fun z_39 => some (z_39 11 12, z_39)))))))))
set_option maxHeartbeats 4000000 in
set_option maxRecDepth 100000 in
theorem c_X4_plan {l : Launch} {E : EV} {q : Nat → Nat} {al : Nat → Bool} {n : Nat} {I : MI} {R : MR} {o1 : Nat} {x2 : Int32} {x3 : Int32} (a_11 : al 11 = true) (a_o1 : al o1 = true) (k_o1 : kd o1 = 5) (hF : Fx al R) {res : Int32 × MI} (h : f_X4_plan I R o1 x2 x3 = some res) : Ct l yX4_plan cX4_plan 4 (some .int) 24 0 0 E q al I R n [.ref (q 11), .ref (q o1), .int x2, .int x3] (some (.int res.1)) al res.2 R n := by
  refine Ct.of (own := RX4) (mn := "plan") (by decide) rfl rfl (Nat.le_of_ble_eq_true rfl) ?_
  intro p e s m args below meth c ls C hmn hargs hW hl
  have hx := C.1
  have hb := C.2.1
  have hl : lv_has ls 4 [(0, .ref (q 11)), (1, .ref (q o1)), (2, .int x2), (3, .int x3)] := hl
  unfold f_X4_plan at h
  refine lv_aload_n hx hb dX4_plan_0 rfl (lv_at hl 0 rfl) ?_
  refine lv_iload_n hx hb dX4_plan_1 rfl (lv_at hl 2 rfl) ?_
  obtain ⟨I_2, e_I_2, h⟩ := lt_some h
  refine r_put C fr_X4_28 (Or.inl rfl) hW a_11 rfl rfl rfl rfl dX4_plan_2 (fun H locs hW => ?_)
  rw [← e_I_2] at hW
  refine lv_aload_n hx hb dX4_plan_5 rfl (lv_at hl 0 rfl) ?_
  refine lv_iload_n hx hb dX4_plan_6 rfl (lv_at hl 3 rfl) ?_
  refine lv_bipush (v := 6) hx hb dX4_plan_7 (by decide) ?_
  obtain ⟨v_9, e_v_9, h⟩ := lt_some h
  refine r_min C gm_639 gm_566 gm_14 gm_567 hl.1 ⟨Nat.le_of_ble_eq_true rfl, Nat.le_of_ble_eq_true rfl, Nat.le_of_ble_eq_true rfl, Nat.le_of_ble_eq_true rfl⟩ dX4_plan_9 ?_
  rw [← e_v_9]
  obtain ⟨I_12, e_I_12, h⟩ := lt_some h
  refine r_put C fr_X4_31 (Or.inl rfl) hW a_11 rfl rfl rfl rfl dX4_plan_12 (fun H locs hW => ?_)
  rw [← e_I_12] at hW
  refine lv_aload_n hx hb dX4_plan_15 rfl (lv_at hl 0 rfl) ?_
  refine lv_aload_n hx hb dX4_plan_16 rfl (lv_at hl 1 rfl) ?_
  obtain ⟨z_17, e_z_17, h⟩ := bd_some h
  refine r_callV (v := (some (.int z_17))) (As := []) (rest := [.ref (q 11)]) C ml_X5_mostFlow gm_640 gm_641 gm_642 (ci := 5) rfl hW a_o1 k_o1 hl.1 (c_X5_mostFlow a_o1 k_o1 hF e_z_17) rfl ⟨(by decide), (by decide)⟩ ⟨(by decide), (by decide)⟩ rfl (Nat.le_of_ble_eq_true rfl) dX4_plan_17 (fun H locs hW => ?_)
  obtain ⟨I_20, e_I_20, h⟩ := lt_some h
  refine r_put C fr_X4_34 (Or.inl rfl) hW a_11 rfl rfl rfl rfl dX4_plan_20 (fun H locs hW => ?_)
  rw [← e_I_20] at hW
  refine lv_aload_n hx hb dX4_plan_23 rfl (lv_at hl 0 rfl) ?_
  refine lv_aload_n hx hb dX4_plan_24 rfl (lv_at hl 0 rfl) ?_
  refine r_get C fr_X4_31 hW a_11 rfl rfl dX4_plan_25 ?_
  obtain ⟨I_28, e_I_28, h⟩ := lt_some h
  refine r_put C fr_X4_53 (Or.inl rfl) hW a_11 rfl rfl rfl rfl dX4_plan_28 (fun H locs hW => ?_)
  rw [← e_I_28] at hW
  refine lv_aload_n hx hb dX4_plan_31 rfl (lv_at hl 0 rfl) ?_
  refine lv_iconst (v := (-1)) hx hb dX4_plan_32 (by decide) ?_
  obtain ⟨I_33, e_I_33, h⟩ := lt_some h
  refine r_put C fr_X4_56 (Or.inl rfl) hW a_11 rfl rfl rfl rfl dX4_plan_33 (fun H locs hW => ?_)
  rw [← e_I_33] at hW
  refine lv_aload_n hx hb dX4_plan_36 rfl (lv_at hl 0 rfl) ?_
  refine lv_aload_n hx hb dX4_plan_37 rfl (lv_at hl 1 rfl) ?_
  refine lv_iconst (v := 0) hx hb dX4_plan_38 (by decide) ?_
  obtain ⟨z_39, e_z_39, h⟩ := bd_some h
  refine r_callV (v := none) (As := [.ref (q o1), .int 0]) (rest := []) C ml_X4_search gm_645 gm_647 gs_22 (ci := 4) rfl hW a_11 rfl hl.1 (c_X4_search 10 a_11 a_o1 k_o1 hF e_z_39) rfl ⟨(by decide), (by decide)⟩ ⟨(by decide), (by decide)⟩ rfl (Nat.le_of_ble_eq_true rfl) dX4_plan_39 (fun H locs hW => ?_)
  refine lv_aload_n hx hb dX4_plan_42 rfl (lv_at hl 0 rfl) ?_
  refine r_get C fr_X4_56 hW a_11 rfl rfl dX4_plan_43 ?_
  have h := Option.some.inj h
  subst h
  exact r_iret C hW dX4_plan_46
def f_X7_best (I : MI) (R : MR) (x1 : Int32) (x2 : Int32) (x3 : Int32) (x4 : Int32) : Option (Int32 × MI) := bd (f_X7_carAsTold I R x1 x2 x3) (fun z_3 => (if z_3 = 0 then (some ((-1), I)) else (bd (f_X7_within I R x4 1 6) (fun z_14 => (if z_14 = 0 then (some ((-1), I)) else (bd (f_X7_anyBankSensed I R) (fun z_21 => (if z_21 = 0 then (some ((-1), I)) else (bd (f_X7_airTenths I R) (fun z_40 => bd (f_X2_comeWith I R 12 x1 x2 x3 z_40) (fun z_43 => bd (f_X4_copyBanks z_43 R 1 (z_43 0 1)) (fun z_58 => bd (R 0 16) (fun z_66 => bd (f_X7_airTenths z_58 R) (fun z_70 => bd (f_X4_plan z_58 R z_66 z_70 x4) (fun z_75 => some (z_75.1, z_75.2))))))))))))))))
set_option maxHeartbeats 4000000 in
set_option maxRecDepth 100000 in
theorem c_X7_best {l : Launch} {E : EV} {q : Nat → Nat} {al : Nat → Bool} {n : Nat} {I : MI} {R : MR} {x1 : Int32} {x2 : Int32} {x3 : Int32} {x4 : Int32} (a_0 : al 0 = true) (hF : Fx al R) {res : Int32 × MI} (h : f_X7_best I R x1 x2 x3 x4 = some res) : Ct l yX7_best cX7_best 5 (some .int) 25 0 0 E q al I R n [.ref (q 0), .int x1, .int x2, .int x3, .int x4] (some (.int res.1)) al res.2 R n := by
  refine Ct.of (own := RX7) (mn := "best") (by decide) rfl rfl (Nat.le_of_ble_eq_true rfl) ?_
  intro p e s m args below meth c ls C hmn hargs hW hl
  have hx := C.1
  have hb := C.2.1
  have hl : lv_has ls 5 [(0, .ref (q 0)), (1, .int x1), (2, .int x2), (3, .int x3), (4, .int x4)] := hl
  unfold f_X7_best at h
  refine lv_iload_n hx hb dX7_best_0 rfl (lv_at hl 1 rfl) ?_
  refine lv_iload_n hx hb dX7_best_1 rfl (lv_at hl 2 rfl) ?_
  refine lv_iload_n hx hb dX7_best_2 rfl (lv_at hl 3 rfl) ?_
  obtain ⟨z_3, e_z_3, h⟩ := bd_some h
  refine r_callS (v := (some (.int z_3))) (As := [.int x1, .int x2, .int x3]) (rest := []) C ml_X7_carAsTold gm_520 gm_521 hW hl.1 (c_X7_carAsTold  e_z_3) rfl ⟨(by decide), (by decide)⟩ ⟨(by decide), (by decide)⟩ rfl (Nat.le_of_ble_eq_true rfl) dX7_best_3 (fun H locs hW => ?_)
  refine lv_if_eq (tgt := 27) hx hb dX7_best_6 (by decide) (fun c_6 => ?_) (fun c_6 => ?_)
  · have h := (if_pos c_6).symm.trans h
    refine lv_iconst (v := (-1)) hx hb dX7_best_27 (by decide) ?_
    have h := Option.some.inj h
    subst h
    exact r_iret C hW dX7_best_28
  · have h := (if_neg c_6).symm.trans h
    refine lv_iload hx hb dX7_best_9 (lv_at hl 4 rfl) ?_
    refine lv_iconst (v := 1) hx hb dX7_best_11 (by decide) ?_
    refine lv_bipush (v := 6) hx hb dX7_best_12 (by decide) ?_
    obtain ⟨z_14, e_z_14, h⟩ := bd_some h
    refine r_callS (v := (some (.int z_14))) (As := [.int x4, .int 1, .int 6]) (rest := []) C ml_X7_within gm_321 gm_322 hW hl.1 (c_X7_within  e_z_14) rfl ⟨(by decide), (by decide)⟩ ⟨(by decide), (by decide)⟩ rfl (Nat.le_of_ble_eq_true rfl) dX7_best_14 (fun H locs hW => ?_)
    refine lv_if_eq (tgt := 27) hx hb dX7_best_17 (by decide) (fun c_17 => ?_) (fun c_17 => ?_)
    · have h := (if_pos c_17).symm.trans h
      refine lv_iconst (v := (-1)) hx hb dX7_best_27 (by decide) ?_
      have h := Option.some.inj h
      subst h
      exact r_iret C hW dX7_best_28
    · have h := (if_neg c_17).symm.trans h
      refine lv_aload_n hx hb dX7_best_20 rfl (lv_at hl 0 rfl) ?_
      obtain ⟨z_21, e_z_21, h⟩ := bd_some h
      refine r_callV (v := (some (.int z_21))) (As := []) (rest := []) C ml_X7_anyBankSensed gm_623 gm_625 gs_21 (ci := 7) rfl hW a_0 rfl hl.1 (c_X7_anyBankSensed a_0 hF e_z_21) rfl ⟨(by decide), (by decide)⟩ ⟨(by decide), (by decide)⟩ rfl (Nat.le_of_ble_eq_true rfl) dX7_best_21 (fun H locs hW => ?_)
      refine lv_if_ne (tgt := 29) hx hb dX7_best_24 (by decide) (fun c_24 => ?_) (fun c_24 => ?_)
      · have h := (if_neg c_24).symm.trans h
        refine lv_aload_n hx hb dX7_best_29 rfl (lv_at hl 0 rfl) ?_
        have ap_30 : al 11 = true := hW.cl a_0 (hF _ 15 _ a_0 rfl)
        refine r_getq C fr_X7_80 hW a_0 rfl rfl (hF _ 15 _ a_0 rfl) dX7_best_30 ?_
        have ap_33 : al 12 = true := hW.cl ap_30 (hF _ 0 _ ap_30 rfl)
        refine r_getq C fr_X7_185 hW ap_30 rfl rfl (hF _ 0 _ ap_30 rfl) dX7_best_33 ?_
        refine lv_iload_n hx hb dX7_best_36 rfl (lv_at hl 1 rfl) ?_
        refine lv_iload_n hx hb dX7_best_37 rfl (lv_at hl 2 rfl) ?_
        refine lv_iload_n hx hb dX7_best_38 rfl (lv_at hl 3 rfl) ?_
        refine lv_aload_n hx hb dX7_best_39 rfl (lv_at hl 0 rfl) ?_
        obtain ⟨z_40, e_z_40, h⟩ := bd_some h
        refine r_callV (v := (some (.int z_40))) (As := []) (rest := [.int x3, .int x2, .int x1, .ref (q 12)]) C ml_X7_airTenths gm_524 gm_526 gs_13 (ci := 7) rfl hW a_0 rfl hl.1 (c_X7_airTenths a_0 e_z_40) rfl ⟨(by decide), (by decide)⟩ ⟨(by decide), (by decide)⟩ rfl (Nat.le_of_ble_eq_true rfl) dX7_best_40 (fun H locs hW => ?_)
        obtain ⟨z_43, e_z_43, h⟩ := bd_some h
        refine r_callV (v := none) (As := [.int x1, .int x2, .int x3, .int z_40]) (rest := []) C ml_X2_comeWith gm_528 gm_529 gm_530 (ci := 2) rfl hW ap_33 rfl hl.1 (c_X2_comeWith ap_33 rfl e_z_43) rfl ⟨(by decide), (by decide)⟩ ⟨(by decide), (by decide)⟩ rfl (Nat.le_of_ble_eq_true rfl) dX7_best_43 (fun H locs hW => ?_)
        refine lv_aload_n hx hb dX7_best_46 rfl (lv_at hl 0 rfl) ?_
        refine r_getq C fr_X7_80 hW a_0 rfl rfl (hF _ 15 _ a_0 rfl) dX7_best_47 ?_
        refine lv_aload_n hx hb dX7_best_50 rfl (lv_at hl 0 rfl) ?_
        have ap_51 : al 1 = true := hW.cl a_0 (hF _ 0 _ a_0 rfl)
        refine r_getq C fr_X7_11 hW a_0 rfl rfl (hF _ 0 _ a_0 rfl) dX7_best_51 ?_
        refine lv_aload_n hx hb dX7_best_54 rfl (lv_at hl 0 rfl) ?_
        refine r_get C fr_X7_15 hW a_0 rfl rfl dX7_best_55 ?_
        obtain ⟨z_58, e_z_58, h⟩ := bd_some h
        refine r_callV (v := none) (As := [.ref (q 1), .int (z_43 0 1)]) (rest := []) C ml_X4_copyBanks gm_627 gm_628 gm_629 (ci := 4) rfl hW ap_30 rfl hl.1 (c_X4_copyBanks ap_30 ap_51 rfl hF e_z_58) rfl ⟨(by decide), (by decide)⟩ ⟨(by decide), (by decide)⟩ rfl (Nat.le_of_ble_eq_true rfl) dX7_best_58 (fun H locs hW => ?_)
        refine lv_aload_n hx hb dX7_best_61 rfl (lv_at hl 0 rfl) ?_
        refine r_getq C fr_X7_80 hW a_0 rfl rfl (hF _ 15 _ a_0 rfl) dX7_best_62 ?_
        refine lv_aload_n hx hb dX7_best_65 rfl (lv_at hl 0 rfl) ?_
        obtain ⟨z_66, e_z_66, h⟩ := bd_some h
        have a_z_66 : al z_66 = true := hW.cl a_0 e_z_66
        have k_z_66 : kd z_66 = 5 := hW.kn a_0 e_z_66 (by rfl)
        refine r_getq C fr_X7_87 hW a_0 rfl rfl e_z_66 dX7_best_66 ?_
        refine lv_aload_n hx hb dX7_best_69 rfl (lv_at hl 0 rfl) ?_
        obtain ⟨z_70, e_z_70, h⟩ := bd_some h
        refine r_callV (v := (some (.int z_70))) (As := []) (rest := [.ref (q z_66), .ref (q 11)]) C ml_X7_airTenths gm_524 gm_526 gs_13 (ci := 7) rfl hW a_0 rfl hl.1 (c_X7_airTenths a_0 e_z_70) rfl ⟨(by decide), (by decide)⟩ ⟨(by decide), (by decide)⟩ rfl (Nat.le_of_ble_eq_true rfl) dX7_best_70 (fun H locs hW => ?_)
        refine lv_iload hx hb dX7_best_73 (lv_at hl 4 rfl) ?_
        obtain ⟨z_75, e_z_75, h⟩ := bd_some h
        refine r_callV (v := (some (.int z_75.1))) (As := [.ref (q z_66), .int z_70, .int x4]) (rest := []) C ml_X4_plan gm_635 gm_636 gm_637 (ci := 4) rfl hW ap_30 rfl hl.1 (c_X4_plan ap_30 a_z_66 k_z_66 hF e_z_75) rfl ⟨(by decide), (by decide)⟩ ⟨(by decide), (by decide)⟩ rfl (Nat.le_of_ble_eq_true rfl) dX7_best_75 (fun H locs hW => ?_)
        have h := Option.some.inj h
        subst h
        exact r_iret C hW dX7_best_78
      · have h := (if_pos c_24).symm.trans h
        refine lv_iconst (v := (-1)) hx hb dX7_best_27 (by decide) ?_
        have h := Option.some.inj h
        subst h
        exact r_iret C hW dX7_best_28
