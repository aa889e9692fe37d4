def f_X8_isBetter_29  : Nat → MI → MR → Int32 → Option (Int32)
  | 0, _, _, _ => none
  | nn + 1, I, R, x2 => (if x2 < 0 then (some (0)) else (gd (ix x2 (ln 155)) (gd (ix x2 (ln 152)) ((if (I 155 x2.toNatClampNeg) = (I 152 x2.toNatClampNeg) then (f_X8_isBetter_29 nn I R (x2 + (-1))) else (gd (ix x2 (ln 155)) (gd (ix x2 (ln 152)) ((if (I 152 x2.toNatClampNeg) ≤ (I 155 x2.toNatClampNeg) then (some (0)) else (some (1)))))))))))
set_option maxHeartbeats 4000000 in
set_option maxRecDepth 100000 in
theorem t_X8_isBetter_29 {p : Program} {l : Launch} {e : Env} {s : State} {m : MethodId} {args : Array Value} {below : List Frame} {meth : Method} {c : Code} {E : EV} {q : Nat → Nat} {al : Nat → Bool} {n : Nat} (C : CX p s m args meth c E cX8_isBetter RX8 3 (some .boolean)) {res : Int32}   : ∀ (nn : Nat) {I : MI} {R : MR} {x2 : Int32} {H : Heap} {locs : List Loc} {ls : Array Slot} (a_100 : al 100 = true) (h : f_X8_isBetter_29 nn I R x2 = some res) (hW : Wd E q al s.heap I R n H locs) (hF : Fx al R) (hl : lv_has ls 3 [(0, .ref (q 100)), (2, .int x2)]), W p l e (rmL 1 0 0) s m args below meth c H locs 0 0 (MQ below (Pst E q (some (.int res)) al I R n) args s 0 0 (Bs E)) (F0 m 29 ls []) := by
  have hx := C.1
  have hb := C.2.1
  intro nn
  induction nn with
  | zero =>
    intro I R x2 H locs ls a_100 h
    cases (show (none : Option (Int32)) = some res from h)
  | succ nn ih =>
    intro I R x2 H locs ls a_100 h hW hF hl
    rw [f_X8_isBetter_29.eq_2] at h
    refine lv_iload_n hx hb dX8_isBetter_29 rfl (lv_at hl 1 rfl) ?_
    refine lv_if_lt (tgt := 75) hx hb dX8_isBetter_30 (by decide) (fun c_30 => ?_) (fun c_30 => ?_)
    · have h := (if_pos c_30).symm.trans h
      refine lv_iconst (v := 0) hx hb dX8_isBetter_75 (by decide) ?_
      have h := Option.some.inj h
      subst h
      exact r_zret C hW (Or.inl rfl) dX8_isBetter_76
    · have h := (if_neg c_30).symm.trans h
      refine lv_aload_n hx hb dX8_isBetter_33 rfl (lv_at hl 0 rfl) ?_
      have ap_34 : al 155 = true := hW.cl a_100 (hF _ 54 _ a_100 rfl)
      refine r_getq C fr_X8_118 hW a_100 rfl rfl (hF _ 54 _ a_100 rfl) dX8_isBetter_34 ?_
      refine lv_iload_n hx hb dX8_isBetter_37 rfl (lv_at hl 1 rfl) ?_
      obtain ⟨g_38, h⟩ := gd_some h
      refine r_iald C hW ap_34 rfl (ix_in g_38) dX8_isBetter_38 ?_
      refine lv_aload_n hx hb dX8_isBetter_39 rfl (lv_at hl 0 rfl) ?_
      have ap_40 : al 152 = true := hW.cl a_100 (hF _ 51 _ a_100 rfl)
      refine r_getq C fr_X8_109 hW a_100 rfl rfl (hF _ 51 _ a_100 rfl) dX8_isBetter_40 ?_
      refine lv_iload_n hx hb dX8_isBetter_43 rfl (lv_at hl 1 rfl) ?_
      obtain ⟨g_44, h⟩ := gd_some h
      refine r_iald C hW ap_40 rfl (ix_in g_44) dX8_isBetter_44 ?_
      refine lv_icmp_eq (tgt := 69) hx hb dX8_isBetter_45 (by decide) (fun c_45 => ?_) (fun c_45 => ?_)
      · have h := (if_pos c_45).symm.trans h
        refine lv_iinc (v := x2 + (-1)) (lv' := [(2, .int (x2 + (-1))), (0, .ref (q 100))]) hx hb dX8_isBetter_69 hl (k := 1) rfl rfl (by decide) rfl (fun ls hl => ?_)
        refine lv_goto (tgt := 29) hx hb dX8_isBetter_72 (by decide) ?_
        exact ih a_100 h hW hF (lv_sub hl [1, 0] rfl)
      · have h := (if_neg c_45).symm.trans h
        refine lv_aload_n hx hb dX8_isBetter_48 rfl (lv_at hl 0 rfl) ?_
        refine r_getq C fr_X8_118 hW a_100 rfl rfl (hF _ 54 _ a_100 rfl) dX8_isBetter_49 ?_
        refine lv_iload_n hx hb dX8_isBetter_52 rfl (lv_at hl 1 rfl) ?_
        obtain ⟨g_53, h⟩ := gd_some h
        refine r_iald C hW ap_34 rfl (ix_in g_53) dX8_isBetter_53 ?_
        refine lv_aload_n hx hb dX8_isBetter_54 rfl (lv_at hl 0 rfl) ?_
        refine r_getq C fr_X8_109 hW a_100 rfl rfl (hF _ 51 _ a_100 rfl) dX8_isBetter_55 ?_
        refine lv_iload_n hx hb dX8_isBetter_58 rfl (lv_at hl 1 rfl) ?_
        obtain ⟨g_59, h⟩ := gd_some h
        refine r_iald C hW ap_40 rfl (ix_in g_59) dX8_isBetter_59 ?_
        refine lv_icmp_ge (tgt := 67) hx hb dX8_isBetter_60 (by decide) (fun c_60 => ?_) (fun c_60 => ?_)
        · have h := (if_pos c_60).symm.trans h
          refine lv_iconst (v := 0) hx hb dX8_isBetter_67 (by decide) ?_
          have h := Option.some.inj h
          subst h
          exact r_zret C hW (Or.inl rfl) dX8_isBetter_68
        · have h := (if_neg c_60).symm.trans h
          refine lv_iconst (v := 1) hx hb dX8_isBetter_63 (by decide) ?_
          refine lv_goto (tgt := 68) hx hb dX8_isBetter_64 (by decide) ?_
          have h := Option.some.inj h
          subst h
          exact r_zret C hW (Or.inr rfl) dX8_isBetter_68
def f_X8_isBetter (I : MI) (R : MR) (x1 : Int32) : Option (Int32) := (if x1 = (I 100 48) then (f_X8_isBetter_29 1000000 I R ((I 100 2) - 1)) else ((if x1 ≤ (I 100 48) then (some (0)) else (some (1)))))
set_option maxHeartbeats 4000000 in
set_option maxRecDepth 100000 in
theorem c_X8_isBetter {l : Launch} {E : EV} {q : Nat → Nat} {al : Nat → Bool} {n : Nat} {I : MI} {R : MR} {x1 : Int32} (a_100 : al 100 = true) (hF : Fx al R) {res : Int32} (h : f_X8_isBetter I R x1 = some res) : Ct l yX8_isBetter cX8_isBetter 3 (some .boolean) 1 0 0 E q al I R n [.ref (q 100), .int x1] (some (.int res)) al I R n := by
  refine Ct.of (own := RX8) (mn := "isBetter") (by decide) rfl rfl (Nat.le_of_ble_eq_true rfl) ?_
  intro p e s m args below meth c ls C hmn hargs hW hl
  have hx := C.1
  have hb := C.2.1
  have hl : lv_has ls 3 [(0, .ref (q 100)), (1, .int x1)] := hl
  unfold f_X8_isBetter at h
  refine lv_iload_n hx hb dX8_isBetter_0 rfl (lv_at hl 1 rfl) ?_
  refine lv_aload_n hx hb dX8_isBetter_1 rfl (lv_at hl 0 rfl) ?_
  refine r_get C fr_X8_233 hW a_100 rfl rfl dX8_isBetter_2 ?_
  refine lv_icmp_eq (tgt := 22) hx hb dX8_isBetter_5 (by decide) (fun c_5 => ?_) (fun c_5 => ?_)
  · have h := (if_pos c_5).symm.trans h
    refine lv_aload_n hx hb dX8_isBetter_22 rfl (lv_at hl 0 rfl) ?_
    refine r_get C fr_X8_131 hW a_100 rfl rfl dX8_isBetter_23 ?_
    refine lv_iconst (v := 1) hx hb dX8_isBetter_26 (by decide) ?_
    refine lv_isub hx hb dX8_isBetter_27 ?_
    refine lv_istore_n (lv' := [(2, .int ((I 100 2) - 1)), (0, .ref (q 100)), (1, .int x1)]) hx hb dX8_isBetter_28 rfl hl (by decide) rfl (fun ls hl => ?_)
    exact t_X8_isBetter_29 C 1000000 a_100 h hW hF (lv_sub hl [1, 0] rfl)
  · have h := (if_neg c_5).symm.trans h
    refine lv_iload_n hx hb dX8_isBetter_8 rfl (lv_at hl 1 rfl) ?_
    refine lv_aload_n hx hb dX8_isBetter_9 rfl (lv_at hl 0 rfl) ?_
    refine r_get C fr_X8_233 hW a_100 rfl rfl dX8_isBetter_10 ?_
    refine lv_icmp_le (tgt := 20) hx hb dX8_isBetter_13 (by decide) (fun c_13 => ?_) (fun c_13 => ?_)
    · have h := (if_pos c_13).symm.trans h
      refine lv_iconst (v := 0) hx hb dX8_isBetter_20 (by decide) ?_
      have h := Option.some.inj h
      subst h
      exact r_zret C hW (Or.inl rfl) dX8_isBetter_21
    · have h := (if_neg c_13).symm.trans h
      refine lv_iconst (v := 1) hx hb dX8_isBetter_16 (by decide) ?_
      refine lv_goto (tgt := 21) hx hb dX8_isBetter_17 (by decide) ?_
      have h := Option.some.inj h
      subst h
      exact r_zret C hW (Or.inr rfl) dX8_isBetter_21
def f_X8_runs_55  : Nat → MI → MR → Int32 → Int32 → Int32 → Int32 → Int32 → Int32 → Option (Int32 × MI)
  | 0, _, _, _, _, _, _, _, _ => none
  | nn + 1, I, R, x1, x3, x4, x5, x6, x7 => (if x4 ≤ x7 then (some (x5, I)) else (gd (ix x7 (ln 153)) (gd (ix (I 153 x7.toNatClampNeg) (ln 104)) (gd (ix (I 153 x7.toNatClampNeg) (ln 156)) (bd (f_X8_units I R (I 104 (I 153 x7.toNatClampNeg).toNatClampNeg) (I 156 (I 153 x7.toNatClampNeg).toNatClampNeg) x1 x5 x3 x6) (fun z_92 => gd (ix x7 (ln 154)) (lt (p2 I 154 x7.toNatClampNeg z_92) (fun I_105 => gd (ix (I 153 x7.toNatClampNeg) (ln 155)) (gd (ix (I 153 x7.toNatClampNeg) (ln 155)) (lt (p2 I_105 155 (I 153 x7.toNatClampNeg).toNatClampNeg ((I_105 155 (I 153 x7.toNatClampNeg).toNatClampNeg) + z_92)) (fun I_117 => gd (ix (I 153 x7.toNatClampNeg) (ln 156)) (gd (ix (I 153 x7.toNatClampNeg) (ln 156)) (lt (p2 I_117 156 (I 153 x7.toNatClampNeg).toNatClampNeg ((I_117 156 (I 153 x7.toNatClampNeg).toNatClampNeg) - z_92)) (fun I_129 => gd (ix 0 (ln 143)) (gd (¬ x1 = 0) (bd (f_X8_cooled I_129 R (x6 + ((z_92 * (I_129 143 (0 : Int32).toNatClampNeg)) / x1))) (fun z_152 => f_X8_runs_55 nn I_129 R x1 x3 x4 (x5 + z_92) z_152 (x7 + 1))))))))))))))))))
set_option maxHeartbeats 4000000 in
set_option maxRecDepth 100000 in
theorem t_X8_runs_55 {p : Program} {l : Launch} {e : Env} {s : State} {m : MethodId} {args : Array Value} {below : List Frame} {meth : Method} {c : Code} {E : EV} {q : Nat → Nat} {al : Nat → Bool} {n : Nat} (C : CX p s m args meth c E cX8_runs RX8 10 (some .int)) {res : Int32 × MI}   : ∀ (nn : Nat) {I : MI} {R : MR} {x1 : Int32} {x3 : Int32} {x4 : Int32} {x5 : Int32} {x6 : Int32} {x7 : Int32} {H : Heap} {locs : List Loc} {ls : Array Slot} (a_100 : al 100 = true) (h : f_X8_runs_55 nn I R x1 x3 x4 x5 x6 x7 = some res) (hW : Wd E q al s.heap I R n H locs) (hF : Fx al R) (hl : lv_has ls 10 [(0, .ref (q 100)), (1, .int x1), (3, .int x3), (4, .int x4), (5, .int x5), (6, .int x6), (7, .int x7)]), W p l e (rmL 3 0 0) s m args below meth c H locs 0 0 (MQ below (Pst E q (some (.int res.1)) al res.2 R n) args s 0 0 (Bs E)) (F0 m 55 ls []) := by
  have hx := C.1
  have hb := C.2.1
  intro nn
  induction nn with
  | zero =>
    intro I R x1 x3 x4 x5 x6 x7 H locs ls a_100 h
    cases (show (none : Option (Int32 × MI)) = some res from h)
  | succ nn ih =>
    intro I R x1 x3 x4 x5 x6 x7 H locs ls a_100 h hW hF hl
    rw [f_X8_runs_55.eq_2] at h
    refine lv_iload hx hb dX8_runs_55 (lv_at hl 6 rfl) ?_
    refine lv_iload hx hb dX8_runs_57 (lv_at hl 3 rfl) ?_
    refine lv_icmp_ge (tgt := 163) hx hb dX8_runs_59 (by decide) (fun c_59 => ?_) (fun c_59 => ?_)
    · have h := (if_pos c_59).symm.trans h
      refine lv_iload hx hb dX8_runs_163 (lv_at hl 4 rfl) ?_
      have h := Option.some.inj h
      subst h
      exact r_iret C hW dX8_runs_165
    · have h := (if_neg c_59).symm.trans h
      refine lv_aload_n hx hb dX8_runs_62 rfl (lv_at hl 0 rfl) ?_
      have ap_63 : al 153 = true := hW.cl a_100 (hF _ 52 _ a_100 rfl)
      refine r_getq C fr_X8_112 hW a_100 rfl rfl (hF _ 52 _ a_100 rfl) dX8_runs_63 ?_
      refine lv_iload hx hb dX8_runs_66 (lv_at hl 6 rfl) ?_
      obtain ⟨g_68, h⟩ := gd_some h
      refine r_iald C hW ap_63 rfl (ix_in g_68) dX8_runs_68 ?_
      refine lv_istore (lv' := [(8, .int (I 153 x7.toNatClampNeg)), (0, .ref (q 100)), (1, .int x1), (3, .int x3), (4, .int x4), (5, .int x5), (6, .int x6), (7, .int x7)]) hx hb dX8_runs_69 hl (by decide) rfl (fun ls hl => ?_)
      refine lv_aload_n hx hb dX8_runs_71 rfl (lv_at hl 1 rfl) ?_
      refine lv_aload_n hx hb dX8_runs_72 rfl (lv_at hl 1 rfl) ?_
      have ap_73 : al 104 = true := hW.cl a_100 (hF _ 3 _ a_100 rfl)
      refine r_getq C fr_X8_13 hW a_100 rfl rfl (hF _ 3 _ a_100 rfl) dX8_runs_73 ?_
      refine lv_iload hx hb dX8_runs_76 (lv_at hl 0 rfl) ?_
      obtain ⟨g_78, h⟩ := gd_some h
      refine r_iald C hW ap_73 rfl (ix_in g_78) dX8_runs_78 ?_
      refine lv_aload_n hx hb dX8_runs_79 rfl (lv_at hl 1 rfl) ?_
      have ap_80 : al 156 = true := hW.cl a_100 (hF _ 55 _ a_100 rfl)
      refine r_getq C fr_X8_121 hW a_100 rfl rfl (hF _ 55 _ a_100 rfl) dX8_runs_80 ?_
      refine lv_iload hx hb dX8_runs_83 (lv_at hl 0 rfl) ?_
      obtain ⟨g_85, h⟩ := gd_some h
      refine r_iald C hW ap_80 rfl (ix_in g_85) dX8_runs_85 ?_
      refine lv_iload_n hx hb dX8_runs_86 rfl (lv_at hl 2 rfl) ?_
      refine lv_iload hx hb dX8_runs_87 (lv_at hl 5 rfl) ?_
      refine lv_iload_n hx hb dX8_runs_89 rfl (lv_at hl 3 rfl) ?_
      refine lv_iload hx hb dX8_runs_90 (lv_at hl 6 rfl) ?_
      obtain ⟨z_92, e_z_92, h⟩ := bd_some h
      refine r_callV (v := (some (.int z_92))) (As := [.int (I 104 (I 153 x7.toNatClampNeg).toNatClampNeg), .int (I 156 (I 153 x7.toNatClampNeg).toNatClampNeg), .int x1, .int x5, .int x3, .int x6]) (rest := []) C ml_X8_units gm_980 gm_982 gs_38 (ci := 8) rfl hW a_100 rfl hl.1 (c_X8_units a_100 hF e_z_92) rfl ⟨(by decide), (by decide)⟩ ⟨(by decide), (by decide)⟩ rfl (Nat.le_of_ble_eq_true rfl) dX8_runs_92 (fun H locs hW => ?_)
      refine lv_istore (lv' := [(9, .int z_92), (8, .int (I 153 x7.toNatClampNeg)), (0, .ref (q 100)), (1, .int x1), (3, .int x3), (4, .int x4), (5, .int x5), (6, .int x6), (7, .int x7)]) hx hb dX8_runs_95 hl (by decide) rfl (fun ls hl => ?_)
      refine lv_aload_n hx hb dX8_runs_97 rfl (lv_at hl 2 rfl) ?_
      have ap_98 : al 154 = true := hW.cl a_100 (hF _ 53 _ a_100 rfl)
      refine r_getq C fr_X8_115 hW a_100 rfl rfl (hF _ 53 _ a_100 rfl) dX8_runs_98 ?_
      refine lv_iload hx hb dX8_runs_101 (lv_at hl 8 rfl) ?_
      refine lv_iload hx hb dX8_runs_103 (lv_at hl 0 rfl) ?_
      obtain ⟨g_105, h⟩ := gd_some h
      obtain ⟨I_105, e_I_105, h⟩ := lt_some h
      refine r_iast C hW ap_98 rfl (ix_in g_105) dX8_runs_105 (fun H locs hW => ?_)
      rw [← e_I_105] at hW
      refine lv_aload_n hx hb dX8_runs_106 rfl (lv_at hl 2 rfl) ?_
      have ap_107 : al 155 = true := hW.cl a_100 (hF _ 54 _ a_100 rfl)
      refine r_getq C fr_X8_118 hW a_100 rfl rfl (hF _ 54 _ a_100 rfl) dX8_runs_107 ?_
      refine lv_iload hx hb dX8_runs_110 (lv_at hl 1 rfl) ?_
      refine lv_dup2_11 hx hb dX8_runs_112 rfl rfl ?_
      obtain ⟨g_113, h⟩ := gd_some h
      refine r_iald C hW ap_107 rfl (ix_in g_113) dX8_runs_113 ?_
      refine lv_iload hx hb dX8_runs_114 (lv_at hl 0 rfl) ?_
      refine lv_iadd hx hb dX8_runs_116 ?_
      obtain ⟨g_117, h⟩ := gd_some h
      obtain ⟨I_117, e_I_117, h⟩ := lt_some h
      refine r_iast C hW ap_107 rfl (ix_in g_117) dX8_runs_117 (fun H locs hW => ?_)
      rw [← e_I_117] at hW
      refine lv_aload_n hx hb dX8_runs_118 rfl (lv_at hl 2 rfl) ?_
      refine r_getq C fr_X8_121 hW a_100 rfl rfl (hF _ 55 _ a_100 rfl) dX8_runs_119 ?_
      refine lv_iload hx hb dX8_runs_122 (lv_at hl 1 rfl) ?_
      refine lv_dup2_11 hx hb dX8_runs_124 rfl rfl ?_
      obtain ⟨g_125, h⟩ := gd_some h
      refine r_iald C hW ap_80 rfl (ix_in g_125) dX8_runs_125 ?_
      refine lv_iload hx hb dX8_runs_126 (lv_at hl 0 rfl) ?_
      refine lv_isub hx hb dX8_runs_128 ?_
      obtain ⟨g_129, h⟩ := gd_some h
      obtain ⟨I_129, e_I_129, h⟩ := lt_some h
      refine r_iast C hW ap_80 rfl (ix_in g_129) dX8_runs_129 (fun H locs hW => ?_)
      rw [← e_I_129] at hW
      refine lv_iload hx hb dX8_runs_130 (lv_at hl 6 rfl) ?_
      refine lv_iload hx hb dX8_runs_132 (lv_at hl 0 rfl) ?_
      refine lv_iadd hx hb dX8_runs_134 ?_
      refine lv_istore (lv' := [(5, .int (x5 + z_92)), (9, .int z_92), (8, .int (I 153 x7.toNatClampNeg)), (0, .ref (q 100)), (1, .int x1), (3, .int x3), (4, .int x4), (6, .int x6), (7, .int x7)]) hx hb dX8_runs_135 hl (by decide) rfl (fun ls hl => ?_)
      refine lv_aload_n hx hb dX8_runs_137 rfl (lv_at hl 3 rfl) ?_
      refine lv_iload hx hb dX8_runs_138 (lv_at hl 7 rfl) ?_
      refine lv_iload hx hb dX8_runs_140 (lv_at hl 1 rfl) ?_
      refine lv_aload_n hx hb dX8_runs_142 rfl (lv_at hl 3 rfl) ?_
      have ap_143 : al 143 = true := hW.cl a_100 (hF _ 42 _ a_100 rfl)
      refine r_getq C fr_X8_94 hW a_100 rfl rfl (hF _ 42 _ a_100 rfl) dX8_runs_143 ?_
      refine lv_iconst (v := 0) hx hb dX8_runs_146 (by decide) ?_
      obtain ⟨g_147, h⟩ := gd_some h
      refine r_iald C hW ap_143 rfl (ix_in g_147) dX8_runs_147 ?_
      refine lv_imul hx hb dX8_runs_148 ?_
      refine lv_iload_n hx hb dX8_runs_149 rfl (lv_at hl 4 rfl) ?_
      obtain ⟨g_150, h⟩ := gd_some h
      refine lv_idiv hx hb dX8_runs_150 g_150 ?_
      refine lv_iadd hx hb dX8_runs_151 ?_
      obtain ⟨z_152, e_z_152, h⟩ := bd_some h
      refine r_callV (v := (some (.int z_152))) (As := [.int (x6 + ((z_92 * (I_129 143 (0 : Int32).toNatClampNeg)) / x1))]) (rest := []) C ml_X8_cooled gm_984 gm_986 gs_39 (ci := 8) rfl hW a_100 rfl hl.1 (c_X8_cooled a_100 hF e_z_152) rfl ⟨(by decide), (by decide)⟩ ⟨(by decide), (by decide)⟩ rfl (Nat.le_of_ble_eq_true rfl) dX8_runs_152 (fun H locs hW => ?_)
      refine lv_istore (lv' := [(6, .int z_152), (5, .int (x5 + z_92)), (9, .int z_92), (8, .int (I 153 x7.toNatClampNeg)), (0, .ref (q 100)), (1, .int x1), (3, .int x3), (4, .int x4), (7, .int x7)]) hx hb dX8_runs_155 hl (by decide) rfl (fun ls hl => ?_)
      refine lv_iinc (v := x7 + 1) (lv' := [(7, .int (x7 + 1)), (6, .int z_152), (5, .int (x5 + z_92)), (9, .int z_92), (8, .int (I 153 x7.toNatClampNeg)), (0, .ref (q 100)), (1, .int x1), (3, .int x3), (4, .int x4)]) hx hb dX8_runs_157 hl (k := 8) rfl rfl (by decide) rfl (fun ls hl => ?_)
      refine lv_goto (tgt := 55) hx hb dX8_runs_160 (by decide) ?_
      exact ih a_100 h hW hF (lv_sub hl [5, 6, 7, 8, 2, 1, 0] rfl)
def f_X8_runs_3  : Nat → MI → MR → Int32 → Int32 → Int32 → Int32 → Int32 → Option (Int32 × MI)
  | 0, _, _, _, _, _, _, _ => none
  | nn + 1, I, R, x1, x2, x3, x4, x5 => (if (I 100 2) ≤ x5 then (f_X8_runs_55 1000000 I R x1 x3 x4 x2 (10 * (I 100 1)) 0) else (gd (ix x5 (ln 155)) (lt (p2 I 155 x5.toNatClampNeg 0) (fun I_19 => gd (ix x5 (ln 105)) (gd (ix x5 (ln 156)) (lt (p2 I_19 156 x5.toNatClampNeg (I_19 105 x5.toNatClampNeg)) (fun I_33 => f_X8_runs_3 nn I_33 R x1 x2 x3 x4 (x5 + 1))))))))
set_option maxHeartbeats 4000000 in
set_option maxRecDepth 100000 in
theorem t_X8_runs_3 {p : Program} {l : Launch} {e : Env} {s : State} {m : MethodId} {args : Array Value} {below : List Frame} {meth : Method} {c : Code} {E : EV} {q : Nat → Nat} {al : Nat → Bool} {n : Nat} (C : CX p s m args meth c E cX8_runs RX8 10 (some .int)) {res : Int32 × MI}   : ∀ (nn : Nat) {I : MI} {R : MR} {x1 : Int32} {x2 : Int32} {x3 : Int32} {x4 : Int32} {x5 : Int32} {H : Heap} {locs : List Loc} {ls : Array Slot} (a_100 : al 100 = true) (h : f_X8_runs_3 nn I R x1 x2 x3 x4 x5 = some res) (hW : Wd E q al s.heap I R n H locs) (hF : Fx al R) (hl : lv_has ls 10 [(0, .ref (q 100)), (1, .int x1), (2, .int x2), (3, .int x3), (4, .int x4), (5, .int x5)]), W p l e (rmL 3 0 0) s m args below meth c H locs 0 0 (MQ below (Pst E q (some (.int res.1)) al res.2 R n) args s 0 0 (Bs E)) (F0 m 3 ls []) := by
  have hx := C.1
  have hb := C.2.1
  intro nn
  induction nn with
  | zero =>
    intro I R x1 x2 x3 x4 x5 H locs ls a_100 h
    cases (show (none : Option (Int32 × MI)) = some res from h)
  | succ nn ih =>
    intro I R x1 x2 x3 x4 x5 H locs ls a_100 h hW hF hl
    rw [f_X8_runs_3.eq_2] at h
    refine lv_iload hx hb dX8_runs_3 (lv_at hl 5 rfl) ?_
    refine lv_aload_n hx hb dX8_runs_5 rfl (lv_at hl 0 rfl) ?_
    refine r_get C fr_X8_131 hW a_100 rfl rfl dX8_runs_6 ?_
    refine lv_icmp_ge (tgt := 40) hx hb dX8_runs_9 (by decide) (fun c_9 => ?_) (fun c_9 => ?_)
    · have h := (if_pos c_9).symm.trans h
      refine lv_iload_n hx hb dX8_runs_40 rfl (lv_at hl 2 rfl) ?_
      refine lv_istore (lv' := [(5, .int x2), (0, .ref (q 100)), (1, .int x1), (2, .int x2), (3, .int x3), (4, .int x4)]) hx hb dX8_runs_41 hl (by decide) rfl (fun ls hl => ?_)
      refine lv_bipush (v := 10) hx hb dX8_runs_43 (by decide) ?_
      refine lv_aload_n hx hb dX8_runs_45 rfl (lv_at hl 1 rfl) ?_
      refine r_get C fr_X8_7 hW a_100 rfl rfl dX8_runs_46 ?_
      refine lv_imul hx hb dX8_runs_49 ?_
      refine lv_istore (lv' := [(6, .int (10 * (I 100 1))), (5, .int x2), (0, .ref (q 100)), (1, .int x1), (2, .int x2), (3, .int x3), (4, .int x4)]) hx hb dX8_runs_50 hl (by decide) rfl (fun ls hl => ?_)
      refine lv_iconst (v := 0) hx hb dX8_runs_52 (by decide) ?_
      refine lv_istore (lv' := [(7, .int 0), (6, .int (10 * (I 100 1))), (5, .int x2), (0, .ref (q 100)), (1, .int x1), (2, .int x2), (3, .int x3), (4, .int x4)]) hx hb dX8_runs_53 hl (by decide) rfl (fun ls hl => ?_)
      exact t_X8_runs_55 C 1000000 a_100 h hW hF (lv_sub hl [3, 4, 6, 7, 2, 1, 0] rfl)
    · have h := (if_neg c_9).symm.trans h
      refine lv_aload_n hx hb dX8_runs_12 rfl (lv_at hl 0 rfl) ?_
      have ap_13 : al 155 = true := hW.cl a_100 (hF _ 54 _ a_100 rfl)
      refine r_getq C fr_X8_118 hW a_100 rfl rfl (hF _ 54 _ a_100 rfl) dX8_runs_13 ?_
      refine lv_iload hx hb dX8_runs_16 (lv_at hl 5 rfl) ?_
      refine lv_iconst (v := 0) hx hb dX8_runs_18 (by decide) ?_
      obtain ⟨g_19, h⟩ := gd_some h
      obtain ⟨I_19, e_I_19, h⟩ := lt_some h
      refine r_iast C hW ap_13 rfl (ix_in g_19) dX8_runs_19 (fun H locs hW => ?_)
      rw [← e_I_19] at hW
      refine lv_aload_n hx hb dX8_runs_20 rfl (lv_at hl 0 rfl) ?_
      have ap_21 : al 156 = true := hW.cl a_100 (hF _ 55 _ a_100 rfl)
      refine r_getq C fr_X8_121 hW a_100 rfl rfl (hF _ 55 _ a_100 rfl) dX8_runs_21 ?_
      refine lv_iload hx hb dX8_runs_24 (lv_at hl 5 rfl) ?_
      refine lv_aload_n hx hb dX8_runs_26 rfl (lv_at hl 0 rfl) ?_
      have ap_27 : al 105 = true := hW.cl a_100 (hF _ 4 _ a_100 rfl)
      refine r_getq C fr_X8_17 hW a_100 rfl rfl (hF _ 4 _ a_100 rfl) dX8_runs_27 ?_
      refine lv_iload hx hb dX8_runs_30 (lv_at hl 5 rfl) ?_
      obtain ⟨g_32, h⟩ := gd_some h
      refine r_iald C hW ap_27 rfl (ix_in g_32) dX8_runs_32 ?_
      obtain ⟨g_33, h⟩ := gd_some h
      obtain ⟨I_33, e_I_33, h⟩ := lt_some h
      refine r_iast C hW ap_21 rfl (ix_in g_33) dX8_runs_33 (fun H locs hW => ?_)
      rw [← e_I_33] at hW
      refine lv_iinc (v := x5 + 1) (lv' := [(5, .int (x5 + 1)), (0, .ref (q 100)), (1, .int x1), (2, .int x2), (3, .int x3), (4, .int x4)]) hx hb dX8_runs_34 hl (k := 5) rfl rfl (by decide) rfl (fun ls hl => ?_)
      refine lv_goto (tgt := 3) hx hb dX8_runs_37 (by decide) ?_
      exact ih a_100 h hW hF (lv_sub hl [1, 2, 3, 4, 5, 0] rfl)
def f_X8_runs (I : MI) (R : MR) (x1 : Int32) (x2 : Int32) (x3 : Int32) (x4 : Int32) : Option (Int32 × MI) := f_X8_runs_3 1000000 I R x1 x2 x3 x4 0
set_option maxHeartbeats 4000000 in
set_option maxRecDepth 100000 in
theorem c_X8_runs {l : Launch} {E : EV} {q : Nat → Nat} {al : Nat → Bool} {n : Nat} {I : MI} {R : MR} {x1 : Int32} {x2 : Int32} {x3 : Int32} {x4 : Int32} (a_100 : al 100 = true) (hF : Fx al R) {res : Int32 × MI} (h : f_X8_runs I R x1 x2 x3 x4 = some res) : Ct l yX8_runs cX8_runs 10 (some .int) 3 0 0 E q al I R n [.ref (q 100), .int x1, .int x2, .int x3, .int x4] (some (.int res.1)) al res.2 R n := by
  refine Ct.of (own := RX8) (mn := "runs") (by decide) rfl rfl (Nat.le_of_ble_eq_true rfl) ?_
  intro p e s m args below meth c ls C hmn hargs hW hl
  have hx := C.1
  have hb := C.2.1
  have hl : lv_has ls 10 [(0, .ref (q 100)), (1, .int x1), (2, .int x2), (3, .int x3), (4, .int x4)] := hl
  unfold f_X8_runs at h
  refine lv_iconst (v := 0) hx hb dX8_runs_0 (by decide) ?_
  refine lv_istore (lv' := [(5, .int 0), (0, .ref (q 100)), (1, .int x1), (2, .int x2), (3, .int x3), (4, .int x4)]) hx hb dX8_runs_1 hl (by decide) rfl (fun ls hl => ?_)
  exact t_X8_runs_3 C 1000000 a_100 h hW hF (lv_sub hl [1, 2, 3, 4, 5, 0] rfl)
def f_X8_goesOn_80 (k4 : MI → MR → Int32 → Option (Int32 × MI)) : Nat → MI → MR → Int32 → Option (Int32 × MI)
  | 0, _, _, _ => none
  | nn + 1, I, R, x2 => gd (ix x2 (ln 153)) (gd (ix (I 153 x2.toNatClampNeg) (ln 109)) ((if (I 109 (I 153 x2.toNatClampNeg).toNatClampNeg) = 0 then (k4 I R (x2 + (-1))) else (gd (ix x2 (ln 153)) (gd (ix x2 (ln 153)) (lt (p2 I 153 x2.toNatClampNeg ((I 153 x2.toNatClampNeg) + 1)) (fun I_103 => f_X8_goesOn_80 k4 nn I_103 R x2)))))))
set_option maxHeartbeats 4000000 in
set_option maxRecDepth 100000 in
theorem t_X8_goesOn_80 {p : Program} {l : Launch} {e : Env} {s : State} {m : MethodId} {args : Array Value} {below : List Frame} {meth : Method} {c : Code} {E : EV} {q : Nat → Nat} {al : Nat → Bool} {n : Nat} (C : CX p s m args meth c E cX8_goesOn RX8 3 (some .boolean)) {res : Int32 × MI} {k4 : MI → MR → Int32 → Option (Int32 × MI)} (hk4 : ∀ {I : MI} {R : MR} {x2 : Int32} {H : Heap} {locs : List Loc} {ls : Array Slot}, al 100 = true → k4 I R x2 = some res → Wd E q al s.heap I R n H locs → Fx al R → lv_has ls 3 [(0, .ref (q 100)), (2, .int x2)] → W p l e (rmL 1 0 0) s m args below meth c H locs 0 0 (MQ below (Pst E q (some (.int res.1)) al res.2 R n) args s 0 0 (Bs E)) (F0 m 4 ls [])) : ∀ (nn : Nat) {I : MI} {R : MR} {x2 : Int32} {H : Heap} {locs : List Loc} {ls : Array Slot} (a_100 : al 100 = true) (h : f_X8_goesOn_80 k4 nn I R x2 = some res) (hW : Wd E q al s.heap I R n H locs) (hF : Fx al R) (hl : lv_has ls 3 [(0, .ref (q 100)), (2, .int x2)]), W p l e (rmL 1 0 0) s m args below meth c H locs 0 0 (MQ below (Pst E q (some (.int res.1)) al res.2 R n) args s 0 0 (Bs E)) (F0 m 80 ls []) := by
  have hx := C.1
  have hb := C.2.1
  intro nn
  induction nn with
  | zero =>
    intro I R x2 H locs ls a_100 h
    cases (show (none : Option (Int32 × MI)) = some res from h)
  | succ nn ih =>
    intro I R x2 H locs ls a_100 h hW hF hl
    rw [f_X8_goesOn_80.eq_2] at h
    refine lv_aload_n hx hb dX8_goesOn_80 rfl (lv_at hl 0 rfl) ?_
    have ap_81 : al 109 = true := hW.cl a_100 (hF _ 8 _ a_100 rfl)
    refine r_getq C fr_X8_29 hW a_100 rfl rfl (hF _ 8 _ a_100 rfl) dX8_goesOn_81 ?_
    refine lv_aload_n hx hb dX8_goesOn_84 rfl (lv_at hl 0 rfl) ?_
    have ap_85 : al 153 = true := hW.cl a_100 (hF _ 52 _ a_100 rfl)
    refine r_getq C fr_X8_112 hW a_100 rfl rfl (hF _ 52 _ a_100 rfl) dX8_goesOn_85 ?_
    refine lv_iload_n hx hb dX8_goesOn_88 rfl (lv_at hl 1 rfl) ?_
    obtain ⟨g_89, h⟩ := gd_some h
    refine r_iald C hW ap_85 rfl (ix_in g_89) dX8_goesOn_89 ?_
    obtain ⟨g_90, h⟩ := gd_some h
    refine r_zald C hW ap_81 rfl (ix_in g_90) dX8_goesOn_90 ?_
    refine lv_if_eq (tgt := 107) hx hb dX8_goesOn_91 (by decide) (fun c_91 => ?_) (fun c_91 => ?_)
    · have h := (if_pos c_91).symm.trans h
      refine lv_iinc (v := x2 + (-1)) (lv' := [(2, .int (x2 + (-1))), (0, .ref (q 100))]) hx hb dX8_goesOn_107 hl (k := 1) rfl rfl (by decide) rfl (fun ls hl => ?_)
      refine lv_goto (tgt := 4) hx hb dX8_goesOn_110 (by decide) ?_
      exact hk4 a_100 h hW hF (lv_sub hl [1, 0] rfl)
    · have h := (if_neg c_91).symm.trans h
      refine lv_aload_n hx hb dX8_goesOn_94 rfl (lv_at hl 0 rfl) ?_
      refine r_getq C fr_X8_112 hW a_100 rfl rfl (hF _ 52 _ a_100 rfl) dX8_goesOn_95 ?_
      refine lv_iload_n hx hb dX8_goesOn_98 rfl (lv_at hl 1 rfl) ?_
      refine lv_dup2_11 hx hb dX8_goesOn_99 rfl rfl ?_
      obtain ⟨g_100, h⟩ := gd_some h
      refine r_iald C hW ap_85 rfl (ix_in g_100) dX8_goesOn_100 ?_
      refine lv_iconst (v := 1) hx hb dX8_goesOn_101 (by decide) ?_
      refine lv_iadd hx hb dX8_goesOn_102 ?_
      obtain ⟨g_103, h⟩ := gd_some h
      obtain ⟨I_103, e_I_103, h⟩ := lt_some h
      refine r_iast C hW ap_85 rfl (ix_in g_103) dX8_goesOn_103 (fun H locs hW => ?_)
      rw [← e_I_103] at hW
      refine lv_goto (tgt := 80) hx hb dX8_goesOn_104 (by decide) ?_
      exact ih a_100 h hW hF (lv_sub hl [0, 1] rfl)
def f_X8_goesOn_58 (k4 : MI → MR → Int32 → Option (Int32 × MI)) (I : MI) (R : MR) (x2 : Int32) : Option (Int32 × MI) := gd (ix x2 (ln 153)) ((if (I 100 2) ≤ (I 153 x2.toNatClampNeg) then (gd (ix x2 (ln 153)) (lt (p2 I 153 x2.toNatClampNeg 0) (fun I_79 => f_X8_goesOn_80 k4 1000000 I_79 R x2))) else (some (1, I))))
set_option maxHeartbeats 4000000 in
set_option maxRecDepth 100000 in
theorem t_X8_goesOn_58 {p : Program} {l : Launch} {e : Env} {s : State} {m : MethodId} {args : Array Value} {below : List Frame} {meth : Method} {c : Code} {E : EV} {q : Nat → Nat} {al : Nat → Bool} {n : Nat} (C : CX p s m args meth c E cX8_goesOn RX8 3 (some .boolean)) {res : Int32 × MI} {k4 : MI → MR → Int32 → Option (Int32 × MI)} (hk4 : ∀ {I : MI} {R : MR} {x2 : Int32} {H : Heap} {locs : List Loc} {ls : Array Slot}, al 100 = true → k4 I R x2 = some res → Wd E q al s.heap I R n H locs → Fx al R → lv_has ls 3 [(0, .ref (q 100)), (2, .int x2)] → W p l e (rmL 1 0 0) s m args below meth c H locs 0 0 (MQ below (Pst E q (some (.int res.1)) al res.2 R n) args s 0 0 (Bs E)) (F0 m 4 ls [])) {I : MI} {R : MR} {x2 : Int32} (a_100 : al 100 = true) {H : Heap} {locs : List Loc} {ls : Array Slot} (h : f_X8_goesOn_58 k4 I R x2 = some res) (hW : Wd E q al s.heap I R n H locs) (hF : Fx al R) (hl : lv_has ls 3 [(0, .ref (q 100)), (2, .int x2)]) : W p l e (rmL 1 0 0) s m args below meth c H locs 0 0 (MQ below (Pst E q (some (.int res.1)) al res.2 R n) args s 0 0 (Bs E)) (F0 m 58 ls []) := by
  have hx := C.1
  have hb := C.2.1
  unfold f_X8_goesOn_58 at h
  refine lv_aload_n hx hb dX8_goesOn_58 rfl (lv_at hl 0 rfl) ?_
  have ap_59 : al 153 = true := hW.cl a_100 (hF _ 52 _ a_100 rfl)
  refine r_getq C fr_X8_112 hW a_100 rfl rfl (hF _ 52 _ a_100 rfl) dX8_goesOn_59 ?_
  refine lv_iload_n hx hb dX8_goesOn_62 rfl (lv_at hl 1 rfl) ?_
  obtain ⟨g_63, h⟩ := gd_some h
  refine r_iald C hW ap_59 rfl (ix_in g_63) dX8_goesOn_63 ?_
  refine lv_aload_n hx hb dX8_goesOn_64 rfl (lv_at hl 0 rfl) ?_
  refine r_get C fr_X8_131 hW a_100 rfl rfl dX8_goesOn_65 ?_
  refine lv_icmp_ge (tgt := 73) hx hb dX8_goesOn_68 (by decide) (fun c_68 => ?_) (fun c_68 => ?_)
  · have h := (if_pos c_68).symm.trans h
    refine lv_aload_n hx hb dX8_goesOn_73 rfl (lv_at hl 0 rfl) ?_
    refine r_getq C fr_X8_112 hW a_100 rfl rfl (hF _ 52 _ a_100 rfl) dX8_goesOn_74 ?_
    refine lv_iload_n hx hb dX8_goesOn_77 rfl (lv_at hl 1 rfl) ?_
    refine lv_iconst (v := 0) hx hb dX8_goesOn_78 (by decide) ?_
    obtain ⟨g_79, h⟩ := gd_some h
    obtain ⟨I_79, e_I_79, h⟩ := lt_some h
    refine r_iast C hW ap_59 rfl (ix_in g_79) dX8_goesOn_79 (fun H locs hW => ?_)
    rw [← e_I_79] at hW
    exact t_X8_goesOn_80 C hk4 1000000 a_100 h hW hF (lv_sub hl [0, 1] rfl)
  · have h := (if_neg c_68).symm.trans h
    refine lv_iconst (v := 1) hx hb dX8_goesOn_71 (by decide) ?_
    have h := Option.some.inj h
    subst h
    exact r_zret C hW (Or.inr rfl) dX8_goesOn_72
def f_X8_goesOn_18 (k4 : MI → MR → Int32 → Option (Int32 × MI)) : Nat → MI → MR → Int32 → Option (Int32 × MI)
  | 0, _, _, _ => none
  | nn + 1, I, R, x2 => gd (ix x2 (ln 153)) ((if (I 100 2) ≤ (I 153 x2.toNatClampNeg) then (f_X8_goesOn_58 k4 I R x2) else (gd (ix x2 (ln 153)) (gd (ix (I 153 x2.toNatClampNeg) (ln 109)) ((if (I 109 (I 153 x2.toNatClampNeg).toNatClampNeg) = 0 then (f_X8_goesOn_58 k4 I R x2) else (gd (ix x2 (ln 153)) (gd (ix x2 (ln 153)) (lt (p2 I 153 x2.toNatClampNeg ((I 153 x2.toNatClampNeg) + 1)) (fun I_54 => f_X8_goesOn_18 k4 nn I_54 R x2))))))))))
set_option maxHeartbeats 4000000 in
set_option maxRecDepth 100000 in
theorem t_X8_goesOn_18 {p : Program} {l : Launch} {e : Env} {s : State} {m : MethodId} {args : Array Value} {below : List Frame} {meth : Method} {c : Code} {E : EV} {q : Nat → Nat} {al : Nat → Bool} {n : Nat} (C : CX p s m args meth c E cX8_goesOn RX8 3 (some .boolean)) {res : Int32 × MI} {k4 : MI → MR → Int32 → Option (Int32 × MI)} (hk4 : ∀ {I : MI} {R : MR} {x2 : Int32} {H : Heap} {locs : List Loc} {ls : Array Slot}, al 100 = true → k4 I R x2 = some res → Wd E q al s.heap I R n H locs → Fx al R → lv_has ls 3 [(0, .ref (q 100)), (2, .int x2)] → W p l e (rmL 1 0 0) s m args below meth c H locs 0 0 (MQ below (Pst E q (some (.int res.1)) al res.2 R n) args s 0 0 (Bs E)) (F0 m 4 ls [])) : ∀ (nn : Nat) {I : MI} {R : MR} {x2 : Int32} {H : Heap} {locs : List Loc} {ls : Array Slot} (a_100 : al 100 = true) (h : f_X8_goesOn_18 k4 nn I R x2 = some res) (hW : Wd E q al s.heap I R n H locs) (hF : Fx al R) (hl : lv_has ls 3 [(0, .ref (q 100)), (2, .int x2)]), W p l e (rmL 1 0 0) s m args below meth c H locs 0 0 (MQ below (Pst E q (some (.int res.1)) al res.2 R n) args s 0 0 (Bs E)) (F0 m 18 ls []) := by
  have hx := C.1
  have hb := C.2.1
  intro nn
  induction nn with
  | zero =>
    intro I R x2 H locs ls a_100 h
    cases (show (none : Option (Int32 × MI)) = some res from h)
  | succ nn ih =>
    intro I R x2 H locs ls a_100 h hW hF hl
    rw [f_X8_goesOn_18.eq_2] at h
    refine lv_aload_n hx hb dX8_goesOn_18 rfl (lv_at hl 0 rfl) ?_
    have ap_19 : al 153 = true := hW.cl a_100 (hF _ 52 _ a_100 rfl)
    refine r_getq C fr_X8_112 hW a_100 rfl rfl (hF _ 52 _ a_100 rfl) dX8_goesOn_19 ?_
    refine lv_iload_n hx hb dX8_goesOn_22 rfl (lv_at hl 1 rfl) ?_
    obtain ⟨g_23, h⟩ := gd_some h
    refine r_iald C hW ap_19 rfl (ix_in g_23) dX8_goesOn_23 ?_
    refine lv_aload_n hx hb dX8_goesOn_24 rfl (lv_at hl 0 rfl) ?_
    refine r_get C fr_X8_131 hW a_100 rfl rfl dX8_goesOn_25 ?_
    refine lv_icmp_ge (tgt := 58) hx hb dX8_goesOn_28 (by decide) (fun c_28 => ?_) (fun c_28 => ?_)
    · have h := (if_pos c_28).symm.trans h
      exact t_X8_goesOn_58 C hk4 a_100 h hW hF (lv_sub hl [0, 1] rfl)
    · have h := (if_neg c_28).symm.trans h
      refine lv_aload_n hx hb dX8_goesOn_31 rfl (lv_at hl 0 rfl) ?_
      have ap_32 : al 109 = true := hW.cl a_100 (hF _ 8 _ a_100 rfl)
      refine r_getq C fr_X8_29 hW a_100 rfl rfl (hF _ 8 _ a_100 rfl) dX8_goesOn_32 ?_
      refine lv_aload_n hx hb dX8_goesOn_35 rfl (lv_at hl 0 rfl) ?_
      refine r_getq C fr_X8_112 hW a_100 rfl rfl (hF _ 52 _ a_100 rfl) dX8_goesOn_36 ?_
      refine lv_iload_n hx hb dX8_goesOn_39 rfl (lv_at hl 1 rfl) ?_
      obtain ⟨g_40, h⟩ := gd_some h
      refine r_iald C hW ap_19 rfl (ix_in g_40) dX8_goesOn_40 ?_
      obtain ⟨g_41, h⟩ := gd_some h
      refine r_zald C hW ap_32 rfl (ix_in g_41) dX8_goesOn_41 ?_
      refine lv_if_eq (tgt := 58) hx hb dX8_goesOn_42 (by decide) (fun c_42 => ?_) (fun c_42 => ?_)
      · have h := (if_pos c_42).symm.trans h
        exact t_X8_goesOn_58 C hk4 a_100 h hW hF (lv_sub hl [0, 1] rfl)
      · have h := (if_neg c_42).symm.trans h
        refine lv_aload_n hx hb dX8_goesOn_45 rfl (lv_at hl 0 rfl) ?_
        refine r_getq C fr_X8_112 hW a_100 rfl rfl (hF _ 52 _ a_100 rfl) dX8_goesOn_46 ?_
        refine lv_iload_n hx hb dX8_goesOn_49 rfl (lv_at hl 1 rfl) ?_
        refine lv_dup2_11 hx hb dX8_goesOn_50 rfl rfl ?_
        obtain ⟨g_51, h⟩ := gd_some h
        refine r_iald C hW ap_19 rfl (ix_in g_51) dX8_goesOn_51 ?_
        refine lv_iconst (v := 1) hx hb dX8_goesOn_52 (by decide) ?_
        refine lv_iadd hx hb dX8_goesOn_53 ?_
        obtain ⟨g_54, h⟩ := gd_some h
        obtain ⟨I_54, e_I_54, h⟩ := lt_some h
        refine r_iast C hW ap_19 rfl (ix_in g_54) dX8_goesOn_54 (fun H locs hW => ?_)
        rw [← e_I_54] at hW
        refine lv_goto (tgt := 18) hx hb dX8_goesOn_55 (by decide) ?_
        exact ih a_100 h hW hF (lv_sub hl [0, 1] rfl)
def f_X8_goesOn_4  : Nat → MI → MR → Int32 → Option (Int32 × MI)
  | 0, _, _, _ => none
  | nn + 1, I, R, x2 => (if x2 < 0 then (some (0, I)) else (gd (ix x2 (ln 153)) (gd (ix x2 (ln 153)) (lt (p2 I 153 x2.toNatClampNeg ((I 153 x2.toNatClampNeg) + 1)) (fun I_17 => f_X8_goesOn_18 (f_X8_goesOn_4 nn) 1000000 I_17 R x2)))))
set_option maxHeartbeats 4000000 in
set_option maxRecDepth 100000 in
theorem t_X8_goesOn_4 {p : Program} {l : Launch} {e : Env} {s : State} {m : MethodId} {args : Array Value} {below : List Frame} {meth : Method} {c : Code} {E : EV} {q : Nat → Nat} {al : Nat → Bool} {n : Nat} (C : CX p s m args meth c E cX8_goesOn RX8 3 (some .boolean)) {res : Int32 × MI}   : ∀ (nn : Nat) {I : MI} {R : MR} {x2 : Int32} {H : Heap} {locs : List Loc} {ls : Array Slot} (a_100 : al 100 = true) (h : f_X8_goesOn_4 nn I R x2 = some res) (hW : Wd E q al s.heap I R n H locs) (hF : Fx al R) (hl : lv_has ls 3 [(0, .ref (q 100)), (2, .int x2)]), W p l e (rmL 1 0 0) s m args below meth c H locs 0 0 (MQ below (Pst E q (some (.int res.1)) al res.2 R n) args s 0 0 (Bs E)) (F0 m 4 ls []) := by
  have hx := C.1
  have hb := C.2.1
  intro nn
  induction nn with
  | zero =>
    intro I R x2 H locs ls a_100 h
    cases (show (none : Option (Int32 × MI)) = some res from h)
  | succ nn ih =>
    intro I R x2 H locs ls a_100 h hW hF hl
    rw [f_X8_goesOn_4.eq_2] at h
    refine lv_iload_n hx hb dX8_goesOn_4 rfl (lv_at hl 1 rfl) ?_
    refine lv_if_lt (tgt := 113) hx hb dX8_goesOn_5 (by decide) (fun c_5 => ?_) (fun c_5 => ?_)
    · have h := (if_pos c_5).symm.trans h
      refine lv_iconst (v := 0) hx hb dX8_goesOn_113 (by decide) ?_
      have h := Option.some.inj h
      subst h
      exact r_zret C hW (Or.inl rfl) dX8_goesOn_114
    · have h := (if_neg c_5).symm.trans h
      refine lv_aload_n hx hb dX8_goesOn_8 rfl (lv_at hl 0 rfl) ?_
      have ap_9 : al 153 = true := hW.cl a_100 (hF _ 52 _ a_100 rfl)
      refine r_getq C fr_X8_112 hW a_100 rfl rfl (hF _ 52 _ a_100 rfl) dX8_goesOn_9 ?_
      refine lv_iload_n hx hb dX8_goesOn_12 rfl (lv_at hl 1 rfl) ?_
      refine lv_dup2_11 hx hb dX8_goesOn_13 rfl rfl ?_
      obtain ⟨g_14, h⟩ := gd_some h
      refine r_iald C hW ap_9 rfl (ix_in g_14) dX8_goesOn_14 ?_
      refine lv_iconst (v := 1) hx hb dX8_goesOn_15 (by decide) ?_
      refine lv_iadd hx hb dX8_goesOn_16 ?_
      obtain ⟨g_17, h⟩ := gd_some h
      obtain ⟨I_17, e_I_17, h⟩ := lt_some h
      refine r_iast C hW ap_9 rfl (ix_in g_17) dX8_goesOn_17 (fun H locs hW => ?_)
      rw [← e_I_17] at hW
      exact t_X8_goesOn_18 C ih 1000000 a_100 h hW hF (lv_sub hl [0, 1] rfl)
def f_X8_goesOn (I : MI) (R : MR) (x1 : Int32) : Option (Int32 × MI) := f_X8_goesOn_4 1000000 I R (x1 - 1)
set_option maxHeartbeats 4000000 in
set_option maxRecDepth 100000 in
theorem c_X8_goesOn {l : Launch} {E : EV} {q : Nat → Nat} {al : Nat → Bool} {n : Nat} {I : MI} {R : MR} {x1 : Int32} (a_100 : al 100 = true) (hF : Fx al R) {res : Int32 × MI} (h : f_X8_goesOn I R x1 = some res) : Ct l yX8_goesOn cX8_goesOn 3 (some .boolean) 1 0 0 E q al I R n [.ref (q 100), .int x1] (some (.int res.1)) al res.2 R n := by
  refine Ct.of (own := RX8) (mn := "goesOn") (by decide) rfl rfl (Nat.le_of_ble_eq_true rfl) ?_
  intro p e s m args below meth c ls C hmn hargs hW hl
  have hx := C.1
  have hb := C.2.1
  have hl : lv_has ls 3 [(0, .ref (q 100)), (1, .int x1)] := hl
  unfold f_X8_goesOn at h
  refine lv_iload_n hx hb dX8_goesOn_0 rfl (lv_at hl 1 rfl) ?_
  refine lv_iconst (v := 1) hx hb dX8_goesOn_1 (by decide) ?_
  refine lv_isub hx hb dX8_goesOn_2 ?_
  refine lv_istore_n (lv' := [(2, .int (x1 - 1)), (0, .ref (q 100)), (1, .int x1)]) hx hb dX8_goesOn_3 rfl hl (by decide) rfl (fun ls hl => ?_)
  exact t_X8_goesOn_4 C 1000000 a_100 h hW hF (lv_sub hl [1, 0] rfl)
def f_X8_best_222 (k115 : MI → MR → Int32 → Int32 → Int32 → Int32 → Int32 → Option (Int32 × MI)) (I : MI) (R : MR) (x1 : Int32) (x2 : Int32) (x3 : Int32) (x4 : Int32) : Option (Int32 × MI) := bd (f_X8_goesOn I R x4) (fun z_225 => k115 z_225.2 R x1 x2 x3 x4 z_225.1)
set_option maxHeartbeats 4000000 in
set_option maxRecDepth 100000 in
theorem t_X8_best_222 {p : Program} {l : Launch} {e : Env} {s : State} {m : MethodId} {args : Array Value} {below : List Frame} {meth : Method} {c : Code} {E : EV} {q : Nat → Nat} {al : Nat → Bool} {n : Nat} (C : CX p s m args meth c E cX8_best RX8 9 (some .int)) {res : Int32 × MI} {k115 : MI → MR → Int32 → Int32 → Int32 → Int32 → Int32 → Option (Int32 × MI)} (hk115 : ∀ {I : MI} {R : MR} {x1 : Int32} {x2 : Int32} {x3 : Int32} {x4 : Int32} {x6 : Int32} {H : Heap} {locs : List Loc} {ls : Array Slot}, al 100 = true → k115 I R x1 x2 x3 x4 x6 = some res → Wd E q al s.heap I R n H locs → Fx al R → lv_has ls 9 [(0, .ref (q 100)), (1, .int x1), (2, .int x2), (3, .int x3), (4, .int x4), (6, .int x6)] → W p l e (rmL 4 0 0) s m args below meth c H locs 0 0 (MQ below (Pst E q (some (.int res.1)) al res.2 R n) args s 0 0 (Bs E)) (F0 m 115 ls [])) {I : MI} {R : MR} {x1 : Int32} {x2 : Int32} {x3 : Int32} {x4 : Int32} (a_100 : al 100 = true) {H : Heap} {locs : List Loc} {ls : Array Slot} (h : f_X8_best_222 k115 I R x1 x2 x3 x4 = some res) (hW : Wd E q al s.heap I R n H locs) (hF : Fx al R) (hl : lv_has ls 9 [(0, .ref (q 100)), (1, .int x1), (2, .int x2), (3, .int x3), (4, .int x4)]) : W p l e (rmL 4 0 0) s m args below meth c H locs 0 0 (MQ below (Pst E q (some (.int res.1)) al res.2 R n) args s 0 0 (Bs E)) (F0 m 222 ls []) := by
  have hx := C.1
  have hb := C.2.1
  unfold f_X8_best_222 at h
  refine lv_aload_n hx hb dX8_best_222 rfl (lv_at hl 0 rfl) ?_
  refine lv_iload hx hb dX8_best_223 (lv_at hl 4 rfl) ?_
  obtain ⟨z_225, e_z_225, h⟩ := bd_some h
  refine r_callV (v := (some (.int z_225.1))) (As := [.int x4]) (rest := []) C ml_X8_goesOn gm_1013 gm_1015 gs_43 (ci := 8) rfl hW a_100 rfl hl.1 (c_X8_goesOn a_100 hF e_z_225) rfl ⟨(by decide), (by decide)⟩ ⟨(by decide), (by decide)⟩ rfl (Nat.le_of_ble_eq_true rfl) dX8_best_225 (fun H locs hW => ?_)
  refine lv_istore (lv' := [(6, .int z_225.1), (0, .ref (q 100)), (1, .int x1), (2, .int x2), (3, .int x3), (4, .int x4)]) hx hb dX8_best_228 hl (by decide) rfl (fun ls hl => ?_)
  refine lv_goto (tgt := 115) hx hb dX8_best_230 (by decide) ?_
  exact hk115 a_100 h hW hF (lv_sub hl [1, 2, 3, 4, 5, 0] rfl)
def f_X8_best_193 (k115 : MI → MR → Int32 → Int32 → Int32 → Int32 → Int32 → Option (Int32 × MI)) : Nat → MI → MR → Int32 → Int32 → Int32 → Int32 → Int32 → Option (Int32 × MI)
  | 0, _, _, _, _, _, _, _ => none
  | nn + 1, I, R, x1, x2, x3, x4, x8 => (if (I 100 2) ≤ x8 then (f_X8_best_222 k115 I R x1 x2 x3 x4) else (gd (ix x8 (ln 155)) (gd (ix x8 (ln 152)) (lt (p2 I 152 x8.toNatClampNeg (I 155 x8.toNatClampNeg)) (fun I_215 => f_X8_best_193 k115 nn I_215 R x1 x2 x3 x4 (x8 + 1))))))
set_option maxHeartbeats 4000000 in
set_option maxRecDepth 100000 in
theorem t_X8_best_193 {p : Program} {l : Launch} {e : Env} {s : State} {m : MethodId} {args : Array Value} {below : List Frame} {meth : Method} {c : Code} {E : EV} {q : Nat → Nat} {al : Nat → Bool} {n : Nat} (C : CX p s m args meth c E cX8_best RX8 9 (some .int)) {res : Int32 × MI} {k115 : MI → MR → Int32 → Int32 → Int32 → Int32 → Int32 → Option (Int32 × MI)} (hk115 : ∀ {I : MI} {R : MR} {x1 : Int32} {x2 : Int32} {x3 : Int32} {x4 : Int32} {x6 : Int32} {H : Heap} {locs : List Loc} {ls : Array Slot}, al 100 = true → k115 I R x1 x2 x3 x4 x6 = some res → Wd E q al s.heap I R n H locs → Fx al R → lv_has ls 9 [(0, .ref (q 100)), (1, .int x1), (2, .int x2), (3, .int x3), (4, .int x4), (6, .int x6)] → W p l e (rmL 4 0 0) s m args below meth c H locs 0 0 (MQ below (Pst E q (some (.int res.1)) al res.2 R n) args s 0 0 (Bs E)) (F0 m 115 ls [])) : ∀ (nn : Nat) {I : MI} {R : MR} {x1 : Int32} {x2 : Int32} {x3 : Int32} {x4 : Int32} {x8 : Int32} {H : Heap} {locs : List Loc} {ls : Array Slot} (a_100 : al 100 = true) (h : f_X8_best_193 k115 nn I R x1 x2 x3 x4 x8 = some res) (hW : Wd E q al s.heap I R n H locs) (hF : Fx al R) (hl : lv_has ls 9 [(0, .ref (q 100)), (1, .int x1), (2, .int x2), (3, .int x3), (4, .int x4), (8, .int x8)]), W p l e (rmL 4 0 0) s m args below meth c H locs 0 0 (MQ below (Pst E q (some (.int res.1)) al res.2 R n) args s 0 0 (Bs E)) (F0 m 193 ls []) := by
  have hx := C.1
  have hb := C.2.1
  intro nn
  induction nn with
  | zero =>
    intro I R x1 x2 x3 x4 x8 H locs ls a_100 h
    cases (show (none : Option (Int32 × MI)) = some res from h)
  | succ nn ih =>
    intro I R x1 x2 x3 x4 x8 H locs ls a_100 h hW hF hl
    rw [f_X8_best_193.eq_2] at h
    refine lv_iload hx hb dX8_best_193 (lv_at hl 5 rfl) ?_
    refine lv_aload_n hx hb dX8_best_195 rfl (lv_at hl 0 rfl) ?_
    refine r_get C fr_X8_131 hW a_100 rfl rfl dX8_best_196 ?_
    refine lv_icmp_ge (tgt := 222) hx hb dX8_best_199 (by decide) (fun c_199 => ?_) (fun c_199 => ?_)
    · have h := (if_pos c_199).symm.trans h
      exact t_X8_best_222 C hk115 a_100 h hW hF (lv_sub hl [0, 1, 2, 3, 4] rfl)
    · have h := (if_neg c_199).symm.trans h
      refine lv_aload_n hx hb dX8_best_202 rfl (lv_at hl 0 rfl) ?_
      have ap_203 : al 152 = true := hW.cl a_100 (hF _ 51 _ a_100 rfl)
      refine r_getq C fr_X8_109 hW a_100 rfl rfl (hF _ 51 _ a_100 rfl) dX8_best_203 ?_
      refine lv_iload hx hb dX8_best_206 (lv_at hl 5 rfl) ?_
      refine lv_aload_n hx hb dX8_best_208 rfl (lv_at hl 0 rfl) ?_
      have ap_209 : al 155 = true := hW.cl a_100 (hF _ 54 _ a_100 rfl)
      refine r_getq C fr_X8_118 hW a_100 rfl rfl (hF _ 54 _ a_100 rfl) dX8_best_209 ?_
      refine lv_iload hx hb dX8_best_212 (lv_at hl 5 rfl) ?_
      obtain ⟨g_214, h⟩ := gd_some h
      refine r_iald C hW ap_209 rfl (ix_in g_214) dX8_best_214 ?_
      obtain ⟨g_215, h⟩ := gd_some h
      obtain ⟨I_215, e_I_215, h⟩ := lt_some h
      refine r_iast C hW ap_203 rfl (ix_in g_215) dX8_best_215 (fun H locs hW => ?_)
      rw [← e_I_215] at hW
      refine lv_iinc (v := x8 + 1) (lv' := [(8, .int (x8 + 1)), (0, .ref (q 100)), (1, .int x1), (2, .int x2), (3, .int x3), (4, .int x4)]) hx hb dX8_best_216 hl (k := 5) rfl rfl (by decide) rfl (fun ls hl => ?_)
      refine lv_goto (tgt := 193) hx hb dX8_best_219 (by decide) ?_
      exact ih a_100 h hW hF (lv_sub hl [1, 2, 3, 4, 5, 0] rfl)
def f_X8_best_149 (k115 : MI → MR → Int32 → Int32 → Int32 → Int32 → Int32 → Option (Int32 × MI)) : Nat → MI → MR → Int32 → Int32 → Int32 → Int32 → Int32 → Option (Int32 × MI)
  | 0, _, _, _, _, _, _, _ => none
  | nn + 1, I, R, x1, x2, x3, x4, x8 => (if x4 ≤ x8 then (f_X8_best_193 k115 1000000 I R x1 x2 x3 x4 0) else (gd (ix x8 (ln 153)) (gd (ix x8 (ln 150)) (lt (p2 I 150 x8.toNatClampNeg (I 153 x8.toNatClampNeg)) (fun I_169 => gd (ix x8 (ln 154)) (gd (ix x8 (ln 151)) (lt (p2 I_169 151 x8.toNatClampNeg (I_169 154 x8.toNatClampNeg)) (fun I_183 => f_X8_best_149 k115 nn I_183 R x1 x2 x3 x4 (x8 + 1)))))))))
set_option maxHeartbeats 4000000 in
set_option maxRecDepth 100000 in
theorem t_X8_best_149 {p : Program} {l : Launch} {e : Env} {s : State} {m : MethodId} {args : Array Value} {below : List Frame} {meth : Method} {c : Code} {E : EV} {q : Nat → Nat} {al : Nat → Bool} {n : Nat} (C : CX p s m args meth c E cX8_best RX8 9 (some .int)) {res : Int32 × MI} {k115 : MI → MR → Int32 → Int32 → Int32 → Int32 → Int32 → Option (Int32 × MI)} (hk115 : ∀ {I : MI} {R : MR} {x1 : Int32} {x2 : Int32} {x3 : Int32} {x4 : Int32} {x6 : Int32} {H : Heap} {locs : List Loc} {ls : Array Slot}, al 100 = true → k115 I R x1 x2 x3 x4 x6 = some res → Wd E q al s.heap I R n H locs → Fx al R → lv_has ls 9 [(0, .ref (q 100)), (1, .int x1), (2, .int x2), (3, .int x3), (4, .int x4), (6, .int x6)] → W p l e (rmL 4 0 0) s m args below meth c H locs 0 0 (MQ below (Pst E q (some (.int res.1)) al res.2 R n) args s 0 0 (Bs E)) (F0 m 115 ls [])) : ∀ (nn : Nat) {I : MI} {R : MR} {x1 : Int32} {x2 : Int32} {x3 : Int32} {x4 : Int32} {x8 : Int32} {H : Heap} {locs : List Loc} {ls : Array Slot} (a_100 : al 100 = true) (h : f_X8_best_149 k115 nn I R x1 x2 x3 x4 x8 = some res) (hW : Wd E q al s.heap I R n H locs) (hF : Fx al R) (hl : lv_has ls 9 [(0, .ref (q 100)), (1, .int x1), (2, .int x2), (3, .int x3), (4, .int x4), (8, .int x8)]), W p l e (rmL 4 0 0) s m args below meth c H locs 0 0 (MQ below (Pst E q (some (.int res.1)) al res.2 R n) args s 0 0 (Bs E)) (F0 m 149 ls []) := by
  have hx := C.1
  have hb := C.2.1
  intro nn
  induction nn with
  | zero =>
    intro I R x1 x2 x3 x4 x8 H locs ls a_100 h
    cases (show (none : Option (Int32 × MI)) = some res from h)
  | succ nn ih =>
    intro I R x1 x2 x3 x4 x8 H locs ls a_100 h hW hF hl
    rw [f_X8_best_149.eq_2] at h
    refine lv_iload hx hb dX8_best_149 (lv_at hl 5 rfl) ?_
    refine lv_iload hx hb dX8_best_151 (lv_at hl 4 rfl) ?_
    refine lv_icmp_ge (tgt := 190) hx hb dX8_best_153 (by decide) (fun c_153 => ?_) (fun c_153 => ?_)
    · have h := (if_pos c_153).symm.trans h
      refine lv_iconst (v := 0) hx hb dX8_best_190 (by decide) ?_
      refine lv_istore (lv' := [(8, .int 0), (0, .ref (q 100)), (1, .int x1), (2, .int x2), (3, .int x3), (4, .int x4)]) hx hb dX8_best_191 hl (by decide) rfl (fun ls hl => ?_)
      exact t_X8_best_193 C hk115 1000000 a_100 h hW hF (lv_sub hl [1, 2, 3, 4, 5, 0] rfl)
    · have h := (if_neg c_153).symm.trans h
      refine lv_aload_n hx hb dX8_best_156 rfl (lv_at hl 0 rfl) ?_
      have ap_157 : al 150 = true := hW.cl a_100 (hF _ 49 _ a_100 rfl)
      refine r_getq C fr_X8_103 hW a_100 rfl rfl (hF _ 49 _ a_100 rfl) dX8_best_157 ?_
      refine lv_iload hx hb dX8_best_160 (lv_at hl 5 rfl) ?_
      refine lv_aload_n hx hb dX8_best_162 rfl (lv_at hl 0 rfl) ?_
      have ap_163 : al 153 = true := hW.cl a_100 (hF _ 52 _ a_100 rfl)
      refine r_getq C fr_X8_112 hW a_100 rfl rfl (hF _ 52 _ a_100 rfl) dX8_best_163 ?_
      refine lv_iload hx hb dX8_best_166 (lv_at hl 5 rfl) ?_
      obtain ⟨g_168, h⟩ := gd_some h
      refine r_iald C hW ap_163 rfl (ix_in g_168) dX8_best_168 ?_
      obtain ⟨g_169, h⟩ := gd_some h
      obtain ⟨I_169, e_I_169, h⟩ := lt_some h
      refine r_iast C hW ap_157 rfl (ix_in g_169) dX8_best_169 (fun H locs hW => ?_)
      rw [← e_I_169] at hW
      refine lv_aload_n hx hb dX8_best_170 rfl (lv_at hl 0 rfl) ?_
      have ap_171 : al 151 = true := hW.cl a_100 (hF _ 50 _ a_100 rfl)
      refine r_getq C fr_X8_106 hW a_100 rfl rfl (hF _ 50 _ a_100 rfl) dX8_best_171 ?_
      refine lv_iload hx hb dX8_best_174 (lv_at hl 5 rfl) ?_
      refine lv_aload_n hx hb dX8_best_176 rfl (lv_at hl 0 rfl) ?_
      have ap_177 : al 154 = true := hW.cl a_100 (hF _ 53 _ a_100 rfl)
      refine r_getq C fr_X8_115 hW a_100 rfl rfl (hF _ 53 _ a_100 rfl) dX8_best_177 ?_
      refine lv_iload hx hb dX8_best_180 (lv_at hl 5 rfl) ?_
      obtain ⟨g_182, h⟩ := gd_some h
      refine r_iald C hW ap_177 rfl (ix_in g_182) dX8_best_182 ?_
      obtain ⟨g_183, h⟩ := gd_some h
      obtain ⟨I_183, e_I_183, h⟩ := lt_some h
      refine r_iast C hW ap_171 rfl (ix_in g_183) dX8_best_183 (fun H locs hW => ?_)
      rw [← e_I_183] at hW
      refine lv_iinc (v := x8 + 1) (lv' := [(8, .int (x8 + 1)), (0, .ref (q 100)), (1, .int x1), (2, .int x2), (3, .int x3), (4, .int x4)]) hx hb dX8_best_184 hl (k := 5) rfl rfl (by decide) rfl (fun ls hl => ?_)
      refine lv_goto (tgt := 149) hx hb dX8_best_187 (by decide) ?_
      exact ih a_100 h hW hF (lv_sub hl [1, 2, 3, 4, 5, 0] rfl)
def f_X8_best_115  : Nat → MI → MR → Int32 → Int32 → Int32 → Int32 → Int32 → Option (Int32 × MI)
  | 0, _, _, _, _, _, _, _ => none
  | nn + 1, I, R, x1, x2, x3, x4, x6 => (if x6 = 0 then (lt (p2 I 100 46 1) (fun I_235 => lt (p2 I_235 100 47 x4) (fun I_241 => some (I_241 100 48, I_241)))) else (bd (f_X8_runs I R x1 x2 x3 x4) (fun z_126 => bd (f_X8_isBetter z_126.2 R z_126.1) (fun z_134 => (if z_134 = 0 then (f_X8_best_222 (f_X8_best_115 nn) z_126.2 R x1 x2 x3 x4) else (lt (p2 z_126.2 100 48 z_126.1) (fun I_143 => f_X8_best_149 (f_X8_best_115 nn) 1000000 I_143 R x1 x2 x3 x4 0)))))))
set_option maxHeartbeats 4000000 in
set_option maxRecDepth 100000 in
theorem t_X8_best_115 {p : Program} {l : Launch} {e : Env} {s : State} {m : MethodId} {args : Array Value} {below : List Frame} {meth : Method} {c : Code} {E : EV} {q : Nat → Nat} {al : Nat → Bool} {n : Nat} (C : CX p s m args meth c E cX8_best RX8 9 (some .int)) {res : Int32 × MI}   : ∀ (nn : Nat) {I : MI} {R : MR} {x1 : Int32} {x2 : Int32} {x3 : Int32} {x4 : Int32} {x6 : Int32} {H : Heap} {locs : List Loc} {ls : Array Slot} (a_100 : al 100 = true) (h : f_X8_best_115 nn I R x1 x2 x3 x4 x6 = some res) (hW : Wd E q al s.heap I R n H locs) (hF : Fx al R) (hl : lv_has ls 9 [(0, .ref (q 100)), (1, .int x1), (2, .int x2), (3, .int x3), (4, .int x4), (6, .int x6)]), W p l e (rmL 4 0 0) s m args below meth c H locs 0 0 (MQ below (Pst E q (some (.int res.1)) al res.2 R n) args s 0 0 (Bs E)) (F0 m 115 ls []) := by
  have hx := C.1
  have hb := C.2.1
  intro nn
  induction nn with
  | zero =>
    intro I R x1 x2 x3 x4 x6 H locs ls a_100 h
    cases (show (none : Option (Int32 × MI)) = some res from h)
  | succ nn ih =>
    intro I R x1 x2 x3 x4 x6 H locs ls a_100 h hW hF hl
    rw [f_X8_best_115.eq_2] at h
    refine lv_iload hx hb dX8_best_115 (lv_at hl 5 rfl) ?_
    refine lv_if_eq (tgt := 233) hx hb dX8_best_117 (by decide) (fun c_117 => ?_) (fun c_117 => ?_)
    · have h := (if_pos c_117).symm.trans h
      refine lv_aload_n hx hb dX8_best_233 rfl (lv_at hl 0 rfl) ?_
      refine lv_iconst (v := 1) hx hb dX8_best_234 (by decide) ?_
      obtain ⟨I_235, e_I_235, h⟩ := lt_some h
      refine r_put C fr_X8_246 (Or.inl rfl) hW a_100 rfl rfl rfl rfl dX8_best_235 (fun H locs hW => ?_)
      rw [← e_I_235] at hW
      refine lv_aload_n hx hb dX8_best_238 rfl (lv_at hl 0 rfl) ?_
      refine lv_iload hx hb dX8_best_239 (lv_at hl 4 rfl) ?_
      obtain ⟨I_241, e_I_241, h⟩ := lt_some h
      refine r_put C fr_X8_250 (Or.inl rfl) hW a_100 rfl rfl rfl rfl dX8_best_241 (fun H locs hW => ?_)
      rw [← e_I_241] at hW
      refine lv_aload_n hx hb dX8_best_244 rfl (lv_at hl 0 rfl) ?_
      refine r_get C fr_X8_233 hW a_100 rfl rfl dX8_best_245 ?_
      have h := Option.some.inj h
      subst h
      exact r_iret C hW dX8_best_248
    · have h := (if_neg c_117).symm.trans h
      refine lv_aload_n hx hb dX8_best_120 rfl (lv_at hl 0 rfl) ?_
      refine lv_iload_n hx hb dX8_best_121 rfl (lv_at hl 1 rfl) ?_
      refine lv_iload_n hx hb dX8_best_122 rfl (lv_at hl 2 rfl) ?_
      refine lv_iload_n hx hb dX8_best_123 rfl (lv_at hl 3 rfl) ?_
      refine lv_iload hx hb dX8_best_124 (lv_at hl 4 rfl) ?_
      obtain ⟨z_126, e_z_126, h⟩ := bd_some h
      refine r_callV (v := (some (.int z_126.1))) (As := [.int x1, .int x2, .int x3, .int x4]) (rest := []) C ml_X8_runs gm_1005 gm_1007 gs_41 (ci := 8) rfl hW a_100 rfl hl.1 (c_X8_runs a_100 hF e_z_126) rfl ⟨(by decide), (by decide)⟩ ⟨(by decide), (by decide)⟩ rfl (Nat.le_of_ble_eq_true rfl) dX8_best_126 (fun H locs hW => ?_)
      refine lv_istore (lv' := [(7, .int z_126.1), (0, .ref (q 100)), (1, .int x1), (2, .int x2), (3, .int x3), (4, .int x4), (6, .int x6)]) hx hb dX8_best_129 hl (by decide) rfl (fun ls hl => ?_)
      refine lv_aload_n hx hb dX8_best_131 rfl (lv_at hl 1 rfl) ?_
      refine lv_iload hx hb dX8_best_132 (lv_at hl 0 rfl) ?_
      obtain ⟨z_134, e_z_134, h⟩ := bd_some h
      refine r_callV (v := (some (.int z_134))) (As := [.int z_126.1]) (rest := []) C ml_X8_isBetter gm_1009 gm_1011 gs_42 (ci := 8) rfl hW a_100 rfl hl.1 (c_X8_isBetter a_100 hF e_z_134) rfl ⟨(by decide), (by decide)⟩ ⟨(by decide), (by decide)⟩ rfl (Nat.le_of_ble_eq_true rfl) dX8_best_134 (fun H locs hW => ?_)
      refine lv_if_eq (tgt := 222) hx hb dX8_best_137 (by decide) (fun c_137 => ?_) (fun c_137 => ?_)
      · have h := (if_pos c_137).symm.trans h
        exact t_X8_best_222 C ih a_100 h hW hF (lv_sub hl [1, 2, 3, 4, 5] rfl)
      · have h := (if_neg c_137).symm.trans h
        refine lv_aload_n hx hb dX8_best_140 rfl (lv_at hl 1 rfl) ?_
        refine lv_iload hx hb dX8_best_141 (lv_at hl 0 rfl) ?_
        obtain ⟨I_143, e_I_143, h⟩ := lt_some h
        refine r_put C fr_X8_233 (Or.inl rfl) hW a_100 rfl rfl rfl rfl dX8_best_143 (fun H locs hW => ?_)
        rw [← e_I_143] at hW
        refine lv_iconst (v := 0) hx hb dX8_best_146 (by decide) ?_
        refine lv_istore (lv' := [(8, .int 0), (7, .int z_126.1), (0, .ref (q 100)), (1, .int x1), (2, .int x2), (3, .int x3), (4, .int x4), (6, .int x6)]) hx hb dX8_best_147 hl (by decide) rfl (fun ls hl => ?_)
        exact t_X8_best_149 C ih 1000000 a_100 h hW hF (lv_sub hl [2, 3, 4, 5, 6, 0] rfl)
def f_X8_best_90  : Nat → MI → MR → Int32 → Int32 → Int32 → Int32 → Int32 → Int32 → Option (Int32 × MI)
  | 0, _, _, _, _, _, _, _, _ => none
  | nn + 1, I, R, x1, x2, x3, x4, x5, x6 => (if x4 ≤ x6 then (f_X8_best_115 1000000 I R x1 x2 x3 x4 1) else (gd (ix x6 (ln 153)) (lt (p2 I 153 x6.toNatClampNeg x5) (fun I_105 => f_X8_best_90 nn I_105 R x1 x2 x3 x4 x5 (x6 + 1)))))
set_option maxHeartbeats 4000000 in
set_option maxRecDepth 100000 in
theorem t_X8_best_90 {p : Program} {l : Launch} {e : Env} {s : State} {m : MethodId} {args : Array Value} {below : List Frame} {meth : Method} {c : Code} {E : EV} {q : Nat → Nat} {al : Nat → Bool} {n : Nat} (C : CX p s m args meth c E cX8_best RX8 9 (some .int)) {res : Int32 × MI}   : ∀ (nn : Nat) {I : MI} {R : MR} {x1 : Int32} {x2 : Int32} {x3 : Int32} {x4 : Int32} {x5 : Int32} {x6 : Int32} {H : Heap} {locs : List Loc} {ls : Array Slot} (a_100 : al 100 = true) (h : f_X8_best_90 nn I R x1 x2 x3 x4 x5 x6 = some res) (hW : Wd E q al s.heap I R n H locs) (hF : Fx al R) (hl : lv_has ls 9 [(0, .ref (q 100)), (1, .int x1), (2, .int x2), (3, .int x3), (4, .int x4), (5, .int x5), (6, .int x6)]), W p l e (rmL 4 0 0) s m args below meth c H locs 0 0 (MQ below (Pst E q (some (.int res.1)) al res.2 R n) args s 0 0 (Bs E)) (F0 m 90 ls []) := by
  have hx := C.1
  have hb := C.2.1
  intro nn
  induction nn with
  | zero =>
    intro I R x1 x2 x3 x4 x5 x6 H locs ls a_100 h
    cases (show (none : Option (Int32 × MI)) = some res from h)
  | succ nn ih =>
    intro I R x1 x2 x3 x4 x5 x6 H locs ls a_100 h hW hF hl
    rw [f_X8_best_90.eq_2] at h
    refine lv_iload hx hb dX8_best_90 (lv_at hl 6 rfl) ?_
    refine lv_iload hx hb dX8_best_92 (lv_at hl 4 rfl) ?_
    refine lv_icmp_ge (tgt := 112) hx hb dX8_best_94 (by decide) (fun c_94 => ?_) (fun c_94 => ?_)
    · have h := (if_pos c_94).symm.trans h
      refine lv_iconst (v := 1) hx hb dX8_best_112 (by decide) ?_
      refine lv_istore (lv' := [(6, .int 1), (0, .ref (q 100)), (1, .int x1), (2, .int x2), (3, .int x3), (4, .int x4), (5, .int x5)]) hx hb dX8_best_113 hl (by decide) rfl (fun ls hl => ?_)
      exact t_X8_best_115 C 1000000 a_100 h hW hF (lv_sub hl [1, 2, 3, 4, 5, 0] rfl)
    · have h := (if_neg c_94).symm.trans h
      refine lv_aload_n hx hb dX8_best_97 rfl (lv_at hl 0 rfl) ?_
      have ap_98 : al 153 = true := hW.cl a_100 (hF _ 52 _ a_100 rfl)
      refine r_getq C fr_X8_112 hW a_100 rfl rfl (hF _ 52 _ a_100 rfl) dX8_best_98 ?_
      refine lv_iload hx hb dX8_best_101 (lv_at hl 6 rfl) ?_
      refine lv_iload hx hb dX8_best_103 (lv_at hl 5 rfl) ?_
      obtain ⟨g_105, h⟩ := gd_some h
      obtain ⟨I_105, e_I_105, h⟩ := lt_some h
      refine r_iast C hW ap_98 rfl (ix_in g_105) dX8_best_105 (fun H locs hW => ?_)
      rw [← e_I_105] at hW
      refine lv_iinc (v := x6 + 1) (lv' := [(6, .int (x6 + 1)), (0, .ref (q 100)), (1, .int x1), (2, .int x2), (3, .int x3), (4, .int x4), (5, .int x5)]) hx hb dX8_best_106 hl (k := 6) rfl rfl (by decide) rfl (fun ls hl => ?_)
      refine lv_goto (tgt := 90) hx hb dX8_best_109 (by decide) ?_
      exact ih a_100 h hW hF (lv_sub hl [1, 2, 3, 4, 5, 6, 0] rfl)
def f_X8_best_28  (I : MI) (R : MR) (x1 : Int32) (x2 : Int32) (x3 : Int32) (x4 : Int32) (x5 : Int32) : Option (Int32 × MI) := (if x5 = (I 100 2) then (some ((-1), I)) else (bd (f_X8_in I R x1 1 20) (fun z_41 => (if z_41 = 0 then (some ((-1), I)) else (bd (f_X8_in I R x3 1 300) (fun z_52 => (if z_52 = 0 then (some ((-1), I)) else (bd (f_X8_in I R x2 0 (x1 * x3)) (fun z_63 => (if z_63 = 0 then (some ((-1), I)) else (bd (f_X8_in I R x4 1 6) (fun z_74 => (if z_74 = 0 then (some ((-1), I)) else (lt (p2 I 100 48 (-1)) (fun I_84 => f_X8_best_90 1000000 I_84 R x1 x2 x3 x4 x5 0)))))))))))))))
set_option maxHeartbeats 4000000 in
set_option maxRecDepth 100000 in
theorem t_X8_best_28 {p : Program} {l : Launch} {e : Env} {s : State} {m : MethodId} {args : Array Value} {below : List Frame} {meth : Method} {c : Code} {E : EV} {q : Nat → Nat} {al : Nat → Bool} {n : Nat} (C : CX p s m args meth c E cX8_best RX8 9 (some .int)) {res : Int32 × MI}   {I : MI} {R : MR} {x1 : Int32} {x2 : Int32} {x3 : Int32} {x4 : Int32} {x5 : Int32} (a_100 : al 100 = true) {H : Heap} {locs : List Loc} {ls : Array Slot} (h : f_X8_best_28 I R x1 x2 x3 x4 x5 = some res) (hW : Wd E q al s.heap I R n H locs) (hF : Fx al R) (hl : lv_has ls 9 [(0, .ref (q 100)), (1, .int x1), (2, .int x2), (3, .int x3), (4, .int x4), (5, .int x5)]) : W p l e (rmL 4 0 0) s m args below meth c H locs 0 0 (MQ below (Pst E q (some (.int res.1)) al res.2 R n) args s 0 0 (Bs E)) (F0 m 28 ls []) := by
  have hx := C.1
  have hb := C.2.1
  unfold f_X8_best_28 at h
  refine lv_iload hx hb dX8_best_28 (lv_at hl 5 rfl) ?_
  refine lv_aload_n hx hb dX8_best_30 rfl (lv_at hl 0 rfl) ?_
  refine r_get C fr_X8_131 hW a_100 rfl rfl dX8_best_31 ?_
  refine lv_icmp_eq (tgt := 80) hx hb dX8_best_34 (by decide) (fun c_34 => ?_) (fun c_34 => ?_)
  · have h := (if_pos c_34).symm.trans h
    refine lv_iconst (v := (-1)) hx hb dX8_best_80 (by decide) ?_
    have h := Option.some.inj h
    subst h
    exact r_iret C hW dX8_best_81
  · have h := (if_neg c_34).symm.trans h
    refine lv_iload_n hx hb dX8_best_37 rfl (lv_at hl 1 rfl) ?_
    refine lv_iconst (v := 1) hx hb dX8_best_38 (by decide) ?_
    refine lv_bipush (v := 20) hx hb dX8_best_39 (by decide) ?_
    obtain ⟨z_41, e_z_41, h⟩ := bd_some h
    refine r_callS (v := (some (.int z_41))) (As := [.int x1, .int 1, .int 20]) (rest := []) C ml_X8_in gm_881 gm_882 hW hl.1 (c_X8_in  e_z_41) rfl ⟨(by decide), (by decide)⟩ ⟨(by decide), (by decide)⟩ rfl (Nat.le_of_ble_eq_true rfl) dX8_best_41 (fun H locs hW => ?_)
    refine lv_if_eq (tgt := 80) hx hb dX8_best_44 (by decide) (fun c_44 => ?_) (fun c_44 => ?_)
    · have h := (if_pos c_44).symm.trans h
      refine lv_iconst (v := (-1)) hx hb dX8_best_80 (by decide) ?_
      have h := Option.some.inj h
      subst h
      exact r_iret C hW dX8_best_81
    · have h := (if_neg c_44).symm.trans h
      refine lv_iload_n hx hb dX8_best_47 rfl (lv_at hl 3 rfl) ?_
      refine lv_iconst (v := 1) hx hb dX8_best_48 (by decide) ?_
      refine lv_sipush (v := 300) hx hb dX8_best_49 (by decide) ?_
      obtain ⟨z_52, e_z_52, h⟩ := bd_some h
      refine r_callS (v := (some (.int z_52))) (As := [.int x3, .int 1, .int 300]) (rest := []) C ml_X8_in gm_881 gm_882 hW hl.1 (c_X8_in  e_z_52) rfl ⟨(by decide), (by decide)⟩ ⟨(by decide), (by decide)⟩ rfl (Nat.le_of_ble_eq_true rfl) dX8_best_52 (fun H locs hW => ?_)
      refine lv_if_eq (tgt := 80) hx hb dX8_best_55 (by decide) (fun c_55 => ?_) (fun c_55 => ?_)
      · have h := (if_pos c_55).symm.trans h
        refine lv_iconst (v := (-1)) hx hb dX8_best_80 (by decide) ?_
        have h := Option.some.inj h
        subst h
        exact r_iret C hW dX8_best_81
      · have h := (if_neg c_55).symm.trans h
        refine lv_iload_n hx hb dX8_best_58 rfl (lv_at hl 2 rfl) ?_
        refine lv_iconst (v := 0) hx hb dX8_best_59 (by decide) ?_
        refine lv_iload_n hx hb dX8_best_60 rfl (lv_at hl 1 rfl) ?_
        refine lv_iload_n hx hb dX8_best_61 rfl (lv_at hl 3 rfl) ?_
        refine lv_imul hx hb dX8_best_62 ?_
        obtain ⟨z_63, e_z_63, h⟩ := bd_some h
        refine r_callS (v := (some (.int z_63))) (As := [.int x2, .int 0, .int (x1 * x3)]) (rest := []) C ml_X8_in gm_881 gm_882 hW hl.1 (c_X8_in  e_z_63) rfl ⟨(by decide), (by decide)⟩ ⟨(by decide), (by decide)⟩ rfl (Nat.le_of_ble_eq_true rfl) dX8_best_63 (fun H locs hW => ?_)
        refine lv_if_eq (tgt := 80) hx hb dX8_best_66 (by decide) (fun c_66 => ?_) (fun c_66 => ?_)
        · have h := (if_pos c_66).symm.trans h
          refine lv_iconst (v := (-1)) hx hb dX8_best_80 (by decide) ?_
          have h := Option.some.inj h
          subst h
          exact r_iret C hW dX8_best_81
        · have h := (if_neg c_66).symm.trans h
          refine lv_iload hx hb dX8_best_69 (lv_at hl 4 rfl) ?_
          refine lv_iconst (v := 1) hx hb dX8_best_71 (by decide) ?_
          refine lv_bipush (v := 6) hx hb dX8_best_72 (by decide) ?_
          obtain ⟨z_74, e_z_74, h⟩ := bd_some h
          refine r_callS (v := (some (.int z_74))) (As := [.int x4, .int 1, .int 6]) (rest := []) C ml_X8_in gm_881 gm_882 hW hl.1 (c_X8_in  e_z_74) rfl ⟨(by decide), (by decide)⟩ ⟨(by decide), (by decide)⟩ rfl (Nat.le_of_ble_eq_true rfl) dX8_best_74 (fun H locs hW => ?_)
          refine lv_if_ne (tgt := 82) hx hb dX8_best_77 (by decide) (fun c_77 => ?_) (fun c_77 => ?_)
          · have h := (if_neg c_77).symm.trans h
            refine lv_aload_n hx hb dX8_best_82 rfl (lv_at hl 0 rfl) ?_
            refine lv_iconst (v := (-1)) hx hb dX8_best_83 (by decide) ?_
            obtain ⟨I_84, e_I_84, h⟩ := lt_some h
            refine r_put C fr_X8_233 (Or.inl rfl) hW a_100 rfl rfl rfl rfl dX8_best_84 (fun H locs hW => ?_)
            rw [← e_I_84] at hW
            refine lv_iconst (v := 0) hx hb dX8_best_87 (by decide) ?_
            refine lv_istore (lv' := [(6, .int 0), (0, .ref (q 100)), (1, .int x1), (2, .int x2), (3, .int x3), (4, .int x4), (5, .int x5)]) hx hb dX8_best_88 hl (by decide) rfl (fun ls hl => ?_)
            exact t_X8_best_90 C 1000000 a_100 h hW hF (lv_sub hl [1, 2, 3, 4, 5, 6, 0] rfl)
          · have h := (if_pos c_77).symm.trans h
            refine lv_iconst (v := (-1)) hx hb dX8_best_80 (by decide) ?_
            have h := Option.some.inj h
            subst h
            exact r_iret C hW dX8_best_81
def f_X8_best_3  : Nat → MI → MR → Int32 → Int32 → Int32 → Int32 → Int32 → Option (Int32 × MI)
  | 0, _, _, _, _, _, _, _ => none
  | nn + 1, I, R, x1, x2, x3, x4, x5 => (if (I 100 2) ≤ x5 then (f_X8_best_28 I R x1 x2 x3 x4 x5) else (gd (ix x5 (ln 109)) ((if (I 109 x5.toNatClampNeg) = 0 then (f_X8_best_28 I R x1 x2 x3 x4 x5) else (f_X8_best_3 nn I R x1 x2 x3 x4 (x5 + 1))))))
set_option maxHeartbeats 4000000 in
set_option maxRecDepth 100000 in
theorem t_X8_best_3 {p : Program} {l : Launch} {e : Env} {s : State} {m : MethodId} {args : Array Value} {below : List Frame} {meth : Method} {c : Code} {E : EV} {q : Nat → Nat} {al : Nat → Bool} {n : Nat} (C : CX p s m args meth c E cX8_best RX8 9 (some .int)) {res : Int32 × MI}   : ∀ (nn : Nat) {I : MI} {R : MR} {x1 : Int32} {x2 : Int32} {x3 : Int32} {x4 : Int32} {x5 : Int32} {H : Heap} {locs : List Loc} {ls : Array Slot} (a_100 : al 100 = true) (h : f_X8_best_3 nn I R x1 x2 x3 x4 x5 = some res) (hW : Wd E q al s.heap I R n H locs) (hF : Fx al R) (hl : lv_has ls 9 [(0, .ref (q 100)), (1, .int x1), (2, .int x2), (3, .int x3), (4, .int x4), (5, .int x5)]), W p l e (rmL 4 0 0) s m args below meth c H locs 0 0 (MQ below (Pst E q (some (.int res.1)) al res.2 R n) args s 0 0 (Bs E)) (F0 m 3 ls []) := by
  have hx := C.1
  have hb := C.2.1
  intro nn
  induction nn with
  | zero =>
    intro I R x1 x2 x3 x4 x5 H locs ls a_100 h
    cases (show (none : Option (Int32 × MI)) = some res from h)
  | succ nn ih =>
    intro I R x1 x2 x3 x4 x5 H locs ls a_100 h hW hF hl
    rw [f_X8_best_3.eq_2] at h
    refine lv_iload hx hb dX8_best_3 (lv_at hl 5 rfl) ?_
    refine lv_aload_n hx hb dX8_best_5 rfl (lv_at hl 0 rfl) ?_
    refine r_get C fr_X8_131 hW a_100 rfl rfl dX8_best_6 ?_
    refine lv_icmp_ge (tgt := 28) hx hb dX8_best_9 (by decide) (fun c_9 => ?_) (fun c_9 => ?_)
    · have h := (if_pos c_9).symm.trans h
      exact t_X8_best_28 C a_100 h hW hF (lv_sub hl [0, 1, 2, 3, 4, 5] rfl)
    · have h := (if_neg c_9).symm.trans h
      refine lv_aload_n hx hb dX8_best_12 rfl (lv_at hl 0 rfl) ?_
      have ap_13 : al 109 = true := hW.cl a_100 (hF _ 8 _ a_100 rfl)
      refine r_getq C fr_X8_29 hW a_100 rfl rfl (hF _ 8 _ a_100 rfl) dX8_best_13 ?_
      refine lv_iload hx hb dX8_best_16 (lv_at hl 5 rfl) ?_
      obtain ⟨g_18, h⟩ := gd_some h
      refine r_zald C hW ap_13 rfl (ix_in g_18) dX8_best_18 ?_
      refine lv_if_eq (tgt := 28) hx hb dX8_best_19 (by decide) (fun c_19 => ?_) (fun c_19 => ?_)
      · have h := (if_pos c_19).symm.trans h
        exact t_X8_best_28 C a_100 h hW hF (lv_sub hl [0, 1, 2, 3, 4, 5] rfl)
      · have h := (if_neg c_19).symm.trans h
        refine lv_iinc (v := x5 + 1) (lv' := [(5, .int (x5 + 1)), (0, .ref (q 100)), (1, .int x1), (2, .int x2), (3, .int x3), (4, .int x4)]) hx hb dX8_best_22 hl (k := 5) rfl rfl (by decide) rfl (fun ls hl => ?_)
        refine lv_goto (tgt := 3) hx hb dX8_best_25 (by decide) ?_
        exact ih a_100 h hW hF (lv_sub hl [1, 2, 3, 4, 5, 0] rfl)
def f_X8_best (I : MI) (R : MR) (x1 : Int32) (x2 : Int32) (x3 : Int32) (x4 : Int32) : Option (Int32 × MI) := f_X8_best_3 1000000 I R x1 x2 x3 x4 0
set_option maxHeartbeats 4000000 in
set_option maxRecDepth 100000 in
theorem c_X8_best {l : Launch} {E : EV} {q : Nat → Nat} {al : Nat → Bool} {n : Nat} {I : MI} {R : MR} {x1 : Int32} {x2 : Int32} {x3 : Int32} {x4 : Int32} (a_100 : al 100 = true) (hF : Fx al R) {res : Int32 × MI} (h : f_X8_best I R x1 x2 x3 x4 = some res) : Ct l yX8_best cX8_best 9 (some .int) 4 0 0 E q al I R n [.ref (q 100), .int x1, .int x2, .int x3, .int x4] (some (.int res.1)) al res.2 R n := by
  refine Ct.of (own := RX8) (mn := "best") (by decide) rfl rfl (Nat.le_of_ble_eq_true rfl) ?_
  intro p e s m args below meth c ls C hmn hargs hW hl
  have hx := C.1
  have hb := C.2.1
  have hl : lv_has ls 9 [(0, .ref (q 100)), (1, .int x1), (2, .int x2), (3, .int x3), (4, .int x4)] := hl
  unfold f_X8_best at h
  refine lv_iconst (v := 0) hx hb dX8_best_0 (by decide) ?_
  refine lv_istore (lv' := [(5, .int 0), (0, .ref (q 100)), (1, .int x1), (2, .int x2), (3, .int x3), (4, .int x4)]) hx hb dX8_best_1 hl (by decide) rfl (fun ls hl => ?_)
  exact t_X8_best_3 C 1000000 a_100 h hW hF (lv_sub hl [1, 2, 3, 4, 5, 0] rfl)
