def f_X8_units_145  (I : MI) (R : MR) (x7 : Int32) : Option (Int32) := (if 0 ≤ x7 then (some (x7)) else (some (0)))
set_option maxHeartbeats 4000000 in
set_option maxRecDepth 100000 in
theorem t_X8_units_145 {p : Program} {l : Launch} {e : Env} {s : State} {m : MethodId} {args : Array Value} {below : List Frame} {meth : Method} {c : Code} {E : EV} {q : Nat → Nat} {al : Nat → Bool} {n : Nat} (C : CX p s m args meth c E cX8_units RX8 12 (some .int)) {res : Int32}   {I : MI} {R : MR} {x7 : Int32}  {H : Heap} {locs : List Loc} {ls : Array Slot} (h : f_X8_units_145 I R x7 = some res) (hW : Wd E q al s.heap I R n H locs) (hF : Fx al R) (hl : lv_has ls 12 [(7, .int x7)]) : W p l e (rmL 2 0 0) s m args below meth c H locs 0 0 (MQ below (Pst E q (some (.int res)) al I R n) args s 0 0 (Bs E)) (F0 m 145 ls []) := by
  have hx := C.1
  have hb := C.2.1
  unfold f_X8_units_145 at h
  refine lv_iload hx hb dX8_units_145 (lv_at hl 0 rfl) ?_
  refine lv_if_ge (tgt := 154) hx hb dX8_units_147 (by decide) (fun c_147 => ?_) (fun c_147 => ?_)
  · have h := (if_pos c_147).symm.trans h
    refine lv_iload hx hb dX8_units_154 (lv_at hl 0 rfl) ?_
    have h := Option.some.inj h
    subst h
    exact r_iret C hW dX8_units_156
  · have h := (if_neg c_147).symm.trans h
    refine lv_iconst (v := 0) hx hb dX8_units_150 (by decide) ?_
    refine lv_goto (tgt := 156) hx hb dX8_units_151 (by decide) ?_
    have h := Option.some.inj h
    subst h
    exact r_iret C hW dX8_units_156
def f_X8_units_143  (I : MI) (R : MR) (y0 : Int32) : Option (Int32) := f_X8_units_145 I R y0
set_option maxHeartbeats 4000000 in
set_option maxRecDepth 100000 in
theorem t_X8_units_143 {p : Program} {l : Launch} {e : Env} {s : State} {m : MethodId} {args : Array Value} {below : List Frame} {meth : Method} {c : Code} {E : EV} {q : Nat → Nat} {al : Nat → Bool} {n : Nat} (C : CX p s m args meth c E cX8_units RX8 12 (some .int)) {res : Int32}   {I : MI} {R : MR} {y0 : Int32}  {H : Heap} {locs : List Loc} {ls : Array Slot} (h : f_X8_units_143 I R y0 = some res) (hW : Wd E q al s.heap I R n H locs) (hF : Fx al R) (hl : lv_has ls 12 []) : W p l e (rmL 2 0 0) s m args below meth c H locs 0 0 (MQ below (Pst E q (some (.int res)) al I R n) args s 0 0 (Bs E)) (F0 m 143 ls [.int y0]) := by
  have hx := C.1
  have hb := C.2.1
  unfold f_X8_units_143 at h
  refine lv_istore (lv' := [(7, .int y0)]) hx hb dX8_units_143 hl (by decide) rfl (fun ls hl => ?_)
  exact t_X8_units_145 C h hW hF (lv_sub hl [0] rfl)
def f_X8_units_80  (I : MI) (R : MR) (x3 : Int32) (x6 : Int32) (y0 : Int32) : Option (Int32) := gd (ix 2 (ln 143)) (lt ((10 * (I 143 (2 : Int32).toNatClampNeg)) - x6) (fun v_94 => (if 0 ≤ v_94 then (gd (ix 0 (ln 143)) ((if (I 143 (0 : Int32).toNatClampNeg) ≤ 0 then (f_X8_units_145 I R y0) else (gd (ix 0 (ln 143)) (gd (¬ (I 143 (0 : Int32).toNatClampNeg) = 0) (lt ((((v_94 + 1) * x3) - 1) / (I 143 (0 : Int32).toNatClampNeg)) (fun v_127 => (if y0 ≤ v_127 then (f_X8_units_143 I R y0) else (f_X8_units_143 I R v_127))))))))) else (some (0)))))
set_option maxHeartbeats 4000000 in
set_option maxRecDepth 100000 in
theorem t_X8_units_80 {p : Program} {l : Launch} {e : Env} {s : State} {m : MethodId} {args : Array Value} {below : List Frame} {meth : Method} {c : Code} {E : EV} {q : Nat → Nat} {al : Nat → Bool} {n : Nat} (C : CX p s m args meth c E cX8_units RX8 12 (some .int)) {res : Int32}   {I : MI} {R : MR} {x3 : Int32} {x6 : Int32} {y0 : Int32} (a_100 : al 100 = true) {H : Heap} {locs : List Loc} {ls : Array Slot} (h : f_X8_units_80 I R x3 x6 y0 = some res) (hW : Wd E q al s.heap I R n H locs) (hF : Fx al R) (hl : lv_has ls 12 [(0, .ref (q 100)), (3, .int x3), (6, .int x6)]) : W p l e (rmL 2 0 0) s m args below meth c H locs 0 0 (MQ below (Pst E q (some (.int res)) al I R n) args s 0 0 (Bs E)) (F0 m 80 ls [.int y0]) := by
  have hx := C.1
  have hb := C.2.1
  unfold f_X8_units_80 at h
  refine lv_istore (lv' := [(7, .int y0), (0, .ref (q 100)), (3, .int x3), (6, .int x6)]) hx hb dX8_units_80 hl (by decide) rfl (fun ls hl => ?_)
  refine lv_bipush (v := 10) hx hb dX8_units_82 (by decide) ?_
  refine lv_aload_n hx hb dX8_units_84 rfl (lv_at hl 1 rfl) ?_
  have ap_85 : al 143 = true := hW.cl a_100 (hF _ 42 _ a_100 rfl)
  refine r_getq C fr_X8_94 hW a_100 rfl rfl (hF _ 42 _ a_100 rfl) dX8_units_85 ?_
  refine lv_iconst (v := 2) hx hb dX8_units_88 (by decide) ?_
  obtain ⟨g_89, h⟩ := gd_some h
  refine r_iald C hW ap_85 rfl (ix_in g_89) dX8_units_89 ?_
  refine lv_imul hx hb dX8_units_90 ?_
  refine lv_iload hx hb dX8_units_91 (lv_at hl 3 rfl) ?_
  refine lv_isub hx hb dX8_units_93 ?_
  obtain ⟨v_94, e_v_94, h⟩ := lt_some h
  rw [← e_v_94]
  refine lv_istore (lv' := [(10, .int v_94), (7, .int y0), (0, .ref (q 100)), (3, .int x3), (6, .int x6)]) hx hb dX8_units_94 hl (by decide) rfl (fun ls hl => ?_)
  refine lv_iload hx hb dX8_units_96 (lv_at hl 0 rfl) ?_
  refine lv_if_ge (tgt := 103) hx hb dX8_units_98 (by decide) (fun c_98 => ?_) (fun c_98 => ?_)
  · have h := (if_pos c_98).symm.trans h
    refine lv_aload_n hx hb dX8_units_103 rfl (lv_at hl 2 rfl) ?_
    refine r_getq C fr_X8_94 hW a_100 rfl rfl (hF _ 42 _ a_100 rfl) dX8_units_104 ?_
    refine lv_iconst (v := 0) hx hb dX8_units_107 (by decide) ?_
    obtain ⟨g_108, h⟩ := gd_some h
    refine r_iald C hW ap_85 rfl (ix_in g_108) dX8_units_108 ?_
    refine lv_if_le (tgt := 145) hx hb dX8_units_109 (by decide) (fun c_109 => ?_) (fun c_109 => ?_)
    · have h := (if_pos c_109).symm.trans h
      exact t_X8_units_145 C h hW hF (lv_sub hl [1] rfl)
    · have h := (if_neg c_109).symm.trans h
      refine lv_iload hx hb dX8_units_112 (lv_at hl 0 rfl) ?_
      refine lv_iconst (v := 1) hx hb dX8_units_114 (by decide) ?_
      refine lv_iadd hx hb dX8_units_115 ?_
      refine lv_iload_n hx hb dX8_units_116 rfl (lv_at hl 3 rfl) ?_
      refine lv_imul hx hb dX8_units_117 ?_
      refine lv_iconst (v := 1) hx hb dX8_units_118 (by decide) ?_
      refine lv_isub hx hb dX8_units_119 ?_
      refine lv_aload_n hx hb dX8_units_120 rfl (lv_at hl 2 rfl) ?_
      refine r_getq C fr_X8_94 hW a_100 rfl rfl (hF _ 42 _ a_100 rfl) dX8_units_121 ?_
      refine lv_iconst (v := 0) hx hb dX8_units_124 (by decide) ?_
      obtain ⟨g_125, h⟩ := gd_some h
      refine r_iald C hW ap_85 rfl (ix_in g_125) dX8_units_125 ?_
      obtain ⟨g_126, h⟩ := gd_some h
      refine lv_idiv hx hb dX8_units_126 g_126 ?_
      obtain ⟨v_127, e_v_127, h⟩ := lt_some h
      rw [← e_v_127]
      refine lv_istore (lv' := [(11, .int v_127), (10, .int v_94), (7, .int y0), (0, .ref (q 100)), (3, .int x3), (6, .int x6)]) hx hb dX8_units_127 hl (by decide) rfl (fun ls hl => ?_)
      refine lv_iload hx hb dX8_units_129 (lv_at hl 0 rfl) ?_
      refine lv_iload hx hb dX8_units_131 (lv_at hl 2 rfl) ?_
      refine lv_icmp_ge (tgt := 141) hx hb dX8_units_133 (by decide) (fun c_133 => ?_) (fun c_133 => ?_)
      · have h := (if_pos c_133).symm.trans h
        refine lv_iload hx hb dX8_units_141 (lv_at hl 2 rfl) ?_
        exact t_X8_units_143 C h hW hF (lv_sub hl [] rfl)
      · have h := (if_neg c_133).symm.trans h
        refine lv_iload hx hb dX8_units_136 (lv_at hl 0 rfl) ?_
        refine lv_goto (tgt := 143) hx hb dX8_units_138 (by decide) ?_
        exact t_X8_units_143 C h hW hF (lv_sub hl [] rfl)
  · have h := (if_neg c_98).symm.trans h
    refine lv_iconst (v := 0) hx hb dX8_units_101 (by decide) ?_
    have h := Option.some.inj h
    subst h
    exact r_iret C hW dX8_units_102
def f_X8_units_55  (I : MI) (R : MR) (x3 : Int32) (x4 : Int32) (x5 : Int32) (x6 : Int32) (y0 : Int32) : Option (Int32) := (if y0 ≤ ((x3 * x5) - x4) then (f_X8_units_80 I R x3 x6 y0) else (f_X8_units_80 I R x3 x6 ((x3 * x5) - x4)))
set_option maxHeartbeats 4000000 in
set_option maxRecDepth 100000 in
theorem t_X8_units_55 {p : Program} {l : Launch} {e : Env} {s : State} {m : MethodId} {args : Array Value} {below : List Frame} {meth : Method} {c : Code} {E : EV} {q : Nat → Nat} {al : Nat → Bool} {n : Nat} (C : CX p s m args meth c E cX8_units RX8 12 (some .int)) {res : Int32}   {I : MI} {R : MR} {x3 : Int32} {x4 : Int32} {x5 : Int32} {x6 : Int32} {y0 : Int32} (a_100 : al 100 = true) {H : Heap} {locs : List Loc} {ls : Array Slot} (h : f_X8_units_55 I R x3 x4 x5 x6 y0 = some res) (hW : Wd E q al s.heap I R n H locs) (hF : Fx al R) (hl : lv_has ls 12 [(0, .ref (q 100)), (3, .int x3), (4, .int x4), (5, .int x5), (6, .int x6)]) : W p l e (rmL 2 0 0) s m args below meth c H locs 0 0 (MQ below (Pst E q (some (.int res)) al I R n) args s 0 0 (Bs E)) (F0 m 55 ls [.int y0]) := by
  have hx := C.1
  have hb := C.2.1
  unfold f_X8_units_55 at h
  refine lv_istore (lv' := [(7, .int y0), (0, .ref (q 100)), (3, .int x3), (4, .int x4), (5, .int x5), (6, .int x6)]) hx hb dX8_units_55 hl (by decide) rfl (fun ls hl => ?_)
  refine lv_iload_n hx hb dX8_units_57 rfl (lv_at hl 2 rfl) ?_
  refine lv_iload hx hb dX8_units_58 (lv_at hl 4 rfl) ?_
  refine lv_imul hx hb dX8_units_60 ?_
  refine lv_iload hx hb dX8_units_61 (lv_at hl 3 rfl) ?_
  refine lv_isub hx hb dX8_units_63 ?_
  refine lv_istore (lv' := [(9, .int ((x3 * x5) - x4)), (7, .int y0), (0, .ref (q 100)), (3, .int x3), (4, .int x4), (5, .int x5), (6, .int x6)]) hx hb dX8_units_64 hl (by decide) rfl (fun ls hl => ?_)
  refine lv_iload hx hb dX8_units_66 (lv_at hl 0 rfl) ?_
  refine lv_iload hx hb dX8_units_68 (lv_at hl 1 rfl) ?_
  refine lv_icmp_ge (tgt := 78) hx hb dX8_units_70 (by decide) (fun c_70 => ?_) (fun c_70 => ?_)
  · have h := (if_pos c_70).symm.trans h
    refine lv_iload hx hb dX8_units_78 (lv_at hl 1 rfl) ?_
    exact t_X8_units_80 C a_100 h hW hF (lv_sub hl [2, 3, 6] rfl)
  · have h := (if_neg c_70).symm.trans h
    refine lv_iload hx hb dX8_units_73 (lv_at hl 0 rfl) ?_
    refine lv_goto (tgt := 80) hx hb dX8_units_75 (by decide) ?_
    exact t_X8_units_80 C a_100 h hW hF (lv_sub hl [2, 3, 6] rfl)
def f_X8_units_39  (I : MI) (R : MR) (x3 : Int32) (x4 : Int32) (x5 : Int32) (x6 : Int32) (x7 : Int32) (y0 : Int32) : Option (Int32) := (if x7 ≤ y0 then (f_X8_units_55 I R x3 x4 x5 x6 x7) else (f_X8_units_55 I R x3 x4 x5 x6 y0))
set_option maxHeartbeats 4000000 in
set_option maxRecDepth 100000 in
theorem t_X8_units_39 {p : Program} {l : Launch} {e : Env} {s : State} {m : MethodId} {args : Array Value} {below : List Frame} {meth : Method} {c : Code} {E : EV} {q : Nat → Nat} {al : Nat → Bool} {n : Nat} (C : CX p s m args meth c E cX8_units RX8 12 (some .int)) {res : Int32}   {I : MI} {R : MR} {x3 : Int32} {x4 : Int32} {x5 : Int32} {x6 : Int32} {x7 : Int32} {y0 : Int32} (a_100 : al 100 = true) {H : Heap} {locs : List Loc} {ls : Array Slot} (h : f_X8_units_39 I R x3 x4 x5 x6 x7 y0 = some res) (hW : Wd E q al s.heap I R n H locs) (hF : Fx al R) (hl : lv_has ls 12 [(0, .ref (q 100)), (3, .int x3), (4, .int x4), (5, .int x5), (6, .int x6), (7, .int x7)]) : W p l e (rmL 2 0 0) s m args below meth c H locs 0 0 (MQ below (Pst E q (some (.int res)) al I R n) args s 0 0 (Bs E)) (F0 m 39 ls [.int y0]) := by
  have hx := C.1
  have hb := C.2.1
  unfold f_X8_units_39 at h
  refine lv_istore (lv' := [(8, .int y0), (0, .ref (q 100)), (3, .int x3), (4, .int x4), (5, .int x5), (6, .int x6), (7, .int x7)]) hx hb dX8_units_39 hl (by decide) rfl (fun ls hl => ?_)
  refine lv_iload hx hb dX8_units_41 (lv_at hl 0 rfl) ?_
  refine lv_iload hx hb dX8_units_43 (lv_at hl 6 rfl) ?_
  refine lv_icmp_ge (tgt := 53) hx hb dX8_units_45 (by decide) (fun c_45 => ?_) (fun c_45 => ?_)
  · have h := (if_pos c_45).symm.trans h
    refine lv_iload hx hb dX8_units_53 (lv_at hl 6 rfl) ?_
    exact t_X8_units_55 C a_100 h hW hF (lv_sub hl [1, 2, 3, 4, 5] rfl)
  · have h := (if_neg c_45).symm.trans h
    refine lv_iload hx hb dX8_units_48 (lv_at hl 0 rfl) ?_
    refine lv_goto (tgt := 55) hx hb dX8_units_50 (by decide) ?_
    exact t_X8_units_55 C a_100 h hW hF (lv_sub hl [1, 2, 3, 4, 5] rfl)
def f_X8_units (I : MI) (R : MR) (x1 : Int32) (x2 : Int32) (x3 : Int32) (x4 : Int32) (x5 : Int32) (x6 : Int32) : Option (Int32) := gd (¬ x1 = 0) (gd (¬ x3 = 0) (bd (f_X8_flowAt I R ((x2 / x1) - (x4 / x3))) (fun z_9 => (if 0 ≤ ((x2 * x3) - (x4 * x1)) then (gd (¬ (x3 + x1) = 0) (f_X8_units_39 I R x3 x4 x5 x6 z_9 (((x2 * x3) - (x4 * x1)) / (x3 + x1)))) else (f_X8_units_39 I R x3 x4 x5 x6 z_9 0)))))
set_option maxHeartbeats 4000000 in
set_option maxRecDepth 100000 in
theorem c_X8_units {l : Launch} {E : EV} {q : Nat → Nat} {al : Nat → Bool} {n : Nat} {I : MI} {R : MR} {x1 : Int32} {x2 : Int32} {x3 : Int32} {x4 : Int32} {x5 : Int32} {x6 : Int32} (a_100 : al 100 = true) (hF : Fx al R) {res : Int32} (h : f_X8_units I R x1 x2 x3 x4 x5 x6 = some res) : Ct l yX8_units cX8_units 12 (some .int) 2 0 0 E q al I R n [.ref (q 100), .int x1, .int x2, .int x3, .int x4, .int x5, .int x6] (some (.int res)) al I R n := by
  refine Ct.of (own := RX8) (mn := "units") (by decide) rfl rfl (Nat.le_of_ble_eq_true rfl) ?_
  intro p e s m args below meth c ls C hmn hargs hW hl
  have hx := C.1
  have hb := C.2.1
  have hl : lv_has ls 12 [(0, .ref (q 100)), (1, .int x1), (2, .int x2), (3, .int x3), (4, .int x4), (5, .int x5), (6, .int x6)] := hl
  unfold f_X8_units at h
  refine lv_aload_n hx hb dX8_units_0 rfl (lv_at hl 0 rfl) ?_
  refine lv_iload_n hx hb dX8_units_1 rfl (lv_at hl 2 rfl) ?_
  refine lv_iload_n hx hb dX8_units_2 rfl (lv_at hl 1 rfl) ?_
  obtain ⟨g_3, h⟩ := gd_some h
  refine lv_idiv hx hb dX8_units_3 g_3 ?_
  refine lv_iload hx hb dX8_units_4 (lv_at hl 4 rfl) ?_
  refine lv_iload_n hx hb dX8_units_6 rfl (lv_at hl 3 rfl) ?_
  obtain ⟨g_7, h⟩ := gd_some h
  refine lv_idiv hx hb dX8_units_7 g_7 ?_
  refine lv_isub hx hb dX8_units_8 ?_
  obtain ⟨z_9, e_z_9, h⟩ := bd_some h
  refine r_callV (v := (some (.int z_9))) (As := [.int ((x2 / x1) - (x4 / x3))]) (rest := []) C ml_X8_flowAt gm_940 gm_942 gs_33 (ci := 8) rfl hW a_100 rfl hl.1 (c_X8_flowAt a_100 hF e_z_9) rfl ⟨(by decide), (by decide)⟩ ⟨(by decide), (by decide)⟩ rfl (Nat.le_of_ble_eq_true rfl) dX8_units_9 (fun H locs hW => ?_)
  refine lv_istore (lv' := [(7, .int z_9), (0, .ref (q 100)), (1, .int x1), (2, .int x2), (3, .int x3), (4, .int x4), (5, .int x5), (6, .int x6)]) hx hb dX8_units_12 hl (by decide) rfl (fun ls hl => ?_)
  refine lv_iload_n hx hb dX8_units_14 rfl (lv_at hl 3 rfl) ?_
  refine lv_iload_n hx hb dX8_units_15 rfl (lv_at hl 4 rfl) ?_
  refine lv_imul hx hb dX8_units_16 ?_
  refine lv_iload hx hb dX8_units_17 (lv_at hl 5 rfl) ?_
  refine lv_iload_n hx hb dX8_units_19 rfl (lv_at hl 2 rfl) ?_
  refine lv_imul hx hb dX8_units_20 ?_
  refine lv_isub hx hb dX8_units_21 ?_
  refine lv_istore (lv' := [(8, .int ((x2 * x3) - (x4 * x1))), (7, .int z_9), (0, .ref (q 100)), (1, .int x1), (2, .int x2), (3, .int x3), (4, .int x4), (5, .int x5), (6, .int x6)]) hx hb dX8_units_22 hl (by decide) rfl (fun ls hl => ?_)
  refine lv_iload hx hb dX8_units_24 (lv_at hl 0 rfl) ?_
  refine lv_if_ge (tgt := 33) hx hb dX8_units_26 (by decide) (fun c_26 => ?_) (fun c_26 => ?_)
  · have h := (if_pos c_26).symm.trans h
    refine lv_iload hx hb dX8_units_33 (lv_at hl 0 rfl) ?_
    refine lv_iload_n hx hb dX8_units_35 rfl (lv_at hl 5 rfl) ?_
    refine lv_iload_n hx hb dX8_units_36 rfl (lv_at hl 3 rfl) ?_
    refine lv_iadd hx hb dX8_units_37 ?_
    obtain ⟨g_38, h⟩ := gd_some h
    refine lv_idiv hx hb dX8_units_38 g_38 ?_
    exact t_X8_units_39 C a_100 h hW hF (lv_sub hl [2, 5, 6, 7, 8, 1] rfl)
  · have h := (if_neg c_26).symm.trans h
    refine lv_iconst (v := 0) hx hb dX8_units_29 (by decide) ?_
    refine lv_goto (tgt := 39) hx hb dX8_units_30 (by decide) ?_
    exact t_X8_units_39 C a_100 h hW hF (lv_sub hl [2, 5, 6, 7, 8, 1] rfl)
def f_X8_draws_188 (k23 : MI → MR → Int32 → Int32 → Option (MI)) (I : MI) (R : MR) (x1 : Int32) (x2 : Int32) : Option (MI) := gd (ix x2 (ln 120)) (gd (ix x2 (ln 120)) (lt (p2 I 120 x2.toNatClampNeg ((I 120 x2.toNatClampNeg) + 1)) (fun I_197 => k23 I_197 R x1 x2)))
set_option maxHeartbeats 4000000 in
set_option maxRecDepth 100000 in
theorem t_X8_draws_188 {p : Program} {l : Launch} {e : Env} {s : State} {m : MethodId} {args : Array Value} {below : List Frame} {meth : Method} {c : Code} {E : EV} {q : Nat → Nat} {al : Nat → Bool} {n : Nat} (C : CX p s m args meth c E cX8_draws RX8 5 none) {res : MI} {k23 : MI → MR → Int32 → Int32 → Option (MI)} (hk23 : ∀ {I : MI} {R : MR} {x1 : Int32} {x2 : Int32} {H : Heap} {locs : List Loc} {ls : Array Slot}, al 100 = true → k23 I R x1 x2 = some res → Wd E q al s.heap I R n H locs → Fx al R → lv_has ls 5 [(0, .ref (q 100)), (1, .int x1), (2, .int x2)] → W p l e (rmL 3 0 0) s m args below meth c H locs 0 0 (MQ below (Pst E q none al res R n) args s 0 0 (Bs E)) (F0 m 23 ls [])) {I : MI} {R : MR} {x1 : Int32} {x2 : Int32} (a_100 : al 100 = true) {H : Heap} {locs : List Loc} {ls : Array Slot} (h : f_X8_draws_188 k23 I R x1 x2 = some res) (hW : Wd E q al s.heap I R n H locs) (hF : Fx al R) (hl : lv_has ls 5 [(0, .ref (q 100)), (1, .int x1), (2, .int x2)]) : W p l e (rmL 3 0 0) s m args below meth c H locs 0 0 (MQ below (Pst E q none al res R n) args s 0 0 (Bs E)) (F0 m 188 ls []) := by
  have hx := C.1
  have hb := C.2.1
  unfold f_X8_draws_188 at h
  refine lv_aload_n hx hb dX8_draws_188 rfl (lv_at hl 0 rfl) ?_
  have ap_189 : al 120 = true := hW.cl a_100 (hF _ 19 _ a_100 rfl)
  refine r_getq C fr_X8_60 hW a_100 rfl rfl (hF _ 19 _ a_100 rfl) dX8_draws_189 ?_
  refine lv_iload_n hx hb dX8_draws_192 rfl (lv_at hl 2 rfl) ?_
  refine lv_dup2_11 hx hb dX8_draws_193 rfl rfl ?_
  obtain ⟨g_194, h⟩ := gd_some h
  refine r_iald C hW ap_189 rfl (ix_in g_194) dX8_draws_194 ?_
  refine lv_iconst (v := 1) hx hb dX8_draws_195 (by decide) ?_
  refine lv_iadd hx hb dX8_draws_196 ?_
  obtain ⟨g_197, h⟩ := gd_some h
  obtain ⟨I_197, e_I_197, h⟩ := lt_some h
  refine r_iast C hW ap_189 rfl (ix_in g_197) dX8_draws_197 (fun H locs hW => ?_)
  rw [← e_I_197] at hW
  refine lv_goto (tgt := 23) hx hb dX8_draws_198 (by decide) ?_
  exact hk23 a_100 h hW hF (lv_sub hl [0, 1, 2] rfl)
def f_X8_draws_96 (k23 : MI → MR → Int32 → Int32 → Option (MI)) (I : MI) (R : MR) (x1 : Int32) (x2 : Int32) (x3 : Int32) (y0 : Int32) : Option (MI) := gd (ix x3 (ln 109)) ((if (I 109 x3.toNatClampNeg) = 0 then (gd (ix 4 (ln 143)) ((if y0 < (I 143 (4 : Int32).toNatClampNeg) then (f_X8_draws_188 k23 I R x1 x2) else (gd (ix x3 (ln 105)) (gd (ix x3 (ln 105)) (lt (p2 I 105 x3.toNatClampNeg ((I 105 x3.toNatClampNeg) - y0)) (fun I_128 => gd (ix x3 (ln 107)) (gd (ix x3 (ln 107)) (lt (p2 I_128 107 x3.toNatClampNeg ((I_128 107 x3.toNatClampNeg) + y0)) (fun I_139 => gd (ix x2 (ln 116)) (gd (ix x2 (ln 116)) (lt (p2 I_139 116 x2.toNatClampNeg ((I_139 116 x2.toNatClampNeg) + y0)) (fun I_150 => gd (ix x2 (ln 123)) (gd (ix x2 (ln 123)) (lt (p2 I_150 123 x2.toNatClampNeg ((I_150 123 x2.toNatClampNeg) + y0)) (fun I_161 => gd (ix x2 (ln 119)) (gd (ix 0 (ln 143)) (gd (ix x2 (ln 115)) (gd (¬ (I_161 115 x2.toNatClampNeg) = 0) (gd (ix x2 (ln 119)) (lt (p2 I_161 119 x2.toNatClampNeg ((I_161 119 x2.toNatClampNeg) + ((y0 * (I_161 143 (0 : Int32).toNatClampNeg)) / (I_161 115 x2.toNatClampNeg)))) (fun I_186 => some (I_186))))))))))))))))))))))) else (f_X8_draws_188 k23 I R x1 x2)))
set_option maxHeartbeats 4000000 in
set_option maxRecDepth 100000 in
theorem t_X8_draws_96 {p : Program} {l : Launch} {e : Env} {s : State} {m : MethodId} {args : Array Value} {below : List Frame} {meth : Method} {c : Code} {E : EV} {q : Nat → Nat} {al : Nat → Bool} {n : Nat} (C : CX p s m args meth c E cX8_draws RX8 5 none) {res : MI} {k23 : MI → MR → Int32 → Int32 → Option (MI)} (hk23 : ∀ {I : MI} {R : MR} {x1 : Int32} {x2 : Int32} {H : Heap} {locs : List Loc} {ls : Array Slot}, al 100 = true → k23 I R x1 x2 = some res → Wd E q al s.heap I R n H locs → Fx al R → lv_has ls 5 [(0, .ref (q 100)), (1, .int x1), (2, .int x2)] → W p l e (rmL 3 0 0) s m args below meth c H locs 0 0 (MQ below (Pst E q none al res R n) args s 0 0 (Bs E)) (F0 m 23 ls [])) {I : MI} {R : MR} {x1 : Int32} {x2 : Int32} {x3 : Int32} {y0 : Int32} (a_100 : al 100 = true) {H : Heap} {locs : List Loc} {ls : Array Slot} (h : f_X8_draws_96 k23 I R x1 x2 x3 y0 = some res) (hW : Wd E q al s.heap I R n H locs) (hF : Fx al R) (hl : lv_has ls 5 [(0, .ref (q 100)), (1, .int x1), (2, .int x2), (3, .int x3)]) : W p l e (rmL 3 0 0) s m args below meth c H locs 0 0 (MQ below (Pst E q none al res R n) args s 0 0 (Bs E)) (F0 m 96 ls [.int y0]) := by
  have hx := C.1
  have hb := C.2.1
  unfold f_X8_draws_96 at h
  refine lv_istore (lv' := [(4, .int y0), (0, .ref (q 100)), (1, .int x1), (2, .int x2), (3, .int x3)]) hx hb dX8_draws_96 hl (by decide) rfl (fun ls hl => ?_)
  refine lv_aload_n hx hb dX8_draws_98 rfl (lv_at hl 1 rfl) ?_
  have ap_99 : al 109 = true := hW.cl a_100 (hF _ 8 _ a_100 rfl)
  refine r_getq C fr_X8_29 hW a_100 rfl rfl (hF _ 8 _ a_100 rfl) dX8_draws_99 ?_
  refine lv_iload_n hx hb dX8_draws_102 rfl (lv_at hl 4 rfl) ?_
  obtain ⟨g_103, h⟩ := gd_some h
  refine r_zald C hW ap_99 rfl (ix_in g_103) dX8_draws_103 ?_
  refine lv_if_ne (tgt := 188) hx hb dX8_draws_104 (by decide) (fun c_104 => ?_) (fun c_104 => ?_)
  · have h := (if_neg c_104).symm.trans h
    exact t_X8_draws_188 C hk23 a_100 h hW hF (lv_sub hl [1, 2, 3] rfl)
  · have h := (if_pos c_104).symm.trans h
    refine lv_iload hx hb dX8_draws_107 (lv_at hl 0 rfl) ?_
    refine lv_aload_n hx hb dX8_draws_109 rfl (lv_at hl 1 rfl) ?_
    have ap_110 : al 143 = true := hW.cl a_100 (hF _ 42 _ a_100 rfl)
    refine r_getq C fr_X8_94 hW a_100 rfl rfl (hF _ 42 _ a_100 rfl) dX8_draws_110 ?_
    refine lv_iconst (v := 4) hx hb dX8_draws_113 (by decide) ?_
    obtain ⟨g_114, h⟩ := gd_some h
    refine r_iald C hW ap_110 rfl (ix_in g_114) dX8_draws_114 ?_
    refine lv_icmp_lt (tgt := 188) hx hb dX8_draws_115 (by decide) (fun c_115 => ?_) (fun c_115 => ?_)
    · have h := (if_pos c_115).symm.trans h
      exact t_X8_draws_188 C hk23 a_100 h hW hF (lv_sub hl [1, 2, 3] rfl)
    · have h := (if_neg c_115).symm.trans h
      refine lv_aload_n hx hb dX8_draws_118 rfl (lv_at hl 1 rfl) ?_
      have ap_119 : al 105 = true := hW.cl a_100 (hF _ 4 _ a_100 rfl)
      refine r_getq C fr_X8_17 hW a_100 rfl rfl (hF _ 4 _ a_100 rfl) dX8_draws_119 ?_
      refine lv_iload_n hx hb dX8_draws_122 rfl (lv_at hl 4 rfl) ?_
      refine lv_dup2_11 hx hb dX8_draws_123 rfl rfl ?_
      obtain ⟨g_124, h⟩ := gd_some h
      refine r_iald C hW ap_119 rfl (ix_in g_124) dX8_draws_124 ?_
      refine lv_iload hx hb dX8_draws_125 (lv_at hl 0 rfl) ?_
      refine lv_isub hx hb dX8_draws_127 ?_
      obtain ⟨g_128, h⟩ := gd_some h
      obtain ⟨I_128, e_I_128, h⟩ := lt_some h
      refine r_iast C hW ap_119 rfl (ix_in g_128) dX8_draws_128 (fun H locs hW => ?_)
      rw [← e_I_128] at hW
      refine lv_aload_n hx hb dX8_draws_129 rfl (lv_at hl 1 rfl) ?_
      have ap_130 : al 107 = true := hW.cl a_100 (hF _ 6 _ a_100 rfl)
      refine r_getq C fr_X8_23 hW a_100 rfl rfl (hF _ 6 _ a_100 rfl) dX8_draws_130 ?_
      refine lv_iload_n hx hb dX8_draws_133 rfl (lv_at hl 4 rfl) ?_
      refine lv_dup2_11 hx hb dX8_draws_134 rfl rfl ?_
      obtain ⟨g_135, h⟩ := gd_some h
      refine r_iald C hW ap_130 rfl (ix_in g_135) dX8_draws_135 ?_
      refine lv_iload hx hb dX8_draws_136 (lv_at hl 0 rfl) ?_
      refine lv_iadd hx hb dX8_draws_138 ?_
      obtain ⟨g_139, h⟩ := gd_some h
      obtain ⟨I_139, e_I_139, h⟩ := lt_some h
      refine r_iast C hW ap_130 rfl (ix_in g_139) dX8_draws_139 (fun H locs hW => ?_)
      rw [← e_I_139] at hW
      refine lv_aload_n hx hb dX8_draws_140 rfl (lv_at hl 1 rfl) ?_
      have ap_141 : al 116 = true := hW.cl a_100 (hF _ 15 _ a_100 rfl)
      refine r_getq C fr_X8_48 hW a_100 rfl rfl (hF _ 15 _ a_100 rfl) dX8_draws_141 ?_
      refine lv_iload_n hx hb dX8_draws_144 rfl (lv_at hl 3 rfl) ?_
      refine lv_dup2_11 hx hb dX8_draws_145 rfl rfl ?_
      obtain ⟨g_146, h⟩ := gd_some h
      refine r_iald C hW ap_141 rfl (ix_in g_146) dX8_draws_146 ?_
      refine lv_iload hx hb dX8_draws_147 (lv_at hl 0 rfl) ?_
      refine lv_iadd hx hb dX8_draws_149 ?_
      obtain ⟨g_150, h⟩ := gd_some h
      obtain ⟨I_150, e_I_150, h⟩ := lt_some h
      refine r_iast C hW ap_141 rfl (ix_in g_150) dX8_draws_150 (fun H locs hW => ?_)
      rw [← e_I_150] at hW
      refine lv_aload_n hx hb dX8_draws_151 rfl (lv_at hl 1 rfl) ?_
      have ap_152 : al 123 = true := hW.cl a_100 (hF _ 22 _ a_100 rfl)
      refine r_getq C fr_X8_69 hW a_100 rfl rfl (hF _ 22 _ a_100 rfl) dX8_draws_152 ?_
      refine lv_iload_n hx hb dX8_draws_155 rfl (lv_at hl 3 rfl) ?_
      refine lv_dup2_11 hx hb dX8_draws_156 rfl rfl ?_
      obtain ⟨g_157, h⟩ := gd_some h
      refine r_iald C hW ap_152 rfl (ix_in g_157) dX8_draws_157 ?_
      refine lv_iload hx hb dX8_draws_158 (lv_at hl 0 rfl) ?_
      refine lv_iadd hx hb dX8_draws_160 ?_
      obtain ⟨g_161, h⟩ := gd_some h
      obtain ⟨I_161, e_I_161, h⟩ := lt_some h
      refine r_iast C hW ap_152 rfl (ix_in g_161) dX8_draws_161 (fun H locs hW => ?_)
      rw [← e_I_161] at hW
      refine lv_aload_n hx hb dX8_draws_162 rfl (lv_at hl 1 rfl) ?_
      have ap_163 : al 119 = true := hW.cl a_100 (hF _ 18 _ a_100 rfl)
      refine r_getq C fr_X8_57 hW a_100 rfl rfl (hF _ 18 _ a_100 rfl) dX8_draws_163 ?_
      refine lv_iload_n hx hb dX8_draws_166 rfl (lv_at hl 3 rfl) ?_
      refine lv_dup2_11 hx hb dX8_draws_167 rfl rfl ?_
      obtain ⟨g_168, h⟩ := gd_some h
      refine r_iald C hW ap_163 rfl (ix_in g_168) dX8_draws_168 ?_
      refine lv_iload hx hb dX8_draws_169 (lv_at hl 0 rfl) ?_
      refine lv_aload_n hx hb dX8_draws_171 rfl (lv_at hl 1 rfl) ?_
      refine r_getq C fr_X8_94 hW a_100 rfl rfl (hF _ 42 _ a_100 rfl) dX8_draws_172 ?_
      refine lv_iconst (v := 0) hx hb dX8_draws_175 (by decide) ?_
      obtain ⟨g_176, h⟩ := gd_some h
      refine r_iald C hW ap_110 rfl (ix_in g_176) dX8_draws_176 ?_
      refine lv_imul hx hb dX8_draws_177 ?_
      refine lv_aload_n hx hb dX8_draws_178 rfl (lv_at hl 1 rfl) ?_
      have ap_179 : al 115 = true := hW.cl a_100 (hF _ 14 _ a_100 rfl)
      refine r_getq C fr_X8_45 hW a_100 rfl rfl (hF _ 14 _ a_100 rfl) dX8_draws_179 ?_
      refine lv_iload_n hx hb dX8_draws_182 rfl (lv_at hl 3 rfl) ?_
      obtain ⟨g_183, h⟩ := gd_some h
      refine r_iald C hW ap_179 rfl (ix_in g_183) dX8_draws_183 ?_
      obtain ⟨g_184, h⟩ := gd_some h
      refine lv_idiv hx hb dX8_draws_184 g_184 ?_
      refine lv_iadd hx hb dX8_draws_185 ?_
      obtain ⟨g_186, h⟩ := gd_some h
      obtain ⟨I_186, e_I_186, h⟩ := lt_some h
      refine r_iast C hW ap_163 rfl (ix_in g_186) dX8_draws_186 (fun H locs hW => ?_)
      rw [← e_I_186] at hW
      have h := Option.some.inj h
      subst h
      exact r_vret C hW dX8_draws_187
def f_X8_draws_23  : Nat → MI → MR → Int32 → Int32 → Option (MI)
  | 0, _, _, _, _ => none
  | nn + 1, I, R, x1, x2 => gd (ix x2 (ln 120)) ((if (I 100 2) ≤ (I 120 x2.toNatClampNeg) then (gd (ix x2 (ln 116)) (gd (ix x2 (ln 115)) (gd (ix x2 (ln 117)) ((if (I 116 x2.toNatClampNeg) = ((I 115 x2.toNatClampNeg) * (I 117 x2.toNatClampNeg)) then (bd (f_X8_goes I R x1 2) (fun z_230 => some (z_230))) else (bd (f_X8_goes I R x1 3) (fun z_230 => some (z_230)))))))) else (gd (ix x2 (ln 120)) (gd (ix (I 120 x2.toNatClampNeg) (ln 109)) ((if (I 109 (I 120 x2.toNatClampNeg).toNatClampNeg) = 0 then (gd (ix (I 120 x2.toNatClampNeg) (ln 104)) (gd (ix (I 120 x2.toNatClampNeg) (ln 105)) (gd (ix x2 (ln 115)) (gd (ix x2 (ln 116)) (gd (ix x2 (ln 117)) (gd (ix x2 (ln 119)) (bd (f_X8_units I R (I 104 (I 120 x2.toNatClampNeg).toNatClampNeg) (I 105 (I 120 x2.toNatClampNeg).toNatClampNeg) (I 115 x2.toNatClampNeg) (I 116 x2.toNatClampNeg) (I 117 x2.toNatClampNeg) (I 119 x2.toNatClampNeg)) (fun z_93 => f_X8_draws_96 (f_X8_draws_23 nn) I R x1 x2 (I 120 x2.toNatClampNeg) z_93)))))))) else (f_X8_draws_96 (f_X8_draws_23 nn) I R x1 x2 (I 120 x2.toNatClampNeg) 0)))))))
set_option maxHeartbeats 4000000 in
set_option maxRecDepth 100000 in
theorem t_X8_draws_23 {p : Program} {l : Launch} {e : Env} {s : State} {m : MethodId} {args : Array Value} {below : List Frame} {meth : Method} {c : Code} {E : EV} {q : Nat → Nat} {al : Nat → Bool} {n : Nat} (C : CX p s m args meth c E cX8_draws RX8 5 none) {res : MI}   : ∀ (nn : Nat) {I : MI} {R : MR} {x1 : Int32} {x2 : Int32} {H : Heap} {locs : List Loc} {ls : Array Slot} (a_100 : al 100 = true) (h : f_X8_draws_23 nn I R x1 x2 = some res) (hW : Wd E q al s.heap I R n H locs) (hF : Fx al R) (hl : lv_has ls 5 [(0, .ref (q 100)), (1, .int x1), (2, .int x2)]), W p l e (rmL 3 0 0) s m args below meth c H locs 0 0 (MQ below (Pst E q none al res R n) args s 0 0 (Bs E)) (F0 m 23 ls []) := by
  have hx := C.1
  have hb := C.2.1
  intro nn
  induction nn with
  | zero =>
    intro I R x1 x2 H locs ls a_100 h
    cases (show (none : Option (MI)) = some res from h)
  | succ nn ih =>
    intro I R x1 x2 H locs ls a_100 h hW hF hl
    rw [f_X8_draws_23.eq_2] at h
    refine lv_aload_n hx hb dX8_draws_23 rfl (lv_at hl 0 rfl) ?_
    have ap_24 : al 120 = true := hW.cl a_100 (hF _ 19 _ a_100 rfl)
    refine r_getq C fr_X8_60 hW a_100 rfl rfl (hF _ 19 _ a_100 rfl) dX8_draws_24 ?_
    refine lv_iload_n hx hb dX8_draws_27 rfl (lv_at hl 2 rfl) ?_
    obtain ⟨g_28, h⟩ := gd_some h
    refine r_iald C hW ap_24 rfl (ix_in g_28) dX8_draws_28 ?_
    refine lv_aload_n hx hb dX8_draws_29 rfl (lv_at hl 0 rfl) ?_
    refine r_get C fr_X8_131 hW a_100 rfl rfl dX8_draws_30 ?_
    refine lv_icmp_ge (tgt := 201) hx hb dX8_draws_33 (by decide) (fun c_33 => ?_) (fun c_33 => ?_)
    · have h := (if_pos c_33).symm.trans h
      refine lv_aload_n hx hb dX8_draws_201 rfl (lv_at hl 0 rfl) ?_
      refine lv_iload_n hx hb dX8_draws_202 rfl (lv_at hl 1 rfl) ?_
      refine lv_aload_n hx hb dX8_draws_203 rfl (lv_at hl 0 rfl) ?_
      have ap_204 : al 116 = true := hW.cl a_100 (hF _ 15 _ a_100 rfl)
      refine r_getq C fr_X8_48 hW a_100 rfl rfl (hF _ 15 _ a_100 rfl) dX8_draws_204 ?_
      refine lv_iload_n hx hb dX8_draws_207 rfl (lv_at hl 2 rfl) ?_
      obtain ⟨g_208, h⟩ := gd_some h
      refine r_iald C hW ap_204 rfl (ix_in g_208) dX8_draws_208 ?_
      refine lv_aload_n hx hb dX8_draws_209 rfl (lv_at hl 0 rfl) ?_
      have ap_210 : al 115 = true := hW.cl a_100 (hF _ 14 _ a_100 rfl)
      refine r_getq C fr_X8_45 hW a_100 rfl rfl (hF _ 14 _ a_100 rfl) dX8_draws_210 ?_
      refine lv_iload_n hx hb dX8_draws_213 rfl (lv_at hl 2 rfl) ?_
      obtain ⟨g_214, h⟩ := gd_some h
      refine r_iald C hW ap_210 rfl (ix_in g_214) dX8_draws_214 ?_
      refine lv_aload_n hx hb dX8_draws_215 rfl (lv_at hl 0 rfl) ?_
      have ap_216 : al 117 = true := hW.cl a_100 (hF _ 16 _ a_100 rfl)
      refine r_getq C fr_X8_51 hW a_100 rfl rfl (hF _ 16 _ a_100 rfl) dX8_draws_216 ?_
      refine lv_iload_n hx hb dX8_draws_219 rfl (lv_at hl 2 rfl) ?_
      obtain ⟨g_220, h⟩ := gd_some h
      refine r_iald C hW ap_216 rfl (ix_in g_220) dX8_draws_220 ?_
      refine lv_imul hx hb dX8_draws_221 ?_
      refine lv_icmp_ne (tgt := 229) hx hb dX8_draws_222 (by decide) (fun c_222 => ?_) (fun c_222 => ?_)
      · have h := (if_neg c_222).symm.trans h
        refine lv_iconst (v := 3) hx hb dX8_draws_229 (by decide) ?_
        obtain ⟨z_230, e_z_230, h⟩ := bd_some h
        refine r_callV (v := none) (As := [.int x1, .int 3]) (rest := []) C ml_X8_goes gm_976 gm_978 gs_37 (ci := 8) rfl hW a_100 rfl hl.1 (c_X8_goes a_100 hF e_z_230) rfl ⟨(by decide), (by decide)⟩ ⟨(by decide), (by decide)⟩ rfl (Nat.le_of_ble_eq_true rfl) dX8_draws_230 (fun H locs hW => ?_)
        have h := Option.some.inj h
        subst h
        exact r_vret C hW dX8_draws_233
      · have h := (if_pos c_222).symm.trans h
        refine lv_iconst (v := 2) hx hb dX8_draws_225 (by decide) ?_
        refine lv_goto (tgt := 230) hx hb dX8_draws_226 (by decide) ?_
        obtain ⟨z_230, e_z_230, h⟩ := bd_some h
        refine r_callV (v := none) (As := [.int x1, .int 2]) (rest := []) C ml_X8_goes gm_976 gm_978 gs_37 (ci := 8) rfl hW a_100 rfl hl.1 (c_X8_goes a_100 hF e_z_230) rfl ⟨(by decide), (by decide)⟩ ⟨(by decide), (by decide)⟩ rfl (Nat.le_of_ble_eq_true rfl) dX8_draws_230 (fun H locs hW => ?_)
        have h := Option.some.inj h
        subst h
        exact r_vret C hW dX8_draws_233
    · have h := (if_neg c_33).symm.trans h
      refine lv_aload_n hx hb dX8_draws_36 rfl (lv_at hl 0 rfl) ?_
      refine r_getq C fr_X8_60 hW a_100 rfl rfl (hF _ 19 _ a_100 rfl) dX8_draws_37 ?_
      refine lv_iload_n hx hb dX8_draws_40 rfl (lv_at hl 2 rfl) ?_
      obtain ⟨g_41, h⟩ := gd_some h
      refine r_iald C hW ap_24 rfl (ix_in g_41) dX8_draws_41 ?_
      refine lv_istore_n (lv' := [(3, .int (I 120 x2.toNatClampNeg)), (0, .ref (q 100)), (1, .int x1), (2, .int x2)]) hx hb dX8_draws_42 rfl hl (by decide) rfl (fun ls hl => ?_)
      refine lv_aload_n hx hb dX8_draws_43 rfl (lv_at hl 1 rfl) ?_
      have ap_44 : al 109 = true := hW.cl a_100 (hF _ 8 _ a_100 rfl)
      refine r_getq C fr_X8_29 hW a_100 rfl rfl (hF _ 8 _ a_100 rfl) dX8_draws_44 ?_
      refine lv_iload_n hx hb dX8_draws_47 rfl (lv_at hl 0 rfl) ?_
      obtain ⟨g_48, h⟩ := gd_some h
      refine r_zald C hW ap_44 rfl (ix_in g_48) dX8_draws_48 ?_
      refine lv_if_eq (tgt := 56) hx hb dX8_draws_49 (by decide) (fun c_49 => ?_) (fun c_49 => ?_)
      · have h := (if_pos c_49).symm.trans h
        refine lv_aload_n hx hb dX8_draws_56 rfl (lv_at hl 1 rfl) ?_
        refine lv_aload_n hx hb dX8_draws_57 rfl (lv_at hl 1 rfl) ?_
        have ap_58 : al 104 = true := hW.cl a_100 (hF _ 3 _ a_100 rfl)
        refine r_getq C fr_X8_13 hW a_100 rfl rfl (hF _ 3 _ a_100 rfl) dX8_draws_58 ?_
        refine lv_iload_n hx hb dX8_draws_61 rfl (lv_at hl 0 rfl) ?_
        obtain ⟨g_62, h⟩ := gd_some h
        refine r_iald C hW ap_58 rfl (ix_in g_62) dX8_draws_62 ?_
        refine lv_aload_n hx hb dX8_draws_63 rfl (lv_at hl 1 rfl) ?_
        have ap_64 : al 105 = true := hW.cl a_100 (hF _ 4 _ a_100 rfl)
        refine r_getq C fr_X8_17 hW a_100 rfl rfl (hF _ 4 _ a_100 rfl) dX8_draws_64 ?_
        refine lv_iload_n hx hb dX8_draws_67 rfl (lv_at hl 0 rfl) ?_
        obtain ⟨g_68, h⟩ := gd_some h
        refine r_iald C hW ap_64 rfl (ix_in g_68) dX8_draws_68 ?_
        refine lv_aload_n hx hb dX8_draws_69 rfl (lv_at hl 1 rfl) ?_
        have ap_70 : al 115 = true := hW.cl a_100 (hF _ 14 _ a_100 rfl)
        refine r_getq C fr_X8_45 hW a_100 rfl rfl (hF _ 14 _ a_100 rfl) dX8_draws_70 ?_
        refine lv_iload_n hx hb dX8_draws_73 rfl (lv_at hl 3 rfl) ?_
        obtain ⟨g_74, h⟩ := gd_some h
        refine r_iald C hW ap_70 rfl (ix_in g_74) dX8_draws_74 ?_
        refine lv_aload_n hx hb dX8_draws_75 rfl (lv_at hl 1 rfl) ?_
        have ap_76 : al 116 = true := hW.cl a_100 (hF _ 15 _ a_100 rfl)
        refine r_getq C fr_X8_48 hW a_100 rfl rfl (hF _ 15 _ a_100 rfl) dX8_draws_76 ?_
        refine lv_iload_n hx hb dX8_draws_79 rfl (lv_at hl 3 rfl) ?_
        obtain ⟨g_80, h⟩ := gd_some h
        refine r_iald C hW ap_76 rfl (ix_in g_80) dX8_draws_80 ?_
        refine lv_aload_n hx hb dX8_draws_81 rfl (lv_at hl 1 rfl) ?_
        have ap_82 : al 117 = true := hW.cl a_100 (hF _ 16 _ a_100 rfl)
        refine r_getq C fr_X8_51 hW a_100 rfl rfl (hF _ 16 _ a_100 rfl) dX8_draws_82 ?_
        refine lv_iload_n hx hb dX8_draws_85 rfl (lv_at hl 3 rfl) ?_
        obtain ⟨g_86, h⟩ := gd_some h
        refine r_iald C hW ap_82 rfl (ix_in g_86) dX8_draws_86 ?_
        refine lv_aload_n hx hb dX8_draws_87 rfl (lv_at hl 1 rfl) ?_
        have ap_88 : al 119 = true := hW.cl a_100 (hF _ 18 _ a_100 rfl)
        refine r_getq C fr_X8_57 hW a_100 rfl rfl (hF _ 18 _ a_100 rfl) dX8_draws_88 ?_
        refine lv_iload_n hx hb dX8_draws_91 rfl (lv_at hl 3 rfl) ?_
        obtain ⟨g_92, h⟩ := gd_some h
        refine r_iald C hW ap_88 rfl (ix_in g_92) dX8_draws_92 ?_
        obtain ⟨z_93, e_z_93, h⟩ := bd_some h
        refine r_callV (v := (some (.int z_93))) (As := [.int (I 104 (I 120 x2.toNatClampNeg).toNatClampNeg), .int (I 105 (I 120 x2.toNatClampNeg).toNatClampNeg), .int (I 115 x2.toNatClampNeg), .int (I 116 x2.toNatClampNeg), .int (I 117 x2.toNatClampNeg), .int (I 119 x2.toNatClampNeg)]) (rest := []) C ml_X8_units gm_980 gm_982 gs_38 (ci := 8) rfl hW a_100 rfl hl.1 (c_X8_units a_100 hF e_z_93) rfl ⟨(by decide), (by decide)⟩ ⟨(by decide), (by decide)⟩ rfl (Nat.le_of_ble_eq_true rfl) dX8_draws_93 (fun H locs hW => ?_)
        exact t_X8_draws_96 C ih a_100 h hW hF (lv_sub hl [1, 2, 3, 0] rfl)
      · have h := (if_neg c_49).symm.trans h
        refine lv_iconst (v := 0) hx hb dX8_draws_52 (by decide) ?_
        refine lv_goto (tgt := 96) hx hb dX8_draws_53 (by decide) ?_
        exact t_X8_draws_96 C ih a_100 h hW hF (lv_sub hl [1, 2, 3, 0] rfl)
def f_X8_draws (I : MI) (R : MR) (x1 : Int32) : Option (MI) := gd (ix x1 (ln 111)) (gd (ix (I 111 x1.toNatClampNeg) (ln 124)) ((if (I 124 (I 111 x1.toNatClampNeg).toNatClampNeg) = 0 then (f_X8_draws_23 1000000 I R x1 (I 111 x1.toNatClampNeg)) else (bd (f_X8_goes I R x1 4) (fun z_19 => some (z_19))))))
set_option maxHeartbeats 4000000 in
set_option maxRecDepth 100000 in
theorem c_X8_draws {l : Launch} {E : EV} {q : Nat → Nat} {al : Nat → Bool} {n : Nat} {I : MI} {R : MR} {x1 : Int32} (a_100 : al 100 = true) (hF : Fx al R) {res : MI} (h : f_X8_draws I R x1 = some res) : Ct l yX8_draws cX8_draws 5 none 3 0 0 E q al I R n [.ref (q 100), .int x1] none al res R n := by
  refine Ct.of (own := RX8) (mn := "draws") (by decide) rfl rfl (Nat.le_of_ble_eq_true rfl) ?_
  intro p e s m args below meth c ls C hmn hargs hW hl
  have hx := C.1
  have hb := C.2.1
  have hl : lv_has ls 5 [(0, .ref (q 100)), (1, .int x1)] := hl
  unfold f_X8_draws at h
  refine lv_aload_n hx hb dX8_draws_0 rfl (lv_at hl 0 rfl) ?_
  have ap_1 : al 111 = true := hW.cl a_100 (hF _ 10 _ a_100 rfl)
  refine r_getq C fr_X8_36 hW a_100 rfl rfl (hF _ 10 _ a_100 rfl) dX8_draws_1 ?_
  refine lv_iload_n hx hb dX8_draws_4 rfl (lv_at hl 1 rfl) ?_
  obtain ⟨g_5, h⟩ := gd_some h
  refine r_iald C hW ap_1 rfl (ix_in g_5) dX8_draws_5 ?_
  refine lv_istore_n (lv' := [(2, .int (I 111 x1.toNatClampNeg)), (0, .ref (q 100)), (1, .int x1)]) hx hb dX8_draws_6 rfl hl (by decide) rfl (fun ls hl => ?_)
  refine lv_aload_n hx hb dX8_draws_7 rfl (lv_at hl 1 rfl) ?_
  have ap_8 : al 124 = true := hW.cl a_100 (hF _ 23 _ a_100 rfl)
  refine r_getq C fr_X8_72 hW a_100 rfl rfl (hF _ 23 _ a_100 rfl) dX8_draws_8 ?_
  refine lv_iload_n hx hb dX8_draws_11 rfl (lv_at hl 0 rfl) ?_
  obtain ⟨g_12, h⟩ := gd_some h
  refine r_zald C hW ap_8 rfl (ix_in g_12) dX8_draws_12 ?_
  refine lv_if_eq (tgt := 23) hx hb dX8_draws_13 (by decide) (fun c_13 => ?_) (fun c_13 => ?_)
  · have h := (if_pos c_13).symm.trans h
    exact t_X8_draws_23 C 1000000 a_100 h hW hF (lv_sub hl [1, 2, 0] rfl)
  · have h := (if_neg c_13).symm.trans h
    refine lv_aload_n hx hb dX8_draws_16 rfl (lv_at hl 1 rfl) ?_
    refine lv_iload_n hx hb dX8_draws_17 rfl (lv_at hl 2 rfl) ?_
    refine lv_iconst (v := 4) hx hb dX8_draws_18 (by decide) ?_
    obtain ⟨z_19, e_z_19, h⟩ := bd_some h
    refine r_callV (v := none) (As := [.int x1, .int 4]) (rest := []) C ml_X8_goes gm_976 gm_978 gs_37 (ci := 8) rfl hW a_100 rfl hl.1 (c_X8_goes a_100 hF e_z_19) rfl ⟨(by decide), (by decide)⟩ ⟨(by decide), (by decide)⟩ rfl (Nat.le_of_ble_eq_true rfl) dX8_draws_19 (fun H locs hW => ?_)
    have h := Option.some.inj h
    subst h
    exact r_vret C hW dX8_draws_22
def f_X8_presses_85 (k35 : MI → MR → Int32 → Int32 → Int32 → Option (MI)) (I : MI) (R : MR) (x1 : Int32) (x2 : Int32) (x3 : Int32) (y0 : Int32) : Option (MI) := (if 0 < y0 then (gd (ix x3 (ln 105)) (gd (ix x3 (ln 105)) (lt (p2 I 105 x3.toNatClampNeg ((I 105 x3.toNatClampNeg) + y0)) (fun I_105 => gd (ix x3 (ln 108)) (gd (ix x3 (ln 108)) (lt (p2 I_105 108 x3.toNatClampNeg ((I_105 108 x3.toNatClampNeg) + y0)) (fun I_116 => lt (p2 I_116 100 25 ((I_116 100 25) + y0)) (fun I_125 => gd (ix x1 (ln 112)) (lt (p2 I_125 100 26 ((I_125 100 26) + (y0 * (I_125 112 x1.toNatClampNeg)))) (fun I_143 => k35 I_143 R x1 (x2 - y0) (x3 + (-1)))))))))))) else (k35 I R x1 x2 (x3 + (-1))))
set_option maxHeartbeats 4000000 in
set_option maxRecDepth 100000 in
theorem t_X8_presses_85 {p : Program} {l : Launch} {e : Env} {s : State} {m : MethodId} {args : Array Value} {below : List Frame} {meth : Method} {c : Code} {E : EV} {q : Nat → Nat} {al : Nat → Bool} {n : Nat} (C : CX p s m args meth c E cX8_presses RX8 6 none) {res : MI} {k35 : MI → MR → Int32 → Int32 → Int32 → Option (MI)} (hk35 : ∀ {I : MI} {R : MR} {x1 : Int32} {x2 : Int32} {x3 : Int32} {H : Heap} {locs : List Loc} {ls : Array Slot}, al 100 = true → k35 I R x1 x2 x3 = some res → Wd E q al s.heap I R n H locs → Fx al R → lv_has ls 6 [(0, .ref (q 100)), (1, .int x1), (2, .int x2), (3, .int x3)] → W p l e (rmL 1 0 0) s m args below meth c H locs 0 0 (MQ below (Pst E q none al res R n) args s 0 0 (Bs E)) (F0 m 35 ls [])) {I : MI} {R : MR} {x1 : Int32} {x2 : Int32} {x3 : Int32} {y0 : Int32} (a_100 : al 100 = true) {H : Heap} {locs : List Loc} {ls : Array Slot} (h : f_X8_presses_85 k35 I R x1 x2 x3 y0 = some res) (hW : Wd E q al s.heap I R n H locs) (hF : Fx al R) (hl : lv_has ls 6 [(0, .ref (q 100)), (1, .int x1), (2, .int x2), (3, .int x3)]) : W p l e (rmL 1 0 0) s m args below meth c H locs 0 0 (MQ below (Pst E q none al res R n) args s 0 0 (Bs E)) (F0 m 85 ls [.int y0]) := by
  have hx := C.1
  have hb := C.2.1
  unfold f_X8_presses_85 at h
  refine lv_istore (lv' := [(5, .int y0), (0, .ref (q 100)), (1, .int x1), (2, .int x2), (3, .int x3)]) hx hb dX8_presses_85 hl (by decide) rfl (fun ls hl => ?_)
  refine lv_iload hx hb dX8_presses_87 (lv_at hl 0 rfl) ?_
  refine lv_if_gt (tgt := 95) hx hb dX8_presses_89 (by decide) (fun c_89 => ?_) (fun c_89 => ?_)
  · have h := (if_pos c_89).symm.trans h
    refine lv_aload_n hx hb dX8_presses_95 rfl (lv_at hl 1 rfl) ?_
    have ap_96 : al 105 = true := hW.cl a_100 (hF _ 4 _ a_100 rfl)
    refine r_getq C fr_X8_17 hW a_100 rfl rfl (hF _ 4 _ a_100 rfl) dX8_presses_96 ?_
    refine lv_iload_n hx hb dX8_presses_99 rfl (lv_at hl 4 rfl) ?_
    refine lv_dup2_11 hx hb dX8_presses_100 rfl rfl ?_
    obtain ⟨g_101, h⟩ := gd_some h
    refine r_iald C hW ap_96 rfl (ix_in g_101) dX8_presses_101 ?_
    refine lv_iload hx hb dX8_presses_102 (lv_at hl 0 rfl) ?_
    refine lv_iadd hx hb dX8_presses_104 ?_
    obtain ⟨g_105, h⟩ := gd_some h
    obtain ⟨I_105, e_I_105, h⟩ := lt_some h
    refine r_iast C hW ap_96 rfl (ix_in g_105) dX8_presses_105 (fun H locs hW => ?_)
    rw [← e_I_105] at hW
    refine lv_aload_n hx hb dX8_presses_106 rfl (lv_at hl 1 rfl) ?_
    have ap_107 : al 108 = true := hW.cl a_100 (hF _ 7 _ a_100 rfl)
    refine r_getq C fr_X8_26 hW a_100 rfl rfl (hF _ 7 _ a_100 rfl) dX8_presses_107 ?_
    refine lv_iload_n hx hb dX8_presses_110 rfl (lv_at hl 4 rfl) ?_
    refine lv_dup2_11 hx hb dX8_presses_111 rfl rfl ?_
    obtain ⟨g_112, h⟩ := gd_some h
    refine r_iald C hW ap_107 rfl (ix_in g_112) dX8_presses_112 ?_
    refine lv_iload hx hb dX8_presses_113 (lv_at hl 0 rfl) ?_
    refine lv_iadd hx hb dX8_presses_115 ?_
    obtain ⟨g_116, h⟩ := gd_some h
    obtain ⟨I_116, e_I_116, h⟩ := lt_some h
    refine r_iast C hW ap_107 rfl (ix_in g_116) dX8_presses_116 (fun H locs hW => ?_)
    rw [← e_I_116] at hW
    refine lv_aload_n hx hb dX8_presses_117 rfl (lv_at hl 1 rfl) ?_
    refine lv_dup hx hb dX8_presses_118 rfl ?_
    refine r_get C fr_X8_208 hW a_100 rfl rfl dX8_presses_119 ?_
    refine lv_iload hx hb dX8_presses_122 (lv_at hl 0 rfl) ?_
    refine lv_iadd hx hb dX8_presses_124 ?_
    obtain ⟨I_125, e_I_125, h⟩ := lt_some h
    refine r_put C fr_X8_208 (Or.inl rfl) hW a_100 rfl rfl rfl rfl dX8_presses_125 (fun H locs hW => ?_)
    rw [← e_I_125] at hW
    refine lv_aload_n hx hb dX8_presses_128 rfl (lv_at hl 1 rfl) ?_
    refine lv_dup hx hb dX8_presses_129 rfl ?_
    refine r_get C fr_X8_211 hW a_100 rfl rfl dX8_presses_130 ?_
    refine lv_iload hx hb dX8_presses_133 (lv_at hl 0 rfl) ?_
    refine lv_aload_n hx hb dX8_presses_135 rfl (lv_at hl 1 rfl) ?_
    have ap_136 : al 112 = true := hW.cl a_100 (hF _ 11 _ a_100 rfl)
    refine r_getq C fr_X8_39 hW a_100 rfl rfl (hF _ 11 _ a_100 rfl) dX8_presses_136 ?_
    refine lv_iload_n hx hb dX8_presses_139 rfl (lv_at hl 2 rfl) ?_
    obtain ⟨g_140, h⟩ := gd_some h
    refine r_iald C hW ap_136 rfl (ix_in g_140) dX8_presses_140 ?_
    refine lv_imul hx hb dX8_presses_141 ?_
    refine lv_iadd hx hb dX8_presses_142 ?_
    obtain ⟨I_143, e_I_143, h⟩ := lt_some h
    refine r_put C fr_X8_211 (Or.inl rfl) hW a_100 rfl rfl rfl rfl dX8_presses_143 (fun H locs hW => ?_)
    rw [← e_I_143] at hW
    refine lv_iload_n hx hb dX8_presses_146 rfl (lv_at hl 3 rfl) ?_
    refine lv_iload hx hb dX8_presses_147 (lv_at hl 0 rfl) ?_
    refine lv_isub hx hb dX8_presses_149 ?_
    refine lv_istore_n (lv' := [(2, .int (x2 - y0)), (5, .int y0), (0, .ref (q 100)), (1, .int x1), (3, .int x3)]) hx hb dX8_presses_150 rfl hl (by decide) rfl (fun ls hl => ?_)
    refine lv_iinc (v := x3 + (-1)) (lv' := [(3, .int (x3 + (-1))), (2, .int (x2 - y0)), (5, .int y0), (0, .ref (q 100)), (1, .int x1)]) hx hb dX8_presses_151 hl (k := 4) rfl rfl (by decide) rfl (fun ls hl => ?_)
    refine lv_goto (tgt := 35) hx hb dX8_presses_154 (by decide) ?_
    exact hk35 a_100 h hW hF (lv_sub hl [3, 4, 1, 0] rfl)
  · have h := (if_neg c_89).symm.trans h
    refine lv_goto (tgt := 151) hx hb dX8_presses_92 (by decide) ?_
    refine lv_iinc (v := x3 + (-1)) (lv' := [(3, .int (x3 + (-1))), (5, .int y0), (0, .ref (q 100)), (1, .int x1), (2, .int x2)]) hx hb dX8_presses_151 hl (k := 4) rfl rfl (by decide) rfl (fun ls hl => ?_)
    refine lv_goto (tgt := 35) hx hb dX8_presses_154 (by decide) ?_
    exact hk35 a_100 h hW hF (lv_sub hl [2, 3, 4, 0] rfl)
def f_X8_presses_35  : Nat → MI → MR → Int32 → Int32 → Int32 → Option (MI)
  | 0, _, _, _, _, _ => none
  | nn + 1, I, R, x1, x2, x3 => (if x3 < 0 then (some (I)) else (gd (ix x3 (ln 109)) ((if (I 109 x3.toNatClampNeg) = 0 then (gd (ix x3 (ln 104)) (gd (ix x3 (ln 106)) (gd (ix x3 (ln 105)) (lt (((I 104 x3.toNatClampNeg) * (I 106 x3.toNatClampNeg)) - (I 105 x3.toNatClampNeg)) (fun v_71 => (if x2 ≤ v_71 then (f_X8_presses_85 (f_X8_presses_35 nn) I R x1 x2 x3 x2) else (f_X8_presses_85 (f_X8_presses_35 nn) I R x1 x2 x3 v_71))))))) else (f_X8_presses_35 nn I R x1 x2 (x3 + (-1)))))))
set_option maxHeartbeats 4000000 in
set_option maxRecDepth 100000 in
theorem t_X8_presses_35 {p : Program} {l : Launch} {e : Env} {s : State} {m : MethodId} {args : Array Value} {below : List Frame} {meth : Method} {c : Code} {E : EV} {q : Nat → Nat} {al : Nat → Bool} {n : Nat} (C : CX p s m args meth c E cX8_presses RX8 6 none) {res : MI}   : ∀ (nn : Nat) {I : MI} {R : MR} {x1 : Int32} {x2 : Int32} {x3 : Int32} {H : Heap} {locs : List Loc} {ls : Array Slot} (a_100 : al 100 = true) (h : f_X8_presses_35 nn I R x1 x2 x3 = some res) (hW : Wd E q al s.heap I R n H locs) (hF : Fx al R) (hl : lv_has ls 6 [(0, .ref (q 100)), (1, .int x1), (2, .int x2), (3, .int x3)]), W p l e (rmL 1 0 0) s m args below meth c H locs 0 0 (MQ below (Pst E q none al res R n) args s 0 0 (Bs E)) (F0 m 35 ls []) := by
  have hx := C.1
  have hb := C.2.1
  intro nn
  induction nn with
  | zero =>
    intro I R x1 x2 x3 H locs ls a_100 h
    cases (show (none : Option (MI)) = some res from h)
  | succ nn ih =>
    intro I R x1 x2 x3 H locs ls a_100 h hW hF hl
    rw [f_X8_presses_35.eq_2] at h
    refine lv_iload_n hx hb dX8_presses_35 rfl (lv_at hl 3 rfl) ?_
    refine lv_if_lt (tgt := 157) hx hb dX8_presses_36 (by decide) (fun c_36 => ?_) (fun c_36 => ?_)
    · have h := (if_pos c_36).symm.trans h
      have h := Option.some.inj h
      subst h
      exact r_vret C hW dX8_presses_157
    · have h := (if_neg c_36).symm.trans h
      refine lv_aload_n hx hb dX8_presses_39 rfl (lv_at hl 0 rfl) ?_
      have ap_40 : al 109 = true := hW.cl a_100 (hF _ 8 _ a_100 rfl)
      refine r_getq C fr_X8_29 hW a_100 rfl rfl (hF _ 8 _ a_100 rfl) dX8_presses_40 ?_
      refine lv_iload_n hx hb dX8_presses_43 rfl (lv_at hl 3 rfl) ?_
      obtain ⟨g_44, h⟩ := gd_some h
      refine r_zald C hW ap_40 rfl (ix_in g_44) dX8_presses_44 ?_
      refine lv_if_eq (tgt := 51) hx hb dX8_presses_45 (by decide) (fun c_45 => ?_) (fun c_45 => ?_)
      · have h := (if_pos c_45).symm.trans h
        refine lv_aload_n hx hb dX8_presses_51 rfl (lv_at hl 0 rfl) ?_
        have ap_52 : al 104 = true := hW.cl a_100 (hF _ 3 _ a_100 rfl)
        refine r_getq C fr_X8_13 hW a_100 rfl rfl (hF _ 3 _ a_100 rfl) dX8_presses_52 ?_
        refine lv_iload_n hx hb dX8_presses_55 rfl (lv_at hl 3 rfl) ?_
        obtain ⟨g_56, h⟩ := gd_some h
        refine r_iald C hW ap_52 rfl (ix_in g_56) dX8_presses_56 ?_
        refine lv_aload_n hx hb dX8_presses_57 rfl (lv_at hl 0 rfl) ?_
        have ap_58 : al 106 = true := hW.cl a_100 (hF _ 5 _ a_100 rfl)
        refine r_getq C fr_X8_20 hW a_100 rfl rfl (hF _ 5 _ a_100 rfl) dX8_presses_58 ?_
        refine lv_iload_n hx hb dX8_presses_61 rfl (lv_at hl 3 rfl) ?_
        obtain ⟨g_62, h⟩ := gd_some h
        refine r_iald C hW ap_58 rfl (ix_in g_62) dX8_presses_62 ?_
        refine lv_imul hx hb dX8_presses_63 ?_
        refine lv_aload_n hx hb dX8_presses_64 rfl (lv_at hl 0 rfl) ?_
        have ap_65 : al 105 = true := hW.cl a_100 (hF _ 4 _ a_100 rfl)
        refine r_getq C fr_X8_17 hW a_100 rfl rfl (hF _ 4 _ a_100 rfl) dX8_presses_65 ?_
        refine lv_iload_n hx hb dX8_presses_68 rfl (lv_at hl 3 rfl) ?_
        obtain ⟨g_69, h⟩ := gd_some h
        refine r_iald C hW ap_65 rfl (ix_in g_69) dX8_presses_69 ?_
        refine lv_isub hx hb dX8_presses_70 ?_
        obtain ⟨v_71, e_v_71, h⟩ := lt_some h
        rw [← e_v_71]
        refine lv_istore (lv' := [(4, .int v_71), (0, .ref (q 100)), (1, .int x1), (2, .int x2), (3, .int x3)]) hx hb dX8_presses_71 hl (by decide) rfl (fun ls hl => ?_)
        refine lv_iload hx hb dX8_presses_73 (lv_at hl 0 rfl) ?_
        refine lv_iload_n hx hb dX8_presses_75 rfl (lv_at hl 3 rfl) ?_
        refine lv_icmp_ge (tgt := 84) hx hb dX8_presses_76 (by decide) (fun c_76 => ?_) (fun c_76 => ?_)
        · have h := (if_pos c_76).symm.trans h
          refine lv_iload_n hx hb dX8_presses_84 rfl (lv_at hl 3 rfl) ?_
          exact t_X8_presses_85 C ih a_100 h hW hF (lv_sub hl [1, 2, 3, 4] rfl)
        · have h := (if_neg c_76).symm.trans h
          refine lv_iload hx hb dX8_presses_79 (lv_at hl 0 rfl) ?_
          refine lv_goto (tgt := 85) hx hb dX8_presses_81 (by decide) ?_
          exact t_X8_presses_85 C ih a_100 h hW hF (lv_sub hl [1, 2, 3, 4] rfl)
      · have h := (if_neg c_45).symm.trans h
        refine lv_goto (tgt := 151) hx hb dX8_presses_48 (by decide) ?_
        refine lv_iinc (v := x3 + (-1)) (lv' := [(3, .int (x3 + (-1))), (0, .ref (q 100)), (1, .int x1), (2, .int x2)]) hx hb dX8_presses_151 hl (k := 3) rfl rfl (by decide) rfl (fun ls hl => ?_)
        refine lv_goto (tgt := 35) hx hb dX8_presses_154 (by decide) ?_
        exact ih a_100 h hW hF (lv_sub hl [1, 2, 3, 0] rfl)
def f_X8_presses (I : MI) (R : MR) : Option (MI) := lt (((I 100 0) / 60) - ((I 100 0) / 60) / 24 * 24) (fun v_10 => gd (ix v_10 (ln 113)) ((if (I 113 v_10.toNatClampNeg) = 0 then (gd (ix 3 (ln 143)) (lt (I 143 (3 : Int32).toNatClampNeg) (fun v_27 => f_X8_presses_35 1000000 I R v_10 v_27 ((I 100 2) - 1)))) else (some (I)))))
set_option maxHeartbeats 4000000 in
set_option maxRecDepth 100000 in
theorem c_X8_presses {l : Launch} {E : EV} {q : Nat → Nat} {al : Nat → Bool} {n : Nat} {I : MI} {R : MR}  (a_100 : al 100 = true) (hF : Fx al R) {res : MI} (h : f_X8_presses I R = some res) : Ct l yX8_presses cX8_presses 6 none 1 0 0 E q al I R n [.ref (q 100)] none al res R n := by
  refine Ct.of (own := RX8) (mn := "presses") (by decide) rfl rfl (Nat.le_of_ble_eq_true rfl) ?_
  intro p e s m args below meth c ls C hmn hargs hW hl
  have hx := C.1
  have hb := C.2.1
  have hl : lv_has ls 6 [(0, .ref (q 100))] := hl
  unfold f_X8_presses at h
  refine lv_aload_n hx hb dX8_presses_0 rfl (lv_at hl 0 rfl) ?_
  refine r_get C fr_X8_197 hW a_100 rfl rfl dX8_presses_1 ?_
  refine lv_bipush (v := 60) hx hb dX8_presses_4 (by decide) ?_
  refine lv_idiv hx hb dX8_presses_6 (by decide) ?_
  refine lv_bipush (v := 24) hx hb dX8_presses_7 (by decide) ?_
  refine lv_irem hx hb dX8_presses_9 (by decide) ?_
  obtain ⟨v_10, e_v_10, h⟩ := lt_some h
  rw [← e_v_10]
  refine lv_istore_n (lv' := [(1, .int v_10), (0, .ref (q 100))]) hx hb dX8_presses_10 rfl hl (by decide) rfl (fun ls hl => ?_)
  refine lv_aload_n hx hb dX8_presses_11 rfl (lv_at hl 1 rfl) ?_
  have ap_12 : al 113 = true := hW.cl a_100 (hF _ 12 _ a_100 rfl)
  refine r_getq C fr_X8_42 hW a_100 rfl rfl (hF _ 12 _ a_100 rfl) dX8_presses_12 ?_
  refine lv_iload_n hx hb dX8_presses_15 rfl (lv_at hl 0 rfl) ?_
  obtain ⟨g_16, h⟩ := gd_some h
  refine r_zald C hW ap_12 rfl (ix_in g_16) dX8_presses_16 ?_
  refine lv_if_eq (tgt := 21) hx hb dX8_presses_17 (by decide) (fun c_17 => ?_) (fun c_17 => ?_)
  · have h := (if_pos c_17).symm.trans h
    refine lv_aload_n hx hb dX8_presses_21 rfl (lv_at hl 1 rfl) ?_
    have ap_22 : al 143 = true := hW.cl a_100 (hF _ 42 _ a_100 rfl)
    refine r_getq C fr_X8_94 hW a_100 rfl rfl (hF _ 42 _ a_100 rfl) dX8_presses_22 ?_
    refine lv_iconst (v := 3) hx hb dX8_presses_25 (by decide) ?_
    obtain ⟨g_26, h⟩ := gd_some h
    refine r_iald C hW ap_22 rfl (ix_in g_26) dX8_presses_26 ?_
    obtain ⟨v_27, e_v_27, h⟩ := lt_some h
    rw [← e_v_27]
    refine lv_istore_n (lv' := [(2, .int v_27), (1, .int v_10), (0, .ref (q 100))]) hx hb dX8_presses_27 rfl hl (by decide) rfl (fun ls hl => ?_)
    refine lv_aload_n hx hb dX8_presses_28 rfl (lv_at hl 2 rfl) ?_
    refine r_get C fr_X8_131 hW a_100 rfl rfl dX8_presses_29 ?_
    refine lv_iconst (v := 1) hx hb dX8_presses_32 (by decide) ?_
    refine lv_isub hx hb dX8_presses_33 ?_
    refine lv_istore_n (lv' := [(3, .int ((I 100 2) - 1)), (2, .int v_27), (1, .int v_10), (0, .ref (q 100))]) hx hb dX8_presses_34 rfl hl (by decide) rfl (fun ls hl => ?_)
    exact t_X8_presses_35 C 1000000 a_100 h hW hF (lv_sub hl [3, 2, 1, 0] rfl)
  · have h := (if_neg c_17).symm.trans h
    have h := Option.some.inj h
    subst h
    exact r_vret C hW dX8_presses_20
def f_X8_tick_126  : Nat → MI → MR → Int32 → Option (MI)
  | 0, _, _, _ => none
  | nn + 1, I, R, x2 => (if (I 100 13) ≤ x2 then (bd (f_X8_presses I R) (fun z_167 => lt (p2 z_167 100 0 ((z_167 100 0) + 1)) (fun I_177 => some (I_177)))) else (gd (ix x2 (ln 118)) ((if 1 < (I 118 x2.toNatClampNeg) then (f_X8_tick_126 nn I R (x2 + 1)) else (gd (ix x2 (ln 119)) (bd (f_X8_cooled I R (I 119 x2.toNatClampNeg)) (fun z_156 => gd (ix x2 (ln 119)) (lt (p2 I 119 x2.toNatClampNeg z_156) (fun I_159 => f_X8_tick_126 nn I_159 R (x2 + 1))))))))))
set_option maxHeartbeats 4000000 in
set_option maxRecDepth 100000 in
theorem t_X8_tick_126 {p : Program} {l : Launch} {e : Env} {s : State} {m : MethodId} {args : Array Value} {below : List Frame} {meth : Method} {c : Code} {E : EV} {q : Nat → Nat} {al : Nat → Bool} {n : Nat} (C : CX p s m args meth c E cX8_tick RX8 3 none) {res : MI}   : ∀ (nn : Nat) {I : MI} {R : MR} {x2 : Int32} {H : Heap} {locs : List Loc} {ls : Array Slot} (a_100 : al 100 = true) (h : f_X8_tick_126 nn I R x2 = some res) (hW : Wd E q al s.heap I R n H locs) (hF : Fx al R) (hl : lv_has ls 3 [(0, .ref (q 100)), (2, .int x2)]), W p l e (rmL 4 0 0) s m args below meth c H locs 0 0 (MQ below (Pst E q none al res R n) args s 0 0 (Bs E)) (F0 m 126 ls []) := by
  have hx := C.1
  have hb := C.2.1
  intro nn
  induction nn with
  | zero =>
    intro I R x2 H locs ls a_100 h
    cases (show (none : Option (MI)) = some res from h)
  | succ nn ih =>
    intro I R x2 H locs ls a_100 h hW hF hl
    rw [f_X8_tick_126.eq_2] at h
    refine lv_iload_n hx hb dX8_tick_126 rfl (lv_at hl 1 rfl) ?_
    refine lv_aload_n hx hb dX8_tick_127 rfl (lv_at hl 0 rfl) ?_
    refine r_get C fr_X8_191 hW a_100 rfl rfl dX8_tick_128 ?_
    refine lv_icmp_ge (tgt := 166) hx hb dX8_tick_131 (by decide) (fun c_131 => ?_) (fun c_131 => ?_)
    · have h := (if_pos c_131).symm.trans h
      refine lv_aload_n hx hb dX8_tick_166 rfl (lv_at hl 0 rfl) ?_
      obtain ⟨z_167, e_z_167, h⟩ := bd_some h
      refine r_callV (v := none) (As := []) (rest := []) C ml_X8_presses gm_988 gm_990 gs_40 (ci := 8) rfl hW a_100 rfl hl.1 (c_X8_presses a_100 hF e_z_167) rfl ⟨(by decide), (by decide)⟩ ⟨(by decide), (by decide)⟩ rfl (Nat.le_of_ble_eq_true rfl) dX8_tick_167 (fun H locs hW => ?_)
      refine lv_aload_n hx hb dX8_tick_170 rfl (lv_at hl 0 rfl) ?_
      refine lv_dup hx hb dX8_tick_171 rfl ?_
      refine r_get C fr_X8_197 hW a_100 rfl rfl dX8_tick_172 ?_
      refine lv_iconst (v := 1) hx hb dX8_tick_175 (by decide) ?_
      refine lv_iadd hx hb dX8_tick_176 ?_
      obtain ⟨I_177, e_I_177, h⟩ := lt_some h
      refine r_put C fr_X8_197 (Or.inl rfl) hW a_100 rfl rfl rfl rfl dX8_tick_177 (fun H locs hW => ?_)
      rw [← e_I_177] at hW
      have h := Option.some.inj h
      subst h
      exact r_vret C hW dX8_tick_180
    · have h := (if_neg c_131).symm.trans h
      refine lv_aload_n hx hb dX8_tick_134 rfl (lv_at hl 0 rfl) ?_
      have ap_135 : al 118 = true := hW.cl a_100 (hF _ 17 _ a_100 rfl)
      refine r_getq C fr_X8_54 hW a_100 rfl rfl (hF _ 17 _ a_100 rfl) dX8_tick_135 ?_
      refine lv_iload_n hx hb dX8_tick_138 rfl (lv_at hl 1 rfl) ?_
      obtain ⟨g_139, h⟩ := gd_some h
      refine r_iald C hW ap_135 rfl (ix_in g_139) dX8_tick_139 ?_
      refine lv_iconst (v := 1) hx hb dX8_tick_140 (by decide) ?_
      refine lv_icmp_gt (tgt := 160) hx hb dX8_tick_141 (by decide) (fun c_141 => ?_) (fun c_141 => ?_)
      · have h := (if_pos c_141).symm.trans h
        refine lv_iinc (v := x2 + 1) (lv' := [(2, .int (x2 + 1)), (0, .ref (q 100))]) hx hb dX8_tick_160 hl (k := 1) rfl rfl (by decide) rfl (fun ls hl => ?_)
        refine lv_goto (tgt := 126) hx hb dX8_tick_163 (by decide) ?_
        exact ih a_100 h hW hF (lv_sub hl [1, 0] rfl)
      · have h := (if_neg c_141).symm.trans h
        refine lv_aload_n hx hb dX8_tick_144 rfl (lv_at hl 0 rfl) ?_
        have ap_145 : al 119 = true := hW.cl a_100 (hF _ 18 _ a_100 rfl)
        refine r_getq C fr_X8_57 hW a_100 rfl rfl (hF _ 18 _ a_100 rfl) dX8_tick_145 ?_
        refine lv_iload_n hx hb dX8_tick_148 rfl (lv_at hl 1 rfl) ?_
        refine lv_aload_n hx hb dX8_tick_149 rfl (lv_at hl 0 rfl) ?_
        refine lv_aload_n hx hb dX8_tick_150 rfl (lv_at hl 0 rfl) ?_
        refine r_getq C fr_X8_57 hW a_100 rfl rfl (hF _ 18 _ a_100 rfl) dX8_tick_151 ?_
        refine lv_iload_n hx hb dX8_tick_154 rfl (lv_at hl 1 rfl) ?_
        obtain ⟨g_155, h⟩ := gd_some h
        refine r_iald C hW ap_145 rfl (ix_in g_155) dX8_tick_155 ?_
        obtain ⟨z_156, e_z_156, h⟩ := bd_some h
        refine r_callV (v := (some (.int z_156))) (As := [.int (I 119 x2.toNatClampNeg)]) (rest := [.int x2, .ref (q 119)]) C ml_X8_cooled gm_984 gm_986 gs_39 (ci := 8) rfl hW a_100 rfl hl.1 (c_X8_cooled a_100 hF e_z_156) rfl ⟨(by decide), (by decide)⟩ ⟨(by decide), (by decide)⟩ rfl (Nat.le_of_ble_eq_true rfl) dX8_tick_156 (fun H locs hW => ?_)
        obtain ⟨g_159, h⟩ := gd_some h
        obtain ⟨I_159, e_I_159, h⟩ := lt_some h
        refine r_iast C hW ap_145 rfl (ix_in g_159) dX8_tick_159 (fun H locs hW => ?_)
        rw [← e_I_159] at hW
        refine lv_iinc (v := x2 + 1) (lv' := [(2, .int (x2 + 1)), (0, .ref (q 100))]) hx hb dX8_tick_160 hl (k := 1) rfl rfl (by decide) rfl (fun ls hl => ?_)
        refine lv_goto (tgt := 126) hx hb dX8_tick_163 (by decide) ?_
        exact ih a_100 h hW hF (lv_sub hl [1, 0] rfl)
def f_X8_tick_95  : Nat → MI → MR → Int32 → Option (MI)
  | 0, _, _, _ => none
  | nn + 1, I, R, x2 => (if (I 100 9) ≤ x2 then (f_X8_tick_126 1000000 I R 0) else (gd (ix x2 (ln 111)) ((if (I 111 x2.toNatClampNeg) = (-1) then (f_X8_tick_95 nn I R (x2 + 1)) else (bd (f_X8_draws I R x2) (fun z_115 => f_X8_tick_95 nn z_115 R (x2 + 1)))))))
set_option maxHeartbeats 4000000 in
set_option maxRecDepth 100000 in
theorem t_X8_tick_95 {p : Program} {l : Launch} {e : Env} {s : State} {m : MethodId} {args : Array Value} {below : List Frame} {meth : Method} {c : Code} {E : EV} {q : Nat → Nat} {al : Nat → Bool} {n : Nat} (C : CX p s m args meth c E cX8_tick RX8 3 none) {res : MI}   : ∀ (nn : Nat) {I : MI} {R : MR} {x2 : Int32} {H : Heap} {locs : List Loc} {ls : Array Slot} (a_100 : al 100 = true) (h : f_X8_tick_95 nn I R x2 = some res) (hW : Wd E q al s.heap I R n H locs) (hF : Fx al R) (hl : lv_has ls 3 [(0, .ref (q 100)), (2, .int x2)]), W p l e (rmL 4 0 0) s m args below meth c H locs 0 0 (MQ below (Pst E q none al res R n) args s 0 0 (Bs E)) (F0 m 95 ls []) := by
  have hx := C.1
  have hb := C.2.1
  intro nn
  induction nn with
  | zero =>
    intro I R x2 H locs ls a_100 h
    cases (show (none : Option (MI)) = some res from h)
  | succ nn ih =>
    intro I R x2 H locs ls a_100 h hW hF hl
    rw [f_X8_tick_95.eq_2] at h
    refine lv_iload_n hx hb dX8_tick_95 rfl (lv_at hl 1 rfl) ?_
    refine lv_aload_n hx hb dX8_tick_96 rfl (lv_at hl 0 rfl) ?_
    refine r_get C fr_X8_33 hW a_100 rfl rfl dX8_tick_97 ?_
    refine lv_icmp_ge (tgt := 124) hx hb dX8_tick_100 (by decide) (fun c_100 => ?_) (fun c_100 => ?_)
    · have h := (if_pos c_100).symm.trans h
      refine lv_iconst (v := 0) hx hb dX8_tick_124 (by decide) ?_
      refine lv_istore_n (lv' := [(2, .int 0), (0, .ref (q 100))]) hx hb dX8_tick_125 rfl hl (by decide) rfl (fun ls hl => ?_)
      exact t_X8_tick_126 C 1000000 a_100 h hW hF (lv_sub hl [1, 0] rfl)
    · have h := (if_neg c_100).symm.trans h
      refine lv_aload_n hx hb dX8_tick_103 rfl (lv_at hl 0 rfl) ?_
      have ap_104 : al 111 = true := hW.cl a_100 (hF _ 10 _ a_100 rfl)
      refine r_getq C fr_X8_36 hW a_100 rfl rfl (hF _ 10 _ a_100 rfl) dX8_tick_104 ?_
      refine lv_iload_n hx hb dX8_tick_107 rfl (lv_at hl 1 rfl) ?_
      obtain ⟨g_108, h⟩ := gd_some h
      refine r_iald C hW ap_104 rfl (ix_in g_108) dX8_tick_108 ?_
      refine lv_iconst (v := (-1)) hx hb dX8_tick_109 (by decide) ?_
      refine lv_icmp_eq (tgt := 118) hx hb dX8_tick_110 (by decide) (fun c_110 => ?_) (fun c_110 => ?_)
      · have h := (if_pos c_110).symm.trans h
        refine lv_iinc (v := x2 + 1) (lv' := [(2, .int (x2 + 1)), (0, .ref (q 100))]) hx hb dX8_tick_118 hl (k := 1) rfl rfl (by decide) rfl (fun ls hl => ?_)
        refine lv_goto (tgt := 95) hx hb dX8_tick_121 (by decide) ?_
        exact ih a_100 h hW hF (lv_sub hl [1, 0] rfl)
      · have h := (if_neg c_110).symm.trans h
        refine lv_aload_n hx hb dX8_tick_113 rfl (lv_at hl 0 rfl) ?_
        refine lv_iload_n hx hb dX8_tick_114 rfl (lv_at hl 1 rfl) ?_
        obtain ⟨z_115, e_z_115, h⟩ := bd_some h
        refine r_callV (v := none) (As := [.int x2]) (rest := []) C ml_X8_draws gm_972 gm_974 gs_36 (ci := 8) rfl hW a_100 rfl hl.1 (c_X8_draws a_100 hF e_z_115) rfl ⟨(by decide), (by decide)⟩ ⟨(by decide), (by decide)⟩ rfl (Nat.le_of_ble_eq_true rfl) dX8_tick_115 (fun H locs hW => ?_)
        refine lv_iinc (v := x2 + 1) (lv' := [(2, .int (x2 + 1)), (0, .ref (q 100))]) hx hb dX8_tick_118 hl (k := 1) rfl rfl (by decide) rfl (fun ls hl => ?_)
        refine lv_goto (tgt := 95) hx hb dX8_tick_121 (by decide) ?_
        exact ih a_100 h hW hF (lv_sub hl [1, 0] rfl)
def f_X8_tick_35 (k4 : MI → MR → Int32 → Int32 → Option (MI)) (I : MI) (R : MR) (x1 : Int32) (x2 : Int32) : Option (MI) := gd (ix x2 (ln 111)) ((if (I 111 x2.toNatClampNeg) = (-1) then ((if x1 = (I 100 13) then (k4 I R x1 (x2 + 1)) else (gd (ix x2 (ln 111)) (lt (p2 I 111 x2.toNatClampNeg x1) (fun I_62 => gd (ix x1 (ln 118)) (lt (p2 I_62 118 x1.toNatClampNeg 1) (fun I_69 => gd (ix x1 (ln 120)) (lt (p2 I_69 120 x1.toNatClampNeg 0) (fun I_76 => gd (ix x1 (ln 121)) (lt (p2 I_76 121 x1.toNatClampNeg (I_76 100 0)) (fun I_86 => k4 I_86 R x1 (x2 + 1)))))))))))) else (k4 I R x1 (x2 + 1))))
set_option maxHeartbeats 4000000 in
set_option maxRecDepth 100000 in
theorem t_X8_tick_35 {p : Program} {l : Launch} {e : Env} {s : State} {m : MethodId} {args : Array Value} {below : List Frame} {meth : Method} {c : Code} {E : EV} {q : Nat → Nat} {al : Nat → Bool} {n : Nat} (C : CX p s m args meth c E cX8_tick RX8 3 none) {res : MI} {k4 : MI → MR → Int32 → Int32 → Option (MI)} (hk4 : ∀ {I : MI} {R : MR} {x1 : Int32} {x2 : Int32} {H : Heap} {locs : List Loc} {ls : Array Slot}, al 100 = true → k4 I R x1 x2 = some res → Wd E q al s.heap I R n H locs → Fx al R → lv_has ls 3 [(0, .ref (q 100)), (1, .int x1), (2, .int x2)] → W p l e (rmL 4 0 0) s m args below meth c H locs 0 0 (MQ below (Pst E q none al res R n) args s 0 0 (Bs E)) (F0 m 4 ls [])) {I : MI} {R : MR} {x1 : Int32} {x2 : Int32} (a_100 : al 100 = true) {H : Heap} {locs : List Loc} {ls : Array Slot} (h : f_X8_tick_35 k4 I R x1 x2 = some res) (hW : Wd E q al s.heap I R n H locs) (hF : Fx al R) (hl : lv_has ls 3 [(0, .ref (q 100)), (1, .int x1), (2, .int x2)]) : W p l e (rmL 4 0 0) s m args below meth c H locs 0 0 (MQ below (Pst E q none al res R n) args s 0 0 (Bs E)) (F0 m 35 ls []) := by
  have hx := C.1
  have hb := C.2.1
  unfold f_X8_tick_35 at h
  refine lv_aload_n hx hb dX8_tick_35 rfl (lv_at hl 0 rfl) ?_
  have ap_36 : al 111 = true := hW.cl a_100 (hF _ 10 _ a_100 rfl)
  refine r_getq C fr_X8_36 hW a_100 rfl rfl (hF _ 10 _ a_100 rfl) dX8_tick_36 ?_
  refine lv_iload_n hx hb dX8_tick_39 rfl (lv_at hl 2 rfl) ?_
  obtain ⟨g_40, h⟩ := gd_some h
  refine r_iald C hW ap_36 rfl (ix_in g_40) dX8_tick_40 ?_
  refine lv_iconst (v := (-1)) hx hb dX8_tick_41 (by decide) ?_
  refine lv_icmp_ne (tgt := 87) hx hb dX8_tick_42 (by decide) (fun c_42 => ?_) (fun c_42 => ?_)
  · have h := (if_neg c_42).symm.trans h
    refine lv_iinc (v := x2 + 1) (lv' := [(2, .int (x2 + 1)), (0, .ref (q 100)), (1, .int x1)]) hx hb dX8_tick_87 hl (k := 2) rfl rfl (by decide) rfl (fun ls hl => ?_)
    refine lv_goto (tgt := 4) hx hb dX8_tick_90 (by decide) ?_
    exact hk4 a_100 h hW hF (lv_sub hl [1, 2, 0] rfl)
  · have h := (if_pos c_42).symm.trans h
    refine lv_iload_n hx hb dX8_tick_45 rfl (lv_at hl 1 rfl) ?_
    refine lv_aload_n hx hb dX8_tick_46 rfl (lv_at hl 0 rfl) ?_
    refine r_get C fr_X8_191 hW a_100 rfl rfl dX8_tick_47 ?_
    refine lv_icmp_ne (tgt := 56) hx hb dX8_tick_50 (by decide) (fun c_50 => ?_) (fun c_50 => ?_)
    · have h := (if_neg c_50).symm.trans h
      refine lv_aload_n hx hb dX8_tick_56 rfl (lv_at hl 0 rfl) ?_
      refine r_getq C fr_X8_36 hW a_100 rfl rfl (hF _ 10 _ a_100 rfl) dX8_tick_57 ?_
      refine lv_iload_n hx hb dX8_tick_60 rfl (lv_at hl 2 rfl) ?_
      refine lv_iload_n hx hb dX8_tick_61 rfl (lv_at hl 1 rfl) ?_
      obtain ⟨g_62, h⟩ := gd_some h
      obtain ⟨I_62, e_I_62, h⟩ := lt_some h
      refine r_iast C hW ap_36 rfl (ix_in g_62) dX8_tick_62 (fun H locs hW => ?_)
      rw [← e_I_62] at hW
      refine lv_aload_n hx hb dX8_tick_63 rfl (lv_at hl 0 rfl) ?_
      have ap_64 : al 118 = true := hW.cl a_100 (hF _ 17 _ a_100 rfl)
      refine r_getq C fr_X8_54 hW a_100 rfl rfl (hF _ 17 _ a_100 rfl) dX8_tick_64 ?_
      refine lv_iload_n hx hb dX8_tick_67 rfl (lv_at hl 1 rfl) ?_
      refine lv_iconst (v := 1) hx hb dX8_tick_68 (by decide) ?_
      obtain ⟨g_69, h⟩ := gd_some h
      obtain ⟨I_69, e_I_69, h⟩ := lt_some h
      refine r_iast C hW ap_64 rfl (ix_in g_69) dX8_tick_69 (fun H locs hW => ?_)
      rw [← e_I_69] at hW
      refine lv_aload_n hx hb dX8_tick_70 rfl (lv_at hl 0 rfl) ?_
      have ap_71 : al 120 = true := hW.cl a_100 (hF _ 19 _ a_100 rfl)
      refine r_getq C fr_X8_60 hW a_100 rfl rfl (hF _ 19 _ a_100 rfl) dX8_tick_71 ?_
      refine lv_iload_n hx hb dX8_tick_74 rfl (lv_at hl 1 rfl) ?_
      refine lv_iconst (v := 0) hx hb dX8_tick_75 (by decide) ?_
      obtain ⟨g_76, h⟩ := gd_some h
      obtain ⟨I_76, e_I_76, h⟩ := lt_some h
      refine r_iast C hW ap_71 rfl (ix_in g_76) dX8_tick_76 (fun H locs hW => ?_)
      rw [← e_I_76] at hW
      refine lv_aload_n hx hb dX8_tick_77 rfl (lv_at hl 0 rfl) ?_
      have ap_78 : al 121 = true := hW.cl a_100 (hF _ 20 _ a_100 rfl)
      refine r_getq C fr_X8_63 hW a_100 rfl rfl (hF _ 20 _ a_100 rfl) dX8_tick_78 ?_
      refine lv_iload_n hx hb dX8_tick_81 rfl (lv_at hl 1 rfl) ?_
      refine lv_aload_n hx hb dX8_tick_82 rfl (lv_at hl 0 rfl) ?_
      refine r_get C fr_X8_197 hW a_100 rfl rfl dX8_tick_83 ?_
      obtain ⟨g_86, h⟩ := gd_some h
      obtain ⟨I_86, e_I_86, h⟩ := lt_some h
      refine r_iast C hW ap_78 rfl (ix_in g_86) dX8_tick_86 (fun H locs hW => ?_)
      rw [← e_I_86] at hW
      refine lv_iinc (v := x2 + 1) (lv' := [(2, .int (x2 + 1)), (0, .ref (q 100)), (1, .int x1)]) hx hb dX8_tick_87 hl (k := 2) rfl rfl (by decide) rfl (fun ls hl => ?_)
      refine lv_goto (tgt := 4) hx hb dX8_tick_90 (by decide) ?_
      exact hk4 a_100 h hW hF (lv_sub hl [1, 2, 0] rfl)
    · have h := (if_pos c_50).symm.trans h
      refine lv_goto (tgt := 87) hx hb dX8_tick_53 (by decide) ?_
      refine lv_iinc (v := x2 + 1) (lv' := [(2, .int (x2 + 1)), (0, .ref (q 100)), (1, .int x1)]) hx hb dX8_tick_87 hl (k := 2) rfl rfl (by decide) rfl (fun ls hl => ?_)
      refine lv_goto (tgt := 4) hx hb dX8_tick_90 (by decide) ?_
      exact hk4 a_100 h hW hF (lv_sub hl [1, 2, 0] rfl)
def f_X8_tick_12 (k4 : MI → MR → Int32 → Int32 → Option (MI)) : Nat → MI → MR → Int32 → Int32 → Option (MI)
  | 0, _, _, _, _ => none
  | nn + 1, I, R, x1, x2 => (if (I 100 13) ≤ x1 then (f_X8_tick_35 k4 I R x1 x2) else (gd (ix x1 (ln 118)) ((if (I 118 x1.toNatClampNeg) = 0 then (f_X8_tick_35 k4 I R x1 x2) else (f_X8_tick_12 k4 nn I R (x1 + 1) x2)))))
set_option maxHeartbeats 4000000 in
set_option maxRecDepth 100000 in
theorem t_X8_tick_12 {p : Program} {l : Launch} {e : Env} {s : State} {m : MethodId} {args : Array Value} {below : List Frame} {meth : Method} {c : Code} {E : EV} {q : Nat → Nat} {al : Nat → Bool} {n : Nat} (C : CX p s m args meth c E cX8_tick RX8 3 none) {res : MI} {k4 : MI → MR → Int32 → Int32 → Option (MI)} (hk4 : ∀ {I : MI} {R : MR} {x1 : Int32} {x2 : Int32} {H : Heap} {locs : List Loc} {ls : Array Slot}, al 100 = true → k4 I R x1 x2 = some res → Wd E q al s.heap I R n H locs → Fx al R → lv_has ls 3 [(0, .ref (q 100)), (1, .int x1), (2, .int x2)] → W p l e (rmL 4 0 0) s m args below meth c H locs 0 0 (MQ below (Pst E q none al res R n) args s 0 0 (Bs E)) (F0 m 4 ls [])) : ∀ (nn : Nat) {I : MI} {R : MR} {x1 : Int32} {x2 : Int32} {H : Heap} {locs : List Loc} {ls : Array Slot} (a_100 : al 100 = true) (h : f_X8_tick_12 k4 nn I R x1 x2 = some res) (hW : Wd E q al s.heap I R n H locs) (hF : Fx al R) (hl : lv_has ls 3 [(0, .ref (q 100)), (1, .int x1), (2, .int x2)]), W p l e (rmL 4 0 0) s m args below meth c H locs 0 0 (MQ below (Pst E q none al res R n) args s 0 0 (Bs E)) (F0 m 12 ls []) := by
  have hx := C.1
  have hb := C.2.1
  intro nn
  induction nn with
  | zero =>
    intro I R x1 x2 H locs ls a_100 h
    cases (show (none : Option (MI)) = some res from h)
  | succ nn ih =>
    intro I R x1 x2 H locs ls a_100 h hW hF hl
    rw [f_X8_tick_12.eq_2] at h
    refine lv_iload_n hx hb dX8_tick_12 rfl (lv_at hl 1 rfl) ?_
    refine lv_aload_n hx hb dX8_tick_13 rfl (lv_at hl 0 rfl) ?_
    refine r_get C fr_X8_191 hW a_100 rfl rfl dX8_tick_14 ?_
    refine lv_icmp_ge (tgt := 35) hx hb dX8_tick_17 (by decide) (fun c_17 => ?_) (fun c_17 => ?_)
    · have h := (if_pos c_17).symm.trans h
      exact t_X8_tick_35 C hk4 a_100 h hW hF (lv_sub hl [0, 1, 2] rfl)
    · have h := (if_neg c_17).symm.trans h
      refine lv_aload_n hx hb dX8_tick_20 rfl (lv_at hl 0 rfl) ?_
      have ap_21 : al 118 = true := hW.cl a_100 (hF _ 17 _ a_100 rfl)
      refine r_getq C fr_X8_54 hW a_100 rfl rfl (hF _ 17 _ a_100 rfl) dX8_tick_21 ?_
      refine lv_iload_n hx hb dX8_tick_24 rfl (lv_at hl 1 rfl) ?_
      obtain ⟨g_25, h⟩ := gd_some h
      refine r_iald C hW ap_21 rfl (ix_in g_25) dX8_tick_25 ?_
      refine lv_if_eq (tgt := 35) hx hb dX8_tick_26 (by decide) (fun c_26 => ?_) (fun c_26 => ?_)
      · have h := (if_pos c_26).symm.trans h
        exact t_X8_tick_35 C hk4 a_100 h hW hF (lv_sub hl [0, 1, 2] rfl)
      · have h := (if_neg c_26).symm.trans h
        refine lv_iinc (v := x1 + 1) (lv' := [(1, .int (x1 + 1)), (0, .ref (q 100)), (2, .int x2)]) hx hb dX8_tick_29 hl (k := 1) rfl rfl (by decide) rfl (fun ls hl => ?_)
        refine lv_goto (tgt := 12) hx hb dX8_tick_32 (by decide) ?_
        exact ih a_100 h hW hF (lv_sub hl [1, 0, 2] rfl)
def f_X8_tick_4  : Nat → MI → MR → Int32 → Int32 → Option (MI)
  | 0, _, _, _, _ => none
  | nn + 1, I, R, x1, x2 => (if (I 100 9) ≤ x2 then (f_X8_tick_95 1000000 I R 0) else (f_X8_tick_12 (f_X8_tick_4 nn) 1000000 I R x1 x2))
set_option maxHeartbeats 4000000 in
set_option maxRecDepth 100000 in
theorem t_X8_tick_4 {p : Program} {l : Launch} {e : Env} {s : State} {m : MethodId} {args : Array Value} {below : List Frame} {meth : Method} {c : Code} {E : EV} {q : Nat → Nat} {al : Nat → Bool} {n : Nat} (C : CX p s m args meth c E cX8_tick RX8 3 none) {res : MI}   : ∀ (nn : Nat) {I : MI} {R : MR} {x1 : Int32} {x2 : Int32} {H : Heap} {locs : List Loc} {ls : Array Slot} (a_100 : al 100 = true) (h : f_X8_tick_4 nn I R x1 x2 = some res) (hW : Wd E q al s.heap I R n H locs) (hF : Fx al R) (hl : lv_has ls 3 [(0, .ref (q 100)), (1, .int x1), (2, .int x2)]), W p l e (rmL 4 0 0) s m args below meth c H locs 0 0 (MQ below (Pst E q none al res R n) args s 0 0 (Bs E)) (F0 m 4 ls []) := by
  have hx := C.1
  have hb := C.2.1
  intro nn
  induction nn with
  | zero =>
    intro I R x1 x2 H locs ls a_100 h
    cases (show (none : Option (MI)) = some res from h)
  | succ nn ih =>
    intro I R x1 x2 H locs ls a_100 h hW hF hl
    rw [f_X8_tick_4.eq_2] at h
    refine lv_iload_n hx hb dX8_tick_4 rfl (lv_at hl 2 rfl) ?_
    refine lv_aload_n hx hb dX8_tick_5 rfl (lv_at hl 0 rfl) ?_
    refine r_get C fr_X8_33 hW a_100 rfl rfl dX8_tick_6 ?_
    refine lv_icmp_ge (tgt := 93) hx hb dX8_tick_9 (by decide) (fun c_9 => ?_) (fun c_9 => ?_)
    · have h := (if_pos c_9).symm.trans h
      refine lv_iconst (v := 0) hx hb dX8_tick_93 (by decide) ?_
      refine lv_istore_n (lv' := [(2, .int 0), (0, .ref (q 100)), (1, .int x1)]) hx hb dX8_tick_94 rfl hl (by decide) rfl (fun ls hl => ?_)
      exact t_X8_tick_95 C 1000000 a_100 h hW hF (lv_sub hl [1, 0] rfl)
    · have h := (if_neg c_9).symm.trans h
      exact t_X8_tick_12 C ih 1000000 a_100 h hW hF (lv_sub hl [0, 1, 2] rfl)
def f_X8_tick (I : MI) (R : MR) : Option (MI) := f_X8_tick_4 1000000 I R 0 0
set_option maxHeartbeats 4000000 in
set_option maxRecDepth 100000 in
theorem c_X8_tick {l : Launch} {E : EV} {q : Nat → Nat} {al : Nat → Bool} {n : Nat} {I : MI} {R : MR}  (a_100 : al 100 = true) (hF : Fx al R) {res : MI} (h : f_X8_tick I R = some res) : Ct l yX8_tick cX8_tick 3 none 4 0 0 E q al I R n [.ref (q 100)] none al res R n := by
  refine Ct.of (own := RX8) (mn := "tick") (by decide) rfl rfl (Nat.le_of_ble_eq_true rfl) ?_
  intro p e s m args below meth c ls C hmn hargs hW hl
  have hx := C.1
  have hb := C.2.1
  have hl : lv_has ls 3 [(0, .ref (q 100))] := hl
  unfold f_X8_tick at h
  refine lv_iconst (v := 0) hx hb dX8_tick_0 (by decide) ?_
  refine lv_istore_n (lv' := [(1, .int 0), (0, .ref (q 100))]) hx hb dX8_tick_1 rfl hl (by decide) rfl (fun ls hl => ?_)
  refine lv_iconst (v := 0) hx hb dX8_tick_2 (by decide) ?_
  refine lv_istore_n (lv' := [(2, .int 0), (1, .int 0), (0, .ref (q 100))]) hx hb dX8_tick_3 rfl hl (by decide) rfl (fun ls hl => ?_)
  exact t_X8_tick_4 C 1000000 a_100 h hW hF (lv_sub hl [2, 1, 0] rfl)
def f_X8_pass_27  : Nat → MI → MR → Int32 → Int32 → Option (Int32 × MI)
  | 0, _, _, _, _ => none
  | nn + 1, I, R, x1, x2 => (if x1 ≤ x2 then (some (I 100 0, I)) else (bd (f_X8_tick I R) (fun z_33 => f_X8_pass_27 nn z_33 R x1 (x2 + 1))))
set_option maxHeartbeats 4000000 in
set_option maxRecDepth 100000 in
theorem t_X8_pass_27 {p : Program} {l : Launch} {e : Env} {s : State} {m : MethodId} {args : Array Value} {below : List Frame} {meth : Method} {c : Code} {E : EV} {q : Nat → Nat} {al : Nat → Bool} {n : Nat} (C : CX p s m args meth c E cX8_pass RX8 3 (some .int)) {res : Int32 × MI}   : ∀ (nn : Nat) {I : MI} {R : MR} {x1 : Int32} {x2 : Int32} {H : Heap} {locs : List Loc} {ls : Array Slot} (a_100 : al 100 = true) (h : f_X8_pass_27 nn I R x1 x2 = some res) (hW : Wd E q al s.heap I R n H locs) (hF : Fx al R) (hl : lv_has ls 3 [(0, .ref (q 100)), (1, .int x1), (2, .int x2)]), W p l e (rmL 5 0 0) s m args below meth c H locs 0 0 (MQ below (Pst E q (some (.int res.1)) al res.2 R n) args s 0 0 (Bs E)) (F0 m 27 ls []) := by
  have hx := C.1
  have hb := C.2.1
  intro nn
  induction nn with
  | zero =>
    intro I R x1 x2 H locs ls a_100 h
    cases (show (none : Option (Int32 × MI)) = some res from h)
  | succ nn ih =>
    intro I R x1 x2 H locs ls a_100 h hW hF hl
    rw [f_X8_pass_27.eq_2] at h
    refine lv_iload_n hx hb dX8_pass_27 rfl (lv_at hl 2 rfl) ?_
    refine lv_iload_n hx hb dX8_pass_28 rfl (lv_at hl 1 rfl) ?_
    refine lv_icmp_ge (tgt := 42) hx hb dX8_pass_29 (by decide) (fun c_29 => ?_) (fun c_29 => ?_)
    · have h := (if_pos c_29).symm.trans h
      refine lv_aload_n hx hb dX8_pass_42 rfl (lv_at hl 0 rfl) ?_
      refine r_get C fr_X8_197 hW a_100 rfl rfl dX8_pass_43 ?_
      have h := Option.some.inj h
      subst h
      exact r_iret C hW dX8_pass_46
    · have h := (if_neg c_29).symm.trans h
      refine lv_aload_n hx hb dX8_pass_32 rfl (lv_at hl 0 rfl) ?_
      obtain ⟨z_33, e_z_33, h⟩ := bd_some h
      refine r_callV (v := none) (As := []) (rest := []) C ml_X8_tick gm_968 gm_970 gs_35 (ci := 8) rfl hW a_100 rfl hl.1 (c_X8_tick a_100 hF e_z_33) rfl ⟨(by decide), (by decide)⟩ ⟨(by decide), (by decide)⟩ rfl (Nat.le_of_ble_eq_true rfl) dX8_pass_33 (fun H locs hW => ?_)
      refine lv_iinc (v := x2 + 1) (lv' := [(2, .int (x2 + 1)), (0, .ref (q 100)), (1, .int x1)]) hx hb dX8_pass_36 hl (k := 2) rfl rfl (by decide) rfl (fun ls hl => ?_)
      refine lv_goto (tgt := 27) hx hb dX8_pass_39 (by decide) ?_
      exact ih a_100 h hW hF (lv_sub hl [1, 2, 0] rfl)
def f_X8_pass (I : MI) (R : MR) (x1 : Int32) : Option (Int32 × MI) := bd (f_X8_in I R x1 1 500) (fun z_5 => (if z_5 = 0 then (some ((-1), I)) else ((if ((I 100 0) + x1) ≤ 9999 then (f_X8_pass_27 1000000 I R x1 0) else (some ((-1), I))))))
set_option maxHeartbeats 4000000 in
set_option maxRecDepth 100000 in
theorem c_X8_pass {l : Launch} {E : EV} {q : Nat → Nat} {al : Nat → Bool} {n : Nat} {I : MI} {R : MR} {x1 : Int32} (a_100 : al 100 = true) (hF : Fx al R) {res : Int32 × MI} (h : f_X8_pass I R x1 = some res) : Ct l yX8_pass cX8_pass 3 (some .int) 5 0 0 E q al I R n [.ref (q 100), .int x1] (some (.int res.1)) al res.2 R n := by
  refine Ct.of (own := RX8) (mn := "pass") (by decide) rfl rfl (Nat.le_of_ble_eq_true rfl) ?_
  intro p e s m args below meth c ls C hmn hargs hW hl
  have hx := C.1
  have hb := C.2.1
  have hl : lv_has ls 3 [(0, .ref (q 100)), (1, .int x1)] := hl
  unfold f_X8_pass at h
  refine lv_iload_n hx hb dX8_pass_0 rfl (lv_at hl 1 rfl) ?_
  refine lv_iconst (v := 1) hx hb dX8_pass_1 (by decide) ?_
  refine lv_sipush (v := 500) hx hb dX8_pass_2 (by decide) ?_
  obtain ⟨z_5, e_z_5, h⟩ := bd_some h
  refine r_callS (v := (some (.int z_5))) (As := [.int x1, .int 1, .int 500]) (rest := []) C ml_X8_in gm_881 gm_882 hW hl.1 (c_X8_in  e_z_5) rfl ⟨(by decide), (by decide)⟩ ⟨(by decide), (by decide)⟩ rfl (Nat.le_of_ble_eq_true rfl) dX8_pass_5 (fun H locs hW => ?_)
  refine lv_if_eq (tgt := 23) hx hb dX8_pass_8 (by decide) (fun c_8 => ?_) (fun c_8 => ?_)
  · have h := (if_pos c_8).symm.trans h
    refine lv_iconst (v := (-1)) hx hb dX8_pass_23 (by decide) ?_
    have h := Option.some.inj h
    subst h
    exact r_iret C hW dX8_pass_24
  · have h := (if_neg c_8).symm.trans h
    refine lv_aload_n hx hb dX8_pass_11 rfl (lv_at hl 0 rfl) ?_
    refine r_get C fr_X8_197 hW a_100 rfl rfl dX8_pass_12 ?_
    refine lv_iload_n hx hb dX8_pass_15 rfl (lv_at hl 1 rfl) ?_
    refine lv_iadd hx hb dX8_pass_16 ?_
    refine lv_sipush (v := 9999) hx hb dX8_pass_17 (by decide) ?_
    refine lv_icmp_le (tgt := 25) hx hb dX8_pass_20 (by decide) (fun c_20 => ?_) (fun c_20 => ?_)
    · have h := (if_pos c_20).symm.trans h
      refine lv_iconst (v := 0) hx hb dX8_pass_25 (by decide) ?_
      refine lv_istore_n (lv' := [(2, .int 0), (0, .ref (q 100)), (1, .int x1)]) hx hb dX8_pass_26 rfl hl (by decide) rfl (fun ls hl => ?_)
      exact t_X8_pass_27 C 1000000 a_100 h hW hF (lv_sub hl [1, 2, 0] rfl)
    · have h := (if_neg c_20).symm.trans h
      refine lv_iconst (v := (-1)) hx hb dX8_pass_23 (by decide) ?_
      have h := Option.some.inj h
      subst h
      exact r_iret C hW dX8_pass_24
