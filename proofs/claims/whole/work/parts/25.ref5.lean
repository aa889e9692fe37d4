def f_X8_init_534 (q : Nat → Nat)  : Nat → MI → MR → (Nat → Bool) → Nat → Int32 → Option (MI × MR)
  | 0, _, _, _, _, _ => none
  | nn + 1, I, R, al, n, x1 => (if 5 ≤ x1 then (some (I, R)) else (bd (R 100 42) (fun z_540 => bd (f_X8_without I R x1) (fun z_545 => gd (ix x1 (ln z_540)) (lt (p2 I z_540 x1.toNatClampNeg z_545) (fun I_548 => f_X8_init_534 q nn I_548 R al n (x1 + 1)))))))
set_option maxHeartbeats 4000000 in
set_option maxRecDepth 100000 in
theorem t_X8_init_534 {p : Program} {l : Launch} {e : Env} {s : State} {m : MethodId} {args : Array Value} {below : List Frame} {meth : Method} {c : Code} {E : EV} {q : Nat → Nat} (C : CX p s m args meth c E cX8_init RX8 2 none) (hmn : meth.name = "<init>") {res : MI × MR}   : ∀ (nn : Nat) {I : MI} {R : MR} {al : Nat → Bool} {n : Nat} {x1 : Int32} {H : Heap} {locs : List Loc} {ls : Array Slot} (a_100 : al 100 = true) (h : f_X8_init_534 q nn I R al n x1 = some res) (hW : Wd E q al s.heap I R n H locs) (hl : lv_has ls 2 [(0, .ref (q 100)), (1, .int x1)]), W p l e (rmL 2 34 988) s m args below meth c H locs 34 988 (MQ below (Pst E q none al res.1 res.2 n) args s 34 988 (Bs E)) (F0 m 534 ls []) := by
  have hx := C.1
  have hb := C.2.1
  intro nn
  induction nn with
  | zero =>
    intro I R al n x1 H locs ls a_100 h
    cases (show (none : Option (MI × MR)) = some res from h)
  | succ nn ih =>
    intro I R al n x1 H locs ls a_100 h hW hl
    rw [f_X8_init_534.eq_2] at h
    refine lv_iload_n hx hb dX8_init_534 rfl (lv_at hl 1 rfl) ?_
    refine lv_iconst (v := 5) hx hb dX8_init_535 (by decide) ?_
    refine lv_icmp_ge (tgt := 555) hx hb dX8_init_536 (by decide) (fun c_536 => ?_) (fun c_536 => ?_)
    · have h := (if_pos c_536).symm.trans h
      have h := Option.some.inj h
      subst h
      exact r_vret C hW dX8_init_555
    · have h := (if_neg c_536).symm.trans h
      refine lv_aload_n hx hb dX8_init_539 rfl (lv_at hl 0 rfl) ?_
      obtain ⟨z_540, e_z_540, h⟩ := bd_some h
      have a_z_540 : al z_540 = true := hW.cl a_100 e_z_540
      have k_z_540 : kd z_540 = 10 := hW.kn a_100 e_z_540 (by rfl)
      refine r_getq C fr_X8_94 hW a_100 rfl rfl e_z_540 dX8_init_540 ?_
      refine lv_iload_n hx hb dX8_init_543 rfl (lv_at hl 1 rfl) ?_
      refine lv_iload_n hx hb dX8_init_544 rfl (lv_at hl 1 rfl) ?_
      obtain ⟨z_545, e_z_545, h⟩ := bd_some h
      refine r_callS (v := (some (.int z_545))) (As := [.int x1]) (rest := [.int x1, .ref (q z_540)]) C ml_X8_without gm_705 gm_706 hW hl.1 (c_X8_without  e_z_545) rfl ⟨(by decide), (by decide)⟩ ⟨(by decide), (by decide)⟩ rfl (Nat.le_of_ble_eq_true rfl) dX8_init_545 (fun H locs hW => ?_)
      obtain ⟨g_548, h⟩ := gd_some h
      obtain ⟨I_548, e_I_548, h⟩ := lt_some h
      refine r_iast C hW a_z_540 k_z_540 (ix_in g_548) dX8_init_548 (fun H locs hW => ?_)
      rw [← e_I_548] at hW
      refine lv_iinc (v := x1 + 1) (lv' := [(1, .int (x1 + 1)), (0, .ref (q 100))]) hx hb dX8_init_549 hl (k := 1) rfl rfl (by decide) rfl (fun ls hl => ?_)
      refine lv_goto (tgt := 534) hx hb dX8_init_552 (by decide) ?_
      exact ih a_100 h hW (lv_sub hl [1, 0] rfl)
def f_X8_init_493 (q : Nat → Nat)  : Nat → MI → MR → (Nat → Bool) → Nat → Int32 → Option (MI × MR)
  | 0, _, _, _, _, _ => none
  | nn + 1, I, R, al, n, x1 => (if 24 ≤ x1 then (lt (p2 I 100 36 1) (fun I_514 => bd (R 100 37) (fun z_518 => gd (ix 0 (ln z_518)) (lt (p2 I_514 z_518 (0 : Int32).toNatClampNeg 0) (fun I_523 => bd (R 100 38) (fun z_525 => gd (ix 0 (ln z_525)) (lt (p2 I_523 z_525 (0 : Int32).toNatClampNeg 20) (fun I_531 => f_X8_init_534 q 1000000 I_531 R al n 0)))))))) else (bd (R 100 11) (fun z_500 => gd (ix x1 (ln z_500)) (lt (p2 I z_500 x1.toNatClampNeg 1) (fun I_505 => f_X8_init_493 q nn I_505 R al n (x1 + 1))))))
set_option maxHeartbeats 4000000 in
set_option maxRecDepth 100000 in
theorem t_X8_init_493 {p : Program} {l : Launch} {e : Env} {s : State} {m : MethodId} {args : Array Value} {below : List Frame} {meth : Method} {c : Code} {E : EV} {q : Nat → Nat} (C : CX p s m args meth c E cX8_init RX8 2 none) (hmn : meth.name = "<init>") {res : MI × MR}   : ∀ (nn : Nat) {I : MI} {R : MR} {al : Nat → Bool} {n : Nat} {x1 : Int32} {H : Heap} {locs : List Loc} {ls : Array Slot} (a_100 : al 100 = true) (h : f_X8_init_493 q nn I R al n x1 = some res) (hW : Wd E q al s.heap I R n H locs) (hl : lv_has ls 2 [(0, .ref (q 100)), (1, .int x1)]), W p l e (rmL 2 34 988) s m args below meth c H locs 34 988 (MQ below (Pst E q none al res.1 res.2 n) args s 34 988 (Bs E)) (F0 m 493 ls []) := by
  have hx := C.1
  have hb := C.2.1
  intro nn
  induction nn with
  | zero =>
    intro I R al n x1 H locs ls a_100 h
    cases (show (none : Option (MI × MR)) = some res from h)
  | succ nn ih =>
    intro I R al n x1 H locs ls a_100 h hW hl
    rw [f_X8_init_493.eq_2] at h
    refine lv_iload_n hx hb dX8_init_493 rfl (lv_at hl 1 rfl) ?_
    refine lv_bipush (v := 24) hx hb dX8_init_494 (by decide) ?_
    refine lv_icmp_ge (tgt := 512) hx hb dX8_init_496 (by decide) (fun c_496 => ?_) (fun c_496 => ?_)
    · have h := (if_pos c_496).symm.trans h
      refine lv_aload_n hx hb dX8_init_512 rfl (lv_at hl 0 rfl) ?_
      refine lv_iconst (v := 1) hx hb dX8_init_513 (by decide) ?_
      obtain ⟨I_514, e_I_514, h⟩ := lt_some h
      refine r_put C fr_X8_124 (Or.inl rfl) hW a_100 rfl rfl rfl rfl dX8_init_514 (fun H locs hW => ?_)
      rw [← e_I_514] at hW
      refine lv_aload_n hx hb dX8_init_517 rfl (lv_at hl 0 rfl) ?_
      obtain ⟨z_518, e_z_518, h⟩ := bd_some h
      have a_z_518 : al z_518 = true := hW.cl a_100 e_z_518
      have k_z_518 : kd z_518 = 10 := hW.kn a_100 e_z_518 (by rfl)
      refine r_getq C fr_X8_82 hW a_100 rfl rfl e_z_518 dX8_init_518 ?_
      refine lv_iconst (v := 0) hx hb dX8_init_521 (by decide) ?_
      refine lv_iconst (v := 0) hx hb dX8_init_522 (by decide) ?_
      obtain ⟨g_523, h⟩ := gd_some h
      obtain ⟨I_523, e_I_523, h⟩ := lt_some h
      refine r_iast C hW a_z_518 k_z_518 (ix_in g_523) dX8_init_523 (fun H locs hW => ?_)
      rw [← e_I_523] at hW
      refine lv_aload_n hx hb dX8_init_524 rfl (lv_at hl 0 rfl) ?_
      obtain ⟨z_525, e_z_525, h⟩ := bd_some h
      have a_z_525 : al z_525 = true := hW.cl a_100 e_z_525
      have k_z_525 : kd z_525 = 10 := hW.kn a_100 e_z_525 (by rfl)
      refine r_getq C fr_X8_85 hW a_100 rfl rfl e_z_525 dX8_init_525 ?_
      refine lv_iconst (v := 0) hx hb dX8_init_528 (by decide) ?_
      refine lv_bipush (v := 20) hx hb dX8_init_529 (by decide) ?_
      obtain ⟨g_531, h⟩ := gd_some h
      obtain ⟨I_531, e_I_531, h⟩ := lt_some h
      refine r_iast C hW a_z_525 k_z_525 (ix_in g_531) dX8_init_531 (fun H locs hW => ?_)
      rw [← e_I_531] at hW
      refine lv_iconst (v := 0) hx hb dX8_init_532 (by decide) ?_
      refine lv_istore_n (lv' := [(1, .int 0), (0, .ref (q 100))]) hx hb dX8_init_533 rfl hl (by decide) rfl (fun ls hl => ?_)
      exact t_X8_init_534 C hmn 1000000 a_100 h hW (lv_sub hl [1, 0] rfl)
    · have h := (if_neg c_496).symm.trans h
      refine lv_aload_n hx hb dX8_init_499 rfl (lv_at hl 0 rfl) ?_
      obtain ⟨z_500, e_z_500, h⟩ := bd_some h
      have a_z_500 : al z_500 = true := hW.cl a_100 e_z_500
      have k_z_500 : kd z_500 = 10 := hW.kn a_100 e_z_500 (by rfl)
      refine r_getq C fr_X8_39 hW a_100 rfl rfl e_z_500 dX8_init_500 ?_
      refine lv_iload_n hx hb dX8_init_503 rfl (lv_at hl 1 rfl) ?_
      refine lv_iconst (v := 1) hx hb dX8_init_504 (by decide) ?_
      obtain ⟨g_505, h⟩ := gd_some h
      obtain ⟨I_505, e_I_505, h⟩ := lt_some h
      refine r_iast C hW a_z_500 k_z_500 (ix_in g_505) dX8_init_505 (fun H locs hW => ?_)
      rw [← e_I_505] at hW
      refine lv_iinc (v := x1 + 1) (lv' := [(1, .int (x1 + 1)), (0, .ref (q 100))]) hx hb dX8_init_506 hl (k := 1) rfl rfl (by decide) rfl (fun ls hl => ?_)
      refine lv_goto (tgt := 493) hx hb dX8_init_509 (by decide) ?_
      exact ih a_100 h hW (lv_sub hl [1, 0] rfl)
set_option maxRecDepth 100000 in
def f_X8_init (q : Nat → Nat) (I : MI) (R : MR) (al : Nat → Bool) (n : Nat) : Option (MI × MR) := lt (p2 I 100 1 15) (fun I_7 => gd (al 104 = false ∧ q 104 = n ∧ kd 104 = 10 ∧ (4 : Int32).toNatClampNeg = ln 104) (lt (zI I_7 104) (fun I_12 => lt (zR R 104) (fun R_12 => lt (pq R_12 100 3 (some 104)) (fun R_14 => gd ((alu al 104) 105 = false ∧ q 105 = (n + 1) ∧ kd 105 = 10 ∧ (4 : Int32).toNatClampNeg = ln 105) (lt (zI I_12 105) (fun I_19 => lt (zR R_14 105) (fun R_19 => lt (pq R_19 100 4 (some 105)) (fun R_21 => gd ((alu (alu al 104) 105) 106 = false ∧ q 106 = ((n + 1) + 1) ∧ kd 106 = 10 ∧ (4 : Int32).toNatClampNeg = ln 106) (lt (zI I_19 106) (fun I_26 => lt (zR R_21 106) (fun R_26 => lt (pq R_26 100 5 (some 106)) (fun R_28 => gd ((alu (alu (alu al 104) 105) 106) 107 = false ∧ q 107 = (((n + 1) + 1) + 1) ∧ kd 107 = 10 ∧ (4 : Int32).toNatClampNeg = ln 107) (lt (zI I_26 107) (fun I_33 => lt (zR R_28 107) (fun R_33 => lt (pq R_33 100 6 (some 107)) (fun R_35 => gd ((alu (alu (alu (alu al 104) 105) 106) 107) 108 = false ∧ q 108 = ((((n + 1) + 1) + 1) + 1) ∧ kd 108 = 10 ∧ (4 : Int32).toNatClampNeg = ln 108) (lt (zI I_33 108) (fun I_40 => lt (zR R_35 108) (fun R_40 => lt (pq R_40 100 7 (some 108)) (fun R_42 => gd ((alu (alu (alu (alu (alu al 104) 105) 106) 107) 108) 109 = false ∧ q 109 = (((((n + 1) + 1) + 1) + 1) + 1) ∧ kd 109 = 11 ∧ (4 : Int32).toNatClampNeg = ln 109) (lt (zI I_40 109) (fun I_47 => lt (zR R_42 109) (fun R_47 => lt (pq R_47 100 8 (some 109)) (fun R_49 => lt (p2 I_47 100 9 1) (fun I_54 => gd ((alu (alu (alu (alu (alu (alu al 104) 105) 106) 107) 108) 109) 111 = false ∧ q 111 = ((((((n + 1) + 1) + 1) + 1) + 1) + 1) ∧ kd 111 = 10 ∧ (2 : Int32).toNatClampNeg = ln 111) (lt (zI I_54 111) (fun I_59 => lt (zR R_49 111) (fun R_59 => gd (ix 0 (ln 111)) (lt (p2 I_59 111 (0 : Int32).toNatClampNeg (-1)) (fun I_64 => gd (ix 1 (ln 111)) (lt (p2 I_64 111 (1 : Int32).toNatClampNeg (-1)) (fun I_68 => lt (pq R_59 100 10 (some 111)) (fun R_69 => gd ((alu (alu (alu (alu (alu (alu (alu al 104) 105) 106) 107) 108) 109) 111) 112 = false ∧ q 112 = (((((((n + 1) + 1) + 1) + 1) + 1) + 1) + 1) ∧ kd 112 = 10 ∧ (24 : Int32).toNatClampNeg = ln 112) (lt (zI I_68 112) (fun I_75 => lt (zR R_69 112) (fun R_75 => lt (pq R_75 100 11 (some 112)) (fun R_77 => gd ((alu (alu (alu (alu (alu (alu (alu (alu al 104) 105) 106) 107) 108) 109) 111) 112) 113 = false ∧ q 113 = ((((((((n + 1) + 1) + 1) + 1) + 1) + 1) + 1) + 1) ∧ kd 113 = 11 ∧ (24 : Int32).toNatClampNeg = ln 113) (lt (zI I_75 113) (fun I_83 => lt (zR R_77 113) (fun R_83 => lt (pq R_83 100 12 (some 113)) (fun R_85 => gd ((alu (alu (alu (alu (alu (alu (alu (alu (alu al 104) 105) 106) 107) 108) 109) 111) 112) 113) 115 = false ∧ q 115 = (((((((((n + 1) + 1) + 1) + 1) + 1) + 1) + 1) + 1) + 1) ∧ kd 115 = 10 ∧ (60 : Int32).toNatClampNeg = ln 115) (lt (zI I_83 115) (fun I_91 => lt (zR R_85 115) (fun R_91 => lt (pq R_91 100 14 (some 115)) (fun R_93 => gd ((alu (alu (alu (alu (alu (alu (alu (alu (alu (alu al 104) 105) 106) 107) 108) 109) 111) 112) 113) 115) 116 = false ∧ q 116 = ((((((((((n + 1) + 1) + 1) + 1) + 1) + 1) + 1) + 1) + 1) + 1) ∧ kd 116 = 10 ∧ (60 : Int32).toNatClampNeg = ln 116) (lt (zI I_91 116) (fun I_99 => lt (zR R_93 116) (fun R_99 => lt (pq R_99 100 15 (some 116)) (fun R_101 => gd ((alu (alu (alu (alu (alu (alu (alu (alu (alu (alu (alu al 104) 105) 106) 107) 108) 109) 111) 112) 113) 115) 116) 117 = false ∧ q 117 = (((((((((((n + 1) + 1) + 1) + 1) + 1) + 1) + 1) + 1) + 1) + 1) + 1) ∧ kd 117 = 10 ∧ (60 : Int32).toNatClampNeg = ln 117) (lt (zI I_99 117) (fun I_107 => lt (zR R_101 117) (fun R_107 => lt (pq R_107 100 16 (some 117)) (fun R_109 => gd ((alu (alu (alu (alu (alu (alu (alu (alu (alu (alu (alu (alu al 104) 105) 106) 107) 108) 109) 111) 112) 113) 115) 116) 117) 118 = false ∧ q 118 = ((((((((((((n + 1) + 1) + 1) + 1) + 1) + 1) + 1) + 1) + 1) + 1) + 1) + 1) ∧ kd 118 = 10 ∧ (60 : Int32).toNatClampNeg = ln 118) (lt (zI I_107 118) (fun I_115 => lt (zR R_109 118) (fun R_115 => lt (pq R_115 100 17 (some 118)) (fun R_117 => gd ((alu (alu (alu (alu (alu (alu (alu (alu (alu (alu (alu (alu (alu al 104) 105) 106) 107) 108) 109) 111) 112) 113) 115) 116) 117) 118) 119 = false ∧ q 119 = (((((((((((((n + 1) + 1) + 1) + 1) + 1) + 1) + 1) + 1) + 1) + 1) + 1) + 1) + 1) ∧ kd 119 = 10 ∧ (60 : Int32).toNatClampNeg = ln 119) (lt (zI I_115 119) (fun I_123 => lt (zR R_117 119) (fun R_123 => lt (pq R_123 100 18 (some 119)) (fun R_125 => gd ((alu (alu (alu (alu (alu (alu (alu (alu (alu (alu (alu (alu (alu (alu al 104) 105) 106) 107) 108) 109) 111) 112) 113) 115) 116) 117) 118) 119) 120 = false ∧ q 120 = ((((((((((((((n + 1) + 1) + 1) + 1) + 1) + 1) + 1) + 1) + 1) + 1) + 1) + 1) + 1) + 1) ∧ kd 120 = 10 ∧ (60 : Int32).toNatClampNeg = ln 120) (lt (zI I_123 120) (fun I_131 => lt (zR R_125 120) (fun R_131 => lt (pq R_131 100 19 (some 120)) (fun R_133 => gd ((alu (alu (alu (alu (alu (alu (alu (alu (alu (alu (alu (alu (alu (alu (alu al 104) 105) 106) 107) 108) 109) 111) 112) 113) 115) 116) 117) 118) 119) 120) 121 = false ∧ q 121 = (((((((((((((((n + 1) + 1) + 1) + 1) + 1) + 1) + 1) + 1) + 1) + 1) + 1) + 1) + 1) + 1) + 1) ∧ kd 121 = 10 ∧ (60 : Int32).toNatClampNeg = ln 121) (lt (zI I_131 121) (fun I_139 => lt (zR R_133 121) (fun R_139 => lt (pq R_139 100 20 (some 121)) (fun R_141 => gd ((alu (alu (alu (alu (alu (alu (alu (alu (alu (alu (alu (alu (alu (alu (alu (alu al 104) 105) 106) 107) 108) 109) 111) 112) 113) 115) 116) 117) 118) 119) 120) 121) 122 = false ∧ q 122 = ((((((((((((((((n + 1) + 1) + 1) + 1) + 1) + 1) + 1) + 1) + 1) + 1) + 1) + 1) + 1) + 1) + 1) + 1) ∧ kd 122 = 10 ∧ (60 : Int32).toNatClampNeg = ln 122) (lt (zI I_139 122) (fun I_147 => lt (zR R_141 122) (fun R_147 => lt (pq R_147 100 21 (some 122)) (fun R_149 => gd ((alu (alu (alu (alu (alu (alu (alu (alu (alu (alu (alu (alu (alu (alu (alu (alu (alu al 104) 105) 106) 107) 108) 109) 111) 112) 113) 115) 116) 117) 118) 119) 120) 121) 122) 123 = false ∧ q 123 = (((((((((((((((((n + 1) + 1) + 1) + 1) + 1) + 1) + 1) + 1) + 1) + 1) + 1) + 1) + 1) + 1) + 1) + 1) + 1) ∧ kd 123 = 10 ∧ (60 : Int32).toNatClampNeg = ln 123) (lt (zI I_147 123) (fun I_155 => lt (zR R_149 123) (fun R_155 => lt (pq R_155 100 22 (some 123)) (fun R_157 => gd ((alu (alu (alu (alu (alu (alu (alu (alu (alu (alu (alu (alu (alu (alu (alu (alu (alu (alu al 104) 105) 106) 107) 108) 109) 111) 112) 113) 115) 116) 117) 118) 119) 120) 121) 122) 123) 124 = false ∧ q 124 = ((((((((((((((((((n + 1) + 1) + 1) + 1) + 1) + 1) + 1) + 1) + 1) + 1) + 1) + 1) + 1) + 1) + 1) + 1) + 1) + 1) ∧ kd 124 = 11 ∧ (60 : Int32).toNatClampNeg = ln 124) (lt (zI I_155 124) (fun I_163 => lt (zR R_157 124) (fun R_163 => lt (pq R_163 100 23 (some 124)) (fun R_165 => lt (p2 I_163 100 29 2) (fun I_170 => gd ((alu (alu (alu (alu (alu (alu (alu (alu (alu (alu (alu (alu (alu (alu (alu (alu (alu (alu (alu al 104) 105) 106) 107) 108) 109) 111) 112) 113) 115) 116) 117) 118) 119) 120) 121) 122) 123) 124) 131 = false ∧ q 131 = (((((((((((((((((((n + 1) + 1) + 1) + 1) + 1) + 1) + 1) + 1) + 1) + 1) + 1) + 1) + 1) + 1) + 1) + 1) + 1) + 1) + 1) ∧ kd 131 = 9 ∧ (200 : Int32).toNatClampNeg = ln 131) (lt (zI I_170 131) (fun I_177 => lt (zR R_165 131) (fun R_177 => lt (pq R_177 100 30 (some 131)) (fun R_179 => gd ((alu (alu (alu (alu (alu (alu (alu (alu (alu (alu (alu (alu (alu (alu (alu (alu (alu (alu (alu (alu al 104) 105) 106) 107) 108) 109) 111) 112) 113) 115) 116) 117) 118) 119) 120) 121) 122) 123) 124) 131) 138 = false ∧ q 138 = ((((((((((((((((((((n + 1) + 1) + 1) + 1) + 1) + 1) + 1) + 1) + 1) + 1) + 1) + 1) + 1) + 1) + 1) + 1) + 1) + 1) + 1) + 1) ∧ kd 138 = 10 ∧ (8 : Int32).toNatClampNeg = ln 138) (lt (zI I_177 138) (fun I_185 => lt (zR R_179 138) (fun R_185 => lt (pq R_185 100 37 (some 138)) (fun R_187 => gd ((alu (alu (alu (alu (alu (alu (alu (alu (alu (alu (alu (alu (alu (alu (alu (alu (alu (alu (alu (alu (alu al 104) 105) 106) 107) 108) 109) 111) 112) 113) 115) 116) 117) 118) 119) 120) 121) 122) 123) 124) 131) 138) 139 = false ∧ q 139 = (((((((((((((((((((((n + 1) + 1) + 1) + 1) + 1) + 1) + 1) + 1) + 1) + 1) + 1) + 1) + 1) + 1) + 1) + 1) + 1) + 1) + 1) + 1) + 1) ∧ kd 139 = 10 ∧ (8 : Int32).toNatClampNeg = ln 139) (lt (zI I_185 139) (fun I_193 => lt (zR R_187 139) (fun R_193 => lt (pq R_193 100 38 (some 139)) (fun R_195 => gd ((alu (alu (alu (alu (alu (alu (alu (alu (alu (alu (alu (alu (alu (alu (alu (alu (alu (alu (alu (alu (alu (alu al 104) 105) 106) 107) 108) 109) 111) 112) 113) 115) 116) 117) 118) 119) 120) 121) 122) 123) 124) 131) 138) 139) 141 = false ∧ q 141 = ((((((((((((((((((((((n + 1) + 1) + 1) + 1) + 1) + 1) + 1) + 1) + 1) + 1) + 1) + 1) + 1) + 1) + 1) + 1) + 1) + 1) + 1) + 1) + 1) + 1) ∧ kd 141 = 10 ∧ (8 : Int32).toNatClampNeg = ln 141) (lt (zI I_193 141) (fun I_201 => lt (zR R_195 141) (fun R_201 => lt (pq R_201 100 40 (some 141)) (fun R_203 => gd ((alu (alu (alu (alu (alu (alu (alu (alu (alu (alu (alu (alu (alu (alu (alu (alu (alu (alu (alu (alu (alu (alu (alu al 104) 105) 106) 107) 108) 109) 111) 112) 113) 115) 116) 117) 118) 119) 120) 121) 122) 123) 124) 131) 138) 139) 141) 142 = false ∧ q 142 = (((((((((((((((((((((((n + 1) + 1) + 1) + 1) + 1) + 1) + 1) + 1) + 1) + 1) + 1) + 1) + 1) + 1) + 1) + 1) + 1) + 1) + 1) + 1) + 1) + 1) + 1) ∧ kd 142 = 10 ∧ (8 : Int32).toNatClampNeg = ln 142) (lt (zI I_201 142) (fun I_209 => lt (zR R_203 142) (fun R_209 => lt (pq R_209 100 41 (some 142)) (fun R_211 => gd ((alu (alu (alu (alu (alu (alu (alu (alu (alu (alu (alu (alu (alu (alu (alu (alu (alu (alu (alu (alu (alu (alu (alu (alu al 104) 105) 106) 107) 108) 109) 111) 112) 113) 115) 116) 117) 118) 119) 120) 121) 122) 123) 124) 131) 138) 139) 141) 142) 143 = false ∧ q 143 = ((((((((((((((((((((((((n + 1) + 1) + 1) + 1) + 1) + 1) + 1) + 1) + 1) + 1) + 1) + 1) + 1) + 1) + 1) + 1) + 1) + 1) + 1) + 1) + 1) + 1) + 1) + 1) ∧ kd 143 = 10 ∧ (5 : Int32).toNatClampNeg = ln 143) (lt (zI I_209 143) (fun I_216 => lt (zR R_211 143) (fun R_216 => lt (pq R_216 100 42 (some 143)) (fun R_218 => gd ((alu (alu (alu (alu (alu (alu (alu (alu (alu (alu (alu (alu (alu (alu (alu (alu (alu (alu (alu (alu (alu (alu (alu (alu (alu al 104) 105) 106) 107) 108) 109) 111) 112) 113) 115) 116) 117) 118) 119) 120) 121) 122) 123) 124) 131) 138) 139) 141) 142) 143) 144 = false ∧ q 144 = (((((((((((((((((((((((((n + 1) + 1) + 1) + 1) + 1) + 1) + 1) + 1) + 1) + 1) + 1) + 1) + 1) + 1) + 1) + 1) + 1) + 1) + 1) + 1) + 1) + 1) + 1) + 1) + 1) ∧ kd 144 = 10 ∧ (5 : Int32).toNatClampNeg = ln 144) (lt (zI I_216 144) (fun I_223 => lt (zR R_218 144) (fun R_223 => lt (pq R_223 100 43 (some 144)) (fun R_225 => gd ((alu (alu (alu (alu (alu (alu (alu (alu (alu (alu (alu (alu (alu (alu (alu (alu (alu (alu (alu (alu (alu (alu (alu (alu (alu (alu al 104) 105) 106) 107) 108) 109) 111) 112) 113) 115) 116) 117) 118) 119) 120) 121) 122) 123) 124) 131) 138) 139) 141) 142) 143) 144) 145 = false ∧ q 145 = ((((((((((((((((((((((((((n + 1) + 1) + 1) + 1) + 1) + 1) + 1) + 1) + 1) + 1) + 1) + 1) + 1) + 1) + 1) + 1) + 1) + 1) + 1) + 1) + 1) + 1) + 1) + 1) + 1) + 1) ∧ kd 145 = 9 ∧ (36 : Int32).toNatClampNeg = ln 145) (lt (zI I_223 145) (fun I_231 => lt (zR R_225 145) (fun R_231 => gd (ix 0 (ln 145)) (lt (p2 I_231 145 (0 : Int32).toNatClampNeg (vp_nar .byte 119)) (fun I_237 => gd (ix 1 (ln 145)) (lt (p2 I_237 145 (1 : Int32).toNatClampNeg (vp_nar .byte 97)) (fun I_242 => gd (ix 2 (ln 145)) (lt (p2 I_242 145 (2 : Int32).toNatClampNeg (vp_nar .byte 114)) (fun I_247 => gd (ix 3 (ln 145)) (lt (p2 I_247 145 (3 : Int32).toNatClampNeg (vp_nar .byte 109)) (fun I_252 => gd (ix 4 (ln 145)) (lt (p2 I_252 145 (4 : Int32).toNatClampNeg (vp_nar .byte 0)) (fun I_256 => gd (ix 5 (ln 145)) (lt (p2 I_256 145 (5 : Int32).toNatClampNeg (vp_nar .byte 0)) (fun I_260 => gd (ix 6 (ln 145)) (lt (p2 I_260 145 (6 : Int32).toNatClampNeg (vp_nar .byte 99)) (fun I_266 => gd (ix 7 (ln 145)) (lt (p2 I_266 145 (7 : Int32).toNatClampNeg (vp_nar .byte 111)) (fun I_272 => gd (ix 8 (ln 145)) (lt (p2 I_272 145 (8 : Int32).toNatClampNeg (vp_nar .byte 111)) (fun I_278 => gd (ix 9 (ln 145)) (lt (p2 I_278 145 (9 : Int32).toNatClampNeg (vp_nar .byte 108)) (fun I_284 => gd (ix 10 (ln 145)) (lt (p2 I_284 145 (10 : Int32).toNatClampNeg (vp_nar .byte 0)) (fun I_289 => gd (ix 11 (ln 145)) (lt (p2 I_289 145 (11 : Int32).toNatClampNeg (vp_nar .byte 0)) (fun I_294 => gd (ix 12 (ln 145)) (lt (p2 I_294 145 (12 : Int32).toNatClampNeg (vp_nar .byte 108)) (fun I_300 => gd (ix 13 (ln 145)) (lt (p2 I_300 145 (13 : Int32).toNatClampNeg (vp_nar .byte 105)) (fun I_306 => gd (ix 14 (ln 145)) (lt (p2 I_306 145 (14 : Int32).toNatClampNeg (vp_nar .byte 109)) (fun I_312 => gd (ix 15 (ln 145)) (lt (p2 I_312 145 (15 : Int32).toNatClampNeg (vp_nar .byte 105)) (fun I_318 => gd (ix 16 (ln 145)) (lt (p2 I_318 145 (16 : Int32).toNatClampNeg (vp_nar .byte 116)) (fun I_324 => gd (ix 17 (ln 145)) (lt (p2 I_324 145 (17 : Int32).toNatClampNeg (vp_nar .byte 0)) (fun I_329 => gd (ix 18 (ln 145)) (lt (p2 I_329 145 (18 : Int32).toNatClampNeg (vp_nar .byte 112)) (fun I_335 => gd (ix 19 (ln 145)) (lt (p2 I_335 145 (19 : Int32).toNatClampNeg (vp_nar .byte 114)) (fun I_341 => gd (ix 20 (ln 145)) (lt (p2 I_341 145 (20 : Int32).toNatClampNeg (vp_nar .byte 101)) (fun I_347 => gd (ix 21 (ln 145)) (lt (p2 I_347 145 (21 : Int32).toNatClampNeg (vp_nar .byte 115)) (fun I_353 => gd (ix 22 (ln 145)) (lt (p2 I_353 145 (22 : Int32).toNatClampNeg (vp_nar .byte 115)) (fun I_359 => gd (ix 23 (ln 145)) (lt (p2 I_359 145 (23 : Int32).toNatClampNeg (vp_nar .byte 0)) (fun I_364 => gd (ix 24 (ln 145)) (lt (p2 I_364 145 (24 : Int32).toNatClampNeg (vp_nar .byte 115)) (fun I_370 => gd (ix 25 (ln 145)) (lt (p2 I_370 145 (25 : Int32).toNatClampNeg (vp_nar .byte 119)) (fun I_376 => gd (ix 26 (ln 145)) (lt (p2 I_376 145 (26 : Int32).toNatClampNeg (vp_nar .byte 105)) (fun I_382 => gd (ix 27 (ln 145)) (lt (p2 I_382 145 (27 : Int32).toNatClampNeg (vp_nar .byte 116)) (fun I_388 => gd (ix 28 (ln 145)) (lt (p2 I_388 145 (28 : Int32).toNatClampNeg (vp_nar .byte 99)) (fun I_394 => gd (ix 29 (ln 145)) (lt (p2 I_394 145 (29 : Int32).toNatClampNeg (vp_nar .byte 104)) (fun I_400 => gd (ix 30 (ln 145)) (lt (p2 I_400 145 (30 : Int32).toNatClampNeg (vp_nar .byte 102)) (fun I_406 => gd (ix 31 (ln 145)) (lt (p2 I_406 145 (31 : Int32).toNatClampNeg (vp_nar .byte 108)) (fun I_412 => gd (ix 32 (ln 145)) (lt (p2 I_412 145 (32 : Int32).toNatClampNeg (vp_nar .byte 111)) (fun I_418 => gd (ix 33 (ln 145)) (lt (p2 I_418 145 (33 : Int32).toNatClampNeg (vp_nar .byte 119)) (fun I_424 => gd (ix 34 (ln 145)) (lt (p2 I_424 145 (34 : Int32).toNatClampNeg (vp_nar .byte 0)) (fun I_429 => gd (ix 35 (ln 145)) (lt (p2 I_429 145 (35 : Int32).toNatClampNeg (vp_nar .byte 0)) (fun I_434 => lt (pq R_231 100 44 (some 145)) (fun R_435 => gd ((alu (alu (alu (alu (alu (alu (alu (alu (alu (alu (alu (alu (alu (alu (alu (alu (alu (alu (alu (alu (alu (alu (alu (alu (alu (alu (alu al 104) 105) 106) 107) 108) 109) 111) 112) 113) 115) 116) 117) 118) 119) 120) 121) 122) 123) 124) 131) 138) 139) 141) 142) 143) 144) 145) 150 = false ∧ q 150 = (((((((((((((((((((((((((((n + 1) + 1) + 1) + 1) + 1) + 1) + 1) + 1) + 1) + 1) + 1) + 1) + 1) + 1) + 1) + 1) + 1) + 1) + 1) + 1) + 1) + 1) + 1) + 1) + 1) + 1) + 1) ∧ kd 150 = 10 ∧ (6 : Int32).toNatClampNeg = ln 150) (lt (zI I_434 150) (fun I_441 => lt (zR R_435 150) (fun R_441 => lt (pq R_441 100 49 (some 150)) (fun R_443 => gd ((alu (alu (alu (alu (alu (alu (alu (alu (alu (alu (alu (alu (alu (alu (alu (alu (alu (alu (alu (alu (alu (alu (alu (alu (alu (alu (alu (alu al 104) 105) 106) 107) 108) 109) 111) 112) 113) 115) 116) 117) 118) 119) 120) 121) 122) 123) 124) 131) 138) 139) 141) 142) 143) 144) 145) 150) 151 = false ∧ q 151 = ((((((((((((((((((((((((((((n + 1) + 1) + 1) + 1) + 1) + 1) + 1) + 1) + 1) + 1) + 1) + 1) + 1) + 1) + 1) + 1) + 1) + 1) + 1) + 1) + 1) + 1) + 1) + 1) + 1) + 1) + 1) + 1) ∧ kd 151 = 10 ∧ (6 : Int32).toNatClampNeg = ln 151) (lt (zI I_441 151) (fun I_449 => lt (zR R_443 151) (fun R_449 => lt (pq R_449 100 50 (some 151)) (fun R_451 => gd ((alu (alu (alu (alu (alu (alu (alu (alu (alu (alu (alu (alu (alu (alu (alu (alu (alu (alu (alu (alu (alu (alu (alu (alu (alu (alu (alu (alu (alu al 104) 105) 106) 107) 108) 109) 111) 112) 113) 115) 116) 117) 118) 119) 120) 121) 122) 123) 124) 131) 138) 139) 141) 142) 143) 144) 145) 150) 151) 152 = false ∧ q 152 = (((((((((((((((((((((((((((((n + 1) + 1) + 1) + 1) + 1) + 1) + 1) + 1) + 1) + 1) + 1) + 1) + 1) + 1) + 1) + 1) + 1) + 1) + 1) + 1) + 1) + 1) + 1) + 1) + 1) + 1) + 1) + 1) + 1) ∧ kd 152 = 10 ∧ (4 : Int32).toNatClampNeg = ln 152) (lt (zI I_449 152) (fun I_456 => lt (zR R_451 152) (fun R_456 => lt (pq R_456 100 51 (some 152)) (fun R_458 => gd ((alu (alu (alu (alu (alu (alu (alu (alu (alu (alu (alu (alu (alu (alu (alu (alu (alu (alu (alu (alu (alu (alu (alu (alu (alu (alu (alu (alu (alu (alu al 104) 105) 106) 107) 108) 109) 111) 112) 113) 115) 116) 117) 118) 119) 120) 121) 122) 123) 124) 131) 138) 139) 141) 142) 143) 144) 145) 150) 151) 152) 153 = false ∧ q 153 = ((((((((((((((((((((((((((((((n + 1) + 1) + 1) + 1) + 1) + 1) + 1) + 1) + 1) + 1) + 1) + 1) + 1) + 1) + 1) + 1) + 1) + 1) + 1) + 1) + 1) + 1) + 1) + 1) + 1) + 1) + 1) + 1) + 1) + 1) ∧ kd 153 = 10 ∧ (6 : Int32).toNatClampNeg = ln 153) (lt (zI I_456 153) (fun I_464 => lt (zR R_458 153) (fun R_464 => lt (pq R_464 100 52 (some 153)) (fun R_466 => gd ((alu (alu (alu (alu (alu (alu (alu (alu (alu (alu (alu (alu (alu (alu (alu (alu (alu (alu (alu (alu (alu (alu (alu (alu (alu (alu (alu (alu (alu (alu (alu al 104) 105) 106) 107) 108) 109) 111) 112) 113) 115) 116) 117) 118) 119) 120) 121) 122) 123) 124) 131) 138) 139) 141) 142) 143) 144) 145) 150) 151) 152) 153) 154 = false ∧ q 154 = (((((((((((((((((((((((((((((((n + 1) + 1) + 1) + 1) + 1) + 1) + 1) + 1) + 1) + 1) + 1) + 1) + 1) + 1) + 1) + 1) + 1) + 1) + 1) + 1) + 1) + 1) + 1) + 1) + 1) + 1) + 1) + 1) + 1) + 1) + 1) ∧ kd 154 = 10 ∧ (6 : Int32).toNatClampNeg = ln 154) (lt (zI I_464 154) (fun I_472 => lt (zR R_466 154) (fun R_472 => lt (pq R_472 100 53 (some 154)) (fun R_474 => gd ((alu (alu (alu (alu (alu (alu (alu (alu (alu (alu (alu (alu (alu (alu (alu (alu (alu (alu (alu (alu (alu (alu (alu (alu (alu (alu (alu (alu (alu (alu (alu (alu al 104) 105) 106) 107) 108) 109) 111) 112) 113) 115) 116) 117) 118) 119) 120) 121) 122) 123) 124) 131) 138) 139) 141) 142) 143) 144) 145) 150) 151) 152) 153) 154) 155 = false ∧ q 155 = ((((((((((((((((((((((((((((((((n + 1) + 1) + 1) + 1) + 1) + 1) + 1) + 1) + 1) + 1) + 1) + 1) + 1) + 1) + 1) + 1) + 1) + 1) + 1) + 1) + 1) + 1) + 1) + 1) + 1) + 1) + 1) + 1) + 1) + 1) + 1) + 1) ∧ kd 155 = 10 ∧ (4 : Int32).toNatClampNeg = ln 155) (lt (zI I_472 155) (fun I_479 => lt (zR R_474 155) (fun R_479 => lt (pq R_479 100 54 (some 155)) (fun R_481 => gd ((alu (alu (alu (alu (alu (alu (alu (alu (alu (alu (alu (alu (alu (alu (alu (alu (alu (alu (alu (alu (alu (alu (alu (alu (alu (alu (alu (alu (alu (alu (alu (alu (alu al 104) 105) 106) 107) 108) 109) 111) 112) 113) 115) 116) 117) 118) 119) 120) 121) 122) 123) 124) 131) 138) 139) 141) 142) 143) 144) 145) 150) 151) 152) 153) 154) 155) 156 = false ∧ q 156 = (((((((((((((((((((((((((((((((((n + 1) + 1) + 1) + 1) + 1) + 1) + 1) + 1) + 1) + 1) + 1) + 1) + 1) + 1) + 1) + 1) + 1) + 1) + 1) + 1) + 1) + 1) + 1) + 1) + 1) + 1) + 1) + 1) + 1) + 1) + 1) + 1) + 1) ∧ kd 156 = 10 ∧ (4 : Int32).toNatClampNeg = ln 156) (lt (zI I_479 156) (fun I_486 => lt (zR R_481 156) (fun R_486 => lt (pq R_486 100 55 (some 156)) (fun R_488 => f_X8_init_493 q 1000000 I_486 R_488 (alu (alu (alu (alu (alu (alu (alu (alu (alu (alu (alu (alu (alu (alu (alu (alu (alu (alu (alu (alu (alu (alu (alu (alu (alu (alu (alu (alu (alu (alu (alu (alu (alu (alu al 104) 105) 106) 107) 108) 109) 111) 112) 113) 115) 116) 117) 118) 119) 120) 121) 122) 123) 124) 131) 138) 139) 141) 142) 143) 144) 145) 150) 151) 152) 153) 154) 155) 156) ((((((((((((((((((((((((((((((((((n + 1) + 1) + 1) + 1) + 1) + 1) + 1) + 1) + 1) + 1) + 1) + 1) + 1) + 1) + 1) + 1) + 1) + 1) + 1) + 1) + 1) + 1) + 1) + 1) + 1) + 1) + 1) + 1) + 1) + 1) + 1) + 1) + 1) + 1) 0)))))))))))))))))))))))))))))))))))))))))))))))))))))))))))))))))))))))))))))))))))))))))))))))))))))))))))))))))))))))))))))))))))))))))))))))))))))))))))))))))))))))))))))))))))))))))))))))))))))))))))))))))))))))
set_option maxHeartbeats 4000000 in
set_option maxRecDepth 100000 in
theorem c_X8_init {l : Launch} {E : EV} {q : Nat → Nat} {al : Nat → Bool} {n : Nat} {I : MI} {R : MR}  (a_100 : al 100 = true) {res : MI × MR} (h : f_X8_init q I R al n = some res) : Ct l yX8_init cX8_init 2 none 2 34 988 E q al I R n [.ref (q 100)] none (alu (alu (alu (alu (alu (alu (alu (alu (alu (alu (alu (alu (alu (alu (alu (alu (alu (alu (alu (alu (alu (alu (alu (alu (alu (alu (alu (alu (alu (alu (alu (alu (alu (alu al 104) 105) 106) 107) 108) 109) 111) 112) 113) 115) 116) 117) 118) 119) 120) 121) 122) 123) 124) 131) 138) 139) 141) 142) 143) 144) 145) 150) 151) 152) 153) 154) 155) 156) res.1 res.2 ((((((((((((((((((((((((((((((((((n + 1) + 1) + 1) + 1) + 1) + 1) + 1) + 1) + 1) + 1) + 1) + 1) + 1) + 1) + 1) + 1) + 1) + 1) + 1) + 1) + 1) + 1) + 1) + 1) + 1) + 1) + 1) + 1) + 1) + 1) + 1) + 1) + 1) + 1) := by
  refine Ct.of (own := RX8) (mn := "<init>") (by decide) rfl rfl (Nat.le_of_ble_eq_true rfl) ?_
  intro p e s m args below meth c ls C hmn hargs hW hl
  have hx := C.1
  have hb := C.2.1
  have hl : lv_has ls 2 [(0, .ref (q 100))] := hl
  unfold f_X8_init at h
  refine lv_aload_n hx hb dX8_init_0 rfl (lv_at hl 0 rfl) ?_
  refine r_obj C gm_704 gm_21 gm_22 hl.1 ⟨Nat.le_of_ble_eq_true rfl, Nat.le_of_ble_eq_true rfl⟩ dX8_init_1 ?_
  refine lv_aload_n hx hb dX8_init_4 rfl (lv_at hl 0 rfl) ?_
  refine lv_bipush (v := 15) hx hb dX8_init_5 (by decide) ?_
  obtain ⟨I_7, e_I_7, h⟩ := lt_some h
  refine r_put C fr_X8_7 (Or.inl rfl) hW a_100 rfl rfl rfl rfl dX8_init_7 (fun H locs hW => ?_)
  rw [← e_I_7] at hW
  refine lv_aload_n hx hb dX8_init_10 rfl (lv_at hl 0 rfl) ?_
  refine lv_iconst (v := 4) hx hb dX8_init_11 (by decide) ?_
  obtain ⟨g_12, h⟩ := gd_some h
  obtain ⟨I_12, e_I_12, h⟩ := lt_some h
  obtain ⟨R_12, e_R_12, h⟩ := lt_some h
  refine r_newa (at_ := .int) C gm_41 (Or.inr (Or.inl ⟨rfl, rfl⟩)) hW g_12.1 g_12.2.1 g_12.2.2.1 (by decide) g_12.2.2.2 (by rw [← g_12.2.2.2]; decide) (by decide) (by rw [← g_12.2.2.2]; decide) dX8_init_12 (fun H hW => ?_)
  rw [← g_12.2.2.2]
  rw [← e_I_12, ← e_R_12] at hW
  refine W.widen (k := 1) (n := 4) (by decide) (by decide) ?_
  have a_100_12 : (alu al 104) 100 = true := alu_old a_100
  have a_104_12 : (alu al 104) 104 = true := alu_new
  have k_104_12 : kd 104 = 10 := g_12.2.2.1
  obtain ⟨R_14, e_R_14, h⟩ := lt_some h
  refine r_putq C fr_X8_13 (Or.inr ⟨rfl, hmn, ⟨_, rfl, rfl⟩⟩) hW a_100_12 rfl rfl a_104_12 k_104_12 rfl rfl dX8_init_14 (fun H locs hW => ?_)
  rw [← e_R_14] at hW
  refine lv_aload_n hx hb dX8_init_17 rfl (lv_at hl 0 rfl) ?_
  refine lv_iconst (v := 4) hx hb dX8_init_18 (by decide) ?_
  obtain ⟨g_19, h⟩ := gd_some h
  obtain ⟨I_19, e_I_19, h⟩ := lt_some h
  obtain ⟨R_19, e_R_19, h⟩ := lt_some h
  refine r_newa (at_ := .int) C gm_41 (Or.inr (Or.inl ⟨rfl, rfl⟩)) hW g_19.1 g_19.2.1 g_19.2.2.1 (by decide) g_19.2.2.2 (by rw [← g_19.2.2.2]; decide) (by decide) (by rw [← g_19.2.2.2]; decide) dX8_init_19 (fun H hW => ?_)
  rw [← g_19.2.2.2]
  rw [← e_I_19, ← e_R_19] at hW
  refine W.widen (k := 2) (n := 8) (by decide) (by decide) ?_
  have a_100_19 : (alu (alu al 104) 105) 100 = true := alu_old a_100_12
  have a_104_19 : (alu (alu al 104) 105) 104 = true := alu_old a_104_12
  have a_105_19 : (alu (alu al 104) 105) 105 = true := alu_new
  have k_105_19 : kd 105 = 10 := g_19.2.2.1
  obtain ⟨R_21, e_R_21, h⟩ := lt_some h
  refine r_putq C fr_X8_17 (Or.inr ⟨rfl, hmn, ⟨_, rfl, rfl⟩⟩) hW a_100_19 rfl rfl a_105_19 k_105_19 rfl rfl dX8_init_21 (fun H locs hW => ?_)
  rw [← e_R_21] at hW
  refine lv_aload_n hx hb dX8_init_24 rfl (lv_at hl 0 rfl) ?_
  refine lv_iconst (v := 4) hx hb dX8_init_25 (by decide) ?_
  obtain ⟨g_26, h⟩ := gd_some h
  obtain ⟨I_26, e_I_26, h⟩ := lt_some h
  obtain ⟨R_26, e_R_26, h⟩ := lt_some h
  refine r_newa (at_ := .int) C gm_41 (Or.inr (Or.inl ⟨rfl, rfl⟩)) hW g_26.1 g_26.2.1 g_26.2.2.1 (by decide) g_26.2.2.2 (by rw [← g_26.2.2.2]; decide) (by decide) (by rw [← g_26.2.2.2]; decide) dX8_init_26 (fun H hW => ?_)
  rw [← g_26.2.2.2]
  rw [← e_I_26, ← e_R_26] at hW
  refine W.widen (k := 3) (n := 12) (by decide) (by decide) ?_
  have a_100_26 : (alu (alu (alu al 104) 105) 106) 100 = true := alu_old a_100_19
  have a_104_26 : (alu (alu (alu al 104) 105) 106) 104 = true := alu_old a_104_19
  have a_105_26 : (alu (alu (alu al 104) 105) 106) 105 = true := alu_old a_105_19
  have a_106_26 : (alu (alu (alu al 104) 105) 106) 106 = true := alu_new
  have k_106_26 : kd 106 = 10 := g_26.2.2.1
  obtain ⟨R_28, e_R_28, h⟩ := lt_some h
  refine r_putq C fr_X8_20 (Or.inr ⟨rfl, hmn, ⟨_, rfl, rfl⟩⟩) hW a_100_26 rfl rfl a_106_26 k_106_26 rfl rfl dX8_init_28 (fun H locs hW => ?_)
  rw [← e_R_28] at hW
  refine lv_aload_n hx hb dX8_init_31 rfl (lv_at hl 0 rfl) ?_
  refine lv_iconst (v := 4) hx hb dX8_init_32 (by decide) ?_
  obtain ⟨g_33, h⟩ := gd_some h
  obtain ⟨I_33, e_I_33, h⟩ := lt_some h
  obtain ⟨R_33, e_R_33, h⟩ := lt_some h
  refine r_newa (at_ := .int) C gm_41 (Or.inr (Or.inl ⟨rfl, rfl⟩)) hW g_33.1 g_33.2.1 g_33.2.2.1 (by decide) g_33.2.2.2 (by rw [← g_33.2.2.2]; decide) (by decide) (by rw [← g_33.2.2.2]; decide) dX8_init_33 (fun H hW => ?_)
  rw [← g_33.2.2.2]
  rw [← e_I_33, ← e_R_33] at hW
  refine W.widen (k := 4) (n := 16) (by decide) (by decide) ?_
  have a_100_33 : (alu (alu (alu (alu al 104) 105) 106) 107) 100 = true := alu_old a_100_26
  have a_104_33 : (alu (alu (alu (alu al 104) 105) 106) 107) 104 = true := alu_old a_104_26
  have a_105_33 : (alu (alu (alu (alu al 104) 105) 106) 107) 105 = true := alu_old a_105_26
  have a_106_33 : (alu (alu (alu (alu al 104) 105) 106) 107) 106 = true := alu_old a_106_26
  have a_107_33 : (alu (alu (alu (alu al 104) 105) 106) 107) 107 = true := alu_new
  have k_107_33 : kd 107 = 10 := g_33.2.2.1
  obtain ⟨R_35, e_R_35, h⟩ := lt_some h
  refine r_putq C fr_X8_23 (Or.inr ⟨rfl, hmn, ⟨_, rfl, rfl⟩⟩) hW a_100_33 rfl rfl a_107_33 k_107_33 rfl rfl dX8_init_35 (fun H locs hW => ?_)
  rw [← e_R_35] at hW
  refine lv_aload_n hx hb dX8_init_38 rfl (lv_at hl 0 rfl) ?_
  refine lv_iconst (v := 4) hx hb dX8_init_39 (by decide) ?_
  obtain ⟨g_40, h⟩ := gd_some h
  obtain ⟨I_40, e_I_40, h⟩ := lt_some h
  obtain ⟨R_40, e_R_40, h⟩ := lt_some h
  refine r_newa (at_ := .int) C gm_41 (Or.inr (Or.inl ⟨rfl, rfl⟩)) hW g_40.1 g_40.2.1 g_40.2.2.1 (by decide) g_40.2.2.2 (by rw [← g_40.2.2.2]; decide) (by decide) (by rw [← g_40.2.2.2]; decide) dX8_init_40 (fun H hW => ?_)
  rw [← g_40.2.2.2]
  rw [← e_I_40, ← e_R_40] at hW
  refine W.widen (k := 5) (n := 20) (by decide) (by decide) ?_
  have a_100_40 : (alu (alu (alu (alu (alu al 104) 105) 106) 107) 108) 100 = true := alu_old a_100_33
  have a_104_40 : (alu (alu (alu (alu (alu al 104) 105) 106) 107) 108) 104 = true := alu_old a_104_33
  have a_105_40 : (alu (alu (alu (alu (alu al 104) 105) 106) 107) 108) 105 = true := alu_old a_105_33
  have a_106_40 : (alu (alu (alu (alu (alu al 104) 105) 106) 107) 108) 106 = true := alu_old a_106_33
  have a_107_40 : (alu (alu (alu (alu (alu al 104) 105) 106) 107) 108) 107 = true := alu_old a_107_33
  have a_108_40 : (alu (alu (alu (alu (alu al 104) 105) 106) 107) 108) 108 = true := alu_new
  have k_108_40 : kd 108 = 10 := g_40.2.2.1
  obtain ⟨R_42, e_R_42, h⟩ := lt_some h
  refine r_putq C fr_X8_26 (Or.inr ⟨rfl, hmn, ⟨_, rfl, rfl⟩⟩) hW a_100_40 rfl rfl a_108_40 k_108_40 rfl rfl dX8_init_42 (fun H locs hW => ?_)
  rw [← e_R_42] at hW
  refine lv_aload_n hx hb dX8_init_45 rfl (lv_at hl 0 rfl) ?_
  refine lv_iconst (v := 4) hx hb dX8_init_46 (by decide) ?_
  obtain ⟨g_47, h⟩ := gd_some h
  obtain ⟨I_47, e_I_47, h⟩ := lt_some h
  obtain ⟨R_47, e_R_47, h⟩ := lt_some h
  refine r_newa (at_ := .boolean) C gm_42 (Or.inr (Or.inr ⟨rfl, rfl⟩)) hW g_47.1 g_47.2.1 g_47.2.2.1 (by decide) g_47.2.2.2 (by rw [← g_47.2.2.2]; decide) (by decide) (by rw [← g_47.2.2.2]; decide) dX8_init_47 (fun H hW => ?_)
  rw [← g_47.2.2.2]
  rw [← e_I_47, ← e_R_47] at hW
  refine W.widen (k := 6) (n := 24) (by decide) (by decide) ?_
  have a_100_47 : (alu (alu (alu (alu (alu (alu al 104) 105) 106) 107) 108) 109) 100 = true := alu_old a_100_40
  have a_104_47 : (alu (alu (alu (alu (alu (alu al 104) 105) 106) 107) 108) 109) 104 = true := alu_old a_104_40
  have a_105_47 : (alu (alu (alu (alu (alu (alu al 104) 105) 106) 107) 108) 109) 105 = true := alu_old a_105_40
  have a_106_47 : (alu (alu (alu (alu (alu (alu al 104) 105) 106) 107) 108) 109) 106 = true := alu_old a_106_40
  have a_107_47 : (alu (alu (alu (alu (alu (alu al 104) 105) 106) 107) 108) 109) 107 = true := alu_old a_107_40
  have a_108_47 : (alu (alu (alu (alu (alu (alu al 104) 105) 106) 107) 108) 109) 108 = true := alu_old a_108_40
  have a_109_47 : (alu (alu (alu (alu (alu (alu al 104) 105) 106) 107) 108) 109) 109 = true := alu_new
  have k_109_47 : kd 109 = 11 := g_47.2.2.1
  obtain ⟨R_49, e_R_49, h⟩ := lt_some h
  refine r_putq C fr_X8_29 (Or.inr ⟨rfl, hmn, ⟨_, rfl, rfl⟩⟩) hW a_100_47 rfl rfl a_109_47 k_109_47 rfl rfl dX8_init_49 (fun H locs hW => ?_)
  rw [← e_R_49] at hW
  refine lv_aload_n hx hb dX8_init_52 rfl (lv_at hl 0 rfl) ?_
  refine lv_iconst (v := 1) hx hb dX8_init_53 (by decide) ?_
  obtain ⟨I_54, e_I_54, h⟩ := lt_some h
  refine r_put C fr_X8_33 (Or.inl rfl) hW a_100_47 rfl rfl rfl rfl dX8_init_54 (fun H locs hW => ?_)
  rw [← e_I_54] at hW
  refine lv_aload_n hx hb dX8_init_57 rfl (lv_at hl 0 rfl) ?_
  refine lv_iconst (v := 2) hx hb dX8_init_58 (by decide) ?_
  obtain ⟨g_59, h⟩ := gd_some h
  obtain ⟨I_59, e_I_59, h⟩ := lt_some h
  obtain ⟨R_59, e_R_59, h⟩ := lt_some h
  refine r_newa (at_ := .int) C gm_41 (Or.inr (Or.inl ⟨rfl, rfl⟩)) hW g_59.1 g_59.2.1 g_59.2.2.1 (by decide) g_59.2.2.2 (by rw [← g_59.2.2.2]; decide) (by decide) (by rw [← g_59.2.2.2]; decide) dX8_init_59 (fun H hW => ?_)
  rw [← g_59.2.2.2]
  rw [← e_I_59, ← e_R_59] at hW
  refine W.widen (k := 7) (n := 26) (by decide) (by decide) ?_
  have a_100_59 : (alu (alu (alu (alu (alu (alu (alu al 104) 105) 106) 107) 108) 109) 111) 100 = true := alu_old a_100_47
  have a_104_59 : (alu (alu (alu (alu (alu (alu (alu al 104) 105) 106) 107) 108) 109) 111) 104 = true := alu_old a_104_47
  have a_105_59 : (alu (alu (alu (alu (alu (alu (alu al 104) 105) 106) 107) 108) 109) 111) 105 = true := alu_old a_105_47
  have a_106_59 : (alu (alu (alu (alu (alu (alu (alu al 104) 105) 106) 107) 108) 109) 111) 106 = true := alu_old a_106_47
  have a_107_59 : (alu (alu (alu (alu (alu (alu (alu al 104) 105) 106) 107) 108) 109) 111) 107 = true := alu_old a_107_47
  have a_108_59 : (alu (alu (alu (alu (alu (alu (alu al 104) 105) 106) 107) 108) 109) 111) 108 = true := alu_old a_108_47
  have a_109_59 : (alu (alu (alu (alu (alu (alu (alu al 104) 105) 106) 107) 108) 109) 111) 109 = true := alu_old a_109_47
  have a_111_59 : (alu (alu (alu (alu (alu (alu (alu al 104) 105) 106) 107) 108) 109) 111) 111 = true := alu_new
  have k_111_59 : kd 111 = 10 := g_59.2.2.1
  refine lv_dup hx hb dX8_init_61 rfl ?_
  refine lv_iconst (v := 0) hx hb dX8_init_62 (by decide) ?_
  refine lv_iconst (v := (-1)) hx hb dX8_init_63 (by decide) ?_
  obtain ⟨g_64, h⟩ := gd_some h
  obtain ⟨I_64, e_I_64, h⟩ := lt_some h
  refine r_iast C hW a_111_59 k_111_59 (ix_in g_64) dX8_init_64 (fun H locs hW => ?_)
  rw [← e_I_64] at hW
  refine lv_dup hx hb dX8_init_65 rfl ?_
  refine lv_iconst (v := 1) hx hb dX8_init_66 (by decide) ?_
  refine lv_iconst (v := (-1)) hx hb dX8_init_67 (by decide) ?_
  obtain ⟨g_68, h⟩ := gd_some h
  obtain ⟨I_68, e_I_68, h⟩ := lt_some h
  refine r_iast C hW a_111_59 k_111_59 (ix_in g_68) dX8_init_68 (fun H locs hW => ?_)
  rw [← e_I_68] at hW
  obtain ⟨R_69, e_R_69, h⟩ := lt_some h
  refine r_putq C fr_X8_36 (Or.inr ⟨rfl, hmn, ⟨_, rfl, rfl⟩⟩) hW a_100_59 rfl rfl a_111_59 k_111_59 rfl rfl dX8_init_69 (fun H locs hW => ?_)
  rw [← e_R_69] at hW
  refine lv_aload_n hx hb dX8_init_72 rfl (lv_at hl 0 rfl) ?_
  refine lv_bipush (v := 24) hx hb dX8_init_73 (by decide) ?_
  obtain ⟨g_75, h⟩ := gd_some h
  obtain ⟨I_75, e_I_75, h⟩ := lt_some h
  obtain ⟨R_75, e_R_75, h⟩ := lt_some h
  refine r_newa (at_ := .int) C gm_41 (Or.inr (Or.inl ⟨rfl, rfl⟩)) hW g_75.1 g_75.2.1 g_75.2.2.1 (by decide) g_75.2.2.2 (by rw [← g_75.2.2.2]; decide) (by decide) (by rw [← g_75.2.2.2]; decide) dX8_init_75 (fun H hW => ?_)
  rw [← g_75.2.2.2]
  rw [← e_I_75, ← e_R_75] at hW
  refine W.widen (k := 8) (n := 50) (by decide) (by decide) ?_
  have a_100_75 : (alu (alu (alu (alu (alu (alu (alu (alu al 104) 105) 106) 107) 108) 109) 111) 112) 100 = true := alu_old a_100_59
  have a_104_75 : (alu (alu (alu (alu (alu (alu (alu (alu al 104) 105) 106) 107) 108) 109) 111) 112) 104 = true := alu_old a_104_59
  have a_105_75 : (alu (alu (alu (alu (alu (alu (alu (alu al 104) 105) 106) 107) 108) 109) 111) 112) 105 = true := alu_old a_105_59
  have a_106_75 : (alu (alu (alu (alu (alu (alu (alu (alu al 104) 105) 106) 107) 108) 109) 111) 112) 106 = true := alu_old a_106_59
  have a_107_75 : (alu (alu (alu (alu (alu (alu (alu (alu al 104) 105) 106) 107) 108) 109) 111) 112) 107 = true := alu_old a_107_59
  have a_108_75 : (alu (alu (alu (alu (alu (alu (alu (alu al 104) 105) 106) 107) 108) 109) 111) 112) 108 = true := alu_old a_108_59
  have a_109_75 : (alu (alu (alu (alu (alu (alu (alu (alu al 104) 105) 106) 107) 108) 109) 111) 112) 109 = true := alu_old a_109_59
  have a_111_75 : (alu (alu (alu (alu (alu (alu (alu (alu al 104) 105) 106) 107) 108) 109) 111) 112) 111 = true := alu_old a_111_59
  have a_112_75 : (alu (alu (alu (alu (alu (alu (alu (alu al 104) 105) 106) 107) 108) 109) 111) 112) 112 = true := alu_new
  have k_112_75 : kd 112 = 10 := g_75.2.2.1
  obtain ⟨R_77, e_R_77, h⟩ := lt_some h
  refine r_putq C fr_X8_39 (Or.inr ⟨rfl, hmn, ⟨_, rfl, rfl⟩⟩) hW a_100_75 rfl rfl a_112_75 k_112_75 rfl rfl dX8_init_77 (fun H locs hW => ?_)
  rw [← e_R_77] at hW
  refine lv_aload_n hx hb dX8_init_80 rfl (lv_at hl 0 rfl) ?_
  refine lv_bipush (v := 24) hx hb dX8_init_81 (by decide) ?_
  obtain ⟨g_83, h⟩ := gd_some h
  obtain ⟨I_83, e_I_83, h⟩ := lt_some h
  obtain ⟨R_83, e_R_83, h⟩ := lt_some h
  refine r_newa (at_ := .boolean) C gm_42 (Or.inr (Or.inr ⟨rfl, rfl⟩)) hW g_83.1 g_83.2.1 g_83.2.2.1 (by decide) g_83.2.2.2 (by rw [← g_83.2.2.2]; decide) (by decide) (by rw [← g_83.2.2.2]; decide) dX8_init_83 (fun H hW => ?_)
  rw [← g_83.2.2.2]
  rw [← e_I_83, ← e_R_83] at hW
  refine W.widen (k := 9) (n := 74) (by decide) (by decide) ?_
  have a_100_83 : (alu (alu (alu (alu (alu (alu (alu (alu (alu al 104) 105) 106) 107) 108) 109) 111) 112) 113) 100 = true := alu_old a_100_75
  have a_104_83 : (alu (alu (alu (alu (alu (alu (alu (alu (alu al 104) 105) 106) 107) 108) 109) 111) 112) 113) 104 = true := alu_old a_104_75
  have a_105_83 : (alu (alu (alu (alu (alu (alu (alu (alu (alu al 104) 105) 106) 107) 108) 109) 111) 112) 113) 105 = true := alu_old a_105_75
  have a_106_83 : (alu (alu (alu (alu (alu (alu (alu (alu (alu al 104) 105) 106) 107) 108) 109) 111) 112) 113) 106 = true := alu_old a_106_75
  have a_107_83 : (alu (alu (alu (alu (alu (alu (alu (alu (alu al 104) 105) 106) 107) 108) 109) 111) 112) 113) 107 = true := alu_old a_107_75
  have a_108_83 : (alu (alu (alu (alu (alu (alu (alu (alu (alu al 104) 105) 106) 107) 108) 109) 111) 112) 113) 108 = true := alu_old a_108_75
  have a_109_83 : (alu (alu (alu (alu (alu (alu (alu (alu (alu al 104) 105) 106) 107) 108) 109) 111) 112) 113) 109 = true := alu_old a_109_75
  have a_111_83 : (alu (alu (alu (alu (alu (alu (alu (alu (alu al 104) 105) 106) 107) 108) 109) 111) 112) 113) 111 = true := alu_old a_111_75
  have a_112_83 : (alu (alu (alu (alu (alu (alu (alu (alu (alu al 104) 105) 106) 107) 108) 109) 111) 112) 113) 112 = true := alu_old a_112_75
  have a_113_83 : (alu (alu (alu (alu (alu (alu (alu (alu (alu al 104) 105) 106) 107) 108) 109) 111) 112) 113) 113 = true := alu_new
  have k_113_83 : kd 113 = 11 := g_83.2.2.1
  obtain ⟨R_85, e_R_85, h⟩ := lt_some h
  refine r_putq C fr_X8_42 (Or.inr ⟨rfl, hmn, ⟨_, rfl, rfl⟩⟩) hW a_100_83 rfl rfl a_113_83 k_113_83 rfl rfl dX8_init_85 (fun H locs hW => ?_)
  rw [← e_R_85] at hW
  refine lv_aload_n hx hb dX8_init_88 rfl (lv_at hl 0 rfl) ?_
  refine lv_bipush (v := 60) hx hb dX8_init_89 (by decide) ?_
  obtain ⟨g_91, h⟩ := gd_some h
  obtain ⟨I_91, e_I_91, h⟩ := lt_some h
  obtain ⟨R_91, e_R_91, h⟩ := lt_some h
  refine r_newa (at_ := .int) C gm_41 (Or.inr (Or.inl ⟨rfl, rfl⟩)) hW g_91.1 g_91.2.1 g_91.2.2.1 (by decide) g_91.2.2.2 (by rw [← g_91.2.2.2]; decide) (by decide) (by rw [← g_91.2.2.2]; decide) dX8_init_91 (fun H hW => ?_)
  rw [← g_91.2.2.2]
  rw [← e_I_91, ← e_R_91] at hW
  refine W.widen (k := 10) (n := 134) (by decide) (by decide) ?_
  have a_100_91 : (alu (alu (alu (alu (alu (alu (alu (alu (alu (alu al 104) 105) 106) 107) 108) 109) 111) 112) 113) 115) 100 = true := alu_old a_100_83
  have a_104_91 : (alu (alu (alu (alu (alu (alu (alu (alu (alu (alu al 104) 105) 106) 107) 108) 109) 111) 112) 113) 115) 104 = true := alu_old a_104_83
  have a_105_91 : (alu (alu (alu (alu (alu (alu (alu (alu (alu (alu al 104) 105) 106) 107) 108) 109) 111) 112) 113) 115) 105 = true := alu_old a_105_83
  have a_106_91 : (alu (alu (alu (alu (alu (alu (alu (alu (alu (alu al 104) 105) 106) 107) 108) 109) 111) 112) 113) 115) 106 = true := alu_old a_106_83
  have a_107_91 : (alu (alu (alu (alu (alu (alu (alu (alu (alu (alu al 104) 105) 106) 107) 108) 109) 111) 112) 113) 115) 107 = true := alu_old a_107_83
  have a_108_91 : (alu (alu (alu (alu (alu (alu (alu (alu (alu (alu al 104) 105) 106) 107) 108) 109) 111) 112) 113) 115) 108 = true := alu_old a_108_83
  have a_109_91 : (alu (alu (alu (alu (alu (alu (alu (alu (alu (alu al 104) 105) 106) 107) 108) 109) 111) 112) 113) 115) 109 = true := alu_old a_109_83
  have a_111_91 : (alu (alu (alu (alu (alu (alu (alu (alu (alu (alu al 104) 105) 106) 107) 108) 109) 111) 112) 113) 115) 111 = true := alu_old a_111_83
  have a_112_91 : (alu (alu (alu (alu (alu (alu (alu (alu (alu (alu al 104) 105) 106) 107) 108) 109) 111) 112) 113) 115) 112 = true := alu_old a_112_83
  have a_113_91 : (alu (alu (alu (alu (alu (alu (alu (alu (alu (alu al 104) 105) 106) 107) 108) 109) 111) 112) 113) 115) 113 = true := alu_old a_113_83
  have a_115_91 : (alu (alu (alu (alu (alu (alu (alu (alu (alu (alu al 104) 105) 106) 107) 108) 109) 111) 112) 113) 115) 115 = true := alu_new
  have k_115_91 : kd 115 = 10 := g_91.2.2.1
  obtain ⟨R_93, e_R_93, h⟩ := lt_some h
  refine r_putq C fr_X8_45 (Or.inr ⟨rfl, hmn, ⟨_, rfl, rfl⟩⟩) hW a_100_91 rfl rfl a_115_91 k_115_91 rfl rfl dX8_init_93 (fun H locs hW => ?_)
  rw [← e_R_93] at hW
  refine lv_aload_n hx hb dX8_init_96 rfl (lv_at hl 0 rfl) ?_
  refine lv_bipush (v := 60) hx hb dX8_init_97 (by decide) ?_
  obtain ⟨g_99, h⟩ := gd_some h
  obtain ⟨I_99, e_I_99, h⟩ := lt_some h
  obtain ⟨R_99, e_R_99, h⟩ := lt_some h
  refine r_newa (at_ := .int) C gm_41 (Or.inr (Or.inl ⟨rfl, rfl⟩)) hW g_99.1 g_99.2.1 g_99.2.2.1 (by decide) g_99.2.2.2 (by rw [← g_99.2.2.2]; decide) (by decide) (by rw [← g_99.2.2.2]; decide) dX8_init_99 (fun H hW => ?_)
  rw [← g_99.2.2.2]
  rw [← e_I_99, ← e_R_99] at hW
  refine W.widen (k := 11) (n := 194) (by decide) (by decide) ?_
  have a_100_99 : (alu (alu (alu (alu (alu (alu (alu (alu (alu (alu (alu al 104) 105) 106) 107) 108) 109) 111) 112) 113) 115) 116) 100 = true := alu_old a_100_91
  have a_104_99 : (alu (alu (alu (alu (alu (alu (alu (alu (alu (alu (alu al 104) 105) 106) 107) 108) 109) 111) 112) 113) 115) 116) 104 = true := alu_old a_104_91
  have a_105_99 : (alu (alu (alu (alu (alu (alu (alu (alu (alu (alu (alu al 104) 105) 106) 107) 108) 109) 111) 112) 113) 115) 116) 105 = true := alu_old a_105_91
  have a_106_99 : (alu (alu (alu (alu (alu (alu (alu (alu (alu (alu (alu al 104) 105) 106) 107) 108) 109) 111) 112) 113) 115) 116) 106 = true := alu_old a_106_91
  have a_107_99 : (alu (alu (alu (alu (alu (alu (alu (alu (alu (alu (alu al 104) 105) 106) 107) 108) 109) 111) 112) 113) 115) 116) 107 = true := alu_old a_107_91
  have a_108_99 : (alu (alu (alu (alu (alu (alu (alu (alu (alu (alu (alu al 104) 105) 106) 107) 108) 109) 111) 112) 113) 115) 116) 108 = true := alu_old a_108_91
  have a_109_99 : (alu (alu (alu (alu (alu (alu (alu (alu (alu (alu (alu al 104) 105) 106) 107) 108) 109) 111) 112) 113) 115) 116) 109 = true := alu_old a_109_91
  have a_111_99 : (alu (alu (alu (alu (alu (alu (alu (alu (alu (alu (alu al 104) 105) 106) 107) 108) 109) 111) 112) 113) 115) 116) 111 = true := alu_old a_111_91
  have a_112_99 : (alu (alu (alu (alu (alu (alu (alu (alu (alu (alu (alu al 104) 105) 106) 107) 108) 109) 111) 112) 113) 115) 116) 112 = true := alu_old a_112_91
  have a_113_99 : (alu (alu (alu (alu (alu (alu (alu (alu (alu (alu (alu al 104) 105) 106) 107) 108) 109) 111) 112) 113) 115) 116) 113 = true := alu_old a_113_91
  have a_115_99 : (alu (alu (alu (alu (alu (alu (alu (alu (alu (alu (alu al 104) 105) 106) 107) 108) 109) 111) 112) 113) 115) 116) 115 = true := alu_old a_115_91
  have a_116_99 : (alu (alu (alu (alu (alu (alu (alu (alu (alu (alu (alu al 104) 105) 106) 107) 108) 109) 111) 112) 113) 115) 116) 116 = true := alu_new
  have k_116_99 : kd 116 = 10 := g_99.2.2.1
  obtain ⟨R_101, e_R_101, h⟩ := lt_some h
  refine r_putq C fr_X8_48 (Or.inr ⟨rfl, hmn, ⟨_, rfl, rfl⟩⟩) hW a_100_99 rfl rfl a_116_99 k_116_99 rfl rfl dX8_init_101 (fun H locs hW => ?_)
  rw [← e_R_101] at hW
  refine lv_aload_n hx hb dX8_init_104 rfl (lv_at hl 0 rfl) ?_
  refine lv_bipush (v := 60) hx hb dX8_init_105 (by decide) ?_
  obtain ⟨g_107, h⟩ := gd_some h
  obtain ⟨I_107, e_I_107, h⟩ := lt_some h
  obtain ⟨R_107, e_R_107, h⟩ := lt_some h
  refine r_newa (at_ := .int) C gm_41 (Or.inr (Or.inl ⟨rfl, rfl⟩)) hW g_107.1 g_107.2.1 g_107.2.2.1 (by decide) g_107.2.2.2 (by rw [← g_107.2.2.2]; decide) (by decide) (by rw [← g_107.2.2.2]; decide) dX8_init_107 (fun H hW => ?_)
  rw [← g_107.2.2.2]
  rw [← e_I_107, ← e_R_107] at hW
  refine W.widen (k := 12) (n := 254) (by decide) (by decide) ?_
  have a_100_107 : (alu (alu (alu (alu (alu (alu (alu (alu (alu (alu (alu (alu al 104) 105) 106) 107) 108) 109) 111) 112) 113) 115) 116) 117) 100 = true := alu_old a_100_99
  have a_104_107 : (alu (alu (alu (alu (alu (alu (alu (alu (alu (alu (alu (alu al 104) 105) 106) 107) 108) 109) 111) 112) 113) 115) 116) 117) 104 = true := alu_old a_104_99
  have a_105_107 : (alu (alu (alu (alu (alu (alu (alu (alu (alu (alu (alu (alu al 104) 105) 106) 107) 108) 109) 111) 112) 113) 115) 116) 117) 105 = true := alu_old a_105_99
  have a_106_107 : (alu (alu (alu (alu (alu (alu (alu (alu (alu (alu (alu (alu al 104) 105) 106) 107) 108) 109) 111) 112) 113) 115) 116) 117) 106 = true := alu_old a_106_99
  have a_107_107 : (alu (alu (alu (alu (alu (alu (alu (alu (alu (alu (alu (alu al 104) 105) 106) 107) 108) 109) 111) 112) 113) 115) 116) 117) 107 = true := alu_old a_107_99
  have a_108_107 : (alu (alu (alu (alu (alu (alu (alu (alu (alu (alu (alu (alu al 104) 105) 106) 107) 108) 109) 111) 112) 113) 115) 116) 117) 108 = true := alu_old a_108_99
  have a_109_107 : (alu (alu (alu (alu (alu (alu (alu (alu (alu (alu (alu (alu al 104) 105) 106) 107) 108) 109) 111) 112) 113) 115) 116) 117) 109 = true := alu_old a_109_99
  have a_111_107 : (alu (alu (alu (alu (alu (alu (alu (alu (alu (alu (alu (alu al 104) 105) 106) 107) 108) 109) 111) 112) 113) 115) 116) 117) 111 = true := alu_old a_111_99
  have a_112_107 : (alu (alu (alu (alu (alu (alu (alu (alu (alu (alu (alu (alu al 104) 105) 106) 107) 108) 109) 111) 112) 113) 115) 116) 117) 112 = true := alu_old a_112_99
  have a_113_107 : (alu (alu (alu (alu (alu (alu (alu (alu (alu (alu (alu (alu al 104) 105) 106) 107) 108) 109) 111) 112) 113) 115) 116) 117) 113 = true := alu_old a_113_99
  have a_115_107 : (alu (alu (alu (alu (alu (alu (alu (alu (alu (alu (alu (alu al 104) 105) 106) 107) 108) 109) 111) 112) 113) 115) 116) 117) 115 = true := alu_old a_115_99
  have a_116_107 : (alu (alu (alu (alu (alu (alu (alu (alu (alu (alu (alu (alu al 104) 105) 106) 107) 108) 109) 111) 112) 113) 115) 116) 117) 116 = true := alu_old a_116_99
  have a_117_107 : (alu (alu (alu (alu (alu (alu (alu (alu (alu (alu (alu (alu al 104) 105) 106) 107) 108) 109) 111) 112) 113) 115) 116) 117) 117 = true := alu_new
  have k_117_107 : kd 117 = 10 := g_107.2.2.1
  obtain ⟨R_109, e_R_109, h⟩ := lt_some h
  refine r_putq C fr_X8_51 (Or.inr ⟨rfl, hmn, ⟨_, rfl, rfl⟩⟩) hW a_100_107 rfl rfl a_117_107 k_117_107 rfl rfl dX8_init_109 (fun H locs hW => ?_)
  rw [← e_R_109] at hW
  refine lv_aload_n hx hb dX8_init_112 rfl (lv_at hl 0 rfl) ?_
  refine lv_bipush (v := 60) hx hb dX8_init_113 (by decide) ?_
  obtain ⟨g_115, h⟩ := gd_some h
  obtain ⟨I_115, e_I_115, h⟩ := lt_some h
  obtain ⟨R_115, e_R_115, h⟩ := lt_some h
  refine r_newa (at_ := .int) C gm_41 (Or.inr (Or.inl ⟨rfl, rfl⟩)) hW g_115.1 g_115.2.1 g_115.2.2.1 (by decide) g_115.2.2.2 (by rw [← g_115.2.2.2]; decide) (by decide) (by rw [← g_115.2.2.2]; decide) dX8_init_115 (fun H hW => ?_)
  rw [← g_115.2.2.2]
  rw [← e_I_115, ← e_R_115] at hW
  refine W.widen (k := 13) (n := 314) (by decide) (by decide) ?_
  have a_100_115 : (alu (alu (alu (alu (alu (alu (alu (alu (alu (alu (alu (alu (alu al 104) 105) 106) 107) 108) 109) 111) 112) 113) 115) 116) 117) 118) 100 = true := alu_old a_100_107
  have a_104_115 : (alu (alu (alu (alu (alu (alu (alu (alu (alu (alu (alu (alu (alu al 104) 105) 106) 107) 108) 109) 111) 112) 113) 115) 116) 117) 118) 104 = true := alu_old a_104_107
  have a_105_115 : (alu (alu (alu (alu (alu (alu (alu (alu (alu (alu (alu (alu (alu al 104) 105) 106) 107) 108) 109) 111) 112) 113) 115) 116) 117) 118) 105 = true := alu_old a_105_107
  have a_106_115 : (alu (alu (alu (alu (alu (alu (alu (alu (alu (alu (alu (alu (alu al 104) 105) 106) 107) 108) 109) 111) 112) 113) 115) 116) 117) 118) 106 = true := alu_old a_106_107
  have a_107_115 : (alu (alu (alu (alu (alu (alu (alu (alu (alu (alu (alu (alu (alu al 104) 105) 106) 107) 108) 109) 111) 112) 113) 115) 116) 117) 118) 107 = true := alu_old a_107_107
  have a_108_115 : (alu (alu (alu (alu (alu (alu (alu (alu (alu (alu (alu (alu (alu al 104) 105) 106) 107) 108) 109) 111) 112) 113) 115) 116) 117) 118) 108 = true := alu_old a_108_107
  have a_109_115 : (alu (alu (alu (alu (alu (alu (alu (alu (alu (alu (alu (alu (alu al 104) 105) 106) 107) 108) 109) 111) 112) 113) 115) 116) 117) 118) 109 = true := alu_old a_109_107
  have a_111_115 : (alu (alu (alu (alu (alu (alu (alu (alu (alu (alu (alu (alu (alu al 104) 105) 106) 107) 108) 109) 111) 112) 113) 115) 116) 117) 118) 111 = true := alu_old a_111_107
  have a_112_115 : (alu (alu (alu (alu (alu (alu (alu (alu (alu (alu (alu (alu (alu al 104) 105) 106) 107) 108) 109) 111) 112) 113) 115) 116) 117) 118) 112 = true := alu_old a_112_107
  have a_113_115 : (alu (alu (alu (alu (alu (alu (alu (alu (alu (alu (alu (alu (alu al 104) 105) 106) 107) 108) 109) 111) 112) 113) 115) 116) 117) 118) 113 = true := alu_old a_113_107
  have a_115_115 : (alu (alu (alu (alu (alu (alu (alu (alu (alu (alu (alu (alu (alu al 104) 105) 106) 107) 108) 109) 111) 112) 113) 115) 116) 117) 118) 115 = true := alu_old a_115_107
  have a_116_115 : (alu (alu (alu (alu (alu (alu (alu (alu (alu (alu (alu (alu (alu al 104) 105) 106) 107) 108) 109) 111) 112) 113) 115) 116) 117) 118) 116 = true := alu_old a_116_107
  have a_117_115 : (alu (alu (alu (alu (alu (alu (alu (alu (alu (alu (alu (alu (alu al 104) 105) 106) 107) 108) 109) 111) 112) 113) 115) 116) 117) 118) 117 = true := alu_old a_117_107
  have a_118_115 : (alu (alu (alu (alu (alu (alu (alu (alu (alu (alu (alu (alu (alu al 104) 105) 106) 107) 108) 109) 111) 112) 113) 115) 116) 117) 118) 118 = true := alu_new
  have k_118_115 : kd 118 = 10 := g_115.2.2.1
  obtain ⟨R_117, e_R_117, h⟩ := lt_some h
  refine r_putq C fr_X8_54 (Or.inr ⟨rfl, hmn, ⟨_, rfl, rfl⟩⟩) hW a_100_115 rfl rfl a_118_115 k_118_115 rfl rfl dX8_init_117 (fun H locs hW => ?_)
  rw [← e_R_117] at hW
  refine lv_aload_n hx hb dX8_init_120 rfl (lv_at hl 0 rfl) ?_
  refine lv_bipush (v := 60) hx hb dX8_init_121 (by decide) ?_
  obtain ⟨g_123, h⟩ := gd_some h
  obtain ⟨I_123, e_I_123, h⟩ := lt_some h
  obtain ⟨R_123, e_R_123, h⟩ := lt_some h
  refine r_newa (at_ := .int) C gm_41 (Or.inr (Or.inl ⟨rfl, rfl⟩)) hW g_123.1 g_123.2.1 g_123.2.2.1 (by decide) g_123.2.2.2 (by rw [← g_123.2.2.2]; decide) (by decide) (by rw [← g_123.2.2.2]; decide) dX8_init_123 (fun H hW => ?_)
  rw [← g_123.2.2.2]
  rw [← e_I_123, ← e_R_123] at hW
  refine W.widen (k := 14) (n := 374) (by decide) (by decide) ?_
  have a_100_123 : (alu (alu (alu (alu (alu (alu (alu (alu (alu (alu (alu (alu (alu (alu al 104) 105) 106) 107) 108) 109) 111) 112) 113) 115) 116) 117) 118) 119) 100 = true := alu_old a_100_115
  have a_104_123 : (alu (alu (alu (alu (alu (alu (alu (alu (alu (alu (alu (alu (alu (alu al 104) 105) 106) 107) 108) 109) 111) 112) 113) 115) 116) 117) 118) 119) 104 = true := alu_old a_104_115
  have a_105_123 : (alu (alu (alu (alu (alu (alu (alu (alu (alu (alu (alu (alu (alu (alu al 104) 105) 106) 107) 108) 109) 111) 112) 113) 115) 116) 117) 118) 119) 105 = true := alu_old a_105_115
  have a_106_123 : (alu (alu (alu (alu (alu (alu (alu (alu (alu (alu (alu (alu (alu (alu al 104) 105) 106) 107) 108) 109) 111) 112) 113) 115) 116) 117) 118) 119) 106 = true := alu_old a_106_115
  have a_107_123 : (alu (alu (alu (alu (alu (alu (alu (alu (alu (alu (alu (alu (alu (alu al 104) 105) 106) 107) 108) 109) 111) 112) 113) 115) 116) 117) 118) 119) 107 = true := alu_old a_107_115
  have a_108_123 : (alu (alu (alu (alu (alu (alu (alu (alu (alu (alu (alu (alu (alu (alu al 104) 105) 106) 107) 108) 109) 111) 112) 113) 115) 116) 117) 118) 119) 108 = true := alu_old a_108_115
  have a_109_123 : (alu (alu (alu (alu (alu (alu (alu (alu (alu (alu (alu (alu (alu (alu al 104) 105) 106) 107) 108) 109) 111) 112) 113) 115) 116) 117) 118) 119) 109 = true := alu_old a_109_115
  have a_111_123 : (alu (alu (alu (alu (alu (alu (alu (alu (alu (alu (alu (alu (alu (alu al 104) 105) 106) 107) 108) 109) 111) 112) 113) 115) 116) 117) 118) 119) 111 = true := alu_old a_111_115
  have a_112_123 : (alu (alu (alu (alu (alu (alu (alu (alu (alu (alu (alu (alu (alu (alu al 104) 105) 106) 107) 108) 109) 111) 112) 113) 115) 116) 117) 118) 119) 112 = true := alu_old a_112_115
  have a_113_123 : (alu (alu (alu (alu (alu (alu (alu (alu (alu (alu (alu (alu (alu (alu al 104) 105) 106) 107) 108) 109) 111) 112) 113) 115) 116) 117) 118) 119) 113 = true := alu_old a_113_115
  have a_115_123 : (alu (alu (alu (alu (alu (alu (alu (alu (alu (alu (alu (alu (alu (alu al 104) 105) 106) 107) 108) 109) 111) 112) 113) 115) 116) 117) 118) 119) 115 = true := alu_old a_115_115
  have a_116_123 : (alu (alu (alu (alu (alu (alu (alu (alu (alu (alu (alu (alu (alu (alu al 104) 105) 106) 107) 108) 109) 111) 112) 113) 115) 116) 117) 118) 119) 116 = true := alu_old a_116_115
  have a_117_123 : (alu (alu (alu (alu (alu (alu (alu (alu (alu (alu (alu (alu (alu (alu al 104) 105) 106) 107) 108) 109) 111) 112) 113) 115) 116) 117) 118) 119) 117 = true := alu_old a_117_115
  have a_118_123 : (alu (alu (alu (alu (alu (alu (alu (alu (alu (alu (alu (alu (alu (alu al 104) 105) 106) 107) 108) 109) 111) 112) 113) 115) 116) 117) 118) 119) 118 = true := alu_old a_118_115
  have a_119_123 : (alu (alu (alu (alu (alu (alu (alu (alu (alu (alu (alu (alu (alu (alu al 104) 105) 106) 107) 108) 109) 111) 112) 113) 115) 116) 117) 118) 119) 119 = true := alu_new
  have k_119_123 : kd 119 = 10 := g_123.2.2.1
  obtain ⟨R_125, e_R_125, h⟩ := lt_some h
  refine r_putq C fr_X8_57 (Or.inr ⟨rfl, hmn, ⟨_, rfl, rfl⟩⟩) hW a_100_123 rfl rfl a_119_123 k_119_123 rfl rfl dX8_init_125 (fun H locs hW => ?_)
  rw [← e_R_125] at hW
  refine lv_aload_n hx hb dX8_init_128 rfl (lv_at hl 0 rfl) ?_
  refine lv_bipush (v := 60) hx hb dX8_init_129 (by decide) ?_
  obtain ⟨g_131, h⟩ := gd_some h
  obtain ⟨I_131, e_I_131, h⟩ := lt_some h
  obtain ⟨R_131, e_R_131, h⟩ := lt_some h
  refine r_newa (at_ := .int) C gm_41 (Or.inr (Or.inl ⟨rfl, rfl⟩)) hW g_131.1 g_131.2.1 g_131.2.2.1 (by decide) g_131.2.2.2 (by rw [← g_131.2.2.2]; decide) (by decide) (by rw [← g_131.2.2.2]; decide) dX8_init_131 (fun H hW => ?_)
  rw [← g_131.2.2.2]
  rw [← e_I_131, ← e_R_131] at hW
  refine W.widen (k := 15) (n := 434) (by decide) (by decide) ?_
  have a_100_131 : (alu (alu (alu (alu (alu (alu (alu (alu (alu (alu (alu (alu (alu (alu (alu al 104) 105) 106) 107) 108) 109) 111) 112) 113) 115) 116) 117) 118) 119) 120) 100 = true := alu_old a_100_123
  have a_104_131 : (alu (alu (alu (alu (alu (alu (alu (alu (alu (alu (alu (alu (alu (alu (alu al 104) 105) 106) 107) 108) 109) 111) 112) 113) 115) 116) 117) 118) 119) 120) 104 = true := alu_old a_104_123
  have a_105_131 : (alu (alu (alu (alu (alu (alu (alu (alu (alu (alu (alu (alu (alu (alu (alu al 104) 105) 106) 107) 108) 109) 111) 112) 113) 115) 116) 117) 118) 119) 120) 105 = true := alu_old a_105_123
  have a_106_131 : (alu (alu (alu (alu (alu (alu (alu (alu (alu (alu (alu (alu (alu (alu (alu al 104) 105) 106) 107) 108) 109) 111) 112) 113) 115) 116) 117) 118) 119) 120) 106 = true := alu_old a_106_123
  have a_107_131 : (alu (alu (alu (alu (alu (alu (alu (alu (alu (alu (alu (alu (alu (alu (alu al 104) 105) 106) 107) 108) 109) 111) 112) 113) 115) 116) 117) 118) 119) 120) 107 = true := alu_old a_107_123
  have a_108_131 : (alu (alu (alu (alu (alu (alu (alu (alu (alu (alu (alu (alu (alu (alu (alu al 104) 105) 106) 107) 108) 109) 111) 112) 113) 115) 116) 117) 118) 119) 120) 108 = true := alu_old a_108_123
  have a_109_131 : (alu (alu (alu (alu (alu (alu (alu (alu (alu (alu (alu (alu (alu (alu (alu al 104) 105) 106) 107) 108) 109) 111) 112) 113) 115) 116) 117) 118) 119) 120) 109 = true := alu_old a_109_123
  have a_111_131 : (alu (alu (alu (alu (alu (alu (alu (alu (alu (alu (alu (alu (alu (alu (alu al 104) 105) 106) 107) 108) 109) 111) 112) 113) 115) 116) 117) 118) 119) 120) 111 = true := alu_old a_111_123
  have a_112_131 : (alu (alu (alu (alu (alu (alu (alu (alu (alu (alu (alu (alu (alu (alu (alu al 104) 105) 106) 107) 108) 109) 111) 112) 113) 115) 116) 117) 118) 119) 120) 112 = true := alu_old a_112_123
  have a_113_131 : (alu (alu (alu (alu (alu (alu (alu (alu (alu (alu (alu (alu (alu (alu (alu al 104) 105) 106) 107) 108) 109) 111) 112) 113) 115) 116) 117) 118) 119) 120) 113 = true := alu_old a_113_123
  have a_115_131 : (alu (alu (alu (alu (alu (alu (alu (alu (alu (alu (alu (alu (alu (alu (alu al 104) 105) 106) 107) 108) 109) 111) 112) 113) 115) 116) 117) 118) 119) 120) 115 = true := alu_old a_115_123
  have a_116_131 : (alu (alu (alu (alu (alu (alu (alu (alu (alu (alu (alu (alu (alu (alu (alu al 104) 105) 106) 107) 108) 109) 111) 112) 113) 115) 116) 117) 118) 119) 120) 116 = true := alu_old a_116_123
  have a_117_131 : (alu (alu (alu (alu (alu (alu (alu (alu (alu (alu (alu (alu (alu (alu (alu al 104) 105) 106) 107) 108) 109) 111) 112) 113) 115) 116) 117) 118) 119) 120) 117 = true := alu_old a_117_123
  have a_118_131 : (alu (alu (alu (alu (alu (alu (alu (alu (alu (alu (alu (alu (alu (alu (alu al 104) 105) 106) 107) 108) 109) 111) 112) 113) 115) 116) 117) 118) 119) 120) 118 = true := alu_old a_118_123
  have a_119_131 : (alu (alu (alu (alu (alu (alu (alu (alu (alu (alu (alu (alu (alu (alu (alu al 104) 105) 106) 107) 108) 109) 111) 112) 113) 115) 116) 117) 118) 119) 120) 119 = true := alu_old a_119_123
  have a_120_131 : (alu (alu (alu (alu (alu (alu (alu (alu (alu (alu (alu (alu (alu (alu (alu al 104) 105) 106) 107) 108) 109) 111) 112) 113) 115) 116) 117) 118) 119) 120) 120 = true := alu_new
  have k_120_131 : kd 120 = 10 := g_131.2.2.1
  obtain ⟨R_133, e_R_133, h⟩ := lt_some h
  refine r_putq C fr_X8_60 (Or.inr ⟨rfl, hmn, ⟨_, rfl, rfl⟩⟩) hW a_100_131 rfl rfl a_120_131 k_120_131 rfl rfl dX8_init_133 (fun H locs hW => ?_)
  rw [← e_R_133] at hW
  refine lv_aload_n hx hb dX8_init_136 rfl (lv_at hl 0 rfl) ?_
  refine lv_bipush (v := 60) hx hb dX8_init_137 (by decide) ?_
  obtain ⟨g_139, h⟩ := gd_some h
  obtain ⟨I_139, e_I_139, h⟩ := lt_some h
  obtain ⟨R_139, e_R_139, h⟩ := lt_some h
  refine r_newa (at_ := .int) C gm_41 (Or.inr (Or.inl ⟨rfl, rfl⟩)) hW g_139.1 g_139.2.1 g_139.2.2.1 (by decide) g_139.2.2.2 (by rw [← g_139.2.2.2]; decide) (by decide) (by rw [← g_139.2.2.2]; decide) dX8_init_139 (fun H hW => ?_)
  rw [← g_139.2.2.2]
  rw [← e_I_139, ← e_R_139] at hW
  refine W.widen (k := 16) (n := 494) (by decide) (by decide) ?_
  have a_100_139 : (alu (alu (alu (alu (alu (alu (alu (alu (alu (alu (alu (alu (alu (alu (alu (alu al 104) 105) 106) 107) 108) 109) 111) 112) 113) 115) 116) 117) 118) 119) 120) 121) 100 = true := alu_old a_100_131
  have a_104_139 : (alu (alu (alu (alu (alu (alu (alu (alu (alu (alu (alu (alu (alu (alu (alu (alu al 104) 105) 106) 107) 108) 109) 111) 112) 113) 115) 116) 117) 118) 119) 120) 121) 104 = true := alu_old a_104_131
  have a_105_139 : (alu (alu (alu (alu (alu (alu (alu (alu (alu (alu (alu (alu (alu (alu (alu (alu al 104) 105) 106) 107) 108) 109) 111) 112) 113) 115) 116) 117) 118) 119) 120) 121) 105 = true := alu_old a_105_131
  have a_106_139 : (alu (alu (alu (alu (alu (alu (alu (alu (alu (alu (alu (alu (alu (alu (alu (alu al 104) 105) 106) 107) 108) 109) 111) 112) 113) 115) 116) 117) 118) 119) 120) 121) 106 = true := alu_old a_106_131
  have a_107_139 : (alu (alu (alu (alu (alu (alu (alu (alu (alu (alu (alu (alu (alu (alu (alu (alu al 104) 105) 106) 107) 108) 109) 111) 112) 113) 115) 116) 117) 118) 119) 120) 121) 107 = true := alu_old a_107_131
  have a_108_139 : (alu (alu (alu (alu (alu (alu (alu (alu (alu (alu (alu (alu (alu (alu (alu (alu al 104) 105) 106) 107) 108) 109) 111) 112) 113) 115) 116) 117) 118) 119) 120) 121) 108 = true := alu_old a_108_131
  have a_109_139 : (alu (alu (alu (alu (alu (alu (alu (alu (alu (alu (alu (alu (alu (alu (alu (alu al 104) 105) 106) 107) 108) 109) 111) 112) 113) 115) 116) 117) 118) 119) 120) 121) 109 = true := alu_old a_109_131
  have a_111_139 : (alu (alu (alu (alu (alu (alu (alu (alu (alu (alu (alu (alu (alu (alu (alu (alu al 104) 105) 106) 107) 108) 109) 111) 112) 113) 115) 116) 117) 118) 119) 120) 121) 111 = true := alu_old a_111_131
  have a_112_139 : (alu (alu (alu (alu (alu (alu (alu (alu (alu (alu (alu (alu (alu (alu (alu (alu al 104) 105) 106) 107) 108) 109) 111) 112) 113) 115) 116) 117) 118) 119) 120) 121) 112 = true := alu_old a_112_131
  have a_113_139 : (alu (alu (alu (alu (alu (alu (alu (alu (alu (alu (alu (alu (alu (alu (alu (alu al 104) 105) 106) 107) 108) 109) 111) 112) 113) 115) 116) 117) 118) 119) 120) 121) 113 = true := alu_old a_113_131
  have a_115_139 : (alu (alu (alu (alu (alu (alu (alu (alu (alu (alu (alu (alu (alu (alu (alu (alu al 104) 105) 106) 107) 108) 109) 111) 112) 113) 115) 116) 117) 118) 119) 120) 121) 115 = true := alu_old a_115_131
  have a_116_139 : (alu (alu (alu (alu (alu (alu (alu (alu (alu (alu (alu (alu (alu (alu (alu (alu al 104) 105) 106) 107) 108) 109) 111) 112) 113) 115) 116) 117) 118) 119) 120) 121) 116 = true := alu_old a_116_131
  have a_117_139 : (alu (alu (alu (alu (alu (alu (alu (alu (alu (alu (alu (alu (alu (alu (alu (alu al 104) 105) 106) 107) 108) 109) 111) 112) 113) 115) 116) 117) 118) 119) 120) 121) 117 = true := alu_old a_117_131
  have a_118_139 : (alu (alu (alu (alu (alu (alu (alu (alu (alu (alu (alu (alu (alu (alu (alu (alu al 104) 105) 106) 107) 108) 109) 111) 112) 113) 115) 116) 117) 118) 119) 120) 121) 118 = true := alu_old a_118_131
  have a_119_139 : (alu (alu (alu (alu (alu (alu (alu (alu (alu (alu (alu (alu (alu (alu (alu (alu al 104) 105) 106) 107) 108) 109) 111) 112) 113) 115) 116) 117) 118) 119) 120) 121) 119 = true := alu_old a_119_131
  have a_120_139 : (alu (alu (alu (alu (alu (alu (alu (alu (alu (alu (alu (alu (alu (alu (alu (alu al 104) 105) 106) 107) 108) 109) 111) 112) 113) 115) 116) 117) 118) 119) 120) 121) 120 = true := alu_old a_120_131
  have a_121_139 : (alu (alu (alu (alu (alu (alu (alu (alu (alu (alu (alu (alu (alu (alu (alu (alu al 104) 105) 106) 107) 108) 109) 111) 112) 113) 115) 116) 117) 118) 119) 120) 121) 121 = true := alu_new
  have k_121_139 : kd 121 = 10 := g_139.2.2.1
  obtain ⟨R_141, e_R_141, h⟩ := lt_some h
  refine r_putq C fr_X8_63 (Or.inr ⟨rfl, hmn, ⟨_, rfl, rfl⟩⟩) hW a_100_139 rfl rfl a_121_139 k_121_139 rfl rfl dX8_init_141 (fun H locs hW => ?_)
  rw [← e_R_141] at hW
  refine lv_aload_n hx hb dX8_init_144 rfl (lv_at hl 0 rfl) ?_
  refine lv_bipush (v := 60) hx hb dX8_init_145 (by decide) ?_
  obtain ⟨g_147, h⟩ := gd_some h
  obtain ⟨I_147, e_I_147, h⟩ := lt_some h
  obtain ⟨R_147, e_R_147, h⟩ := lt_some h
  refine r_newa (at_ := .int) C gm_41 (Or.inr (Or.inl ⟨rfl, rfl⟩)) hW g_147.1 g_147.2.1 g_147.2.2.1 (by decide) g_147.2.2.2 (by rw [← g_147.2.2.2]; decide) (by decide) (by rw [← g_147.2.2.2]; decide) dX8_init_147 (fun H hW => ?_)
  rw [← g_147.2.2.2]
  rw [← e_I_147, ← e_R_147] at hW
  refine W.widen (k := 17) (n := 554) (by decide) (by decide) ?_
  have a_100_147 : (alu (alu (alu (alu (alu (alu (alu (alu (alu (alu (alu (alu (alu (alu (alu (alu (alu al 104) 105) 106) 107) 108) 109) 111) 112) 113) 115) 116) 117) 118) 119) 120) 121) 122) 100 = true := alu_old a_100_139
  have a_104_147 : (alu (alu (alu (alu (alu (alu (alu (alu (alu (alu (alu (alu (alu (alu (alu (alu (alu al 104) 105) 106) 107) 108) 109) 111) 112) 113) 115) 116) 117) 118) 119) 120) 121) 122) 104 = true := alu_old a_104_139
  have a_105_147 : (alu (alu (alu (alu (alu (alu (alu (alu (alu (alu (alu (alu (alu (alu (alu (alu (alu al 104) 105) 106) 107) 108) 109) 111) 112) 113) 115) 116) 117) 118) 119) 120) 121) 122) 105 = true := alu_old a_105_139
  have a_106_147 : (alu (alu (alu (alu (alu (alu (alu (alu (alu (alu (alu (alu (alu (alu (alu (alu (alu al 104) 105) 106) 107) 108) 109) 111) 112) 113) 115) 116) 117) 118) 119) 120) 121) 122) 106 = true := alu_old a_106_139
  have a_107_147 : (alu (alu (alu (alu (alu (alu (alu (alu (alu (alu (alu (alu (alu (alu (alu (alu (alu al 104) 105) 106) 107) 108) 109) 111) 112) 113) 115) 116) 117) 118) 119) 120) 121) 122) 107 = true := alu_old a_107_139
  have a_108_147 : (alu (alu (alu (alu (alu (alu (alu (alu (alu (alu (alu (alu (alu (alu (alu (alu (alu al 104) 105) 106) 107) 108) 109) 111) 112) 113) 115) 116) 117) 118) 119) 120) 121) 122) 108 = true := alu_old a_108_139
  have a_109_147 : (alu (alu (alu (alu (alu (alu (alu (alu (alu (alu (alu (alu (alu (alu (alu (alu (alu al 104) 105) 106) 107) 108) 109) 111) 112) 113) 115) 116) 117) 118) 119) 120) 121) 122) 109 = true := alu_old a_109_139
  have a_111_147 : (alu (alu (alu (alu (alu (alu (alu (alu (alu (alu (alu (alu (alu (alu (alu (alu (alu al 104) 105) 106) 107) 108) 109) 111) 112) 113) 115) 116) 117) 118) 119) 120) 121) 122) 111 = true := alu_old a_111_139
  have a_112_147 : (alu (alu (alu (alu (alu (alu (alu (alu (alu (alu (alu (alu (alu (alu (alu (alu (alu al 104) 105) 106) 107) 108) 109) 111) 112) 113) 115) 116) 117) 118) 119) 120) 121) 122) 112 = true := alu_old a_112_139
  have a_113_147 : (alu (alu (alu (alu (alu (alu (alu (alu (alu (alu (alu (alu (alu (alu (alu (alu (alu al 104) 105) 106) 107) 108) 109) 111) 112) 113) 115) 116) 117) 118) 119) 120) 121) 122) 113 = true := alu_old a_113_139
  have a_115_147 : (alu (alu (alu (alu (alu (alu (alu (alu (alu (alu (alu (alu (alu (alu (alu (alu (alu al 104) 105) 106) 107) 108) 109) 111) 112) 113) 115) 116) 117) 118) 119) 120) 121) 122) 115 = true := alu_old a_115_139
  have a_116_147 : (alu (alu (alu (alu (alu (alu (alu (alu (alu (alu (alu (alu (alu (alu (alu (alu (alu al 104) 105) 106) 107) 108) 109) 111) 112) 113) 115) 116) 117) 118) 119) 120) 121) 122) 116 = true := alu_old a_116_139
  have a_117_147 : (alu (alu (alu (alu (alu (alu (alu (alu (alu (alu (alu (alu (alu (alu (alu (alu (alu al 104) 105) 106) 107) 108) 109) 111) 112) 113) 115) 116) 117) 118) 119) 120) 121) 122) 117 = true := alu_old a_117_139
  have a_118_147 : (alu (alu (alu (alu (alu (alu (alu (alu (alu (alu (alu (alu (alu (alu (alu (alu (alu al 104) 105) 106) 107) 108) 109) 111) 112) 113) 115) 116) 117) 118) 119) 120) 121) 122) 118 = true := alu_old a_118_139
  have a_119_147 : (alu (alu (alu (alu (alu (alu (alu (alu (alu (alu (alu (alu (alu (alu (alu (alu (alu al 104) 105) 106) 107) 108) 109) 111) 112) 113) 115) 116) 117) 118) 119) 120) 121) 122) 119 = true := alu_old a_119_139
  have a_120_147 : (alu (alu (alu (alu (alu (alu (alu (alu (alu (alu (alu (alu (alu (alu (alu (alu (alu al 104) 105) 106) 107) 108) 109) 111) 112) 113) 115) 116) 117) 118) 119) 120) 121) 122) 120 = true := alu_old a_120_139
  have a_121_147 : (alu (alu (alu (alu (alu (alu (alu (alu (alu (alu (alu (alu (alu (alu (alu (alu (alu al 104) 105) 106) 107) 108) 109) 111) 112) 113) 115) 116) 117) 118) 119) 120) 121) 122) 121 = true := alu_old a_121_139
  have a_122_147 : (alu (alu (alu (alu (alu (alu (alu (alu (alu (alu (alu (alu (alu (alu (alu (alu (alu al 104) 105) 106) 107) 108) 109) 111) 112) 113) 115) 116) 117) 118) 119) 120) 121) 122) 122 = true := alu_new
  have k_122_147 : kd 122 = 10 := g_147.2.2.1
  obtain ⟨R_149, e_R_149, h⟩ := lt_some h
  refine r_putq C fr_X8_66 (Or.inr ⟨rfl, hmn, ⟨_, rfl, rfl⟩⟩) hW a_100_147 rfl rfl a_122_147 k_122_147 rfl rfl dX8_init_149 (fun H locs hW => ?_)
  rw [← e_R_149] at hW
  refine lv_aload_n hx hb dX8_init_152 rfl (lv_at hl 0 rfl) ?_
  refine lv_bipush (v := 60) hx hb dX8_init_153 (by decide) ?_
  obtain ⟨g_155, h⟩ := gd_some h
  obtain ⟨I_155, e_I_155, h⟩ := lt_some h
  obtain ⟨R_155, e_R_155, h⟩ := lt_some h
  refine r_newa (at_ := .int) C gm_41 (Or.inr (Or.inl ⟨rfl, rfl⟩)) hW g_155.1 g_155.2.1 g_155.2.2.1 (by decide) g_155.2.2.2 (by rw [← g_155.2.2.2]; decide) (by decide) (by rw [← g_155.2.2.2]; decide) dX8_init_155 (fun H hW => ?_)
  rw [← g_155.2.2.2]
  rw [← e_I_155, ← e_R_155] at hW
  refine W.widen (k := 18) (n := 614) (by decide) (by decide) ?_
  have a_100_155 : (alu (alu (alu (alu (alu (alu (alu (alu (alu (alu (alu (alu (alu (alu (alu (alu (alu (alu al 104) 105) 106) 107) 108) 109) 111) 112) 113) 115) 116) 117) 118) 119) 120) 121) 122) 123) 100 = true := alu_old a_100_147
  have a_104_155 : (alu (alu (alu (alu (alu (alu (alu (alu (alu (alu (alu (alu (alu (alu (alu (alu (alu (alu al 104) 105) 106) 107) 108) 109) 111) 112) 113) 115) 116) 117) 118) 119) 120) 121) 122) 123) 104 = true := alu_old a_104_147
  have a_105_155 : (alu (alu (alu (alu (alu (alu (alu (alu (alu (alu (alu (alu (alu (alu (alu (alu (alu (alu al 104) 105) 106) 107) 108) 109) 111) 112) 113) 115) 116) 117) 118) 119) 120) 121) 122) 123) 105 = true := alu_old a_105_147
  have a_106_155 : (alu (alu (alu (alu (alu (alu (alu (alu (alu (alu (alu (alu (alu (alu (alu (alu (alu (alu al 104) 105) 106) 107) 108) 109) 111) 112) 113) 115) 116) 117) 118) 119) 120) 121) 122) 123) 106 = true := alu_old a_106_147
  have a_107_155 : (alu (alu (alu (alu (alu (alu (alu (alu (alu (alu (alu (alu (alu (alu (alu (alu (alu (alu al 104) 105) 106) 107) 108) 109) 111) 112) 113) 115) 116) 117) 118) 119) 120) 121) 122) 123) 107 = true := alu_old a_107_147
  have a_108_155 : (alu (alu (alu (alu (alu (alu (alu (alu (alu (alu (alu (alu (alu (alu (alu (alu (alu (alu al 104) 105) 106) 107) 108) 109) 111) 112) 113) 115) 116) 117) 118) 119) 120) 121) 122) 123) 108 = true := alu_old a_108_147
  have a_109_155 : (alu (alu (alu (alu (alu (alu (alu (alu (alu (alu (alu (alu (alu (alu (alu (alu (alu (alu al 104) 105) 106) 107) 108) 109) 111) 112) 113) 115) 116) 117) 118) 119) 120) 121) 122) 123) 109 = true := alu_old a_109_147
  have a_111_155 : (alu (alu (alu (alu (alu (alu (alu (alu (alu (alu (alu (alu (alu (alu (alu (alu (alu (alu al 104) 105) 106) 107) 108) 109) 111) 112) 113) 115) 116) 117) 118) 119) 120) 121) 122) 123) 111 = true := alu_old a_111_147
  have a_112_155 : (alu (alu (alu (alu (alu (alu (alu (alu (alu (alu (alu (alu (alu (alu (alu (alu (alu (alu al 104) 105) 106) 107) 108) 109) 111) 112) 113) 115) 116) 117) 118) 119) 120) 121) 122) 123) 112 = true := alu_old a_112_147
  have a_113_155 : (alu (alu (alu (alu (alu (alu (alu (alu (alu (alu (alu (alu (alu (alu (alu (alu (alu (alu al 104) 105) 106) 107) 108) 109) 111) 112) 113) 115) 116) 117) 118) 119) 120) 121) 122) 123) 113 = true := alu_old a_113_147
  have a_115_155 : (alu (alu (alu (alu (alu (alu (alu (alu (alu (alu (alu (alu (alu (alu (alu (alu (alu (alu al 104) 105) 106) 107) 108) 109) 111) 112) 113) 115) 116) 117) 118) 119) 120) 121) 122) 123) 115 = true := alu_old a_115_147
  have a_116_155 : (alu (alu (alu (alu (alu (alu (alu (alu (alu (alu (alu (alu (alu (alu (alu (alu (alu (alu al 104) 105) 106) 107) 108) 109) 111) 112) 113) 115) 116) 117) 118) 119) 120) 121) 122) 123) 116 = true := alu_old a_116_147
  have a_117_155 : (alu (alu (alu (alu (alu (alu (alu (alu (alu (alu (alu (alu (alu (alu (alu (alu (alu (alu al 104) 105) 106) 107) 108) 109) 111) 112) 113) 115) 116) 117) 118) 119) 120) 121) 122) 123) 117 = true := alu_old a_117_147
  have a_118_155 : (alu (alu (alu (alu (alu (alu (alu (alu (alu (alu (alu (alu (alu (alu (alu (alu (alu (alu al 104) 105) 106) 107) 108) 109) 111) 112) 113) 115) 116) 117) 118) 119) 120) 121) 122) 123) 118 = true := alu_old a_118_147
  have a_119_155 : (alu (alu (alu (alu (alu (alu (alu (alu (alu (alu (alu (alu (alu (alu (alu (alu (alu (alu al 104) 105) 106) 107) 108) 109) 111) 112) 113) 115) 116) 117) 118) 119) 120) 121) 122) 123) 119 = true := alu_old a_119_147
  have a_120_155 : (alu (alu (alu (alu (alu (alu (alu (alu (alu (alu (alu (alu (alu (alu (alu (alu (alu (alu al 104) 105) 106) 107) 108) 109) 111) 112) 113) 115) 116) 117) 118) 119) 120) 121) 122) 123) 120 = true := alu_old a_120_147
  have a_121_155 : (alu (alu (alu (alu (alu (alu (alu (alu (alu (alu (alu (alu (alu (alu (alu (alu (alu (alu al 104) 105) 106) 107) 108) 109) 111) 112) 113) 115) 116) 117) 118) 119) 120) 121) 122) 123) 121 = true := alu_old a_121_147
  have a_122_155 : (alu (alu (alu (alu (alu (alu (alu (alu (alu (alu (alu (alu (alu (alu (alu (alu (alu (alu al 104) 105) 106) 107) 108) 109) 111) 112) 113) 115) 116) 117) 118) 119) 120) 121) 122) 123) 122 = true := alu_old a_122_147
  have a_123_155 : (alu (alu (alu (alu (alu (alu (alu (alu (alu (alu (alu (alu (alu (alu (alu (alu (alu (alu al 104) 105) 106) 107) 108) 109) 111) 112) 113) 115) 116) 117) 118) 119) 120) 121) 122) 123) 123 = true := alu_new
  have k_123_155 : kd 123 = 10 := g_155.2.2.1
  obtain ⟨R_157, e_R_157, h⟩ := lt_some h
  refine r_putq C fr_X8_69 (Or.inr ⟨rfl, hmn, ⟨_, rfl, rfl⟩⟩) hW a_100_155 rfl rfl a_123_155 k_123_155 rfl rfl dX8_init_157 (fun H locs hW => ?_)
  rw [← e_R_157] at hW
  refine lv_aload_n hx hb dX8_init_160 rfl (lv_at hl 0 rfl) ?_
  refine lv_bipush (v := 60) hx hb dX8_init_161 (by decide) ?_
  obtain ⟨g_163, h⟩ := gd_some h
  obtain ⟨I_163, e_I_163, h⟩ := lt_some h
  obtain ⟨R_163, e_R_163, h⟩ := lt_some h
  refine r_newa (at_ := .boolean) C gm_42 (Or.inr (Or.inr ⟨rfl, rfl⟩)) hW g_163.1 g_163.2.1 g_163.2.2.1 (by decide) g_163.2.2.2 (by rw [← g_163.2.2.2]; decide) (by decide) (by rw [← g_163.2.2.2]; decide) dX8_init_163 (fun H hW => ?_)
  rw [← g_163.2.2.2]
  rw [← e_I_163, ← e_R_163] at hW
  refine W.widen (k := 19) (n := 674) (by decide) (by decide) ?_
  have a_100_163 : (alu (alu (alu (alu (alu (alu (alu (alu (alu (alu (alu (alu (alu (alu (alu (alu (alu (alu (alu al 104) 105) 106) 107) 108) 109) 111) 112) 113) 115) 116) 117) 118) 119) 120) 121) 122) 123) 124) 100 = true := alu_old a_100_155
  have a_104_163 : (alu (alu (alu (alu (alu (alu (alu (alu (alu (alu (alu (alu (alu (alu (alu (alu (alu (alu (alu al 104) 105) 106) 107) 108) 109) 111) 112) 113) 115) 116) 117) 118) 119) 120) 121) 122) 123) 124) 104 = true := alu_old a_104_155
  have a_105_163 : (alu (alu (alu (alu (alu (alu (alu (alu (alu (alu (alu (alu (alu (alu (alu (alu (alu (alu (alu al 104) 105) 106) 107) 108) 109) 111) 112) 113) 115) 116) 117) 118) 119) 120) 121) 122) 123) 124) 105 = true := alu_old a_105_155
  have a_106_163 : (alu (alu (alu (alu (alu (alu (alu (alu (alu (alu (alu (alu (alu (alu (alu (alu (alu (alu (alu al 104) 105) 106) 107) 108) 109) 111) 112) 113) 115) 116) 117) 118) 119) 120) 121) 122) 123) 124) 106 = true := alu_old a_106_155
  have a_107_163 : (alu (alu (alu (alu (alu (alu (alu (alu (alu (alu (alu (alu (alu (alu (alu (alu (alu (alu (alu al 104) 105) 106) 107) 108) 109) 111) 112) 113) 115) 116) 117) 118) 119) 120) 121) 122) 123) 124) 107 = true := alu_old a_107_155
  have a_108_163 : (alu (alu (alu (alu (alu (alu (alu (alu (alu (alu (alu (alu (alu (alu (alu (alu (alu (alu (alu al 104) 105) 106) 107) 108) 109) 111) 112) 113) 115) 116) 117) 118) 119) 120) 121) 122) 123) 124) 108 = true := alu_old a_108_155
  have a_109_163 : (alu (alu (alu (alu (alu (alu (alu (alu (alu (alu (alu (alu (alu (alu (alu (alu (alu (alu (alu al 104) 105) 106) 107) 108) 109) 111) 112) 113) 115) 116) 117) 118) 119) 120) 121) 122) 123) 124) 109 = true := alu_old a_109_155
  have a_111_163 : (alu (alu (alu (alu (alu (alu (alu (alu (alu (alu (alu (alu (alu (alu (alu (alu (alu (alu (alu al 104) 105) 106) 107) 108) 109) 111) 112) 113) 115) 116) 117) 118) 119) 120) 121) 122) 123) 124) 111 = true := alu_old a_111_155
  have a_112_163 : (alu (alu (alu (alu (alu (alu (alu (alu (alu (alu (alu (alu (alu (alu (alu (alu (alu (alu (alu al 104) 105) 106) 107) 108) 109) 111) 112) 113) 115) 116) 117) 118) 119) 120) 121) 122) 123) 124) 112 = true := alu_old a_112_155
  have a_113_163 : (alu (alu (alu (alu (alu (alu (alu (alu (alu (alu (alu (alu (alu (alu (alu (alu (alu (alu (alu al 104) 105) 106) 107) 108) 109) 111) 112) 113) 115) 116) 117) 118) 119) 120) 121) 122) 123) 124) 113 = true := alu_old a_113_155
  have a_115_163 : (alu (alu (alu (alu (alu (alu (alu (alu (alu (alu (alu (alu (alu (alu (alu (alu (alu (alu (alu al 104) 105) 106) 107) 108) 109) 111) 112) 113) 115) 116) 117) 118) 119) 120) 121) 122) 123) 124) 115 = true := alu_old a_115_155
  have a_116_163 : (alu (alu (alu (alu (alu (alu (alu (alu (alu (alu (alu (alu (alu (alu (alu (alu (alu (alu (alu al 104) 105) 106) 107) 108) 109) 111) 112) 113) 115) 116) 117) 118) 119) 120) 121) 122) 123) 124) 116 = true := alu_old a_116_155
  have a_117_163 : (alu (alu (alu (alu (alu (alu (alu (alu (alu (alu (alu (alu (alu (alu (alu (alu (alu (alu (alu al 104) 105) 106) 107) 108) 109) 111) 112) 113) 115) 116) 117) 118) 119) 120) 121) 122) 123) 124) 117 = true := alu_old a_117_155
  have a_118_163 : (alu (alu (alu (alu (alu (alu (alu (alu (alu (alu (alu (alu (alu (alu (alu (alu (alu (alu (alu al 104) 105) 106) 107) 108) 109) 111) 112) 113) 115) 116) 117) 118) 119) 120) 121) 122) 123) 124) 118 = true := alu_old a_118_155
  have a_119_163 : (alu (alu (alu (alu (alu (alu (alu (alu (alu (alu (alu (alu (alu (alu (alu (alu (alu (alu (alu al 104) 105) 106) 107) 108) 109) 111) 112) 113) 115) 116) 117) 118) 119) 120) 121) 122) 123) 124) 119 = true := alu_old a_119_155
  have a_120_163 : (alu (alu (alu (alu (alu (alu (alu (alu (alu (alu (alu (alu (alu (alu (alu (alu (alu (alu (alu al 104) 105) 106) 107) 108) 109) 111) 112) 113) 115) 116) 117) 118) 119) 120) 121) 122) 123) 124) 120 = true := alu_old a_120_155
  have a_121_163 : (alu (alu (alu (alu (alu (alu (alu (alu (alu (alu (alu (alu (alu (alu (alu (alu (alu (alu (alu al 104) 105) 106) 107) 108) 109) 111) 112) 113) 115) 116) 117) 118) 119) 120) 121) 122) 123) 124) 121 = true := alu_old a_121_155
  have a_122_163 : (alu (alu (alu (alu (alu (alu (alu (alu (alu (alu (alu (alu (alu (alu (alu (alu (alu (alu (alu al 104) 105) 106) 107) 108) 109) 111) 112) 113) 115) 116) 117) 118) 119) 120) 121) 122) 123) 124) 122 = true := alu_old a_122_155
  have a_123_163 : (alu (alu (alu (alu (alu (alu (alu (alu (alu (alu (alu (alu (alu (alu (alu (alu (alu (alu (alu al 104) 105) 106) 107) 108) 109) 111) 112) 113) 115) 116) 117) 118) 119) 120) 121) 122) 123) 124) 123 = true := alu_old a_123_155
  have a_124_163 : (alu (alu (alu (alu (alu (alu (alu (alu (alu (alu (alu (alu (alu (alu (alu (alu (alu (alu (alu al 104) 105) 106) 107) 108) 109) 111) 112) 113) 115) 116) 117) 118) 119) 120) 121) 122) 123) 124) 124 = true := alu_new
  have k_124_163 : kd 124 = 11 := g_163.2.2.1
  obtain ⟨R_165, e_R_165, h⟩ := lt_some h
  refine r_putq C fr_X8_72 (Or.inr ⟨rfl, hmn, ⟨_, rfl, rfl⟩⟩) hW a_100_163 rfl rfl a_124_163 k_124_163 rfl rfl dX8_init_165 (fun H locs hW => ?_)
  rw [← e_R_165] at hW
  refine lv_aload_n hx hb dX8_init_168 rfl (lv_at hl 0 rfl) ?_
  refine lv_iconst (v := 2) hx hb dX8_init_169 (by decide) ?_
  obtain ⟨I_170, e_I_170, h⟩ := lt_some h
  refine r_put C fr_X8_75 (Or.inl rfl) hW a_100_163 rfl rfl rfl rfl dX8_init_170 (fun H locs hW => ?_)
  rw [← e_I_170] at hW
  refine lv_aload_n hx hb dX8_init_173 rfl (lv_at hl 0 rfl) ?_
  refine lv_sipush (v := 200) hx hb dX8_init_174 (by decide) ?_
  obtain ⟨g_177, h⟩ := gd_some h
  obtain ⟨I_177, e_I_177, h⟩ := lt_some h
  obtain ⟨R_177, e_R_177, h⟩ := lt_some h
  refine r_newa (at_ := .byte) C gm_43 (Or.inl ⟨rfl, rfl⟩) hW g_177.1 g_177.2.1 g_177.2.2.1 (by decide) g_177.2.2.2 (by rw [← g_177.2.2.2]; decide) (by decide) (by rw [← g_177.2.2.2]; decide) dX8_init_177 (fun H hW => ?_)
  rw [← g_177.2.2.2]
  rw [← e_I_177, ← e_R_177] at hW
  refine W.widen (k := 20) (n := 874) (by decide) (by decide) ?_
  have a_100_177 : (alu (alu (alu (alu (alu (alu (alu (alu (alu (alu (alu (alu (alu (alu (alu (alu (alu (alu (alu (alu al 104) 105) 106) 107) 108) 109) 111) 112) 113) 115) 116) 117) 118) 119) 120) 121) 122) 123) 124) 131) 100 = true := alu_old a_100_163
  have a_104_177 : (alu (alu (alu (alu (alu (alu (alu (alu (alu (alu (alu (alu (alu (alu (alu (alu (alu (alu (alu (alu al 104) 105) 106) 107) 108) 109) 111) 112) 113) 115) 116) 117) 118) 119) 120) 121) 122) 123) 124) 131) 104 = true := alu_old a_104_163
  have a_105_177 : (alu (alu (alu (alu (alu (alu (alu (alu (alu (alu (alu (alu (alu (alu (alu (alu (alu (alu (alu (alu al 104) 105) 106) 107) 108) 109) 111) 112) 113) 115) 116) 117) 118) 119) 120) 121) 122) 123) 124) 131) 105 = true := alu_old a_105_163
  have a_106_177 : (alu (alu (alu (alu (alu (alu (alu (alu (alu (alu (alu (alu (alu (alu (alu (alu (alu (alu (alu (alu al 104) 105) 106) 107) 108) 109) 111) 112) 113) 115) 116) 117) 118) 119) 120) 121) 122) 123) 124) 131) 106 = true := alu_old a_106_163
  have a_107_177 : (alu (alu (alu (alu (alu (alu (alu (alu (alu (alu (alu (alu (alu (alu (alu (alu (alu (alu (alu (alu al 104) 105) 106) 107) 108) 109) 111) 112) 113) 115) 116) 117) 118) 119) 120) 121) 122) 123) 124) 131) 107 = true := alu_old a_107_163
  have a_108_177 : (alu (alu (alu (alu (alu (alu (alu (alu (alu (alu (alu (alu (alu (alu (alu (alu (alu (alu (alu (alu al 104) 105) 106) 107) 108) 109) 111) 112) 113) 115) 116) 117) 118) 119) 120) 121) 122) 123) 124) 131) 108 = true := alu_old a_108_163
  have a_109_177 : (alu (alu (alu (alu (alu (alu (alu (alu (alu (alu (alu (alu (alu (alu (alu (alu (alu (alu (alu (alu al 104) 105) 106) 107) 108) 109) 111) 112) 113) 115) 116) 117) 118) 119) 120) 121) 122) 123) 124) 131) 109 = true := alu_old a_109_163
  have a_111_177 : (alu (alu (alu (alu (alu (alu (alu (alu (alu (alu (alu (alu (alu (alu (alu (alu (alu (alu (alu (alu al 104) 105) 106) 107) 108) 109) 111) 112) 113) 115) 116) 117) 118) 119) 120) 121) 122) 123) 124) 131) 111 = true := alu_old a_111_163
  have a_112_177 : (alu (alu (alu (alu (alu (alu (alu (alu (alu (alu (alu (alu (alu (alu (alu (alu (alu (alu (alu (alu al 104) 105) 106) 107) 108) 109) 111) 112) 113) 115) 116) 117) 118) 119) 120) 121) 122) 123) 124) 131) 112 = true := alu_old a_112_163
  have a_113_177 : (alu (alu (alu (alu (alu (alu (alu (alu (alu (alu (alu (alu (alu (alu (alu (alu (alu (alu (alu (alu al 104) 105) 106) 107) 108) 109) 111) 112) 113) 115) 116) 117) 118) 119) 120) 121) 122) 123) 124) 131) 113 = true := alu_old a_113_163
  have a_115_177 : (alu (alu (alu (alu (alu (alu (alu (alu (alu (alu (alu (alu (alu (alu (alu (alu (alu (alu (alu (alu al 104) 105) 106) 107) 108) 109) 111) 112) 113) 115) 116) 117) 118) 119) 120) 121) 122) 123) 124) 131) 115 = true := alu_old a_115_163
  have a_116_177 : (alu (alu (alu (alu (alu (alu (alu (alu (alu (alu (alu (alu (alu (alu (alu (alu (alu (alu (alu (alu al 104) 105) 106) 107) 108) 109) 111) 112) 113) 115) 116) 117) 118) 119) 120) 121) 122) 123) 124) 131) 116 = true := alu_old a_116_163
  have a_117_177 : (alu (alu (alu (alu (alu (alu (alu (alu (alu (alu (alu (alu (alu (alu (alu (alu (alu (alu (alu (alu al 104) 105) 106) 107) 108) 109) 111) 112) 113) 115) 116) 117) 118) 119) 120) 121) 122) 123) 124) 131) 117 = true := alu_old a_117_163
  have a_118_177 : (alu (alu (alu (alu (alu (alu (alu (alu (alu (alu (alu (alu (alu (alu (alu (alu (alu (alu (alu (alu al 104) 105) 106) 107) 108) 109) 111) 112) 113) 115) 116) 117) 118) 119) 120) 121) 122) 123) 124) 131) 118 = true := alu_old a_118_163
  have a_119_177 : (alu (alu (alu (alu (alu (alu (alu (alu (alu (alu (alu (alu (alu (alu (alu (alu (alu (alu (alu (alu al 104) 105) 106) 107) 108) 109) 111) 112) 113) 115) 116) 117) 118) 119) 120) 121) 122) 123) 124) 131) 119 = true := alu_old a_119_163
  have a_120_177 : (alu (alu (alu (alu (alu (alu (alu (alu (alu (alu (alu (alu (alu (alu (alu (alu (alu (alu (alu (alu al 104) 105) 106) 107) 108) 109) 111) 112) 113) 115) 116) 117) 118) 119) 120) 121) 122) 123) 124) 131) 120 = true := alu_old a_120_163
  have a_121_177 : (alu (alu (alu (alu (alu (alu (alu (alu (alu (alu (alu (alu (alu (alu (alu (alu (alu (alu (alu (alu al 104) 105) 106) 107) 108) 109) 111) 112) 113) 115) 116) 117) 118) 119) 120) 121) 122) 123) 124) 131) 121 = true := alu_old a_121_163
  have a_122_177 : (alu (alu (alu (alu (alu (alu (alu (alu (alu (alu (alu (alu (alu (alu (alu (alu (alu (alu (alu (alu al 104) 105) 106) 107) 108) 109) 111) 112) 113) 115) 116) 117) 118) 119) 120) 121) 122) 123) 124) 131) 122 = true := alu_old a_122_163
  have a_123_177 : (alu (alu (alu (alu (alu (alu (alu (alu (alu (alu (alu (alu (alu (alu (alu (alu (alu (alu (alu (alu al 104) 105) 106) 107) 108) 109) 111) 112) 113) 115) 116) 117) 118) 119) 120) 121) 122) 123) 124) 131) 123 = true := alu_old a_123_163
  have a_124_177 : (alu (alu (alu (alu (alu (alu (alu (alu (alu (alu (alu (alu (alu (alu (alu (alu (alu (alu (alu (alu al 104) 105) 106) 107) 108) 109) 111) 112) 113) 115) 116) 117) 118) 119) 120) 121) 122) 123) 124) 131) 124 = true := alu_old a_124_163
  have a_131_177 : (alu (alu (alu (alu (alu (alu (alu (alu (alu (alu (alu (alu (alu (alu (alu (alu (alu (alu (alu (alu al 104) 105) 106) 107) 108) 109) 111) 112) 113) 115) 116) 117) 118) 119) 120) 121) 122) 123) 124) 131) 131 = true := alu_new
  have k_131_177 : kd 131 = 9 := g_177.2.2.1
  obtain ⟨R_179, e_R_179, h⟩ := lt_some h
  refine r_putq C fr_X8_78 (Or.inr ⟨rfl, hmn, ⟨_, rfl, rfl⟩⟩) hW a_100_177 rfl rfl a_131_177 k_131_177 rfl rfl dX8_init_179 (fun H locs hW => ?_)
  rw [← e_R_179] at hW
  refine lv_aload_n hx hb dX8_init_182 rfl (lv_at hl 0 rfl) ?_
  refine lv_bipush (v := 8) hx hb dX8_init_183 (by decide) ?_
  obtain ⟨g_185, h⟩ := gd_some h
  obtain ⟨I_185, e_I_185, h⟩ := lt_some h
  obtain ⟨R_185, e_R_185, h⟩ := lt_some h
  refine r_newa (at_ := .int) C gm_41 (Or.inr (Or.inl ⟨rfl, rfl⟩)) hW g_185.1 g_185.2.1 g_185.2.2.1 (by decide) g_185.2.2.2 (by rw [← g_185.2.2.2]; decide) (by decide) (by rw [← g_185.2.2.2]; decide) dX8_init_185 (fun H hW => ?_)
  rw [← g_185.2.2.2]
  rw [← e_I_185, ← e_R_185] at hW
  refine W.widen (k := 21) (n := 882) (by decide) (by decide) ?_
  have a_100_185 : (alu (alu (alu (alu (alu (alu (alu (alu (alu (alu (alu (alu (alu (alu (alu (alu (alu (alu (alu (alu (alu al 104) 105) 106) 107) 108) 109) 111) 112) 113) 115) 116) 117) 118) 119) 120) 121) 122) 123) 124) 131) 138) 100 = true := alu_old a_100_177
  have a_104_185 : (alu (alu (alu (alu (alu (alu (alu (alu (alu (alu (alu (alu (alu (alu (alu (alu (alu (alu (alu (alu (alu al 104) 105) 106) 107) 108) 109) 111) 112) 113) 115) 116) 117) 118) 119) 120) 121) 122) 123) 124) 131) 138) 104 = true := alu_old a_104_177
  have a_105_185 : (alu (alu (alu (alu (alu (alu (alu (alu (alu (alu (alu (alu (alu (alu (alu (alu (alu (alu (alu (alu (alu al 104) 105) 106) 107) 108) 109) 111) 112) 113) 115) 116) 117) 118) 119) 120) 121) 122) 123) 124) 131) 138) 105 = true := alu_old a_105_177
  have a_106_185 : (alu (alu (alu (alu (alu (alu (alu (alu (alu (alu (alu (alu (alu (alu (alu (alu (alu (alu (alu (alu (alu al 104) 105) 106) 107) 108) 109) 111) 112) 113) 115) 116) 117) 118) 119) 120) 121) 122) 123) 124) 131) 138) 106 = true := alu_old a_106_177
  have a_107_185 : (alu (alu (alu (alu (alu (alu (alu (alu (alu (alu (alu (alu (alu (alu (alu (alu (alu (alu (alu (alu (alu al 104) 105) 106) 107) 108) 109) 111) 112) 113) 115) 116) 117) 118) 119) 120) 121) 122) 123) 124) 131) 138) 107 = true := alu_old a_107_177
  have a_108_185 : (alu (alu (alu (alu (alu (alu (alu (alu (alu (alu (alu (alu (alu (alu (alu (alu (alu (alu (alu (alu (alu al 104) 105) 106) 107) 108) 109) 111) 112) 113) 115) 116) 117) 118) 119) 120) 121) 122) 123) 124) 131) 138) 108 = true := alu_old a_108_177
  have a_109_185 : (alu (alu (alu (alu (alu (alu (alu (alu (alu (alu (alu (alu (alu (alu (alu (alu (alu (alu (alu (alu (alu al 104) 105) 106) 107) 108) 109) 111) 112) 113) 115) 116) 117) 118) 119) 120) 121) 122) 123) 124) 131) 138) 109 = true := alu_old a_109_177
  have a_111_185 : (alu (alu (alu (alu (alu (alu (alu (alu (alu (alu (alu (alu (alu (alu (alu (alu (alu (alu (alu (alu (alu al 104) 105) 106) 107) 108) 109) 111) 112) 113) 115) 116) 117) 118) 119) 120) 121) 122) 123) 124) 131) 138) 111 = true := alu_old a_111_177
  have a_112_185 : (alu (alu (alu (alu (alu (alu (alu (alu (alu (alu (alu (alu (alu (alu (alu (alu (alu (alu (alu (alu (alu al 104) 105) 106) 107) 108) 109) 111) 112) 113) 115) 116) 117) 118) 119) 120) 121) 122) 123) 124) 131) 138) 112 = true := alu_old a_112_177
  have a_113_185 : (alu (alu (alu (alu (alu (alu (alu (alu (alu (alu (alu (alu (alu (alu (alu (alu (alu (alu (alu (alu (alu al 104) 105) 106) 107) 108) 109) 111) 112) 113) 115) 116) 117) 118) 119) 120) 121) 122) 123) 124) 131) 138) 113 = true := alu_old a_113_177
  have a_115_185 : (alu (alu (alu (alu (alu (alu (alu (alu (alu (alu (alu (alu (alu (alu (alu (alu (alu (alu (alu (alu (alu al 104) 105) 106) 107) 108) 109) 111) 112) 113) 115) 116) 117) 118) 119) 120) 121) 122) 123) 124) 131) 138) 115 = true := alu_old a_115_177
  have a_116_185 : (alu (alu (alu (alu (alu (alu (alu (alu (alu (alu (alu (alu (alu (alu (alu (alu (alu (alu (alu (alu (alu al 104) 105) 106) 107) 108) 109) 111) 112) 113) 115) 116) 117) 118) 119) 120) 121) 122) 123) 124) 131) 138) 116 = true := alu_old a_116_177
  have a_117_185 : (alu (alu (alu (alu (alu (alu (alu (alu (alu (alu (alu (alu (alu (alu (alu (alu (alu (alu (alu (alu (alu al 104) 105) 106) 107) 108) 109) 111) 112) 113) 115) 116) 117) 118) 119) 120) 121) 122) 123) 124) 131) 138) 117 = true := alu_old a_117_177
  have a_118_185 : (alu (alu (alu (alu (alu (alu (alu (alu (alu (alu (alu (alu (alu (alu (alu (alu (alu (alu (alu (alu (alu al 104) 105) 106) 107) 108) 109) 111) 112) 113) 115) 116) 117) 118) 119) 120) 121) 122) 123) 124) 131) 138) 118 = true := alu_old a_118_177
  have a_119_185 : (alu (alu (alu (alu (alu (alu (alu (alu (alu (alu (alu (alu (alu (alu (alu (alu (alu (alu (alu (alu (alu al 104) 105) 106) 107) 108) 109) 111) 112) 113) 115) 116) 117) 118) 119) 120) 121) 122) 123) 124) 131) 138) 119 = true := alu_old a_119_177
  have a_120_185 : (alu (alu (alu (alu (alu (alu (alu (alu (alu (alu (alu (alu (alu (alu (alu (alu (alu (alu (alu (alu (alu al 104) 105) 106) 107) 108) 109) 111) 112) 113) 115) 116) 117) 118) 119) 120) 121) 122) 123) 124) 131) 138) 120 = true := alu_old a_120_177
  have a_121_185 : (alu (alu (alu (alu (alu (alu (alu (alu (alu (alu (alu (alu (alu (alu (alu (alu (alu (alu (alu (alu (alu al 104) 105) 106) 107) 108) 109) 111) 112) 113) 115) 116) 117) 118) 119) 120) 121) 122) 123) 124) 131) 138) 121 = true := alu_old a_121_177
  have a_122_185 : (alu (alu (alu (alu (alu (alu (alu (alu (alu (alu (alu (alu (alu (alu (alu (alu (alu (alu (alu (alu (alu al 104) 105) 106) 107) 108) 109) 111) 112) 113) 115) 116) 117) 118) 119) 120) 121) 122) 123) 124) 131) 138) 122 = true := alu_old a_122_177
  have a_123_185 : (alu (alu (alu (alu (alu (alu (alu (alu (alu (alu (alu (alu (alu (alu (alu (alu (alu (alu (alu (alu (alu al 104) 105) 106) 107) 108) 109) 111) 112) 113) 115) 116) 117) 118) 119) 120) 121) 122) 123) 124) 131) 138) 123 = true := alu_old a_123_177
  have a_124_185 : (alu (alu (alu (alu (alu (alu (alu (alu (alu (alu (alu (alu (alu (alu (alu (alu (alu (alu (alu (alu (alu al 104) 105) 106) 107) 108) 109) 111) 112) 113) 115) 116) 117) 118) 119) 120) 121) 122) 123) 124) 131) 138) 124 = true := alu_old a_124_177
  have a_131_185 : (alu (alu (alu (alu (alu (alu (alu (alu (alu (alu (alu (alu (alu (alu (alu (alu (alu (alu (alu (alu (alu al 104) 105) 106) 107) 108) 109) 111) 112) 113) 115) 116) 117) 118) 119) 120) 121) 122) 123) 124) 131) 138) 131 = true := alu_old a_131_177
  have a_138_185 : (alu (alu (alu (alu (alu (alu (alu (alu (alu (alu (alu (alu (alu (alu (alu (alu (alu (alu (alu (alu (alu al 104) 105) 106) 107) 108) 109) 111) 112) 113) 115) 116) 117) 118) 119) 120) 121) 122) 123) 124) 131) 138) 138 = true := alu_new
  have k_138_185 : kd 138 = 10 := g_185.2.2.1
  obtain ⟨R_187, e_R_187, h⟩ := lt_some h
  refine r_putq C fr_X8_82 (Or.inr ⟨rfl, hmn, ⟨_, rfl, rfl⟩⟩) hW a_100_185 rfl rfl a_138_185 k_138_185 rfl rfl dX8_init_187 (fun H locs hW => ?_)
  rw [← e_R_187] at hW
  refine lv_aload_n hx hb dX8_init_190 rfl (lv_at hl 0 rfl) ?_
  refine lv_bipush (v := 8) hx hb dX8_init_191 (by decide) ?_
  obtain ⟨g_193, h⟩ := gd_some h
  obtain ⟨I_193, e_I_193, h⟩ := lt_some h
  obtain ⟨R_193, e_R_193, h⟩ := lt_some h
  refine r_newa (at_ := .int) C gm_41 (Or.inr (Or.inl ⟨rfl, rfl⟩)) hW g_193.1 g_193.2.1 g_193.2.2.1 (by decide) g_193.2.2.2 (by rw [← g_193.2.2.2]; decide) (by decide) (by rw [← g_193.2.2.2]; decide) dX8_init_193 (fun H hW => ?_)
  rw [← g_193.2.2.2]
  rw [← e_I_193, ← e_R_193] at hW
  refine W.widen (k := 22) (n := 890) (by decide) (by decide) ?_
  have a_100_193 : (alu (alu (alu (alu (alu (alu (alu (alu (alu (alu (alu (alu (alu (alu (alu (alu (alu (alu (alu (alu (alu (alu al 104) 105) 106) 107) 108) 109) 111) 112) 113) 115) 116) 117) 118) 119) 120) 121) 122) 123) 124) 131) 138) 139) 100 = true := alu_old a_100_185
  have a_104_193 : (alu (alu (alu (alu (alu (alu (alu (alu (alu (alu (alu (alu (alu (alu (alu (alu (alu (alu (alu (alu (alu (alu al 104) 105) 106) 107) 108) 109) 111) 112) 113) 115) 116) 117) 118) 119) 120) 121) 122) 123) 124) 131) 138) 139) 104 = true := alu_old a_104_185
  have a_105_193 : (alu (alu (alu (alu (alu (alu (alu (alu (alu (alu (alu (alu (alu (alu (alu (alu (alu (alu (alu (alu (alu (alu al 104) 105) 106) 107) 108) 109) 111) 112) 113) 115) 116) 117) 118) 119) 120) 121) 122) 123) 124) 131) 138) 139) 105 = true := alu_old a_105_185
  have a_106_193 : (alu (alu (alu (alu (alu (alu (alu (alu (alu (alu (alu (alu (alu (alu (alu (alu (alu (alu (alu (alu (alu (alu al 104) 105) 106) 107) 108) 109) 111) 112) 113) 115) 116) 117) 118) 119) 120) 121) 122) 123) 124) 131) 138) 139) 106 = true := alu_old a_106_185
  have a_107_193 : (alu (alu (alu (alu (alu (alu (alu (alu (alu (alu (alu (alu (alu (alu (alu (alu (alu (alu (alu (alu (alu (alu al 104) 105) 106) 107) 108) 109) 111) 112) 113) 115) 116) 117) 118) 119) 120) 121) 122) 123) 124) 131) 138) 139) 107 = true := alu_old a_107_185
  have a_108_193 : (alu (alu (alu (alu (alu (alu (alu (alu (alu (alu (alu (alu (alu (alu (alu (alu (alu (alu (alu (alu (alu (alu al 104) 105) 106) 107) 108) 109) 111) 112) 113) 115) 116) 117) 118) 119) 120) 121) 122) 123) 124) 131) 138) 139) 108 = true := alu_old a_108_185
  have a_109_193 : (alu (alu (alu (alu (alu (alu (alu (alu (alu (alu (alu (alu (alu (alu (alu (alu (alu (alu (alu (alu (alu (alu al 104) 105) 106) 107) 108) 109) 111) 112) 113) 115) 116) 117) 118) 119) 120) 121) 122) 123) 124) 131) 138) 139) 109 = true := alu_old a_109_185
  have a_111_193 : (alu (alu (alu (alu (alu (alu (alu (alu (alu (alu (alu (alu (alu (alu (alu (alu (alu (alu (alu (alu (alu (alu al 104) 105) 106) 107) 108) 109) 111) 112) 113) 115) 116) 117) 118) 119) 120) 121) 122) 123) 124) 131) 138) 139) 111 = true := alu_old a_111_185
  have a_112_193 : (alu (alu (alu (alu (alu (alu (alu (alu (alu (alu (alu (alu (alu (alu (alu (alu (alu (alu (alu (alu (alu (alu al 104) 105) 106) 107) 108) 109) 111) 112) 113) 115) 116) 117) 118) 119) 120) 121) 122) 123) 124) 131) 138) 139) 112 = true := alu_old a_112_185
  have a_113_193 : (alu (alu (alu (alu (alu (alu (alu (alu (alu (alu (alu (alu (alu (alu (alu (alu (alu (alu (alu (alu (alu (alu al 104) 105) 106) 107) 108) 109) 111) 112) 113) 115) 116) 117) 118) 119) 120) 121) 122) 123) 124) 131) 138) 139) 113 = true := alu_old a_113_185
  have a_115_193 : (alu (alu (alu (alu (alu (alu (alu (alu (alu (alu (alu (alu (alu (alu (alu (alu (alu (alu (alu (alu (alu (alu al 104) 105) 106) 107) 108) 109) 111) 112) 113) 115) 116) 117) 118) 119) 120) 121) 122) 123) 124) 131) 138) 139) 115 = true := alu_old a_115_185
  have a_116_193 : (alu (alu (alu (alu (alu (alu (alu (alu (alu (alu (alu (alu (alu (alu (alu (alu (alu (alu (alu (alu (alu (alu al 104) 105) 106) 107) 108) 109) 111) 112) 113) 115) 116) 117) 118) 119) 120) 121) 122) 123) 124) 131) 138) 139) 116 = true := alu_old a_116_185
  have a_117_193 : (alu (alu (alu (alu (alu (alu (alu (alu (alu (alu (alu (alu (alu (alu (alu (alu (alu (alu (alu (alu (alu (alu al 104) 105) 106) 107) 108) 109) 111) 112) 113) 115) 116) 117) 118) 119) 120) 121) 122) 123) 124) 131) 138) 139) 117 = true := alu_old a_117_185
  have a_118_193 : (alu (alu (alu (alu (alu (alu (alu (alu (alu (alu (alu (alu (alu (alu (alu (alu (alu (alu (alu (alu (alu (alu al 104) 105) 106) 107) 108) 109) 111) 112) 113) 115) 116) 117) 118) 119) 120) 121) 122) 123) 124) 131) 138) 139) 118 = true := alu_old a_118_185
  have a_119_193 : (alu (alu (alu (alu (alu (alu (alu (alu (alu (alu (alu (alu (alu (alu (alu (alu (alu (alu (alu (alu (alu (alu al 104) 105) 106) 107) 108) 109) 111) 112) 113) 115) 116) 117) 118) 119) 120) 121) 122) 123) 124) 131) 138) 139) 119 = true := alu_old a_119_185
  have a_120_193 : (alu (alu (alu (alu (alu (alu (alu (alu (alu (alu (alu (alu (alu (alu (alu (alu (alu (alu (alu (alu (alu (alu al 104) 105) 106) 107) 108) 109) 111) 112) 113) 115) 116) 117) 118) 119) 120) 121) 122) 123) 124) 131) 138) 139) 120 = true := alu_old a_120_185
  have a_121_193 : (alu (alu (alu (alu (alu (alu (alu (alu (alu (alu (alu (alu (alu (alu (alu (alu (alu (alu (alu (alu (alu (alu al 104) 105) 106) 107) 108) 109) 111) 112) 113) 115) 116) 117) 118) 119) 120) 121) 122) 123) 124) 131) 138) 139) 121 = true := alu_old a_121_185
  have a_122_193 : (alu (alu (alu (alu (alu (alu (alu (alu (alu (alu (alu (alu (alu (alu (alu (alu (alu (alu (alu (alu (alu (alu al 104) 105) 106) 107) 108) 109) 111) 112) 113) 115) 116) 117) 118) 119) 120) 121) 122) 123) 124) 131) 138) 139) 122 = true := alu_old a_122_185
  have a_123_193 : (alu (alu (alu (alu (alu (alu (alu (alu (alu (alu (alu (alu (alu (alu (alu (alu (alu (alu (alu (alu (alu (alu al 104) 105) 106) 107) 108) 109) 111) 112) 113) 115) 116) 117) 118) 119) 120) 121) 122) 123) 124) 131) 138) 139) 123 = true := alu_old a_123_185
  have a_124_193 : (alu (alu (alu (alu (alu (alu (alu (alu (alu (alu (alu (alu (alu (alu (alu (alu (alu (alu (alu (alu (alu (alu al 104) 105) 106) 107) 108) 109) 111) 112) 113) 115) 116) 117) 118) 119) 120) 121) 122) 123) 124) 131) 138) 139) 124 = true := alu_old a_124_185
  have a_131_193 : (alu (alu (alu (alu (alu (alu (alu (alu (alu (alu (alu (alu (alu (alu (alu (alu (alu (alu (alu (alu (alu (alu al 104) 105) 106) 107) 108) 109) 111) 112) 113) 115) 116) 117) 118) 119) 120) 121) 122) 123) 124) 131) 138) 139) 131 = true := alu_old a_131_185
  have a_138_193 : (alu (alu (alu (alu (alu (alu (alu (alu (alu (alu (alu (alu (alu (alu (alu (alu (alu (alu (alu (alu (alu (alu al 104) 105) 106) 107) 108) 109) 111) 112) 113) 115) 116) 117) 118) 119) 120) 121) 122) 123) 124) 131) 138) 139) 138 = true := alu_old a_138_185
  have a_139_193 : (alu (alu (alu (alu (alu (alu (alu (alu (alu (alu (alu (alu (alu (alu (alu (alu (alu (alu (alu (alu (alu (alu al 104) 105) 106) 107) 108) 109) 111) 112) 113) 115) 116) 117) 118) 119) 120) 121) 122) 123) 124) 131) 138) 139) 139 = true := alu_new
  have k_139_193 : kd 139 = 10 := g_193.2.2.1
  obtain ⟨R_195, e_R_195, h⟩ := lt_some h
  refine r_putq C fr_X8_85 (Or.inr ⟨rfl, hmn, ⟨_, rfl, rfl⟩⟩) hW a_100_193 rfl rfl a_139_193 k_139_193 rfl rfl dX8_init_195 (fun H locs hW => ?_)
  rw [← e_R_195] at hW
  refine lv_aload_n hx hb dX8_init_198 rfl (lv_at hl 0 rfl) ?_
  refine lv_bipush (v := 8) hx hb dX8_init_199 (by decide) ?_
  obtain ⟨g_201, h⟩ := gd_some h
  obtain ⟨I_201, e_I_201, h⟩ := lt_some h
  obtain ⟨R_201, e_R_201, h⟩ := lt_some h
  refine r_newa (at_ := .int) C gm_41 (Or.inr (Or.inl ⟨rfl, rfl⟩)) hW g_201.1 g_201.2.1 g_201.2.2.1 (by decide) g_201.2.2.2 (by rw [← g_201.2.2.2]; decide) (by decide) (by rw [← g_201.2.2.2]; decide) dX8_init_201 (fun H hW => ?_)
  rw [← g_201.2.2.2]
  rw [← e_I_201, ← e_R_201] at hW
  refine W.widen (k := 23) (n := 898) (by decide) (by decide) ?_
  have a_100_201 : (alu (alu (alu (alu (alu (alu (alu (alu (alu (alu (alu (alu (alu (alu (alu (alu (alu (alu (alu (alu (alu (alu (alu al 104) 105) 106) 107) 108) 109) 111) 112) 113) 115) 116) 117) 118) 119) 120) 121) 122) 123) 124) 131) 138) 139) 141) 100 = true := alu_old a_100_193
  have a_104_201 : (alu (alu (alu (alu (alu (alu (alu (alu (alu (alu (alu (alu (alu (alu (alu (alu (alu (alu (alu (alu (alu (alu (alu al 104) 105) 106) 107) 108) 109) 111) 112) 113) 115) 116) 117) 118) 119) 120) 121) 122) 123) 124) 131) 138) 139) 141) 104 = true := alu_old a_104_193
  have a_105_201 : (alu (alu (alu (alu (alu (alu (alu (alu (alu (alu (alu (alu (alu (alu (alu (alu (alu (alu (alu (alu (alu (alu (alu al 104) 105) 106) 107) 108) 109) 111) 112) 113) 115) 116) 117) 118) 119) 120) 121) 122) 123) 124) 131) 138) 139) 141) 105 = true := alu_old a_105_193
  have a_106_201 : (alu (alu (alu (alu (alu (alu (alu (alu (alu (alu (alu (alu (alu (alu (alu (alu (alu (alu (alu (alu (alu (alu (alu al 104) 105) 106) 107) 108) 109) 111) 112) 113) 115) 116) 117) 118) 119) 120) 121) 122) 123) 124) 131) 138) 139) 141) 106 = true := alu_old a_106_193
  have a_107_201 : (alu (alu (alu (alu (alu (alu (alu (alu (alu (alu (alu (alu (alu (alu (alu (alu (alu (alu (alu (alu (alu (alu (alu al 104) 105) 106) 107) 108) 109) 111) 112) 113) 115) 116) 117) 118) 119) 120) 121) 122) 123) 124) 131) 138) 139) 141) 107 = true := alu_old a_107_193
  have a_108_201 : (alu (alu (alu (alu (alu (alu (alu (alu (alu (alu (alu (alu (alu (alu (alu (alu (alu (alu (alu (alu (alu (alu (alu al 104) 105) 106) 107) 108) 109) 111) 112) 113) 115) 116) 117) 118) 119) 120) 121) 122) 123) 124) 131) 138) 139) 141) 108 = true := alu_old a_108_193
  have a_109_201 : (alu (alu (alu (alu (alu (alu (alu (alu (alu (alu (alu (alu (alu (alu (alu (alu (alu (alu (alu (alu (alu (alu (alu al 104) 105) 106) 107) 108) 109) 111) 112) 113) 115) 116) 117) 118) 119) 120) 121) 122) 123) 124) 131) 138) 139) 141) 109 = true := alu_old a_109_193
  have a_111_201 : (alu (alu (alu (alu (alu (alu (alu (alu (alu (alu (alu (alu (alu (alu (alu (alu (alu (alu (alu (alu (alu (alu (alu al 104) 105) 106) 107) 108) 109) 111) 112) 113) 115) 116) 117) 118) 119) 120) 121) 122) 123) 124) 131) 138) 139) 141) 111 = true := alu_old a_111_193
  have a_112_201 : (alu (alu (alu (alu (alu (alu (alu (alu (alu (alu (alu (alu (alu (alu (alu (alu (alu (alu (alu (alu (alu (alu (alu al 104) 105) 106) 107) 108) 109) 111) 112) 113) 115) 116) 117) 118) 119) 120) 121) 122) 123) 124) 131) 138) 139) 141) 112 = true := alu_old a_112_193
  have a_113_201 : (alu (alu (alu (alu (alu (alu (alu (alu (alu (alu (alu (alu (alu (alu (alu (alu (alu (alu (alu (alu (alu (alu (alu al 104) 105) 106) 107) 108) 109) 111) 112) 113) 115) 116) 117) 118) 119) 120) 121) 122) 123) 124) 131) 138) 139) 141) 113 = true := alu_old a_113_193
  have a_115_201 : (alu (alu (alu (alu (alu (alu (alu (alu (alu (alu (alu (alu (alu (alu (alu (alu (alu (alu (alu (alu (alu (alu (alu al 104) 105) 106) 107) 108) 109) 111) 112) 113) 115) 116) 117) 118) 119) 120) 121) 122) 123) 124) 131) 138) 139) 141) 115 = true := alu_old a_115_193
  have a_116_201 : (alu (alu (alu (alu (alu (alu (alu (alu (alu (alu (alu (alu (alu (alu (alu (alu (alu (alu (alu (alu (alu (alu (alu al 104) 105) 106) 107) 108) 109) 111) 112) 113) 115) 116) 117) 118) 119) 120) 121) 122) 123) 124) 131) 138) 139) 141) 116 = true := alu_old a_116_193
  have a_117_201 : (alu (alu (alu (alu (alu (alu (alu (alu (alu (alu (alu (alu (alu (alu (alu (alu (alu (alu (alu (alu (alu (alu (alu al 104) 105) 106) 107) 108) 109) 111) 112) 113) 115) 116) 117) 118) 119) 120) 121) 122) 123) 124) 131) 138) 139) 141) 117 = true := alu_old a_117_193
  have a_118_201 : (alu (alu (alu (alu (alu (alu (alu (alu (alu (alu (alu (alu (alu (alu (alu (alu (alu (alu (alu (alu (alu (alu (alu al 104) 105) 106) 107) 108) 109) 111) 112) 113) 115) 116) 117) 118) 119) 120) 121) 122) 123) 124) 131) 138) 139) 141) 118 = true := alu_old a_118_193
  have a_119_201 : (alu (alu (alu (alu (alu (alu (alu (alu (alu (alu (alu (alu (alu (alu (alu (alu (alu (alu (alu (alu (alu (alu (alu al 104) 105) 106) 107) 108) 109) 111) 112) 113) 115) 116) 117) 118) 119) 120) 121) 122) 123) 124) 131) 138) 139) 141) 119 = true := alu_old a_119_193
  have a_120_201 : (alu (alu (alu (alu (alu (alu (alu (alu (alu (alu (alu (alu (alu (alu (alu (alu (alu (alu (alu (alu (alu (alu (alu al 104) 105) 106) 107) 108) 109) 111) 112) 113) 115) 116) 117) 118) 119) 120) 121) 122) 123) 124) 131) 138) 139) 141) 120 = true := alu_old a_120_193
  have a_121_201 : (alu (alu (alu (alu (alu (alu (alu (alu (alu (alu (alu (alu (alu (alu (alu (alu (alu (alu (alu (alu (alu (alu (alu al 104) 105) 106) 107) 108) 109) 111) 112) 113) 115) 116) 117) 118) 119) 120) 121) 122) 123) 124) 131) 138) 139) 141) 121 = true := alu_old a_121_193
  have a_122_201 : (alu (alu (alu (alu (alu (alu (alu (alu (alu (alu (alu (alu (alu (alu (alu (alu (alu (alu (alu (alu (alu (alu (alu al 104) 105) 106) 107) 108) 109) 111) 112) 113) 115) 116) 117) 118) 119) 120) 121) 122) 123) 124) 131) 138) 139) 141) 122 = true := alu_old a_122_193
  have a_123_201 : (alu (alu (alu (alu (alu (alu (alu (alu (alu (alu (alu (alu (alu (alu (alu (alu (alu (alu (alu (alu (alu (alu (alu al 104) 105) 106) 107) 108) 109) 111) 112) 113) 115) 116) 117) 118) 119) 120) 121) 122) 123) 124) 131) 138) 139) 141) 123 = true := alu_old a_123_193
  have a_124_201 : (alu (alu (alu (alu (alu (alu (alu (alu (alu (alu (alu (alu (alu (alu (alu (alu (alu (alu (alu (alu (alu (alu (alu al 104) 105) 106) 107) 108) 109) 111) 112) 113) 115) 116) 117) 118) 119) 120) 121) 122) 123) 124) 131) 138) 139) 141) 124 = true := alu_old a_124_193
  have a_131_201 : (alu (alu (alu (alu (alu (alu (alu (alu (alu (alu (alu (alu (alu (alu (alu (alu (alu (alu (alu (alu (alu (alu (alu al 104) 105) 106) 107) 108) 109) 111) 112) 113) 115) 116) 117) 118) 119) 120) 121) 122) 123) 124) 131) 138) 139) 141) 131 = true := alu_old a_131_193
  have a_138_201 : (alu (alu (alu (alu (alu (alu (alu (alu (alu (alu (alu (alu (alu (alu (alu (alu (alu (alu (alu (alu (alu (alu (alu al 104) 105) 106) 107) 108) 109) 111) 112) 113) 115) 116) 117) 118) 119) 120) 121) 122) 123) 124) 131) 138) 139) 141) 138 = true := alu_old a_138_193
  have a_139_201 : (alu (alu (alu (alu (alu (alu (alu (alu (alu (alu (alu (alu (alu (alu (alu (alu (alu (alu (alu (alu (alu (alu (alu al 104) 105) 106) 107) 108) 109) 111) 112) 113) 115) 116) 117) 118) 119) 120) 121) 122) 123) 124) 131) 138) 139) 141) 139 = true := alu_old a_139_193
  have a_141_201 : (alu (alu (alu (alu (alu (alu (alu (alu (alu (alu (alu (alu (alu (alu (alu (alu (alu (alu (alu (alu (alu (alu (alu al 104) 105) 106) 107) 108) 109) 111) 112) 113) 115) 116) 117) 118) 119) 120) 121) 122) 123) 124) 131) 138) 139) 141) 141 = true := alu_new
  have k_141_201 : kd 141 = 10 := g_201.2.2.1
  obtain ⟨R_203, e_R_203, h⟩ := lt_some h
  refine r_putq C fr_X8_88 (Or.inr ⟨rfl, hmn, ⟨_, rfl, rfl⟩⟩) hW a_100_201 rfl rfl a_141_201 k_141_201 rfl rfl dX8_init_203 (fun H locs hW => ?_)
  rw [← e_R_203] at hW
  refine lv_aload_n hx hb dX8_init_206 rfl (lv_at hl 0 rfl) ?_
  refine lv_bipush (v := 8) hx hb dX8_init_207 (by decide) ?_
  obtain ⟨g_209, h⟩ := gd_some h
  obtain ⟨I_209, e_I_209, h⟩ := lt_some h
  obtain ⟨R_209, e_R_209, h⟩ := lt_some h
  refine r_newa (at_ := .int) C gm_41 (Or.inr (Or.inl ⟨rfl, rfl⟩)) hW g_209.1 g_209.2.1 g_209.2.2.1 (by decide) g_209.2.2.2 (by rw [← g_209.2.2.2]; decide) (by decide) (by rw [← g_209.2.2.2]; decide) dX8_init_209 (fun H hW => ?_)
  rw [← g_209.2.2.2]
  rw [← e_I_209, ← e_R_209] at hW
  refine W.widen (k := 24) (n := 906) (by decide) (by decide) ?_
  have a_100_209 : (alu (alu (alu (alu (alu (alu (alu (alu (alu (alu (alu (alu (alu (alu (alu (alu (alu (alu (alu (alu (alu (alu (alu (alu al 104) 105) 106) 107) 108) 109) 111) 112) 113) 115) 116) 117) 118) 119) 120) 121) 122) 123) 124) 131) 138) 139) 141) 142) 100 = true := alu_old a_100_201
  have a_104_209 : (alu (alu (alu (alu (alu (alu (alu (alu (alu (alu (alu (alu (alu (alu (alu (alu (alu (alu (alu (alu (alu (alu (alu (alu al 104) 105) 106) 107) 108) 109) 111) 112) 113) 115) 116) 117) 118) 119) 120) 121) 122) 123) 124) 131) 138) 139) 141) 142) 104 = true := alu_old a_104_201
  have a_105_209 : (alu (alu (alu (alu (alu (alu (alu (alu (alu (alu (alu (alu (alu (alu (alu (alu (alu (alu (alu (alu (alu (alu (alu (alu al 104) 105) 106) 107) 108) 109) 111) 112) 113) 115) 116) 117) 118) 119) 120) 121) 122) 123) 124) 131) 138) 139) 141) 142) 105 = true := alu_old a_105_201
  have a_106_209 : (alu (alu (alu (alu (alu (alu (alu (alu (alu (alu (alu (alu (alu (alu (alu (alu (alu (alu (alu (alu (alu (alu (alu (alu al 104) 105) 106) 107) 108) 109) 111) 112) 113) 115) 116) 117) 118) 119) 120) 121) 122) 123) 124) 131) 138) 139) 141) 142) 106 = true := alu_old a_106_201
  have a_107_209 : (alu (alu (alu (alu (alu (alu (alu (alu (alu (alu (alu (alu (alu (alu (alu (alu (alu (alu (alu (alu (alu (alu (alu (alu al 104) 105) 106) 107) 108) 109) 111) 112) 113) 115) 116) 117) 118) 119) 120) 121) 122) 123) 124) 131) 138) 139) 141) 142) 107 = true := alu_old a_107_201
  have a_108_209 : (alu (alu (alu (alu (alu (alu (alu (alu (alu (alu (alu (alu (alu (alu (alu (alu (alu (alu (alu (alu (alu (alu (alu (alu al 104) 105) 106) 107) 108) 109) 111) 112) 113) 115) 116) 117) 118) 119) 120) 121) 122) 123) 124) 131) 138) 139) 141) 142) 108 = true := alu_old a_108_201
  have a_109_209 : (alu (alu (alu (alu (alu (alu (alu (alu (alu (alu (alu (alu (alu (alu (alu (alu (alu (alu (alu (alu (alu (alu (alu (alu al 104) 105) 106) 107) 108) 109) 111) 112) 113) 115) 116) 117) 118) 119) 120) 121) 122) 123) 124) 131) 138) 139) 141) 142) 109 = true := alu_old a_109_201
  have a_111_209 : (alu (alu (alu (alu (alu (alu (alu (alu (alu (alu (alu (alu (alu (alu (alu (alu (alu (alu (alu (alu (alu (alu (alu (alu al 104) 105) 106) 107) 108) 109) 111) 112) 113) 115) 116) 117) 118) 119) 120) 121) 122) 123) 124) 131) 138) 139) 141) 142) 111 = true := alu_old a_111_201
  have a_112_209 : (alu (alu (alu (alu (alu (alu (alu (alu (alu (alu (alu (alu (alu (alu (alu (alu (alu (alu (alu (alu (alu (alu (alu (alu al 104) 105) 106) 107) 108) 109) 111) 112) 113) 115) 116) 117) 118) 119) 120) 121) 122) 123) 124) 131) 138) 139) 141) 142) 112 = true := alu_old a_112_201
  have a_113_209 : (alu (alu (alu (alu (alu (alu (alu (alu (alu (alu (alu (alu (alu (alu (alu (alu (alu (alu (alu (alu (alu (alu (alu (alu al 104) 105) 106) 107) 108) 109) 111) 112) 113) 115) 116) 117) 118) 119) 120) 121) 122) 123) 124) 131) 138) 139) 141) 142) 113 = true := alu_old a_113_201
  have a_115_209 : (alu (alu (alu (alu (alu (alu (alu (alu (alu (alu (alu (alu (alu (alu (alu (alu (alu (alu (alu (alu (alu (alu (alu (alu al 104) 105) 106) 107) 108) 109) 111) 112) 113) 115) 116) 117) 118) 119) 120) 121) 122) 123) 124) 131) 138) 139) 141) 142) 115 = true := alu_old a_115_201
  have a_116_209 : (alu (alu (alu (alu (alu (alu (alu (alu (alu (alu (alu (alu (alu (alu (alu (alu (alu (alu (alu (alu (alu (alu (alu (alu al 104) 105) 106) 107) 108) 109) 111) 112) 113) 115) 116) 117) 118) 119) 120) 121) 122) 123) 124) 131) 138) 139) 141) 142) 116 = true := alu_old a_116_201
  have a_117_209 : (alu (alu (alu (alu (alu (alu (alu (alu (alu (alu (alu (alu (alu (alu (alu (alu (alu (alu (alu (alu (alu (alu (alu (alu al 104) 105) 106) 107) 108) 109) 111) 112) 113) 115) 116) 117) 118) 119) 120) 121) 122) 123) 124) 131) 138) 139) 141) 142) 117 = true := alu_old a_117_201
  have a_118_209 : (alu (alu (alu (alu (alu (alu (alu (alu (alu (alu (alu (alu (alu (alu (alu (alu (alu (alu (alu (alu (alu (alu (alu (alu al 104) 105) 106) 107) 108) 109) 111) 112) 113) 115) 116) 117) 118) 119) 120) 121) 122) 123) 124) 131) 138) 139) 141) 142) 118 = true := alu_old a_118_201
  have a_119_209 : (alu (alu (alu (alu (alu (alu (alu (alu (alu (alu (alu (alu (alu (alu (alu (alu (alu (alu (alu (alu (alu (alu (alu (alu al 104) 105) 106) 107) 108) 109) 111) 112) 113) 115) 116) 117) 118) 119) 120) 121) 122) 123) 124) 131) 138) 139) 141) 142) 119 = true := alu_old a_119_201
  have a_120_209 : (alu (alu (alu (alu (alu (alu (alu (alu (alu (alu (alu (alu (alu (alu (alu (alu (alu (alu (alu (alu (alu (alu (alu (alu al 104) 105) 106) 107) 108) 109) 111) 112) 113) 115) 116) 117) 118) 119) 120) 121) 122) 123) 124) 131) 138) 139) 141) 142) 120 = true := alu_old a_120_201
  have a_121_209 : (alu (alu (alu (alu (alu (alu (alu (alu (alu (alu (alu (alu (alu (alu (alu (alu (alu (alu (alu (alu (alu (alu (alu (alu al 104) 105) 106) 107) 108) 109) 111) 112) 113) 115) 116) 117) 118) 119) 120) 121) 122) 123) 124) 131) 138) 139) 141) 142) 121 = true := alu_old a_121_201
  have a_122_209 : (alu (alu (alu (alu (alu (alu (alu (alu (alu (alu (alu (alu (alu (alu (alu (alu (alu (alu (alu (alu (alu (alu (alu (alu al 104) 105) 106) 107) 108) 109) 111) 112) 113) 115) 116) 117) 118) 119) 120) 121) 122) 123) 124) 131) 138) 139) 141) 142) 122 = true := alu_old a_122_201
  have a_123_209 : (alu (alu (alu (alu (alu (alu (alu (alu (alu (alu (alu (alu (alu (alu (alu (alu (alu (alu (alu (alu (alu (alu (alu (alu al 104) 105) 106) 107) 108) 109) 111) 112) 113) 115) 116) 117) 118) 119) 120) 121) 122) 123) 124) 131) 138) 139) 141) 142) 123 = true := alu_old a_123_201
  have a_124_209 : (alu (alu (alu (alu (alu (alu (alu (alu (alu (alu (alu (alu (alu (alu (alu (alu (alu (alu (alu (alu (alu (alu (alu (alu al 104) 105) 106) 107) 108) 109) 111) 112) 113) 115) 116) 117) 118) 119) 120) 121) 122) 123) 124) 131) 138) 139) 141) 142) 124 = true := alu_old a_124_201
  have a_131_209 : (alu (alu (alu (alu (alu (alu (alu (alu (alu (alu (alu (alu (alu (alu (alu (alu (alu (alu (alu (alu (alu (alu (alu (alu al 104) 105) 106) 107) 108) 109) 111) 112) 113) 115) 116) 117) 118) 119) 120) 121) 122) 123) 124) 131) 138) 139) 141) 142) 131 = true := alu_old a_131_201
  have a_138_209 : (alu (alu (alu (alu (alu (alu (alu (alu (alu (alu (alu (alu (alu (alu (alu (alu (alu (alu (alu (alu (alu (alu (alu (alu al 104) 105) 106) 107) 108) 109) 111) 112) 113) 115) 116) 117) 118) 119) 120) 121) 122) 123) 124) 131) 138) 139) 141) 142) 138 = true := alu_old a_138_201
  have a_139_209 : (alu (alu (alu (alu (alu (alu (alu (alu (alu (alu (alu (alu (alu (alu (alu (alu (alu (alu (alu (alu (alu (alu (alu (alu al 104) 105) 106) 107) 108) 109) 111) 112) 113) 115) 116) 117) 118) 119) 120) 121) 122) 123) 124) 131) 138) 139) 141) 142) 139 = true := alu_old a_139_201
  have a_141_209 : (alu (alu (alu (alu (alu (alu (alu (alu (alu (alu (alu (alu (alu (alu (alu (alu (alu (alu (alu (alu (alu (alu (alu (alu al 104) 105) 106) 107) 108) 109) 111) 112) 113) 115) 116) 117) 118) 119) 120) 121) 122) 123) 124) 131) 138) 139) 141) 142) 141 = true := alu_old a_141_201
  have a_142_209 : (alu (alu (alu (alu (alu (alu (alu (alu (alu (alu (alu (alu (alu (alu (alu (alu (alu (alu (alu (alu (alu (alu (alu (alu al 104) 105) 106) 107) 108) 109) 111) 112) 113) 115) 116) 117) 118) 119) 120) 121) 122) 123) 124) 131) 138) 139) 141) 142) 142 = true := alu_new
  have k_142_209 : kd 142 = 10 := g_209.2.2.1
  obtain ⟨R_211, e_R_211, h⟩ := lt_some h
  refine r_putq C fr_X8_91 (Or.inr ⟨rfl, hmn, ⟨_, rfl, rfl⟩⟩) hW a_100_209 rfl rfl a_142_209 k_142_209 rfl rfl dX8_init_211 (fun H locs hW => ?_)
  rw [← e_R_211] at hW
  refine lv_aload_n hx hb dX8_init_214 rfl (lv_at hl 0 rfl) ?_
  refine lv_iconst (v := 5) hx hb dX8_init_215 (by decide) ?_
  obtain ⟨g_216, h⟩ := gd_some h
  obtain ⟨I_216, e_I_216, h⟩ := lt_some h
  obtain ⟨R_216, e_R_216, h⟩ := lt_some h
  refine r_newa (at_ := .int) C gm_41 (Or.inr (Or.inl ⟨rfl, rfl⟩)) hW g_216.1 g_216.2.1 g_216.2.2.1 (by decide) g_216.2.2.2 (by rw [← g_216.2.2.2]; decide) (by decide) (by rw [← g_216.2.2.2]; decide) dX8_init_216 (fun H hW => ?_)
  rw [← g_216.2.2.2]
  rw [← e_I_216, ← e_R_216] at hW
  refine W.widen (k := 25) (n := 911) (by decide) (by decide) ?_
  have a_100_216 : (alu (alu (alu (alu (alu (alu (alu (alu (alu (alu (alu (alu (alu (alu (alu (alu (alu (alu (alu (alu (alu (alu (alu (alu (alu al 104) 105) 106) 107) 108) 109) 111) 112) 113) 115) 116) 117) 118) 119) 120) 121) 122) 123) 124) 131) 138) 139) 141) 142) 143) 100 = true := alu_old a_100_209
  have a_104_216 : (alu (alu (alu (alu (alu (alu (alu (alu (alu (alu (alu (alu (alu (alu (alu (alu (alu (alu (alu (alu (alu (alu (alu (alu (alu al 104) 105) 106) 107) 108) 109) 111) 112) 113) 115) 116) 117) 118) 119) 120) 121) 122) 123) 124) 131) 138) 139) 141) 142) 143) 104 = true := alu_old a_104_209
  have a_105_216 : (alu (alu (alu (alu (alu (alu (alu (alu (alu (alu (alu (alu (alu (alu (alu (alu (alu (alu (alu (alu (alu (alu (alu (alu (alu al 104) 105) 106) 107) 108) 109) 111) 112) 113) 115) 116) 117) 118) 119) 120) 121) 122) 123) 124) 131) 138) 139) 141) 142) 143) 105 = true := alu_old a_105_209
  have a_106_216 : (alu (alu (alu (alu (alu (alu (alu (alu (alu (alu (alu (alu (alu (alu (alu (alu (alu (alu (alu (alu (alu (alu (alu (alu (alu al 104) 105) 106) 107) 108) 109) 111) 112) 113) 115) 116) 117) 118) 119) 120) 121) 122) 123) 124) 131) 138) 139) 141) 142) 143) 106 = true := alu_old a_106_209
  have a_107_216 : (alu (alu (alu (alu (alu (alu (alu (alu (alu (alu (alu (alu (alu (alu (alu (alu (alu (alu (alu (alu (alu (alu (alu (alu (alu al 104) 105) 106) 107) 108) 109) 111) 112) 113) 115) 116) 117) 118) 119) 120) 121) 122) 123) 124) 131) 138) 139) 141) 142) 143) 107 = true := alu_old a_107_209
  have a_108_216 : (alu (alu (alu (alu (alu (alu (alu (alu (alu (alu (alu (alu (alu (alu (alu (alu (alu (alu (alu (alu (alu (alu (alu (alu (alu al 104) 105) 106) 107) 108) 109) 111) 112) 113) 115) 116) 117) 118) 119) 120) 121) 122) 123) 124) 131) 138) 139) 141) 142) 143) 108 = true := alu_old a_108_209
  have a_109_216 : (alu (alu (alu (alu (alu (alu (alu (alu (alu (alu (alu (alu (alu (alu (alu (alu (alu (alu (alu (alu (alu (alu (alu (alu (alu al 104) 105) 106) 107) 108) 109) 111) 112) 113) 115) 116) 117) 118) 119) 120) 121) 122) 123) 124) 131) 138) 139) 141) 142) 143) 109 = true := alu_old a_109_209
  have a_111_216 : (alu (alu (alu (alu (alu (alu (alu (alu (alu (alu (alu (alu (alu (alu (alu (alu (alu (alu (alu (alu (alu (alu (alu (alu (alu al 104) 105) 106) 107) 108) 109) 111) 112) 113) 115) 116) 117) 118) 119) 120) 121) 122) 123) 124) 131) 138) 139) 141) 142) 143) 111 = true := alu_old a_111_209
  have a_112_216 : (alu (alu (alu (alu (alu (alu (alu (alu (alu (alu (alu (alu (alu (alu (alu (alu (alu (alu (alu (alu (alu (alu (alu (alu (alu al 104) 105) 106) 107) 108) 109) 111) 112) 113) 115) 116) 117) 118) 119) 120) 121) 122) 123) 124) 131) 138) 139) 141) 142) 143) 112 = true := alu_old a_112_209
  have a_113_216 : (alu (alu (alu (alu (alu (alu (alu (alu (alu (alu (alu (alu (alu (alu (alu (alu (alu (alu (alu (alu (alu (alu (alu (alu (alu al 104) 105) 106) 107) 108) 109) 111) 112) 113) 115) 116) 117) 118) 119) 120) 121) 122) 123) 124) 131) 138) 139) 141) 142) 143) 113 = true := alu_old a_113_209
  have a_115_216 : (alu (alu (alu (alu (alu (alu (alu (alu (alu (alu (alu (alu (alu (alu (alu (alu (alu (alu (alu (alu (alu (alu (alu (alu (alu al 104) 105) 106) 107) 108) 109) 111) 112) 113) 115) 116) 117) 118) 119) 120) 121) 122) 123) 124) 131) 138) 139) 141) 142) 143) 115 = true := alu_old a_115_209
  have a_116_216 : (alu (alu (alu (alu (alu (alu (alu (alu (alu (alu (alu (alu (alu (alu (alu (alu (alu (alu (alu (alu (alu (alu (alu (alu (alu al 104) 105) 106) 107) 108) 109) 111) 112) 113) 115) 116) 117) 118) 119) 120) 121) 122) 123) 124) 131) 138) 139) 141) 142) 143) 116 = true := alu_old a_116_209
  have a_117_216 : (alu (alu (alu (alu (alu (alu (alu (alu (alu (alu (alu (alu (alu (alu (alu (alu (alu (alu (alu (alu (alu (alu (alu (alu (alu al 104) 105) 106) 107) 108) 109) 111) 112) 113) 115) 116) 117) 118) 119) 120) 121) 122) 123) 124) 131) 138) 139) 141) 142) 143) 117 = true := alu_old a_117_209
  have a_118_216 : (alu (alu (alu (alu (alu (alu (alu (alu (alu (alu (alu (alu (alu (alu (alu (alu (alu (alu (alu (alu (alu (alu (alu (alu (alu al 104) 105) 106) 107) 108) 109) 111) 112) 113) 115) 116) 117) 118) 119) 120) 121) 122) 123) 124) 131) 138) 139) 141) 142) 143) 118 = true := alu_old a_118_209
  have a_119_216 : (alu (alu (alu (alu (alu (alu (alu (alu (alu (alu (alu (alu (alu (alu (alu (alu (alu (alu (alu (alu (alu (alu (alu (alu (alu al 104) 105) 106) 107) 108) 109) 111) 112) 113) 115) 116) 117) 118) 119) 120) 121) 122) 123) 124) 131) 138) 139) 141) 142) 143) 119 = true := alu_old a_119_209
  have a_120_216 : (alu (alu (alu (alu (alu (alu (alu (alu (alu (alu (alu (alu (alu (alu (alu (alu (alu (alu (alu (alu (alu (alu (alu (alu (alu al 104) 105) 106) 107) 108) 109) 111) 112) 113) 115) 116) 117) 118) 119) 120) 121) 122) 123) 124) 131) 138) 139) 141) 142) 143) 120 = true := alu_old a_120_209
  have a_121_216 : (alu (alu (alu (alu (alu (alu (alu (alu (alu (alu (alu (alu (alu (alu (alu (alu (alu (alu (alu (alu (alu (alu (alu (alu (alu al 104) 105) 106) 107) 108) 109) 111) 112) 113) 115) 116) 117) 118) 119) 120) 121) 122) 123) 124) 131) 138) 139) 141) 142) 143) 121 = true := alu_old a_121_209
  have a_122_216 : (alu (alu (alu (alu (alu (alu (alu (alu (alu (alu (alu (alu (alu (alu (alu (alu (alu (alu (alu (alu (alu (alu (alu (alu (alu al 104) 105) 106) 107) 108) 109) 111) 112) 113) 115) 116) 117) 118) 119) 120) 121) 122) 123) 124) 131) 138) 139) 141) 142) 143) 122 = true := alu_old a_122_209
  have a_123_216 : (alu (alu (alu (alu (alu (alu (alu (alu (alu (alu (alu (alu (alu (alu (alu (alu (alu (alu (alu (alu (alu (alu (alu (alu (alu al 104) 105) 106) 107) 108) 109) 111) 112) 113) 115) 116) 117) 118) 119) 120) 121) 122) 123) 124) 131) 138) 139) 141) 142) 143) 123 = true := alu_old a_123_209
  have a_124_216 : (alu (alu (alu (alu (alu (alu (alu (alu (alu (alu (alu (alu (alu (alu (alu (alu (alu (alu (alu (alu (alu (alu (alu (alu (alu al 104) 105) 106) 107) 108) 109) 111) 112) 113) 115) 116) 117) 118) 119) 120) 121) 122) 123) 124) 131) 138) 139) 141) 142) 143) 124 = true := alu_old a_124_209
  have a_131_216 : (alu (alu (alu (alu (alu (alu (alu (alu (alu (alu (alu (alu (alu (alu (alu (alu (alu (alu (alu (alu (alu (alu (alu (alu (alu al 104) 105) 106) 107) 108) 109) 111) 112) 113) 115) 116) 117) 118) 119) 120) 121) 122) 123) 124) 131) 138) 139) 141) 142) 143) 131 = true := alu_old a_131_209
  have a_138_216 : (alu (alu (alu (alu (alu (alu (alu (alu (alu (alu (alu (alu (alu (alu (alu (alu (alu (alu (alu (alu (alu (alu (alu (alu (alu al 104) 105) 106) 107) 108) 109) 111) 112) 113) 115) 116) 117) 118) 119) 120) 121) 122) 123) 124) 131) 138) 139) 141) 142) 143) 138 = true := alu_old a_138_209
  have a_139_216 : (alu (alu (alu (alu (alu (alu (alu (alu (alu (alu (alu (alu (alu (alu (alu (alu (alu (alu (alu (alu (alu (alu (alu (alu (alu al 104) 105) 106) 107) 108) 109) 111) 112) 113) 115) 116) 117) 118) 119) 120) 121) 122) 123) 124) 131) 138) 139) 141) 142) 143) 139 = true := alu_old a_139_209
  have a_141_216 : (alu (alu (alu (alu (alu (alu (alu (alu (alu (alu (alu (alu (alu (alu (alu (alu (alu (alu (alu (alu (alu (alu (alu (alu (alu al 104) 105) 106) 107) 108) 109) 111) 112) 113) 115) 116) 117) 118) 119) 120) 121) 122) 123) 124) 131) 138) 139) 141) 142) 143) 141 = true := alu_old a_141_209
  have a_142_216 : (alu (alu (alu (alu (alu (alu (alu (alu (alu (alu (alu (alu (alu (alu (alu (alu (alu (alu (alu (alu (alu (alu (alu (alu (alu al 104) 105) 106) 107) 108) 109) 111) 112) 113) 115) 116) 117) 118) 119) 120) 121) 122) 123) 124) 131) 138) 139) 141) 142) 143) 142 = true := alu_old a_142_209
  have a_143_216 : (alu (alu (alu (alu (alu (alu (alu (alu (alu (alu (alu (alu (alu (alu (alu (alu (alu (alu (alu (alu (alu (alu (alu (alu (alu al 104) 105) 106) 107) 108) 109) 111) 112) 113) 115) 116) 117) 118) 119) 120) 121) 122) 123) 124) 131) 138) 139) 141) 142) 143) 143 = true := alu_new
  have k_143_216 : kd 143 = 10 := g_216.2.2.1
  obtain ⟨R_218, e_R_218, h⟩ := lt_some h
  refine r_putq C fr_X8_94 (Or.inr ⟨rfl, hmn, ⟨_, rfl, rfl⟩⟩) hW a_100_216 rfl rfl a_143_216 k_143_216 rfl rfl dX8_init_218 (fun H locs hW => ?_)
  rw [← e_R_218] at hW
  refine lv_aload_n hx hb dX8_init_221 rfl (lv_at hl 0 rfl) ?_
  refine lv_iconst (v := 5) hx hb dX8_init_222 (by decide) ?_
  obtain ⟨g_223, h⟩ := gd_some h
  obtain ⟨I_223, e_I_223, h⟩ := lt_some h
  obtain ⟨R_223, e_R_223, h⟩ := lt_some h
  refine r_newa (at_ := .int) C gm_41 (Or.inr (Or.inl ⟨rfl, rfl⟩)) hW g_223.1 g_223.2.1 g_223.2.2.1 (by decide) g_223.2.2.2 (by rw [← g_223.2.2.2]; decide) (by decide) (by rw [← g_223.2.2.2]; decide) dX8_init_223 (fun H hW => ?_)
  rw [← g_223.2.2.2]
  rw [← e_I_223, ← e_R_223] at hW
  refine W.widen (k := 26) (n := 916) (by decide) (by decide) ?_
  have a_100_223 : (alu (alu (alu (alu (alu (alu (alu (alu (alu (alu (alu (alu (alu (alu (alu (alu (alu (alu (alu (alu (alu (alu (alu (alu (alu (alu al 104) 105) 106) 107) 108) 109) 111) 112) 113) 115) 116) 117) 118) 119) 120) 121) 122) 123) 124) 131) 138) 139) 141) 142) 143) 144) 100 = true := alu_old a_100_216
  have a_104_223 : (alu (alu (alu (alu (alu (alu (alu (alu (alu (alu (alu (alu (alu (alu (alu (alu (alu (alu (alu (alu (alu (alu (alu (alu (alu (alu al 104) 105) 106) 107) 108) 109) 111) 112) 113) 115) 116) 117) 118) 119) 120) 121) 122) 123) 124) 131) 138) 139) 141) 142) 143) 144) 104 = true := alu_old a_104_216
  have a_105_223 : (alu (alu (alu (alu (alu (alu (alu (alu (alu (alu (alu (alu (alu (alu (alu (alu (alu (alu (alu (alu (alu (alu (alu (alu (alu (alu al 104) 105) 106) 107) 108) 109) 111) 112) 113) 115) 116) 117) 118) 119) 120) 121) 122) 123) 124) 131) 138) 139) 141) 142) 143) 144) 105 = true := alu_old a_105_216
  have a_106_223 : (alu (alu (alu (alu (alu (alu (alu (alu (alu (alu (alu (alu (alu (alu (alu (alu (alu (alu (alu (alu (alu (alu (alu (alu (alu (alu al 104) 105) 106) 107) 108) 109) 111) 112) 113) 115) 116) 117) 118) 119) 120) 121) 122) 123) 124) 131) 138) 139) 141) 142) 143) 144) 106 = true := alu_old a_106_216
  have a_107_223 : (alu (alu (alu (alu (alu (alu (alu (alu (alu (alu (alu (alu (alu (alu (alu (alu (alu (alu (alu (alu (alu (alu (alu (alu (alu (alu al 104) 105) 106) 107) 108) 109) 111) 112) 113) 115) 116) 117) 118) 119) 120) 121) 122) 123) 124) 131) 138) 139) 141) 142) 143) 144) 107 = true := alu_old a_107_216
  have a_108_223 : (alu (alu (alu (alu (alu (alu (alu (alu (alu (alu (alu (alu (alu (alu (alu (alu (alu (alu (alu (alu (alu (alu (alu (alu (alu (alu al 104) 105) 106) 107) 108) 109) 111) 112) 113) 115) 116) 117) 118) 119) 120) 121) 122) 123) 124) 131) 138) 139) 141) 142) 143) 144) 108 = true := alu_old a_108_216
  have a_109_223 : (alu (alu (alu (alu (alu (alu (alu (alu (alu (alu (alu (alu (alu (alu (alu (alu (alu (alu (alu (alu (alu (alu (alu (alu (alu (alu al 104) 105) 106) 107) 108) 109) 111) 112) 113) 115) 116) 117) 118) 119) 120) 121) 122) 123) 124) 131) 138) 139) 141) 142) 143) 144) 109 = true := alu_old a_109_216
  have a_111_223 : (alu (alu (alu (alu (alu (alu (alu (alu (alu (alu (alu (alu (alu (alu (alu (alu (alu (alu (alu (alu (alu (alu (alu (alu (alu (alu al 104) 105) 106) 107) 108) 109) 111) 112) 113) 115) 116) 117) 118) 119) 120) 121) 122) 123) 124) 131) 138) 139) 141) 142) 143) 144) 111 = true := alu_old a_111_216
  have a_112_223 : (alu (alu (alu (alu (alu (alu (alu (alu (alu (alu (alu (alu (alu (alu (alu (alu (alu (alu (alu (alu (alu (alu (alu (alu (alu (alu al 104) 105) 106) 107) 108) 109) 111) 112) 113) 115) 116) 117) 118) 119) 120) 121) 122) 123) 124) 131) 138) 139) 141) 142) 143) 144) 112 = true := alu_old a_112_216
  have a_113_223 : (alu (alu (alu (alu (alu (alu (alu (alu (alu (alu (alu (alu (alu (alu (alu (alu (alu (alu (alu (alu (alu (alu (alu (alu (alu (alu al 104) 105) 106) 107) 108) 109) 111) 112) 113) 115) 116) 117) 118) 119) 120) 121) 122) 123) 124) 131) 138) 139) 141) 142) 143) 144) 113 = true := alu_old a_113_216
  have a_115_223 : (alu (alu (alu (alu (alu (alu (alu (alu (alu (alu (alu (alu (alu (alu (alu (alu (alu (alu (alu (alu (alu (alu (alu (alu (alu (alu al 104) 105) 106) 107) 108) 109) 111) 112) 113) 115) 116) 117) 118) 119) 120) 121) 122) 123) 124) 131) 138) 139) 141) 142) 143) 144) 115 = true := alu_old a_115_216
  have a_116_223 : (alu (alu (alu (alu (alu (alu (alu (alu (alu (alu (alu (alu (alu (alu (alu (alu (alu (alu (alu (alu (alu (alu (alu (alu (alu (alu al 104) 105) 106) 107) 108) 109) 111) 112) 113) 115) 116) 117) 118) 119) 120) 121) 122) 123) 124) 131) 138) 139) 141) 142) 143) 144) 116 = true := alu_old a_116_216
  have a_117_223 : (alu (alu (alu (alu (alu (alu (alu (alu (alu (alu (alu (alu (alu (alu (alu (alu (alu (alu (alu (alu (alu (alu (alu (alu (alu (alu al 104) 105) 106) 107) 108) 109) 111) 112) 113) 115) 116) 117) 118) 119) 120) 121) 122) 123) 124) 131) 138) 139) 141) 142) 143) 144) 117 = true := alu_old a_117_216
  have a_118_223 : (alu (alu (alu (alu (alu (alu (alu (alu (alu (alu (alu (alu (alu (alu (alu (alu (alu (alu (alu (alu (alu (alu (alu (alu (alu (alu al 104) 105) 106) 107) 108) 109) 111) 112) 113) 115) 116) 117) 118) 119) 120) 121) 122) 123) 124) 131) 138) 139) 141) 142) 143) 144) 118 = true := alu_old a_118_216
  have a_119_223 : (alu (alu (alu (alu (alu (alu (alu (alu (alu (alu (alu (alu (alu (alu (alu (alu (alu (alu (alu (alu (alu (alu (alu (alu (alu (alu al 104) 105) 106) 107) 108) 109) 111) 112) 113) 115) 116) 117) 118) 119) 120) 121) 122) 123) 124) 131) 138) 139) 141) 142) 143) 144) 119 = true := alu_old a_119_216
  have a_120_223 : (alu (alu (alu (alu (alu (alu (alu (alu (alu (alu (alu (alu (alu (alu (alu (alu (alu (alu (alu (alu (alu (alu (alu (alu (alu (alu al 104) 105) 106) 107) 108) 109) 111) 112) 113) 115) 116) 117) 118) 119) 120) 121) 122) 123) 124) 131) 138) 139) 141) 142) 143) 144) 120 = true := alu_old a_120_216
  have a_121_223 : (alu (alu (alu (alu (alu (alu (alu (alu (alu (alu (alu (alu (alu (alu (alu (alu (alu (alu (alu (alu (alu (alu (alu (alu (alu (alu al 104) 105) 106) 107) 108) 109) 111) 112) 113) 115) 116) 117) 118) 119) 120) 121) 122) 123) 124) 131) 138) 139) 141) 142) 143) 144) 121 = true := alu_old a_121_216
  have a_122_223 : (alu (alu (alu (alu (alu (alu (alu (alu (alu (alu (alu (alu (alu (alu (alu (alu (alu (alu (alu (alu (alu (alu (alu (alu (alu (alu al 104) 105) 106) 107) 108) 109) 111) 112) 113) 115) 116) 117) 118) 119) 120) 121) 122) 123) 124) 131) 138) 139) 141) 142) 143) 144) 122 = true := alu_old a_122_216
  have a_123_223 : (alu (alu (alu (alu (alu (alu (alu (alu (alu (alu (alu (alu (alu (alu (alu (alu (alu (alu (alu (alu (alu (alu (alu (alu (alu (alu al 104) 105) 106) 107) 108) 109) 111) 112) 113) 115) 116) 117) 118) 119) 120) 121) 122) 123) 124) 131) 138) 139) 141) 142) 143) 144) 123 = true := alu_old a_123_216
  have a_124_223 : (alu (alu (alu (alu (alu (alu (alu (alu (alu (alu (alu (alu (alu (alu (alu (alu (alu (alu (alu (alu (alu (alu (alu (alu (alu (alu al 104) 105) 106) 107) 108) 109) 111) 112) 113) 115) 116) 117) 118) 119) 120) 121) 122) 123) 124) 131) 138) 139) 141) 142) 143) 144) 124 = true := alu_old a_124_216
  have a_131_223 : (alu (alu (alu (alu (alu (alu (alu (alu (alu (alu (alu (alu (alu (alu (alu (alu (alu (alu (alu (alu (alu (alu (alu (alu (alu (alu al 104) 105) 106) 107) 108) 109) 111) 112) 113) 115) 116) 117) 118) 119) 120) 121) 122) 123) 124) 131) 138) 139) 141) 142) 143) 144) 131 = true := alu_old a_131_216
  have a_138_223 : (alu (alu (alu (alu (alu (alu (alu (alu (alu (alu (alu (alu (alu (alu (alu (alu (alu (alu (alu (alu (alu (alu (alu (alu (alu (alu al 104) 105) 106) 107) 108) 109) 111) 112) 113) 115) 116) 117) 118) 119) 120) 121) 122) 123) 124) 131) 138) 139) 141) 142) 143) 144) 138 = true := alu_old a_138_216
  have a_139_223 : (alu (alu (alu (alu (alu (alu (alu (alu (alu (alu (alu (alu (alu (alu (alu (alu (alu (alu (alu (alu (alu (alu (alu (alu (alu (alu al 104) 105) 106) 107) 108) 109) 111) 112) 113) 115) 116) 117) 118) 119) 120) 121) 122) 123) 124) 131) 138) 139) 141) 142) 143) 144) 139 = true := alu_old a_139_216
  have a_141_223 : (alu (alu (alu (alu (alu (alu (alu (alu (alu (alu (alu (alu (alu (alu (alu (alu (alu (alu (alu (alu (alu (alu (alu (alu (alu (alu al 104) 105) 106) 107) 108) 109) 111) 112) 113) 115) 116) 117) 118) 119) 120) 121) 122) 123) 124) 131) 138) 139) 141) 142) 143) 144) 141 = true := alu_old a_141_216
  have a_142_223 : (alu (alu (alu (alu (alu (alu (alu (alu (alu (alu (alu (alu (alu (alu (alu (alu (alu (alu (alu (alu (alu (alu (alu (alu (alu (alu al 104) 105) 106) 107) 108) 109) 111) 112) 113) 115) 116) 117) 118) 119) 120) 121) 122) 123) 124) 131) 138) 139) 141) 142) 143) 144) 142 = true := alu_old a_142_216
  have a_143_223 : (alu (alu (alu (alu (alu (alu (alu (alu (alu (alu (alu (alu (alu (alu (alu (alu (alu (alu (alu (alu (alu (alu (alu (alu (alu (alu al 104) 105) 106) 107) 108) 109) 111) 112) 113) 115) 116) 117) 118) 119) 120) 121) 122) 123) 124) 131) 138) 139) 141) 142) 143) 144) 143 = true := alu_old a_143_216
  have a_144_223 : (alu (alu (alu (alu (alu (alu (alu (alu (alu (alu (alu (alu (alu (alu (alu (alu (alu (alu (alu (alu (alu (alu (alu (alu (alu (alu al 104) 105) 106) 107) 108) 109) 111) 112) 113) 115) 116) 117) 118) 119) 120) 121) 122) 123) 124) 131) 138) 139) 141) 142) 143) 144) 144 = true := alu_new
  have k_144_223 : kd 144 = 10 := g_223.2.2.1
  obtain ⟨R_225, e_R_225, h⟩ := lt_some h
  refine r_putq C fr_X8_97 (Or.inr ⟨rfl, hmn, ⟨_, rfl, rfl⟩⟩) hW a_100_223 rfl rfl a_144_223 k_144_223 rfl rfl dX8_init_225 (fun H locs hW => ?_)
  rw [← e_R_225] at hW
  refine lv_aload_n hx hb dX8_init_228 rfl (lv_at hl 0 rfl) ?_
  refine lv_bipush (v := 36) hx hb dX8_init_229 (by decide) ?_
  obtain ⟨g_231, h⟩ := gd_some h
  obtain ⟨I_231, e_I_231, h⟩ := lt_some h
  obtain ⟨R_231, e_R_231, h⟩ := lt_some h
  refine r_newa (at_ := .byte) C gm_43 (Or.inl ⟨rfl, rfl⟩) hW g_231.1 g_231.2.1 g_231.2.2.1 (by decide) g_231.2.2.2 (by rw [← g_231.2.2.2]; decide) (by decide) (by rw [← g_231.2.2.2]; decide) dX8_init_231 (fun H hW => ?_)
  rw [← g_231.2.2.2]
  rw [← e_I_231, ← e_R_231] at hW
  refine W.widen (k := 27) (n := 952) (by decide) (by decide) ?_
  have a_100_231 : (alu (alu (alu (alu (alu (alu (alu (alu (alu (alu (alu (alu (alu (alu (alu (alu (alu (alu (alu (alu (alu (alu (alu (alu (alu (alu (alu al 104) 105) 106) 107) 108) 109) 111) 112) 113) 115) 116) 117) 118) 119) 120) 121) 122) 123) 124) 131) 138) 139) 141) 142) 143) 144) 145) 100 = true := alu_old a_100_223
  have a_104_231 : (alu (alu (alu (alu (alu (alu (alu (alu (alu (alu (alu (alu (alu (alu (alu (alu (alu (alu (alu (alu (alu (alu (alu (alu (alu (alu (alu al 104) 105) 106) 107) 108) 109) 111) 112) 113) 115) 116) 117) 118) 119) 120) 121) 122) 123) 124) 131) 138) 139) 141) 142) 143) 144) 145) 104 = true := alu_old a_104_223
  have a_105_231 : (alu (alu (alu (alu (alu (alu (alu (alu (alu (alu (alu (alu (alu (alu (alu (alu (alu (alu (alu (alu (alu (alu (alu (alu (alu (alu (alu al 104) 105) 106) 107) 108) 109) 111) 112) 113) 115) 116) 117) 118) 119) 120) 121) 122) 123) 124) 131) 138) 139) 141) 142) 143) 144) 145) 105 = true := alu_old a_105_223
  have a_106_231 : (alu (alu (alu (alu (alu (alu (alu (alu (alu (alu (alu (alu (alu (alu (alu (alu (alu (alu (alu (alu (alu (alu (alu (alu (alu (alu (alu al 104) 105) 106) 107) 108) 109) 111) 112) 113) 115) 116) 117) 118) 119) 120) 121) 122) 123) 124) 131) 138) 139) 141) 142) 143) 144) 145) 106 = true := alu_old a_106_223
  have a_107_231 : (alu (alu (alu (alu (alu (alu (alu (alu (alu (alu (alu (alu (alu (alu (alu (alu (alu (alu (alu (alu (alu (alu (alu (alu (alu (alu (alu al 104) 105) 106) 107) 108) 109) 111) 112) 113) 115) 116) 117) 118) 119) 120) 121) 122) 123) 124) 131) 138) 139) 141) 142) 143) 144) 145) 107 = true := alu_old a_107_223
  have a_108_231 : (alu (alu (alu (alu (alu (alu (alu (alu (alu (alu (alu (alu (alu (alu (alu (alu (alu (alu (alu (alu (alu (alu (alu (alu (alu (alu (alu al 104) 105) 106) 107) 108) 109) 111) 112) 113) 115) 116) 117) 118) 119) 120) 121) 122) 123) 124) 131) 138) 139) 141) 142) 143) 144) 145) 108 = true := alu_old a_108_223
  have a_109_231 : (alu (alu (alu (alu (alu (alu (alu (alu (alu (alu (alu (alu (alu (alu (alu (alu (alu (alu (alu (alu (alu (alu (alu (alu (alu (alu (alu al 104) 105) 106) 107) 108) 109) 111) 112) 113) 115) 116) 117) 118) 119) 120) 121) 122) 123) 124) 131) 138) 139) 141) 142) 143) 144) 145) 109 = true := alu_old a_109_223
  have a_111_231 : (alu (alu (alu (alu (alu (alu (alu (alu (alu (alu (alu (alu (alu (alu (alu (alu (alu (alu (alu (alu (alu (alu (alu (alu (alu (alu (alu al 104) 105) 106) 107) 108) 109) 111) 112) 113) 115) 116) 117) 118) 119) 120) 121) 122) 123) 124) 131) 138) 139) 141) 142) 143) 144) 145) 111 = true := alu_old a_111_223
  have a_112_231 : (alu (alu (alu (alu (alu (alu (alu (alu (alu (alu (alu (alu (alu (alu (alu (alu (alu (alu (alu (alu (alu (alu (alu (alu (alu (alu (alu al 104) 105) 106) 107) 108) 109) 111) 112) 113) 115) 116) 117) 118) 119) 120) 121) 122) 123) 124) 131) 138) 139) 141) 142) 143) 144) 145) 112 = true := alu_old a_112_223
  have a_113_231 : (alu (alu (alu (alu (alu (alu (alu (alu (alu (alu (alu (alu (alu (alu (alu (alu (alu (alu (alu (alu (alu (alu (alu (alu (alu (alu (alu al 104) 105) 106) 107) 108) 109) 111) 112) 113) 115) 116) 117) 118) 119) 120) 121) 122) 123) 124) 131) 138) 139) 141) 142) 143) 144) 145) 113 = true := alu_old a_113_223
  have a_115_231 : (alu (alu (alu (alu (alu (alu (alu (alu (alu (alu (alu (alu (alu (alu (alu (alu (alu (alu (alu (alu (alu (alu (alu (alu (alu (alu (alu al 104) 105) 106) 107) 108) 109) 111) 112) 113) 115) 116) 117) 118) 119) 120) 121) 122) 123) 124) 131) 138) 139) 141) 142) 143) 144) 145) 115 = true := alu_old a_115_223
  have a_116_231 : (alu (alu (alu (alu (alu (alu (alu (alu (alu (alu (alu (alu (alu (alu (alu (alu (alu (alu (alu (alu (alu (alu (alu (alu (alu (alu (alu al 104) 105) 106) 107) 108) 109) 111) 112) 113) 115) 116) 117) 118) 119) 120) 121) 122) 123) 124) 131) 138) 139) 141) 142) 143) 144) 145) 116 = true := alu_old a_116_223
  have a_117_231 : (alu (alu (alu (alu (alu (alu (alu (alu (alu (alu (alu (alu (alu (alu (alu (alu (alu (alu (alu (alu (alu (alu (alu (alu (alu (alu (alu al 104) 105) 106) 107) 108) 109) 111) 112) 113) 115) 116) 117) 118) 119) 120) 121) 122) 123) 124) 131) 138) 139) 141) 142) 143) 144) 145) 117 = true := alu_old a_117_223
  have a_118_231 : (alu (alu (alu (alu (alu (alu (alu (alu (alu (alu (alu (alu (alu (alu (alu (alu (alu (alu (alu (alu (alu (alu (alu (alu (alu (alu (alu al 104) 105) 106) 107) 108) 109) 111) 112) 113) 115) 116) 117) 118) 119) 120) 121) 122) 123) 124) 131) 138) 139) 141) 142) 143) 144) 145) 118 = true := alu_old a_118_223
  have a_119_231 : (alu (alu (alu (alu (alu (alu (alu (alu (alu (alu (alu (alu (alu (alu (alu (alu (alu (alu (alu (alu (alu (alu (alu (alu (alu (alu (alu al 104) 105) 106) 107) 108) 109) 111) 112) 113) 115) 116) 117) 118) 119) 120) 121) 122) 123) 124) 131) 138) 139) 141) 142) 143) 144) 145) 119 = true := alu_old a_119_223
  have a_120_231 : (alu (alu (alu (alu (alu (alu (alu (alu (alu (alu (alu (alu (alu (alu (alu (alu (alu (alu (alu (alu (alu (alu (alu (alu (alu (alu (alu al 104) 105) 106) 107) 108) 109) 111) 112) 113) 115) 116) 117) 118) 119) 120) 121) 122) 123) 124) 131) 138) 139) 141) 142) 143) 144) 145) 120 = true := alu_old a_120_223
  have a_121_231 : (alu (alu (alu (alu (alu (alu (alu (alu (alu (alu (alu (alu (alu (alu (alu (alu (alu (alu (alu (alu (alu (alu (alu (alu (alu (alu (alu al 104) 105) 106) 107) 108) 109) 111) 112) 113) 115) 116) 117) 118) 119) 120) 121) 122) 123) 124) 131) 138) 139) 141) 142) 143) 144) 145) 121 = true := alu_old a_121_223
  have a_122_231 : (alu (alu (alu (alu (alu (alu (alu (alu (alu (alu (alu (alu (alu (alu (alu (alu (alu (alu (alu (alu (alu (alu (alu (alu (alu (alu (alu al 104) 105) 106) 107) 108) 109) 111) 112) 113) 115) 116) 117) 118) 119) 120) 121) 122) 123) 124) 131) 138) 139) 141) 142) 143) 144) 145) 122 = true := alu_old a_122_223
  have a_123_231 : (alu (alu (alu (alu (alu (alu (alu (alu (alu (alu (alu (alu (alu (alu (alu (alu (alu (alu (alu (alu (alu (alu (alu (alu (alu (alu (alu al 104) 105) 106) 107) 108) 109) 111) 112) 113) 115) 116) 117) 118) 119) 120) 121) 122) 123) 124) 131) 138) 139) 141) 142) 143) 144) 145) 123 = true := alu_old a_123_223
  have a_124_231 : (alu (alu (alu (alu (alu (alu (alu (alu (alu (alu (alu (alu (alu (alu (alu (alu (alu (alu (alu (alu (alu (alu (alu (alu (alu (alu (alu al 104) 105) 106) 107) 108) 109) 111) 112) 113) 115) 116) 117) 118) 119) 120) 121) 122) 123) 124) 131) 138) 139) 141) 142) 143) 144) 145) 124 = true := alu_old a_124_223
  have a_131_231 : (alu (alu (alu (alu (alu (alu (alu (alu (alu (alu (alu (alu (alu (alu (alu (alu (alu (alu (alu (alu (alu (alu (alu (alu (alu (alu (alu al 104) 105) 106) 107) 108) 109) 111) 112) 113) 115) 116) 117) 118) 119) 120) 121) 122) 123) 124) 131) 138) 139) 141) 142) 143) 144) 145) 131 = true := alu_old a_131_223
  have a_138_231 : (alu (alu (alu (alu (alu (alu (alu (alu (alu (alu (alu (alu (alu (alu (alu (alu (alu (alu (alu (alu (alu (alu (alu (alu (alu (alu (alu al 104) 105) 106) 107) 108) 109) 111) 112) 113) 115) 116) 117) 118) 119) 120) 121) 122) 123) 124) 131) 138) 139) 141) 142) 143) 144) 145) 138 = true := alu_old a_138_223
  have a_139_231 : (alu (alu (alu (alu (alu (alu (alu (alu (alu (alu (alu (alu (alu (alu (alu (alu (alu (alu (alu (alu (alu (alu (alu (alu (alu (alu (alu al 104) 105) 106) 107) 108) 109) 111) 112) 113) 115) 116) 117) 118) 119) 120) 121) 122) 123) 124) 131) 138) 139) 141) 142) 143) 144) 145) 139 = true := alu_old a_139_223
  have a_141_231 : (alu (alu (alu (alu (alu (alu (alu (alu (alu (alu (alu (alu (alu (alu (alu (alu (alu (alu (alu (alu (alu (alu (alu (alu (alu (alu (alu al 104) 105) 106) 107) 108) 109) 111) 112) 113) 115) 116) 117) 118) 119) 120) 121) 122) 123) 124) 131) 138) 139) 141) 142) 143) 144) 145) 141 = true := alu_old a_141_223
  have a_142_231 : (alu (alu (alu (alu (alu (alu (alu (alu (alu (alu (alu (alu (alu (alu (alu (alu (alu (alu (alu (alu (alu (alu (alu (alu (alu (alu (alu al 104) 105) 106) 107) 108) 109) 111) 112) 113) 115) 116) 117) 118) 119) 120) 121) 122) 123) 124) 131) 138) 139) 141) 142) 143) 144) 145) 142 = true := alu_old a_142_223
  have a_143_231 : (alu (alu (alu (alu (alu (alu (alu (alu (alu (alu (alu (alu (alu (alu (alu (alu (alu (alu (alu (alu (alu (alu (alu (alu (alu (alu (alu al 104) 105) 106) 107) 108) 109) 111) 112) 113) 115) 116) 117) 118) 119) 120) 121) 122) 123) 124) 131) 138) 139) 141) 142) 143) 144) 145) 143 = true := alu_old a_143_223
  have a_144_231 : (alu (alu (alu (alu (alu (alu (alu (alu (alu (alu (alu (alu (alu (alu (alu (alu (alu (alu (alu (alu (alu (alu (alu (alu (alu (alu (alu al 104) 105) 106) 107) 108) 109) 111) 112) 113) 115) 116) 117) 118) 119) 120) 121) 122) 123) 124) 131) 138) 139) 141) 142) 143) 144) 145) 144 = true := alu_old a_144_223
  have a_145_231 : (alu (alu (alu (alu (alu (alu (alu (alu (alu (alu (alu (alu (alu (alu (alu (alu (alu (alu (alu (alu (alu (alu (alu (alu (alu (alu (alu al 104) 105) 106) 107) 108) 109) 111) 112) 113) 115) 116) 117) 118) 119) 120) 121) 122) 123) 124) 131) 138) 139) 141) 142) 143) 144) 145) 145 = true := alu_new
  have k_145_231 : kd 145 = 9 := g_231.2.2.1
  refine lv_dup hx hb dX8_init_233 rfl ?_
  refine lv_iconst (v := 0) hx hb dX8_init_234 (by decide) ?_
  refine lv_bipush (v := 119) hx hb dX8_init_235 (by decide) ?_
  obtain ⟨g_237, h⟩ := gd_some h
  obtain ⟨I_237, e_I_237, h⟩ := lt_some h
  refine r_bast C hW a_145_231 k_145_231 (ix_in g_237) dX8_init_237 (fun H locs hW => ?_)
  rw [← e_I_237] at hW
  refine lv_dup hx hb dX8_init_238 rfl ?_
  refine lv_iconst (v := 1) hx hb dX8_init_239 (by decide) ?_
  refine lv_bipush (v := 97) hx hb dX8_init_240 (by decide) ?_
  obtain ⟨g_242, h⟩ := gd_some h
  obtain ⟨I_242, e_I_242, h⟩ := lt_some h
  refine r_bast C hW a_145_231 k_145_231 (ix_in g_242) dX8_init_242 (fun H locs hW => ?_)
  rw [← e_I_242] at hW
  refine lv_dup hx hb dX8_init_243 rfl ?_
  refine lv_iconst (v := 2) hx hb dX8_init_244 (by decide) ?_
  refine lv_bipush (v := 114) hx hb dX8_init_245 (by decide) ?_
  obtain ⟨g_247, h⟩ := gd_some h
  obtain ⟨I_247, e_I_247, h⟩ := lt_some h
  refine r_bast C hW a_145_231 k_145_231 (ix_in g_247) dX8_init_247 (fun H locs hW => ?_)
  rw [← e_I_247] at hW
  refine lv_dup hx hb dX8_init_248 rfl ?_
  refine lv_iconst (v := 3) hx hb dX8_init_249 (by decide) ?_
  refine lv_bipush (v := 109) hx hb dX8_init_250 (by decide) ?_
  obtain ⟨g_252, h⟩ := gd_some h
  obtain ⟨I_252, e_I_252, h⟩ := lt_some h
  refine r_bast C hW a_145_231 k_145_231 (ix_in g_252) dX8_init_252 (fun H locs hW => ?_)
  rw [← e_I_252] at hW
  refine lv_dup hx hb dX8_init_253 rfl ?_
  refine lv_iconst (v := 4) hx hb dX8_init_254 (by decide) ?_
  refine lv_iconst (v := 0) hx hb dX8_init_255 (by decide) ?_
  obtain ⟨g_256, h⟩ := gd_some h
  obtain ⟨I_256, e_I_256, h⟩ := lt_some h
  refine r_bast C hW a_145_231 k_145_231 (ix_in g_256) dX8_init_256 (fun H locs hW => ?_)
  rw [← e_I_256] at hW
  refine lv_dup hx hb dX8_init_257 rfl ?_
  refine lv_iconst (v := 5) hx hb dX8_init_258 (by decide) ?_
  refine lv_iconst (v := 0) hx hb dX8_init_259 (by decide) ?_
  obtain ⟨g_260, h⟩ := gd_some h
  obtain ⟨I_260, e_I_260, h⟩ := lt_some h
  refine r_bast C hW a_145_231 k_145_231 (ix_in g_260) dX8_init_260 (fun H locs hW => ?_)
  rw [← e_I_260] at hW
  refine lv_dup hx hb dX8_init_261 rfl ?_
  refine lv_bipush (v := 6) hx hb dX8_init_262 (by decide) ?_
  refine lv_bipush (v := 99) hx hb dX8_init_264 (by decide) ?_
  obtain ⟨g_266, h⟩ := gd_some h
  obtain ⟨I_266, e_I_266, h⟩ := lt_some h
  refine r_bast C hW a_145_231 k_145_231 (ix_in g_266) dX8_init_266 (fun H locs hW => ?_)
  rw [← e_I_266] at hW
  refine lv_dup hx hb dX8_init_267 rfl ?_
  refine lv_bipush (v := 7) hx hb dX8_init_268 (by decide) ?_
  refine lv_bipush (v := 111) hx hb dX8_init_270 (by decide) ?_
  obtain ⟨g_272, h⟩ := gd_some h
  obtain ⟨I_272, e_I_272, h⟩ := lt_some h
  refine r_bast C hW a_145_231 k_145_231 (ix_in g_272) dX8_init_272 (fun H locs hW => ?_)
  rw [← e_I_272] at hW
  refine lv_dup hx hb dX8_init_273 rfl ?_
  refine lv_bipush (v := 8) hx hb dX8_init_274 (by decide) ?_
  refine lv_bipush (v := 111) hx hb dX8_init_276 (by decide) ?_
  obtain ⟨g_278, h⟩ := gd_some h
  obtain ⟨I_278, e_I_278, h⟩ := lt_some h
  refine r_bast C hW a_145_231 k_145_231 (ix_in g_278) dX8_init_278 (fun H locs hW => ?_)
  rw [← e_I_278] at hW
  refine lv_dup hx hb dX8_init_279 rfl ?_
  refine lv_bipush (v := 9) hx hb dX8_init_280 (by decide) ?_
  refine lv_bipush (v := 108) hx hb dX8_init_282 (by decide) ?_
  obtain ⟨g_284, h⟩ := gd_some h
  obtain ⟨I_284, e_I_284, h⟩ := lt_some h
  refine r_bast C hW a_145_231 k_145_231 (ix_in g_284) dX8_init_284 (fun H locs hW => ?_)
  rw [← e_I_284] at hW
  refine lv_dup hx hb dX8_init_285 rfl ?_
  refine lv_bipush (v := 10) hx hb dX8_init_286 (by decide) ?_
  refine lv_iconst (v := 0) hx hb dX8_init_288 (by decide) ?_
  obtain ⟨g_289, h⟩ := gd_some h
  obtain ⟨I_289, e_I_289, h⟩ := lt_some h
  refine r_bast C hW a_145_231 k_145_231 (ix_in g_289) dX8_init_289 (fun H locs hW => ?_)
  rw [← e_I_289] at hW
  refine lv_dup hx hb dX8_init_290 rfl ?_
  refine lv_bipush (v := 11) hx hb dX8_init_291 (by decide) ?_
  refine lv_iconst (v := 0) hx hb dX8_init_293 (by decide) ?_
  obtain ⟨g_294, h⟩ := gd_some h
  obtain ⟨I_294, e_I_294, h⟩ := lt_some h
  refine r_bast C hW a_145_231 k_145_231 (ix_in g_294) dX8_init_294 (fun H locs hW => ?_)
  rw [← e_I_294] at hW
  refine lv_dup hx hb dX8_init_295 rfl ?_
  refine lv_bipush (v := 12) hx hb dX8_init_296 (by decide) ?_
  refine lv_bipush (v := 108) hx hb dX8_init_298 (by decide) ?_
  obtain ⟨g_300, h⟩ := gd_some h
  obtain ⟨I_300, e_I_300, h⟩ := lt_some h
  refine r_bast C hW a_145_231 k_145_231 (ix_in g_300) dX8_init_300 (fun H locs hW => ?_)
  rw [← e_I_300] at hW
  refine lv_dup hx hb dX8_init_301 rfl ?_
  refine lv_bipush (v := 13) hx hb dX8_init_302 (by decide) ?_
  refine lv_bipush (v := 105) hx hb dX8_init_304 (by decide) ?_
  obtain ⟨g_306, h⟩ := gd_some h
  obtain ⟨I_306, e_I_306, h⟩ := lt_some h
  refine r_bast C hW a_145_231 k_145_231 (ix_in g_306) dX8_init_306 (fun H locs hW => ?_)
  rw [← e_I_306] at hW
  refine lv_dup hx hb dX8_init_307 rfl ?_
  refine lv_bipush (v := 14) hx hb dX8_init_308 (by decide) ?_
  refine lv_bipush (v := 109) hx hb dX8_init_310 (by decide) ?_
  obtain ⟨g_312, h⟩ := gd_some h
  obtain ⟨I_312, e_I_312, h⟩ := lt_some h
  refine r_bast C hW a_145_231 k_145_231 (ix_in g_312) dX8_init_312 (fun H locs hW => ?_)
  rw [← e_I_312] at hW
  refine lv_dup hx hb dX8_init_313 rfl ?_
  refine lv_bipush (v := 15) hx hb dX8_init_314 (by decide) ?_
  refine lv_bipush (v := 105) hx hb dX8_init_316 (by decide) ?_
  obtain ⟨g_318, h⟩ := gd_some h
  obtain ⟨I_318, e_I_318, h⟩ := lt_some h
  refine r_bast C hW a_145_231 k_145_231 (ix_in g_318) dX8_init_318 (fun H locs hW => ?_)
  rw [← e_I_318] at hW
  refine lv_dup hx hb dX8_init_319 rfl ?_
  refine lv_bipush (v := 16) hx hb dX8_init_320 (by decide) ?_
  refine lv_bipush (v := 116) hx hb dX8_init_322 (by decide) ?_
  obtain ⟨g_324, h⟩ := gd_some h
  obtain ⟨I_324, e_I_324, h⟩ := lt_some h
  refine r_bast C hW a_145_231 k_145_231 (ix_in g_324) dX8_init_324 (fun H locs hW => ?_)
  rw [← e_I_324] at hW
  refine lv_dup hx hb dX8_init_325 rfl ?_
  refine lv_bipush (v := 17) hx hb dX8_init_326 (by decide) ?_
  refine lv_iconst (v := 0) hx hb dX8_init_328 (by decide) ?_
  obtain ⟨g_329, h⟩ := gd_some h
  obtain ⟨I_329, e_I_329, h⟩ := lt_some h
  refine r_bast C hW a_145_231 k_145_231 (ix_in g_329) dX8_init_329 (fun H locs hW => ?_)
  rw [← e_I_329] at hW
  refine lv_dup hx hb dX8_init_330 rfl ?_
  refine lv_bipush (v := 18) hx hb dX8_init_331 (by decide) ?_
  refine lv_bipush (v := 112) hx hb dX8_init_333 (by decide) ?_
  obtain ⟨g_335, h⟩ := gd_some h
  obtain ⟨I_335, e_I_335, h⟩ := lt_some h
  refine r_bast C hW a_145_231 k_145_231 (ix_in g_335) dX8_init_335 (fun H locs hW => ?_)
  rw [← e_I_335] at hW
  refine lv_dup hx hb dX8_init_336 rfl ?_
  refine lv_bipush (v := 19) hx hb dX8_init_337 (by decide) ?_
  refine lv_bipush (v := 114) hx hb dX8_init_339 (by decide) ?_
  obtain ⟨g_341, h⟩ := gd_some h
  obtain ⟨I_341, e_I_341, h⟩ := lt_some h
  refine r_bast C hW a_145_231 k_145_231 (ix_in g_341) dX8_init_341 (fun H locs hW => ?_)
  rw [← e_I_341] at hW
  refine lv_dup hx hb dX8_init_342 rfl ?_
  refine lv_bipush (v := 20) hx hb dX8_init_343 (by decide) ?_
  refine lv_bipush (v := 101) hx hb dX8_init_345 (by decide) ?_
  obtain ⟨g_347, h⟩ := gd_some h
  obtain ⟨I_347, e_I_347, h⟩ := lt_some h
  refine r_bast C hW a_145_231 k_145_231 (ix_in g_347) dX8_init_347 (fun H locs hW => ?_)
  rw [← e_I_347] at hW
  refine lv_dup hx hb dX8_init_348 rfl ?_
  refine lv_bipush (v := 21) hx hb dX8_init_349 (by decide) ?_
  refine lv_bipush (v := 115) hx hb dX8_init_351 (by decide) ?_
  obtain ⟨g_353, h⟩ := gd_some h
  obtain ⟨I_353, e_I_353, h⟩ := lt_some h
  refine r_bast C hW a_145_231 k_145_231 (ix_in g_353) dX8_init_353 (fun H locs hW => ?_)
  rw [← e_I_353] at hW
  refine lv_dup hx hb dX8_init_354 rfl ?_
  refine lv_bipush (v := 22) hx hb dX8_init_355 (by decide) ?_
  refine lv_bipush (v := 115) hx hb dX8_init_357 (by decide) ?_
  obtain ⟨g_359, h⟩ := gd_some h
  obtain ⟨I_359, e_I_359, h⟩ := lt_some h
  refine r_bast C hW a_145_231 k_145_231 (ix_in g_359) dX8_init_359 (fun H locs hW => ?_)
  rw [← e_I_359] at hW
  refine lv_dup hx hb dX8_init_360 rfl ?_
  refine lv_bipush (v := 23) hx hb dX8_init_361 (by decide) ?_
  refine lv_iconst (v := 0) hx hb dX8_init_363 (by decide) ?_
  obtain ⟨g_364, h⟩ := gd_some h
  obtain ⟨I_364, e_I_364, h⟩ := lt_some h
  refine r_bast C hW a_145_231 k_145_231 (ix_in g_364) dX8_init_364 (fun H locs hW => ?_)
  rw [← e_I_364] at hW
  refine lv_dup hx hb dX8_init_365 rfl ?_
  refine lv_bipush (v := 24) hx hb dX8_init_366 (by decide) ?_
  refine lv_bipush (v := 115) hx hb dX8_init_368 (by decide) ?_
  obtain ⟨g_370, h⟩ := gd_some h
  obtain ⟨I_370, e_I_370, h⟩ := lt_some h
  refine r_bast C hW a_145_231 k_145_231 (ix_in g_370) dX8_init_370 (fun H locs hW => ?_)
  rw [← e_I_370] at hW
  refine lv_dup hx hb dX8_init_371 rfl ?_
  refine lv_bipush (v := 25) hx hb dX8_init_372 (by decide) ?_
  refine lv_bipush (v := 119) hx hb dX8_init_374 (by decide) ?_
  obtain ⟨g_376, h⟩ := gd_some h
  obtain ⟨I_376, e_I_376, h⟩ := lt_some h
  refine r_bast C hW a_145_231 k_145_231 (ix_in g_376) dX8_init_376 (fun H locs hW => ?_)
  rw [← e_I_376] at hW
  refine lv_dup hx hb dX8_init_377 rfl ?_
  refine lv_bipush (v := 26) hx hb dX8_init_378 (by decide) ?_
  refine lv_bipush (v := 105) hx hb dX8_init_380 (by decide) ?_
  obtain ⟨g_382, h⟩ := gd_some h
  obtain ⟨I_382, e_I_382, h⟩ := lt_some h
  refine r_bast C hW a_145_231 k_145_231 (ix_in g_382) dX8_init_382 (fun H locs hW => ?_)
  rw [← e_I_382] at hW
  refine lv_dup hx hb dX8_init_383 rfl ?_
  refine lv_bipush (v := 27) hx hb dX8_init_384 (by decide) ?_
  refine lv_bipush (v := 116) hx hb dX8_init_386 (by decide) ?_
  obtain ⟨g_388, h⟩ := gd_some h
  obtain ⟨I_388, e_I_388, h⟩ := lt_some h
  refine r_bast C hW a_145_231 k_145_231 (ix_in g_388) dX8_init_388 (fun H locs hW => ?_)
  rw [← e_I_388] at hW
  refine lv_dup hx hb dX8_init_389 rfl ?_
  refine lv_bipush (v := 28) hx hb dX8_init_390 (by decide) ?_
  refine lv_bipush (v := 99) hx hb dX8_init_392 (by decide) ?_
  obtain ⟨g_394, h⟩ := gd_some h
  obtain ⟨I_394, e_I_394, h⟩ := lt_some h
  refine r_bast C hW a_145_231 k_145_231 (ix_in g_394) dX8_init_394 (fun H locs hW => ?_)
  rw [← e_I_394] at hW
  refine lv_dup hx hb dX8_init_395 rfl ?_
  refine lv_bipush (v := 29) hx hb dX8_init_396 (by decide) ?_
  refine lv_bipush (v := 104) hx hb dX8_init_398 (by decide) ?_
  obtain ⟨g_400, h⟩ := gd_some h
  obtain ⟨I_400, e_I_400, h⟩ := lt_some h
  refine r_bast C hW a_145_231 k_145_231 (ix_in g_400) dX8_init_400 (fun H locs hW => ?_)
  rw [← e_I_400] at hW
  refine lv_dup hx hb dX8_init_401 rfl ?_
  refine lv_bipush (v := 30) hx hb dX8_init_402 (by decide) ?_
  refine lv_bipush (v := 102) hx hb dX8_init_404 (by decide) ?_
  obtain ⟨g_406, h⟩ := gd_some h
  obtain ⟨I_406, e_I_406, h⟩ := lt_some h
  refine r_bast C hW a_145_231 k_145_231 (ix_in g_406) dX8_init_406 (fun H locs hW => ?_)
  rw [← e_I_406] at hW
  refine lv_dup hx hb dX8_init_407 rfl ?_
  refine lv_bipush (v := 31) hx hb dX8_init_408 (by decide) ?_
  refine lv_bipush (v := 108) hx hb dX8_init_410 (by decide) ?_
  obtain ⟨g_412, h⟩ := gd_some h
  obtain ⟨I_412, e_I_412, h⟩ := lt_some h
  refine r_bast C hW a_145_231 k_145_231 (ix_in g_412) dX8_init_412 (fun H locs hW => ?_)
  rw [← e_I_412] at hW
  refine lv_dup hx hb dX8_init_413 rfl ?_
  refine lv_bipush (v := 32) hx hb dX8_init_414 (by decide) ?_
  refine lv_bipush (v := 111) hx hb dX8_init_416 (by decide) ?_
  obtain ⟨g_418, h⟩ := gd_some h
  obtain ⟨I_418, e_I_418, h⟩ := lt_some h
  refine r_bast C hW a_145_231 k_145_231 (ix_in g_418) dX8_init_418 (fun H locs hW => ?_)
  rw [← e_I_418] at hW
  refine lv_dup hx hb dX8_init_419 rfl ?_
  refine lv_bipush (v := 33) hx hb dX8_init_420 (by decide) ?_
  refine lv_bipush (v := 119) hx hb dX8_init_422 (by decide) ?_
  obtain ⟨g_424, h⟩ := gd_some h
  obtain ⟨I_424, e_I_424, h⟩ := lt_some h
  refine r_bast C hW a_145_231 k_145_231 (ix_in g_424) dX8_init_424 (fun H locs hW => ?_)
  rw [← e_I_424] at hW
  refine lv_dup hx hb dX8_init_425 rfl ?_
  refine lv_bipush (v := 34) hx hb dX8_init_426 (by decide) ?_
  refine lv_iconst (v := 0) hx hb dX8_init_428 (by decide) ?_
  obtain ⟨g_429, h⟩ := gd_some h
  obtain ⟨I_429, e_I_429, h⟩ := lt_some h
  refine r_bast C hW a_145_231 k_145_231 (ix_in g_429) dX8_init_429 (fun H locs hW => ?_)
  rw [← e_I_429] at hW
  refine lv_dup hx hb dX8_init_430 rfl ?_
  refine lv_bipush (v := 35) hx hb dX8_init_431 (by decide) ?_
  refine lv_iconst (v := 0) hx hb dX8_init_433 (by decide) ?_
  obtain ⟨g_434, h⟩ := gd_some h
  obtain ⟨I_434, e_I_434, h⟩ := lt_some h
  refine r_bast C hW a_145_231 k_145_231 (ix_in g_434) dX8_init_434 (fun H locs hW => ?_)
  rw [← e_I_434] at hW
  obtain ⟨R_435, e_R_435, h⟩ := lt_some h
  refine r_putq C fr_X8_100 (Or.inr ⟨rfl, hmn, ⟨_, rfl, rfl⟩⟩) hW a_100_231 rfl rfl a_145_231 k_145_231 rfl rfl dX8_init_435 (fun H locs hW => ?_)
  rw [← e_R_435] at hW
  refine lv_aload_n hx hb dX8_init_438 rfl (lv_at hl 0 rfl) ?_
  refine lv_bipush (v := 6) hx hb dX8_init_439 (by decide) ?_
  obtain ⟨g_441, h⟩ := gd_some h
  obtain ⟨I_441, e_I_441, h⟩ := lt_some h
  obtain ⟨R_441, e_R_441, h⟩ := lt_some h
  refine r_newa (at_ := .int) C gm_41 (Or.inr (Or.inl ⟨rfl, rfl⟩)) hW g_441.1 g_441.2.1 g_441.2.2.1 (by decide) g_441.2.2.2 (by rw [← g_441.2.2.2]; decide) (by decide) (by rw [← g_441.2.2.2]; decide) dX8_init_441 (fun H hW => ?_)
  rw [← g_441.2.2.2]
  rw [← e_I_441, ← e_R_441] at hW
  refine W.widen (k := 28) (n := 958) (by decide) (by decide) ?_
  have a_100_441 : (alu (alu (alu (alu (alu (alu (alu (alu (alu (alu (alu (alu (alu (alu (alu (alu (alu (alu (alu (alu (alu (alu (alu (alu (alu (alu (alu (alu al 104) 105) 106) 107) 108) 109) 111) 112) 113) 115) 116) 117) 118) 119) 120) 121) 122) 123) 124) 131) 138) 139) 141) 142) 143) 144) 145) 150) 100 = true := alu_old a_100_231
  have a_104_441 : (alu (alu (alu (alu (alu (alu (alu (alu (alu (alu (alu (alu (alu (alu (alu (alu (alu (alu (alu (alu (alu (alu (alu (alu (alu (alu (alu (alu al 104) 105) 106) 107) 108) 109) 111) 112) 113) 115) 116) 117) 118) 119) 120) 121) 122) 123) 124) 131) 138) 139) 141) 142) 143) 144) 145) 150) 104 = true := alu_old a_104_231
  have a_105_441 : (alu (alu (alu (alu (alu (alu (alu (alu (alu (alu (alu (alu (alu (alu (alu (alu (alu (alu (alu (alu (alu (alu (alu (alu (alu (alu (alu (alu al 104) 105) 106) 107) 108) 109) 111) 112) 113) 115) 116) 117) 118) 119) 120) 121) 122) 123) 124) 131) 138) 139) 141) 142) 143) 144) 145) 150) 105 = true := alu_old a_105_231
  have a_106_441 : (alu (alu (alu (alu (alu (alu (alu (alu (alu (alu (alu (alu (alu (alu (alu (alu (alu (alu (alu (alu (alu (alu (alu (alu (alu (alu (alu (alu al 104) 105) 106) 107) 108) 109) 111) 112) 113) 115) 116) 117) 118) 119) 120) 121) 122) 123) 124) 131) 138) 139) 141) 142) 143) 144) 145) 150) 106 = true := alu_old a_106_231
  have a_107_441 : (alu (alu (alu (alu (alu (alu (alu (alu (alu (alu (alu (alu (alu (alu (alu (alu (alu (alu (alu (alu (alu (alu (alu (alu (alu (alu (alu (alu al 104) 105) 106) 107) 108) 109) 111) 112) 113) 115) 116) 117) 118) 119) 120) 121) 122) 123) 124) 131) 138) 139) 141) 142) 143) 144) 145) 150) 107 = true := alu_old a_107_231
  have a_108_441 : (alu (alu (alu (alu (alu (alu (alu (alu (alu (alu (alu (alu (alu (alu (alu (alu (alu (alu (alu (alu (alu (alu (alu (alu (alu (alu (alu (alu al 104) 105) 106) 107) 108) 109) 111) 112) 113) 115) 116) 117) 118) 119) 120) 121) 122) 123) 124) 131) 138) 139) 141) 142) 143) 144) 145) 150) 108 = true := alu_old a_108_231
  have a_109_441 : (alu (alu (alu (alu (alu (alu (alu (alu (alu (alu (alu (alu (alu (alu (alu (alu (alu (alu (alu (alu (alu (alu (alu (alu (alu (alu (alu (alu al 104) 105) 106) 107) 108) 109) 111) 112) 113) 115) 116) 117) 118) 119) 120) 121) 122) 123) 124) 131) 138) 139) 141) 142) 143) 144) 145) 150) 109 = true := alu_old a_109_231
  have a_111_441 : (alu (alu (alu (alu (alu (alu (alu (alu (alu (alu (alu (alu (alu (alu (alu (alu (alu (alu (alu (alu (alu (alu (alu (alu (alu (alu (alu (alu al 104) 105) 106) 107) 108) 109) 111) 112) 113) 115) 116) 117) 118) 119) 120) 121) 122) 123) 124) 131) 138) 139) 141) 142) 143) 144) 145) 150) 111 = true := alu_old a_111_231
  have a_112_441 : (alu (alu (alu (alu (alu (alu (alu (alu (alu (alu (alu (alu (alu (alu (alu (alu (alu (alu (alu (alu (alu (alu (alu (alu (alu (alu (alu (alu al 104) 105) 106) 107) 108) 109) 111) 112) 113) 115) 116) 117) 118) 119) 120) 121) 122) 123) 124) 131) 138) 139) 141) 142) 143) 144) 145) 150) 112 = true := alu_old a_112_231
  have a_113_441 : (alu (alu (alu (alu (alu (alu (alu (alu (alu (alu (alu (alu (alu (alu (alu (alu (alu (alu (alu (alu (alu (alu (alu (alu (alu (alu (alu (alu al 104) 105) 106) 107) 108) 109) 111) 112) 113) 115) 116) 117) 118) 119) 120) 121) 122) 123) 124) 131) 138) 139) 141) 142) 143) 144) 145) 150) 113 = true := alu_old a_113_231
  have a_115_441 : (alu (alu (alu (alu (alu (alu (alu (alu (alu (alu (alu (alu (alu (alu (alu (alu (alu (alu (alu (alu (alu (alu (alu (alu (alu (alu (alu (alu al 104) 105) 106) 107) 108) 109) 111) 112) 113) 115) 116) 117) 118) 119) 120) 121) 122) 123) 124) 131) 138) 139) 141) 142) 143) 144) 145) 150) 115 = true := alu_old a_115_231
  have a_116_441 : (alu (alu (alu (alu (alu (alu (alu (alu (alu (alu (alu (alu (alu (alu (alu (alu (alu (alu (alu (alu (alu (alu (alu (alu (alu (alu (alu (alu al 104) 105) 106) 107) 108) 109) 111) 112) 113) 115) 116) 117) 118) 119) 120) 121) 122) 123) 124) 131) 138) 139) 141) 142) 143) 144) 145) 150) 116 = true := alu_old a_116_231
  have a_117_441 : (alu (alu (alu (alu (alu (alu (alu (alu (alu (alu (alu (alu (alu (alu (alu (alu (alu (alu (alu (alu (alu (alu (alu (alu (alu (alu (alu (alu al 104) 105) 106) 107) 108) 109) 111) 112) 113) 115) 116) 117) 118) 119) 120) 121) 122) 123) 124) 131) 138) 139) 141) 142) 143) 144) 145) 150) 117 = true := alu_old a_117_231
  have a_118_441 : (alu (alu (alu (alu (alu (alu (alu (alu (alu (alu (alu (alu (alu (alu (alu (alu (alu (alu (alu (alu (alu (alu (alu (alu (alu (alu (alu (alu al 104) 105) 106) 107) 108) 109) 111) 112) 113) 115) 116) 117) 118) 119) 120) 121) 122) 123) 124) 131) 138) 139) 141) 142) 143) 144) 145) 150) 118 = true := alu_old a_118_231
  have a_119_441 : (alu (alu (alu (alu (alu (alu (alu (alu (alu (alu (alu (alu (alu (alu (alu (alu (alu (alu (alu (alu (alu (alu (alu (alu (alu (alu (alu (alu al 104) 105) 106) 107) 108) 109) 111) 112) 113) 115) 116) 117) 118) 119) 120) 121) 122) 123) 124) 131) 138) 139) 141) 142) 143) 144) 145) 150) 119 = true := alu_old a_119_231
  have a_120_441 : (alu (alu (alu (alu (alu (alu (alu (alu (alu (alu (alu (alu (alu (alu (alu (alu (alu (alu (alu (alu (alu (alu (alu (alu (alu (alu (alu (alu al 104) 105) 106) 107) 108) 109) 111) 112) 113) 115) 116) 117) 118) 119) 120) 121) 122) 123) 124) 131) 138) 139) 141) 142) 143) 144) 145) 150) 120 = true := alu_old a_120_231
  have a_121_441 : (alu (alu (alu (alu (alu (alu (alu (alu (alu (alu (alu (alu (alu (alu (alu (alu (alu (alu (alu (alu (alu (alu (alu (alu (alu (alu (alu (alu al 104) 105) 106) 107) 108) 109) 111) 112) 113) 115) 116) 117) 118) 119) 120) 121) 122) 123) 124) 131) 138) 139) 141) 142) 143) 144) 145) 150) 121 = true := alu_old a_121_231
  have a_122_441 : (alu (alu (alu (alu (alu (alu (alu (alu (alu (alu (alu (alu (alu (alu (alu (alu (alu (alu (alu (alu (alu (alu (alu (alu (alu (alu (alu (alu al 104) 105) 106) 107) 108) 109) 111) 112) 113) 115) 116) 117) 118) 119) 120) 121) 122) 123) 124) 131) 138) 139) 141) 142) 143) 144) 145) 150) 122 = true := alu_old a_122_231
  have a_123_441 : (alu (alu (alu (alu (alu (alu (alu (alu (alu (alu (alu (alu (alu (alu (alu (alu (alu (alu (alu (alu (alu (alu (alu (alu (alu (alu (alu (alu al 104) 105) 106) 107) 108) 109) 111) 112) 113) 115) 116) 117) 118) 119) 120) 121) 122) 123) 124) 131) 138) 139) 141) 142) 143) 144) 145) 150) 123 = true := alu_old a_123_231
  have a_124_441 : (alu (alu (alu (alu (alu (alu (alu (alu (alu (alu (alu (alu (alu (alu (alu (alu (alu (alu (alu (alu (alu (alu (alu (alu (alu (alu (alu (alu al 104) 105) 106) 107) 108) 109) 111) 112) 113) 115) 116) 117) 118) 119) 120) 121) 122) 123) 124) 131) 138) 139) 141) 142) 143) 144) 145) 150) 124 = true := alu_old a_124_231
  have a_131_441 : (alu (alu (alu (alu (alu (alu (alu (alu (alu (alu (alu (alu (alu (alu (alu (alu (alu (alu (alu (alu (alu (alu (alu (alu (alu (alu (alu (alu al 104) 105) 106) 107) 108) 109) 111) 112) 113) 115) 116) 117) 118) 119) 120) 121) 122) 123) 124) 131) 138) 139) 141) 142) 143) 144) 145) 150) 131 = true := alu_old a_131_231
  have a_138_441 : (alu (alu (alu (alu (alu (alu (alu (alu (alu (alu (alu (alu (alu (alu (alu (alu (alu (alu (alu (alu (alu (alu (alu (alu (alu (alu (alu (alu al 104) 105) 106) 107) 108) 109) 111) 112) 113) 115) 116) 117) 118) 119) 120) 121) 122) 123) 124) 131) 138) 139) 141) 142) 143) 144) 145) 150) 138 = true := alu_old a_138_231
  have a_139_441 : (alu (alu (alu (alu (alu (alu (alu (alu (alu (alu (alu (alu (alu (alu (alu (alu (alu (alu (alu (alu (alu (alu (alu (alu (alu (alu (alu (alu al 104) 105) 106) 107) 108) 109) 111) 112) 113) 115) 116) 117) 118) 119) 120) 121) 122) 123) 124) 131) 138) 139) 141) 142) 143) 144) 145) 150) 139 = true := alu_old a_139_231
  have a_141_441 : (alu (alu (alu (alu (alu (alu (alu (alu (alu (alu (alu (alu (alu (alu (alu (alu (alu (alu (alu (alu (alu (alu (alu (alu (alu (alu (alu (alu al 104) 105) 106) 107) 108) 109) 111) 112) 113) 115) 116) 117) 118) 119) 120) 121) 122) 123) 124) 131) 138) 139) 141) 142) 143) 144) 145) 150) 141 = true := alu_old a_141_231
  have a_142_441 : (alu (alu (alu (alu (alu (alu (alu (alu (alu (alu (alu (alu (alu (alu (alu (alu (alu (alu (alu (alu (alu (alu (alu (alu (alu (alu (alu (alu al 104) 105) 106) 107) 108) 109) 111) 112) 113) 115) 116) 117) 118) 119) 120) 121) 122) 123) 124) 131) 138) 139) 141) 142) 143) 144) 145) 150) 142 = true := alu_old a_142_231
  have a_143_441 : (alu (alu (alu (alu (alu (alu (alu (alu (alu (alu (alu (alu (alu (alu (alu (alu (alu (alu (alu (alu (alu (alu (alu (alu (alu (alu (alu (alu al 104) 105) 106) 107) 108) 109) 111) 112) 113) 115) 116) 117) 118) 119) 120) 121) 122) 123) 124) 131) 138) 139) 141) 142) 143) 144) 145) 150) 143 = true := alu_old a_143_231
  have a_144_441 : (alu (alu (alu (alu (alu (alu (alu (alu (alu (alu (alu (alu (alu (alu (alu (alu (alu (alu (alu (alu (alu (alu (alu (alu (alu (alu (alu (alu al 104) 105) 106) 107) 108) 109) 111) 112) 113) 115) 116) 117) 118) 119) 120) 121) 122) 123) 124) 131) 138) 139) 141) 142) 143) 144) 145) 150) 144 = true := alu_old a_144_231
  have a_145_441 : (alu (alu (alu (alu (alu (alu (alu (alu (alu (alu (alu (alu (alu (alu (alu (alu (alu (alu (alu (alu (alu (alu (alu (alu (alu (alu (alu (alu al 104) 105) 106) 107) 108) 109) 111) 112) 113) 115) 116) 117) 118) 119) 120) 121) 122) 123) 124) 131) 138) 139) 141) 142) 143) 144) 145) 150) 145 = true := alu_old a_145_231
  have a_150_441 : (alu (alu (alu (alu (alu (alu (alu (alu (alu (alu (alu (alu (alu (alu (alu (alu (alu (alu (alu (alu (alu (alu (alu (alu (alu (alu (alu (alu al 104) 105) 106) 107) 108) 109) 111) 112) 113) 115) 116) 117) 118) 119) 120) 121) 122) 123) 124) 131) 138) 139) 141) 142) 143) 144) 145) 150) 150 = true := alu_new
  have k_150_441 : kd 150 = 10 := g_441.2.2.1
  obtain ⟨R_443, e_R_443, h⟩ := lt_some h
  refine r_putq C fr_X8_103 (Or.inr ⟨rfl, hmn, ⟨_, rfl, rfl⟩⟩) hW a_100_441 rfl rfl a_150_441 k_150_441 rfl rfl dX8_init_443 (fun H locs hW => ?_)
  rw [← e_R_443] at hW
  refine lv_aload_n hx hb dX8_init_446 rfl (lv_at hl 0 rfl) ?_
  refine lv_bipush (v := 6) hx hb dX8_init_447 (by decide) ?_
  obtain ⟨g_449, h⟩ := gd_some h
  obtain ⟨I_449, e_I_449, h⟩ := lt_some h
  obtain ⟨R_449, e_R_449, h⟩ := lt_some h
  refine r_newa (at_ := .int) C gm_41 (Or.inr (Or.inl ⟨rfl, rfl⟩)) hW g_449.1 g_449.2.1 g_449.2.2.1 (by decide) g_449.2.2.2 (by rw [← g_449.2.2.2]; decide) (by decide) (by rw [← g_449.2.2.2]; decide) dX8_init_449 (fun H hW => ?_)
  rw [← g_449.2.2.2]
  rw [← e_I_449, ← e_R_449] at hW
  refine W.widen (k := 29) (n := 964) (by decide) (by decide) ?_
  have a_100_449 : (alu (alu (alu (alu (alu (alu (alu (alu (alu (alu (alu (alu (alu (alu (alu (alu (alu (alu (alu (alu (alu (alu (alu (alu (alu (alu (alu (alu (alu al 104) 105) 106) 107) 108) 109) 111) 112) 113) 115) 116) 117) 118) 119) 120) 121) 122) 123) 124) 131) 138) 139) 141) 142) 143) 144) 145) 150) 151) 100 = true := alu_old a_100_441
  have a_104_449 : (alu (alu (alu (alu (alu (alu (alu (alu (alu (alu (alu (alu (alu (alu (alu (alu (alu (alu (alu (alu (alu (alu (alu (alu (alu (alu (alu (alu (alu al 104) 105) 106) 107) 108) 109) 111) 112) 113) 115) 116) 117) 118) 119) 120) 121) 122) 123) 124) 131) 138) 139) 141) 142) 143) 144) 145) 150) 151) 104 = true := alu_old a_104_441
  have a_105_449 : (alu (alu (alu (alu (alu (alu (alu (alu (alu (alu (alu (alu (alu (alu (alu (alu (alu (alu (alu (alu (alu (alu (alu (alu (alu (alu (alu (alu (alu al 104) 105) 106) 107) 108) 109) 111) 112) 113) 115) 116) 117) 118) 119) 120) 121) 122) 123) 124) 131) 138) 139) 141) 142) 143) 144) 145) 150) 151) 105 = true := alu_old a_105_441
  have a_106_449 : (alu (alu (alu (alu (alu (alu (alu (alu (alu (alu (alu (alu (alu (alu (alu (alu (alu (alu (alu (alu (alu (alu (alu (alu (alu (alu (alu (alu (alu al 104) 105) 106) 107) 108) 109) 111) 112) 113) 115) 116) 117) 118) 119) 120) 121) 122) 123) 124) 131) 138) 139) 141) 142) 143) 144) 145) 150) 151) 106 = true := alu_old a_106_441
  have a_107_449 : (alu (alu (alu (alu (alu (alu (alu (alu (alu (alu (alu (alu (alu (alu (alu (alu (alu (alu (alu (alu (alu (alu (alu (alu (alu (alu (alu (alu (alu al 104) 105) 106) 107) 108) 109) 111) 112) 113) 115) 116) 117) 118) 119) 120) 121) 122) 123) 124) 131) 138) 139) 141) 142) 143) 144) 145) 150) 151) 107 = true := alu_old a_107_441
  have a_108_449 : (alu (alu (alu (alu (alu (alu (alu (alu (alu (alu (alu (alu (alu (alu (alu (alu (alu (alu (alu (alu (alu (alu (alu (alu (alu (alu (alu (alu (alu al 104) 105) 106) 107) 108) 109) 111) 112) 113) 115) 116) 117) 118) 119) 120) 121) 122) 123) 124) 131) 138) 139) 141) 142) 143) 144) 145) 150) 151) 108 = true := alu_old a_108_441
  have a_109_449 : (alu (alu (alu (alu (alu (alu (alu (alu (alu (alu (alu (alu (alu (alu (alu (alu (alu (alu (alu (alu (alu (alu (alu (alu (alu (alu (alu (alu (alu al 104) 105) 106) 107) 108) 109) 111) 112) 113) 115) 116) 117) 118) 119) 120) 121) 122) 123) 124) 131) 138) 139) 141) 142) 143) 144) 145) 150) 151) 109 = true := alu_old a_109_441
  have a_111_449 : (alu (alu (alu (alu (alu (alu (alu (alu (alu (alu (alu (alu (alu (alu (alu (alu (alu (alu (alu (alu (alu (alu (alu (alu (alu (alu (alu (alu (alu al 104) 105) 106) 107) 108) 109) 111) 112) 113) 115) 116) 117) 118) 119) 120) 121) 122) 123) 124) 131) 138) 139) 141) 142) 143) 144) 145) 150) 151) 111 = true := alu_old a_111_441
  have a_112_449 : (alu (alu (alu (alu (alu (alu (alu (alu (alu (alu (alu (alu (alu (alu (alu (alu (alu (alu (alu (alu (alu (alu (alu (alu (alu (alu (alu (alu (alu al 104) 105) 106) 107) 108) 109) 111) 112) 113) 115) 116) 117) 118) 119) 120) 121) 122) 123) 124) 131) 138) 139) 141) 142) 143) 144) 145) 150) 151) 112 = true := alu_old a_112_441
  have a_113_449 : (alu (alu (alu (alu (alu (alu (alu (alu (alu (alu (alu (alu (alu (alu (alu (alu (alu (alu (alu (alu (alu (alu (alu (alu (alu (alu (alu (alu (alu al 104) 105) 106) 107) 108) 109) 111) 112) 113) 115) 116) 117) 118) 119) 120) 121) 122) 123) 124) 131) 138) 139) 141) 142) 143) 144) 145) 150) 151) 113 = true := alu_old a_113_441
  have a_115_449 : (alu (alu (alu (alu (alu (alu (alu (alu (alu (alu (alu (alu (alu (alu (alu (alu (alu (alu (alu (alu (alu (alu (alu (alu (alu (alu (alu (alu (alu al 104) 105) 106) 107) 108) 109) 111) 112) 113) 115) 116) 117) 118) 119) 120) 121) 122) 123) 124) 131) 138) 139) 141) 142) 143) 144) 145) 150) 151) 115 = true := alu_old a_115_441
  have a_116_449 : (alu (alu (alu (alu (alu (alu (alu (alu (alu (alu (alu (alu (alu (alu (alu (alu (alu (alu (alu (alu (alu (alu (alu (alu (alu (alu (alu (alu (alu al 104) 105) 106) 107) 108) 109) 111) 112) 113) 115) 116) 117) 118) 119) 120) 121) 122) 123) 124) 131) 138) 139) 141) 142) 143) 144) 145) 150) 151) 116 = true := alu_old a_116_441
  have a_117_449 : (alu (alu (alu (alu (alu (alu (alu (alu (alu (alu (alu (alu (alu (alu (alu (alu (alu (alu (alu (alu (alu (alu (alu (alu (alu (alu (alu (alu (alu al 104) 105) 106) 107) 108) 109) 111) 112) 113) 115) 116) 117) 118) 119) 120) 121) 122) 123) 124) 131) 138) 139) 141) 142) 143) 144) 145) 150) 151) 117 = true := alu_old a_117_441
  have a_118_449 : (alu (alu (alu (alu (alu (alu (alu (alu (alu (alu (alu (alu (alu (alu (alu (alu (alu (alu (alu (alu (alu (alu (alu (alu (alu (alu (alu (alu (alu al 104) 105) 106) 107) 108) 109) 111) 112) 113) 115) 116) 117) 118) 119) 120) 121) 122) 123) 124) 131) 138) 139) 141) 142) 143) 144) 145) 150) 151) 118 = true := alu_old a_118_441
  have a_119_449 : (alu (alu (alu (alu (alu (alu (alu (alu (alu (alu (alu (alu (alu (alu (alu (alu (alu (alu (alu (alu (alu (alu (alu (alu (alu (alu (alu (alu (alu al 104) 105) 106) 107) 108) 109) 111) 112) 113) 115) 116) 117) 118) 119) 120) 121) 122) 123) 124) 131) 138) 139) 141) 142) 143) 144) 145) 150) 151) 119 = true := alu_old a_119_441
  have a_120_449 : (alu (alu (alu (alu (alu (alu (alu (alu (alu (alu (alu (alu (alu (alu (alu (alu (alu (alu (alu (alu (alu (alu (alu (alu (alu (alu (alu (alu (alu al 104) 105) 106) 107) 108) 109) 111) 112) 113) 115) 116) 117) 118) 119) 120) 121) 122) 123) 124) 131) 138) 139) 141) 142) 143) 144) 145) 150) 151) 120 = true := alu_old a_120_441
  have a_121_449 : (alu (alu (alu (alu (alu (alu (alu (alu (alu (alu (alu (alu (alu (alu (alu (alu (alu (alu (alu (alu (alu (alu (alu (alu (alu (alu (alu (alu (alu al 104) 105) 106) 107) 108) 109) 111) 112) 113) 115) 116) 117) 118) 119) 120) 121) 122) 123) 124) 131) 138) 139) 141) 142) 143) 144) 145) 150) 151) 121 = true := alu_old a_121_441
  have a_122_449 : (alu (alu (alu (alu (alu (alu (alu (alu (alu (alu (alu (alu (alu (alu (alu (alu (alu (alu (alu (alu (alu (alu (alu (alu (alu (alu (alu (alu (alu al 104) 105) 106) 107) 108) 109) 111) 112) 113) 115) 116) 117) 118) 119) 120) 121) 122) 123) 124) 131) 138) 139) 141) 142) 143) 144) 145) 150) 151) 122 = true := alu_old a_122_441
  have a_123_449 : (alu (alu (alu (alu (alu (alu (alu (alu (alu (alu (alu (alu (alu (alu (alu (alu (alu (alu (alu (alu (alu (alu (alu (alu (alu (alu (alu (alu (alu al 104) 105) 106) 107) 108) 109) 111) 112) 113) 115) 116) 117) 118) 119) 120) 121) 122) 123) 124) 131) 138) 139) 141) 142) 143) 144) 145) 150) 151) 123 = true := alu_old a_123_441
  have a_124_449 : (alu (alu (alu (alu (alu (alu (alu (alu (alu (alu (alu (alu (alu (alu (alu (alu (alu (alu (alu (alu (alu (alu (alu (alu (alu (alu (alu (alu (alu al 104) 105) 106) 107) 108) 109) 111) 112) 113) 115) 116) 117) 118) 119) 120) 121) 122) 123) 124) 131) 138) 139) 141) 142) 143) 144) 145) 150) 151) 124 = true := alu_old a_124_441
  have a_131_449 : (alu (alu (alu (alu (alu (alu (alu (alu (alu (alu (alu (alu (alu (alu (alu (alu (alu (alu (alu (alu (alu (alu (alu (alu (alu (alu (alu (alu (alu al 104) 105) 106) 107) 108) 109) 111) 112) 113) 115) 116) 117) 118) 119) 120) 121) 122) 123) 124) 131) 138) 139) 141) 142) 143) 144) 145) 150) 151) 131 = true := alu_old a_131_441
  have a_138_449 : (alu (alu (alu (alu (alu (alu (alu (alu (alu (alu (alu (alu (alu (alu (alu (alu (alu (alu (alu (alu (alu (alu (alu (alu (alu (alu (alu (alu (alu al 104) 105) 106) 107) 108) 109) 111) 112) 113) 115) 116) 117) 118) 119) 120) 121) 122) 123) 124) 131) 138) 139) 141) 142) 143) 144) 145) 150) 151) 138 = true := alu_old a_138_441
  have a_139_449 : (alu (alu (alu (alu (alu (alu (alu (alu (alu (alu (alu (alu (alu (alu (alu (alu (alu (alu (alu (alu (alu (alu (alu (alu (alu (alu (alu (alu (alu al 104) 105) 106) 107) 108) 109) 111) 112) 113) 115) 116) 117) 118) 119) 120) 121) 122) 123) 124) 131) 138) 139) 141) 142) 143) 144) 145) 150) 151) 139 = true := alu_old a_139_441
  have a_141_449 : (alu (alu (alu (alu (alu (alu (alu (alu (alu (alu (alu (alu (alu (alu (alu (alu (alu (alu (alu (alu (alu (alu (alu (alu (alu (alu (alu (alu (alu al 104) 105) 106) 107) 108) 109) 111) 112) 113) 115) 116) 117) 118) 119) 120) 121) 122) 123) 124) 131) 138) 139) 141) 142) 143) 144) 145) 150) 151) 141 = true := alu_old a_141_441
  have a_142_449 : (alu (alu (alu (alu (alu (alu (alu (alu (alu (alu (alu (alu (alu (alu (alu (alu (alu (alu (alu (alu (alu (alu (alu (alu (alu (alu (alu (alu (alu al 104) 105) 106) 107) 108) 109) 111) 112) 113) 115) 116) 117) 118) 119) 120) 121) 122) 123) 124) 131) 138) 139) 141) 142) 143) 144) 145) 150) 151) 142 = true := alu_old a_142_441
  have a_143_449 : (alu (alu (alu (alu (alu (alu (alu (alu (alu (alu (alu (alu (alu (alu (alu (alu (alu (alu (alu (alu (alu (alu (alu (alu (alu (alu (alu (alu (alu al 104) 105) 106) 107) 108) 109) 111) 112) 113) 115) 116) 117) 118) 119) 120) 121) 122) 123) 124) 131) 138) 139) 141) 142) 143) 144) 145) 150) 151) 143 = true := alu_old a_143_441
  have a_144_449 : (alu (alu (alu (alu (alu (alu (alu (alu (alu (alu (alu (alu (alu (alu (alu (alu (alu (alu (alu (alu (alu (alu (alu (alu (alu (alu (alu (alu (alu al 104) 105) 106) 107) 108) 109) 111) 112) 113) 115) 116) 117) 118) 119) 120) 121) 122) 123) 124) 131) 138) 139) 141) 142) 143) 144) 145) 150) 151) 144 = true := alu_old a_144_441
  have a_145_449 : (alu (alu (alu (alu (alu (alu (alu (alu (alu (alu (alu (alu (alu (alu (alu (alu (alu (alu (alu (alu (alu (alu (alu (alu (alu (alu (alu (alu (alu al 104) 105) 106) 107) 108) 109) 111) 112) 113) 115) 116) 117) 118) 119) 120) 121) 122) 123) 124) 131) 138) 139) 141) 142) 143) 144) 145) 150) 151) 145 = true := alu_old a_145_441
  have a_150_449 : (alu (alu (alu (alu (alu (alu (alu (alu (alu (alu (alu (alu (alu (alu (alu (alu (alu (alu (alu (alu (alu (alu (alu (alu (alu (alu (alu (alu (alu al 104) 105) 106) 107) 108) 109) 111) 112) 113) 115) 116) 117) 118) 119) 120) 121) 122) 123) 124) 131) 138) 139) 141) 142) 143) 144) 145) 150) 151) 150 = true := alu_old a_150_441
  have a_151_449 : (alu (alu (alu (alu (alu (alu (alu (alu (alu (alu (alu (alu (alu (alu (alu (alu (alu (alu (alu (alu (alu (alu (alu (alu (alu (alu (alu (alu (alu al 104) 105) 106) 107) 108) 109) 111) 112) 113) 115) 116) 117) 118) 119) 120) 121) 122) 123) 124) 131) 138) 139) 141) 142) 143) 144) 145) 150) 151) 151 = true := alu_new
  have k_151_449 : kd 151 = 10 := g_449.2.2.1
  obtain ⟨R_451, e_R_451, h⟩ := lt_some h
  refine r_putq C fr_X8_106 (Or.inr ⟨rfl, hmn, ⟨_, rfl, rfl⟩⟩) hW a_100_449 rfl rfl a_151_449 k_151_449 rfl rfl dX8_init_451 (fun H locs hW => ?_)
  rw [← e_R_451] at hW
  refine lv_aload_n hx hb dX8_init_454 rfl (lv_at hl 0 rfl) ?_
  refine lv_iconst (v := 4) hx hb dX8_init_455 (by decide) ?_
  obtain ⟨g_456, h⟩ := gd_some h
  obtain ⟨I_456, e_I_456, h⟩ := lt_some h
  obtain ⟨R_456, e_R_456, h⟩ := lt_some h
  refine r_newa (at_ := .int) C gm_41 (Or.inr (Or.inl ⟨rfl, rfl⟩)) hW g_456.1 g_456.2.1 g_456.2.2.1 (by decide) g_456.2.2.2 (by rw [← g_456.2.2.2]; decide) (by decide) (by rw [← g_456.2.2.2]; decide) dX8_init_456 (fun H hW => ?_)
  rw [← g_456.2.2.2]
  rw [← e_I_456, ← e_R_456] at hW
  refine W.widen (k := 30) (n := 968) (by decide) (by decide) ?_
  have a_100_456 : (alu (alu (alu (alu (alu (alu (alu (alu (alu (alu (alu (alu (alu (alu (alu (alu (alu (alu (alu (alu (alu (alu (alu (alu (alu (alu (alu (alu (alu (alu al 104) 105) 106) 107) 108) 109) 111) 112) 113) 115) 116) 117) 118) 119) 120) 121) 122) 123) 124) 131) 138) 139) 141) 142) 143) 144) 145) 150) 151) 152) 100 = true := alu_old a_100_449
  have a_104_456 : (alu (alu (alu (alu (alu (alu (alu (alu (alu (alu (alu (alu (alu (alu (alu (alu (alu (alu (alu (alu (alu (alu (alu (alu (alu (alu (alu (alu (alu (alu al 104) 105) 106) 107) 108) 109) 111) 112) 113) 115) 116) 117) 118) 119) 120) 121) 122) 123) 124) 131) 138) 139) 141) 142) 143) 144) 145) 150) 151) 152) 104 = true := alu_old a_104_449
  have a_105_456 : (alu (alu (alu (alu (alu (alu (alu (alu (alu (alu (alu (alu (alu (alu (alu (alu (alu (alu (alu (alu (alu (alu (alu (alu (alu (alu (alu (alu (alu (alu al 104) 105) 106) 107) 108) 109) 111) 112) 113) 115) 116) 117) 118) 119) 120) 121) 122) 123) 124) 131) 138) 139) 141) 142) 143) 144) 145) 150) 151) 152) 105 = true := alu_old a_105_449
  have a_106_456 : (alu (alu (alu (alu (alu (alu (alu (alu (alu (alu (alu (alu (alu (alu (alu (alu (alu (alu (alu (alu (alu (alu (alu (alu (alu (alu (alu (alu (alu (alu al 104) 105) 106) 107) 108) 109) 111) 112) 113) 115) 116) 117) 118) 119) 120) 121) 122) 123) 124) 131) 138) 139) 141) 142) 143) 144) 145) 150) 151) 152) 106 = true := alu_old a_106_449
  have a_107_456 : (alu (alu (alu (alu (alu (alu (alu (alu (alu (alu (alu (alu (alu (alu (alu (alu (alu (alu (alu (alu (alu (alu (alu (alu (alu (alu (alu (alu (alu (alu al 104) 105) 106) 107) 108) 109) 111) 112) 113) 115) 116) 117) 118) 119) 120) 121) 122) 123) 124) 131) 138) 139) 141) 142) 143) 144) 145) 150) 151) 152) 107 = true := alu_old a_107_449
  have a_108_456 : (alu (alu (alu (alu (alu (alu (alu (alu (alu (alu (alu (alu (alu (alu (alu (alu (alu (alu (alu (alu (alu (alu (alu (alu (alu (alu (alu (alu (alu (alu al 104) 105) 106) 107) 108) 109) 111) 112) 113) 115) 116) 117) 118) 119) 120) 121) 122) 123) 124) 131) 138) 139) 141) 142) 143) 144) 145) 150) 151) 152) 108 = true := alu_old a_108_449
  have a_109_456 : (alu (alu (alu (alu (alu (alu (alu (alu (alu (alu (alu (alu (alu (alu (alu (alu (alu (alu (alu (alu (alu (alu (alu (alu (alu (alu (alu (alu (alu (alu al 104) 105) 106) 107) 108) 109) 111) 112) 113) 115) 116) 117) 118) 119) 120) 121) 122) 123) 124) 131) 138) 139) 141) 142) 143) 144) 145) 150) 151) 152) 109 = true := alu_old a_109_449
  have a_111_456 : (alu (alu (alu (alu (alu (alu (alu (alu (alu (alu (alu (alu (alu (alu (alu (alu (alu (alu (alu (alu (alu (alu (alu (alu (alu (alu (alu (alu (alu (alu al 104) 105) 106) 107) 108) 109) 111) 112) 113) 115) 116) 117) 118) 119) 120) 121) 122) 123) 124) 131) 138) 139) 141) 142) 143) 144) 145) 150) 151) 152) 111 = true := alu_old a_111_449
  have a_112_456 : (alu (alu (alu (alu (alu (alu (alu (alu (alu (alu (alu (alu (alu (alu (alu (alu (alu (alu (alu (alu (alu (alu (alu (alu (alu (alu (alu (alu (alu (alu al 104) 105) 106) 107) 108) 109) 111) 112) 113) 115) 116) 117) 118) 119) 120) 121) 122) 123) 124) 131) 138) 139) 141) 142) 143) 144) 145) 150) 151) 152) 112 = true := alu_old a_112_449
  have a_113_456 : (alu (alu (alu (alu (alu (alu (alu (alu (alu (alu (alu (alu (alu (alu (alu (alu (alu (alu (alu (alu (alu (alu (alu (alu (alu (alu (alu (alu (alu (alu al 104) 105) 106) 107) 108) 109) 111) 112) 113) 115) 116) 117) 118) 119) 120) 121) 122) 123) 124) 131) 138) 139) 141) 142) 143) 144) 145) 150) 151) 152) 113 = true := alu_old a_113_449
  have a_115_456 : (alu (alu (alu (alu (alu (alu (alu (alu (alu (alu (alu (alu (alu (alu (alu (alu (alu (alu (alu (alu (alu (alu (alu (alu (alu (alu (alu (alu (alu (alu al 104) 105) 106) 107) 108) 109) 111) 112) 113) 115) 116) 117) 118) 119) 120) 121) 122) 123) 124) 131) 138) 139) 141) 142) 143) 144) 145) 150) 151) 152) 115 = true := alu_old a_115_449
  have a_116_456 : (alu (alu (alu (alu (alu (alu (alu (alu (alu (alu (alu (alu (alu (alu (alu (alu (alu (alu (alu (alu (alu (alu (alu (alu (alu (alu (alu (alu (alu (alu al 104) 105) 106) 107) 108) 109) 111) 112) 113) 115) 116) 117) 118) 119) 120) 121) 122) 123) 124) 131) 138) 139) 141) 142) 143) 144) 145) 150) 151) 152) 116 = true := alu_old a_116_449
  have a_117_456 : (alu (alu (alu (alu (alu (alu (alu (alu (alu (alu (alu (alu (alu (alu (alu (alu (alu (alu (alu (alu (alu (alu (alu (alu (alu (alu (alu (alu (alu (alu al 104) 105) 106) 107) 108) 109) 111) 112) 113) 115) 116) 117) 118) 119) 120) 121) 122) 123) 124) 131) 138) 139) 141) 142) 143) 144) 145) 150) 151) 152) 117 = true := alu_old a_117_449
  have a_118_456 : (alu (alu (alu (alu (alu (alu (alu (alu (alu (alu (alu (alu (alu (alu (alu (alu (alu (alu (alu (alu (alu (alu (alu (alu (alu (alu (alu (alu (alu (alu al 104) 105) 106) 107) 108) 109) 111) 112) 113) 115) 116) 117) 118) 119) 120) 121) 122) 123) 124) 131) 138) 139) 141) 142) 143) 144) 145) 150) 151) 152) 118 = true := alu_old a_118_449
  have a_119_456 : (alu (alu (alu (alu (alu (alu (alu (alu (alu (alu (alu (alu (alu (alu (alu (alu (alu (alu (alu (alu (alu (alu (alu (alu (alu (alu (alu (alu (alu (alu al 104) 105) 106) 107) 108) 109) 111) 112) 113) 115) 116) 117) 118) 119) 120) 121) 122) 123) 124) 131) 138) 139) 141) 142) 143) 144) 145) 150) 151) 152) 119 = true := alu_old a_119_449
  have a_120_456 : (alu (alu (alu (alu (alu (alu (alu (alu (alu (alu (alu (alu (alu (alu (alu (alu (alu (alu (alu (alu (alu (alu (alu (alu (alu (alu (alu (alu (alu (alu al 104) 105) 106) 107) 108) 109) 111) 112) 113) 115) 116) 117) 118) 119) 120) 121) 122) 123) 124) 131) 138) 139) 141) 142) 143) 144) 145) 150) 151) 152) 120 = true := alu_old a_120_449
  have a_121_456 : (alu (alu (alu (alu (alu (alu (alu (alu (alu (alu (alu (alu (alu (alu (alu (alu (alu (alu (alu (alu (alu (alu (alu (alu (alu (alu (alu (alu (alu (alu al 104) 105) 106) 107) 108) 109) 111) 112) 113) 115) 116) 117) 118) 119) 120) 121) 122) 123) 124) 131) 138) 139) 141) 142) 143) 144) 145) 150) 151) 152) 121 = true := alu_old a_121_449
  have a_122_456 : (alu (alu (alu (alu (alu (alu (alu (alu (alu (alu (alu (alu (alu (alu (alu (alu (alu (alu (alu (alu (alu (alu (alu (alu (alu (alu (alu (alu (alu (alu al 104) 105) 106) 107) 108) 109) 111) 112) 113) 115) 116) 117) 118) 119) 120) 121) 122) 123) 124) 131) 138) 139) 141) 142) 143) 144) 145) 150) 151) 152) 122 = true := alu_old a_122_449
  have a_123_456 : (alu (alu (alu (alu (alu (alu (alu (alu (alu (alu (alu (alu (alu (alu (alu (alu (alu (alu (alu (alu (alu (alu (alu (alu (alu (alu (alu (alu (alu (alu al 104) 105) 106) 107) 108) 109) 111) 112) 113) 115) 116) 117) 118) 119) 120) 121) 122) 123) 124) 131) 138) 139) 141) 142) 143) 144) 145) 150) 151) 152) 123 = true := alu_old a_123_449
  have a_124_456 : (alu (alu (alu (alu (alu (alu (alu (alu (alu (alu (alu (alu (alu (alu (alu (alu (alu (alu (alu (alu (alu (alu (alu (alu (alu (alu (alu (alu (alu (alu al 104) 105) 106) 107) 108) 109) 111) 112) 113) 115) 116) 117) 118) 119) 120) 121) 122) 123) 124) 131) 138) 139) 141) 142) 143) 144) 145) 150) 151) 152) 124 = true := alu_old a_124_449
  have a_131_456 : (alu (alu (alu (alu (alu (alu (alu (alu (alu (alu (alu (alu (alu (alu (alu (alu (alu (alu (alu (alu (alu (alu (alu (alu (alu (alu (alu (alu (alu (alu al 104) 105) 106) 107) 108) 109) 111) 112) 113) 115) 116) 117) 118) 119) 120) 121) 122) 123) 124) 131) 138) 139) 141) 142) 143) 144) 145) 150) 151) 152) 131 = true := alu_old a_131_449
  have a_138_456 : (alu (alu (alu (alu (alu (alu (alu (alu (alu (alu (alu (alu (alu (alu (alu (alu (alu (alu (alu (alu (alu (alu (alu (alu (alu (alu (alu (alu (alu (alu al 104) 105) 106) 107) 108) 109) 111) 112) 113) 115) 116) 117) 118) 119) 120) 121) 122) 123) 124) 131) 138) 139) 141) 142) 143) 144) 145) 150) 151) 152) 138 = true := alu_old a_138_449
  have a_139_456 : (alu (alu (alu (alu (alu (alu (alu (alu (alu (alu (alu (alu (alu (alu (alu (alu (alu (alu (alu (alu (alu (alu (alu (alu (alu (alu (alu (alu (alu (alu al 104) 105) 106) 107) 108) 109) 111) 112) 113) 115) 116) 117) 118) 119) 120) 121) 122) 123) 124) 131) 138) 139) 141) 142) 143) 144) 145) 150) 151) 152) 139 = true := alu_old a_139_449
  have a_141_456 : (alu (alu (alu (alu (alu (alu (alu (alu (alu (alu (alu (alu (alu (alu (alu (alu (alu (alu (alu (alu (alu (alu (alu (alu (alu (alu (alu (alu (alu (alu al 104) 105) 106) 107) 108) 109) 111) 112) 113) 115) 116) 117) 118) 119) 120) 121) 122) 123) 124) 131) 138) 139) 141) 142) 143) 144) 145) 150) 151) 152) 141 = true := alu_old a_141_449
  have a_142_456 : (alu (alu (alu (alu (alu (alu (alu (alu (alu (alu (alu (alu (alu (alu (alu (alu (alu (alu (alu (alu (alu (alu (alu (alu (alu (alu (alu (alu (alu (alu al 104) 105) 106) 107) 108) 109) 111) 112) 113) 115) 116) 117) 118) 119) 120) 121) 122) 123) 124) 131) 138) 139) 141) 142) 143) 144) 145) 150) 151) 152) 142 = true := alu_old a_142_449
  have a_143_456 : (alu (alu (alu (alu (alu (alu (alu (alu (alu (alu (alu (alu (alu (alu (alu (alu (alu (alu (alu (alu (alu (alu (alu (alu (alu (alu (alu (alu (alu (alu al 104) 105) 106) 107) 108) 109) 111) 112) 113) 115) 116) 117) 118) 119) 120) 121) 122) 123) 124) 131) 138) 139) 141) 142) 143) 144) 145) 150) 151) 152) 143 = true := alu_old a_143_449
  have a_144_456 : (alu (alu (alu (alu (alu (alu (alu (alu (alu (alu (alu (alu (alu (alu (alu (alu (alu (alu (alu (alu (alu (alu (alu (alu (alu (alu (alu (alu (alu (alu al 104) 105) 106) 107) 108) 109) 111) 112) 113) 115) 116) 117) 118) 119) 120) 121) 122) 123) 124) 131) 138) 139) 141) 142) 143) 144) 145) 150) 151) 152) 144 = true := alu_old a_144_449
  have a_145_456 : (alu (alu (alu (alu (alu (alu (alu (alu (alu (alu (alu (alu (alu (alu (alu (alu (alu (alu (alu (alu (alu (alu (alu (alu (alu (alu (alu (alu (alu (alu al 104) 105) 106) 107) 108) 109) 111) 112) 113) 115) 116) 117) 118) 119) 120) 121) 122) 123) 124) 131) 138) 139) 141) 142) 143) 144) 145) 150) 151) 152) 145 = true := alu_old a_145_449
  have a_150_456 : (alu (alu (alu (alu (alu (alu (alu (alu (alu (alu (alu (alu (alu (alu (alu (alu (alu (alu (alu (alu (alu (alu (alu (alu (alu (alu (alu (alu (alu (alu al 104) 105) 106) 107) 108) 109) 111) 112) 113) 115) 116) 117) 118) 119) 120) 121) 122) 123) 124) 131) 138) 139) 141) 142) 143) 144) 145) 150) 151) 152) 150 = true := alu_old a_150_449
  have a_151_456 : (alu (alu (alu (alu (alu (alu (alu (alu (alu (alu (alu (alu (alu (alu (alu (alu (alu (alu (alu (alu (alu (alu (alu (alu (alu (alu (alu (alu (alu (alu al 104) 105) 106) 107) 108) 109) 111) 112) 113) 115) 116) 117) 118) 119) 120) 121) 122) 123) 124) 131) 138) 139) 141) 142) 143) 144) 145) 150) 151) 152) 151 = true := alu_old a_151_449
  have a_152_456 : (alu (alu (alu (alu (alu (alu (alu (alu (alu (alu (alu (alu (alu (alu (alu (alu (alu (alu (alu (alu (alu (alu (alu (alu (alu (alu (alu (alu (alu (alu al 104) 105) 106) 107) 108) 109) 111) 112) 113) 115) 116) 117) 118) 119) 120) 121) 122) 123) 124) 131) 138) 139) 141) 142) 143) 144) 145) 150) 151) 152) 152 = true := alu_new
  have k_152_456 : kd 152 = 10 := g_456.2.2.1
  obtain ⟨R_458, e_R_458, h⟩ := lt_some h
  refine r_putq C fr_X8_109 (Or.inr ⟨rfl, hmn, ⟨_, rfl, rfl⟩⟩) hW a_100_456 rfl rfl a_152_456 k_152_456 rfl rfl dX8_init_458 (fun H locs hW => ?_)
  rw [← e_R_458] at hW
  refine lv_aload_n hx hb dX8_init_461 rfl (lv_at hl 0 rfl) ?_
  refine lv_bipush (v := 6) hx hb dX8_init_462 (by decide) ?_
  obtain ⟨g_464, h⟩ := gd_some h
  obtain ⟨I_464, e_I_464, h⟩ := lt_some h
  obtain ⟨R_464, e_R_464, h⟩ := lt_some h
  refine r_newa (at_ := .int) C gm_41 (Or.inr (Or.inl ⟨rfl, rfl⟩)) hW g_464.1 g_464.2.1 g_464.2.2.1 (by decide) g_464.2.2.2 (by rw [← g_464.2.2.2]; decide) (by decide) (by rw [← g_464.2.2.2]; decide) dX8_init_464 (fun H hW => ?_)
  rw [← g_464.2.2.2]
  rw [← e_I_464, ← e_R_464] at hW
  refine W.widen (k := 31) (n := 974) (by decide) (by decide) ?_
  have a_100_464 : (alu (alu (alu (alu (alu (alu (alu (alu (alu (alu (alu (alu (alu (alu (alu (alu (alu (alu (alu (alu (alu (alu (alu (alu (alu (alu (alu (alu (alu (alu (alu al 104) 105) 106) 107) 108) 109) 111) 112) 113) 115) 116) 117) 118) 119) 120) 121) 122) 123) 124) 131) 138) 139) 141) 142) 143) 144) 145) 150) 151) 152) 153) 100 = true := alu_old a_100_456
  have a_104_464 : (alu (alu (alu (alu (alu (alu (alu (alu (alu (alu (alu (alu (alu (alu (alu (alu (alu (alu (alu (alu (alu (alu (alu (alu (alu (alu (alu (alu (alu (alu (alu al 104) 105) 106) 107) 108) 109) 111) 112) 113) 115) 116) 117) 118) 119) 120) 121) 122) 123) 124) 131) 138) 139) 141) 142) 143) 144) 145) 150) 151) 152) 153) 104 = true := alu_old a_104_456
  have a_105_464 : (alu (alu (alu (alu (alu (alu (alu (alu (alu (alu (alu (alu (alu (alu (alu (alu (alu (alu (alu (alu (alu (alu (alu (alu (alu (alu (alu (alu (alu (alu (alu al 104) 105) 106) 107) 108) 109) 111) 112) 113) 115) 116) 117) 118) 119) 120) 121) 122) 123) 124) 131) 138) 139) 141) 142) 143) 144) 145) 150) 151) 152) 153) 105 = true := alu_old a_105_456
  have a_106_464 : (alu (alu (alu (alu (alu (alu (alu (alu (alu (alu (alu (alu (alu (alu (alu (alu (alu (alu (alu (alu (alu (alu (alu (alu (alu (alu (alu (alu (alu (alu (alu al 104) 105) 106) 107) 108) 109) 111) 112) 113) 115) 116) 117) 118) 119) 120) 121) 122) 123) 124) 131) 138) 139) 141) 142) 143) 144) 145) 150) 151) 152) 153) 106 = true := alu_old a_106_456
  have a_107_464 : (alu (alu (alu (alu (alu (alu (alu (alu (alu (alu (alu (alu (alu (alu (alu (alu (alu (alu (alu (alu (alu (alu (alu (alu (alu (alu (alu (alu (alu (alu (alu al 104) 105) 106) 107) 108) 109) 111) 112) 113) 115) 116) 117) 118) 119) 120) 121) 122) 123) 124) 131) 138) 139) 141) 142) 143) 144) 145) 150) 151) 152) 153) 107 = true := alu_old a_107_456
  have a_108_464 : (alu (alu (alu (alu (alu (alu (alu (alu (alu (alu (alu (alu (alu (alu (alu (alu (alu (alu (alu (alu (alu (alu (alu (alu (alu (alu (alu (alu (alu (alu (alu al 104) 105) 106) 107) 108) 109) 111) 112) 113) 115) 116) 117) 118) 119) 120) 121) 122) 123) 124) 131) 138) 139) 141) 142) 143) 144) 145) 150) 151) 152) 153) 108 = true := alu_old a_108_456
  have a_109_464 : (alu (alu (alu (alu (alu (alu (alu (alu (alu (alu (alu (alu (alu (alu (alu (alu (alu (alu (alu (alu (alu (alu (alu (alu (alu (alu (alu (alu (alu (alu (alu al 104) 105) 106) 107) 108) 109) 111) 112) 113) 115) 116) 117) 118) 119) 120) 121) 122) 123) 124) 131) 138) 139) 141) 142) 143) 144) 145) 150) 151) 152) 153) 109 = true := alu_old a_109_456
  have a_111_464 : (alu (alu (alu (alu (alu (alu (alu (alu (alu (alu (alu (alu (alu (alu (alu (alu (alu (alu (alu (alu (alu (alu (alu (alu (alu (alu (alu (alu (alu (alu (alu al 104) 105) 106) 107) 108) 109) 111) 112) 113) 115) 116) 117) 118) 119) 120) 121) 122) 123) 124) 131) 138) 139) 141) 142) 143) 144) 145) 150) 151) 152) 153) 111 = true := alu_old a_111_456
  have a_112_464 : (alu (alu (alu (alu (alu (alu (alu (alu (alu (alu (alu (alu (alu (alu (alu (alu (alu (alu (alu (alu (alu (alu (alu (alu (alu (alu (alu (alu (alu (alu (alu al 104) 105) 106) 107) 108) 109) 111) 112) 113) 115) 116) 117) 118) 119) 120) 121) 122) 123) 124) 131) 138) 139) 141) 142) 143) 144) 145) 150) 151) 152) 153) 112 = true := alu_old a_112_456
  have a_113_464 : (alu (alu (alu (alu (alu (alu (alu (alu (alu (alu (alu (alu (alu (alu (alu (alu (alu (alu (alu (alu (alu (alu (alu (alu (alu (alu (alu (alu (alu (alu (alu al 104) 105) 106) 107) 108) 109) 111) 112) 113) 115) 116) 117) 118) 119) 120) 121) 122) 123) 124) 131) 138) 139) 141) 142) 143) 144) 145) 150) 151) 152) 153) 113 = true := alu_old a_113_456
  have a_115_464 : (alu (alu (alu (alu (alu (alu (alu (alu (alu (alu (alu (alu (alu (alu (alu (alu (alu (alu (alu (alu (alu (alu (alu (alu (alu (alu (alu (alu (alu (alu (alu al 104) 105) 106) 107) 108) 109) 111) 112) 113) 115) 116) 117) 118) 119) 120) 121) 122) 123) 124) 131) 138) 139) 141) 142) 143) 144) 145) 150) 151) 152) 153) 115 = true := alu_old a_115_456
  have a_116_464 : (alu (alu (alu (alu (alu (alu (alu (alu (alu (alu (alu (alu (alu (alu (alu (alu (alu (alu (alu (alu (alu (alu (alu (alu (alu (alu (alu (alu (alu (alu (alu al 104) 105) 106) 107) 108) 109) 111) 112) 113) 115) 116) 117) 118) 119) 120) 121) 122) 123) 124) 131) 138) 139) 141) 142) 143) 144) 145) 150) 151) 152) 153) 116 = true := alu_old a_116_456
  have a_117_464 : (alu (alu (alu (alu (alu (alu (alu (alu (alu (alu (alu (alu (alu (alu (alu (alu (alu (alu (alu (alu (alu (alu (alu (alu (alu (alu (alu (alu (alu (alu (alu al 104) 105) 106) 107) 108) 109) 111) 112) 113) 115) 116) 117) 118) 119) 120) 121) 122) 123) 124) 131) 138) 139) 141) 142) 143) 144) 145) 150) 151) 152) 153) 117 = true := alu_old a_117_456
  have a_118_464 : (alu (alu (alu (alu (alu (alu (alu (alu (alu (alu (alu (alu (alu (alu (alu (alu (alu (alu (alu (alu (alu (alu (alu (alu (alu (alu (alu (alu (alu (alu (alu al 104) 105) 106) 107) 108) 109) 111) 112) 113) 115) 116) 117) 118) 119) 120) 121) 122) 123) 124) 131) 138) 139) 141) 142) 143) 144) 145) 150) 151) 152) 153) 118 = true := alu_old a_118_456
  have a_119_464 : (alu (alu (alu (alu (alu (alu (alu (alu (alu (alu (alu (alu (alu (alu (alu (alu (alu (alu (alu (alu (alu (alu (alu (alu (alu (alu (alu (alu (alu (alu (alu al 104) 105) 106) 107) 108) 109) 111) 112) 113) 115) 116) 117) 118) 119) 120) 121) 122) 123) 124) 131) 138) 139) 141) 142) 143) 144) 145) 150) 151) 152) 153) 119 = true := alu_old a_119_456
  have a_120_464 : (alu (alu (alu (alu (alu (alu (alu (alu (alu (alu (alu (alu (alu (alu (alu (alu (alu (alu (alu (alu (alu (alu (alu (alu (alu (alu (alu (alu (alu (alu (alu al 104) 105) 106) 107) 108) 109) 111) 112) 113) 115) 116) 117) 118) 119) 120) 121) 122) 123) 124) 131) 138) 139) 141) 142) 143) 144) 145) 150) 151) 152) 153) 120 = true := alu_old a_120_456
  have a_121_464 : (alu (alu (alu (alu (alu (alu (alu (alu (alu (alu (alu (alu (alu (alu (alu (alu (alu (alu (alu (alu (alu (alu (alu (alu (alu (alu (alu (alu (alu (alu (alu al 104) 105) 106) 107) 108) 109) 111) 112) 113) 115) 116) 117) 118) 119) 120) 121) 122) 123) 124) 131) 138) 139) 141) 142) 143) 144) 145) 150) 151) 152) 153) 121 = true := alu_old a_121_456
  have a_122_464 : (alu (alu (alu (alu (alu (alu (alu (alu (alu (alu (alu (alu (alu (alu (alu (alu (alu (alu (alu (alu (alu (alu (alu (alu (alu (alu (alu (alu (alu (alu (alu al 104) 105) 106) 107) 108) 109) 111) 112) 113) 115) 116) 117) 118) 119) 120) 121) 122) 123) 124) 131) 138) 139) 141) 142) 143) 144) 145) 150) 151) 152) 153) 122 = true := alu_old a_122_456
  have a_123_464 : (alu (alu (alu (alu (alu (alu (alu (alu (alu (alu (alu (alu (alu (alu (alu (alu (alu (alu (alu (alu (alu (alu (alu (alu (alu (alu (alu (alu (alu (alu (alu al 104) 105) 106) 107) 108) 109) 111) 112) 113) 115) 116) 117) 118) 119) 120) 121) 122) 123) 124) 131) 138) 139) 141) 142) 143) 144) 145) 150) 151) 152) 153) 123 = true := alu_old a_123_456
  have a_124_464 : (alu (alu (alu (alu (alu (alu (alu (alu (alu (alu (alu (alu (alu (alu (alu (alu (alu (alu (alu (alu (alu (alu (alu (alu (alu (alu (alu (alu (alu (alu (alu al 104) 105) 106) 107) 108) 109) 111) 112) 113) 115) 116) 117) 118) 119) 120) 121) 122) 123) 124) 131) 138) 139) 141) 142) 143) 144) 145) 150) 151) 152) 153) 124 = true := alu_old a_124_456
  have a_131_464 : (alu (alu (alu (alu (alu (alu (alu (alu (alu (alu (alu (alu (alu (alu (alu (alu (alu (alu (alu (alu (alu (alu (alu (alu (alu (alu (alu (alu (alu (alu (alu al 104) 105) 106) 107) 108) 109) 111) 112) 113) 115) 116) 117) 118) 119) 120) 121) 122) 123) 124) 131) 138) 139) 141) 142) 143) 144) 145) 150) 151) 152) 153) 131 = true := alu_old a_131_456
  have a_138_464 : (alu (alu (alu (alu (alu (alu (alu (alu (alu (alu (alu (alu (alu (alu (alu (alu (alu (alu (alu (alu (alu (alu (alu (alu (alu (alu (alu (alu (alu (alu (alu al 104) 105) 106) 107) 108) 109) 111) 112) 113) 115) 116) 117) 118) 119) 120) 121) 122) 123) 124) 131) 138) 139) 141) 142) 143) 144) 145) 150) 151) 152) 153) 138 = true := alu_old a_138_456
  have a_139_464 : (alu (alu (alu (alu (alu (alu (alu (alu (alu (alu (alu (alu (alu (alu (alu (alu (alu (alu (alu (alu (alu (alu (alu (alu (alu (alu (alu (alu (alu (alu (alu al 104) 105) 106) 107) 108) 109) 111) 112) 113) 115) 116) 117) 118) 119) 120) 121) 122) 123) 124) 131) 138) 139) 141) 142) 143) 144) 145) 150) 151) 152) 153) 139 = true := alu_old a_139_456
  have a_141_464 : (alu (alu (alu (alu (alu (alu (alu (alu (alu (alu (alu (alu (alu (alu (alu (alu (alu (alu (alu (alu (alu (alu (alu (alu (alu (alu (alu (alu (alu (alu (alu al 104) 105) 106) 107) 108) 109) 111) 112) 113) 115) 116) 117) 118) 119) 120) 121) 122) 123) 124) 131) 138) 139) 141) 142) 143) 144) 145) 150) 151) 152) 153) 141 = true := alu_old a_141_456
  have a_142_464 : (alu (alu (alu (alu (alu (alu (alu (alu (alu (alu (alu (alu (alu (alu (alu (alu (alu (alu (alu (alu (alu (alu (alu (alu (alu (alu (alu (alu (alu (alu (alu al 104) 105) 106) 107) 108) 109) 111) 112) 113) 115) 116) 117) 118) 119) 120) 121) 122) 123) 124) 131) 138) 139) 141) 142) 143) 144) 145) 150) 151) 152) 153) 142 = true := alu_old a_142_456
  have a_143_464 : (alu (alu (alu (alu (alu (alu (alu (alu (alu (alu (alu (alu (alu (alu (alu (alu (alu (alu (alu (alu (alu (alu (alu (alu (alu (alu (alu (alu (alu (alu (alu al 104) 105) 106) 107) 108) 109) 111) 112) 113) 115) 116) 117) 118) 119) 120) 121) 122) 123) 124) 131) 138) 139) 141) 142) 143) 144) 145) 150) 151) 152) 153) 143 = true := alu_old a_143_456
  have a_144_464 : (alu (alu (alu (alu (alu (alu (alu (alu (alu (alu (alu (alu (alu (alu (alu (alu (alu (alu (alu (alu (alu (alu (alu (alu (alu (alu (alu (alu (alu (alu (alu al 104) 105) 106) 107) 108) 109) 111) 112) 113) 115) 116) 117) 118) 119) 120) 121) 122) 123) 124) 131) 138) 139) 141) 142) 143) 144) 145) 150) 151) 152) 153) 144 = true := alu_old a_144_456
  have a_145_464 : (alu (alu (alu (alu (alu (alu (alu (alu (alu (alu (alu (alu (alu (alu (alu (alu (alu (alu (alu (alu (alu (alu (alu (alu (alu (alu (alu (alu (alu (alu (alu al 104) 105) 106) 107) 108) 109) 111) 112) 113) 115) 116) 117) 118) 119) 120) 121) 122) 123) 124) 131) 138) 139) 141) 142) 143) 144) 145) 150) 151) 152) 153) 145 = true := alu_old a_145_456
  have a_150_464 : (alu (alu (alu (alu (alu (alu (alu (alu (alu (alu (alu (alu (alu (alu (alu (alu (alu (alu (alu (alu (alu (alu (alu (alu (alu (alu (alu (alu (alu (alu (alu al 104) 105) 106) 107) 108) 109) 111) 112) 113) 115) 116) 117) 118) 119) 120) 121) 122) 123) 124) 131) 138) 139) 141) 142) 143) 144) 145) 150) 151) 152) 153) 150 = true := alu_old a_150_456
  have a_151_464 : (alu (alu (alu (alu (alu (alu (alu (alu (alu (alu (alu (alu (alu (alu (alu (alu (alu (alu (alu (alu (alu (alu (alu (alu (alu (alu (alu (alu (alu (alu (alu al 104) 105) 106) 107) 108) 109) 111) 112) 113) 115) 116) 117) 118) 119) 120) 121) 122) 123) 124) 131) 138) 139) 141) 142) 143) 144) 145) 150) 151) 152) 153) 151 = true := alu_old a_151_456
  have a_152_464 : (alu (alu (alu (alu (alu (alu (alu (alu (alu (alu (alu (alu (alu (alu (alu (alu (alu (alu (alu (alu (alu (alu (alu (alu (alu (alu (alu (alu (alu (alu (alu al 104) 105) 106) 107) 108) 109) 111) 112) 113) 115) 116) 117) 118) 119) 120) 121) 122) 123) 124) 131) 138) 139) 141) 142) 143) 144) 145) 150) 151) 152) 153) 152 = true := alu_old a_152_456
  have a_153_464 : (alu (alu (alu (alu (alu (alu (alu (alu (alu (alu (alu (alu (alu (alu (alu (alu (alu (alu (alu (alu (alu (alu (alu (alu (alu (alu (alu (alu (alu (alu (alu al 104) 105) 106) 107) 108) 109) 111) 112) 113) 115) 116) 117) 118) 119) 120) 121) 122) 123) 124) 131) 138) 139) 141) 142) 143) 144) 145) 150) 151) 152) 153) 153 = true := alu_new
  have k_153_464 : kd 153 = 10 := g_464.2.2.1
  obtain ⟨R_466, e_R_466, h⟩ := lt_some h
  refine r_putq C fr_X8_112 (Or.inr ⟨rfl, hmn, ⟨_, rfl, rfl⟩⟩) hW a_100_464 rfl rfl a_153_464 k_153_464 rfl rfl dX8_init_466 (fun H locs hW => ?_)
  rw [← e_R_466] at hW
  refine lv_aload_n hx hb dX8_init_469 rfl (lv_at hl 0 rfl) ?_
  refine lv_bipush (v := 6) hx hb dX8_init_470 (by decide) ?_
  obtain ⟨g_472, h⟩ := gd_some h
  obtain ⟨I_472, e_I_472, h⟩ := lt_some h
  obtain ⟨R_472, e_R_472, h⟩ := lt_some h
  refine r_newa (at_ := .int) C gm_41 (Or.inr (Or.inl ⟨rfl, rfl⟩)) hW g_472.1 g_472.2.1 g_472.2.2.1 (by decide) g_472.2.2.2 (by rw [← g_472.2.2.2]; decide) (by decide) (by rw [← g_472.2.2.2]; decide) dX8_init_472 (fun H hW => ?_)
  rw [← g_472.2.2.2]
  rw [← e_I_472, ← e_R_472] at hW
  refine W.widen (k := 32) (n := 980) (by decide) (by decide) ?_
  have a_100_472 : (alu (alu (alu (alu (alu (alu (alu (alu (alu (alu (alu (alu (alu (alu (alu (alu (alu (alu (alu (alu (alu (alu (alu (alu (alu (alu (alu (alu (alu (alu (alu (alu al 104) 105) 106) 107) 108) 109) 111) 112) 113) 115) 116) 117) 118) 119) 120) 121) 122) 123) 124) 131) 138) 139) 141) 142) 143) 144) 145) 150) 151) 152) 153) 154) 100 = true := alu_old a_100_464
  have a_104_472 : (alu (alu (alu (alu (alu (alu (alu (alu (alu (alu (alu (alu (alu (alu (alu (alu (alu (alu (alu (alu (alu (alu (alu (alu (alu (alu (alu (alu (alu (alu (alu (alu al 104) 105) 106) 107) 108) 109) 111) 112) 113) 115) 116) 117) 118) 119) 120) 121) 122) 123) 124) 131) 138) 139) 141) 142) 143) 144) 145) 150) 151) 152) 153) 154) 104 = true := alu_old a_104_464
  have a_105_472 : (alu (alu (alu (alu (alu (alu (alu (alu (alu (alu (alu (alu (alu (alu (alu (alu (alu (alu (alu (alu (alu (alu (alu (alu (alu (alu (alu (alu (alu (alu (alu (alu al 104) 105) 106) 107) 108) 109) 111) 112) 113) 115) 116) 117) 118) 119) 120) 121) 122) 123) 124) 131) 138) 139) 141) 142) 143) 144) 145) 150) 151) 152) 153) 154) 105 = true := alu_old a_105_464
  have a_106_472 : (alu (alu (alu (alu (alu (alu (alu (alu (alu (alu (alu (alu (alu (alu (alu (alu (alu (alu (alu (alu (alu (alu (alu (alu (alu (alu (alu (alu (alu (alu (alu (alu al 104) 105) 106) 107) 108) 109) 111) 112) 113) 115) 116) 117) 118) 119) 120) 121) 122) 123) 124) 131) 138) 139) 141) 142) 143) 144) 145) 150) 151) 152) 153) 154) 106 = true := alu_old a_106_464
  have a_107_472 : (alu (alu (alu (alu (alu (alu (alu (alu (alu (alu (alu (alu (alu (alu (alu (alu (alu (alu (alu (alu (alu (alu (alu (alu (alu (alu (alu (alu (alu (alu (alu (alu al 104) 105) 106) 107) 108) 109) 111) 112) 113) 115) 116) 117) 118) 119) 120) 121) 122) 123) 124) 131) 138) 139) 141) 142) 143) 144) 145) 150) 151) 152) 153) 154) 107 = true := alu_old a_107_464
  have a_108_472 : (alu (alu (alu (alu (alu (alu (alu (alu (alu (alu (alu (alu (alu (alu (alu (alu (alu (alu (alu (alu (alu (alu (alu (alu (alu (alu (alu (alu (alu (alu (alu (alu al 104) 105) 106) 107) 108) 109) 111) 112) 113) 115) 116) 117) 118) 119) 120) 121) 122) 123) 124) 131) 138) 139) 141) 142) 143) 144) 145) 150) 151) 152) 153) 154) 108 = true := alu_old a_108_464
  have a_109_472 : (alu (alu (alu (alu (alu (alu (alu (alu (alu (alu (alu (alu (alu (alu (alu (alu (alu (alu (alu (alu (alu (alu (alu (alu (alu (alu (alu (alu (alu (alu (alu (alu al 104) 105) 106) 107) 108) 109) 111) 112) 113) 115) 116) 117) 118) 119) 120) 121) 122) 123) 124) 131) 138) 139) 141) 142) 143) 144) 145) 150) 151) 152) 153) 154) 109 = true := alu_old a_109_464
  have a_111_472 : (alu (alu (alu (alu (alu (alu (alu (alu (alu (alu (alu (alu (alu (alu (alu (alu (alu (alu (alu (alu (alu (alu (alu (alu (alu (alu (alu (alu (alu (alu (alu (alu al 104) 105) 106) 107) 108) 109) 111) 112) 113) 115) 116) 117) 118) 119) 120) 121) 122) 123) 124) 131) 138) 139) 141) 142) 143) 144) 145) 150) 151) 152) 153) 154) 111 = true := alu_old a_111_464
  have a_112_472 : (alu (alu (alu (alu (alu (alu (alu (alu (alu (alu (alu (alu (alu (alu (alu (alu (alu (alu (alu (alu (alu (alu (alu (alu (alu (alu (alu (alu (alu (alu (alu (alu al 104) 105) 106) 107) 108) 109) 111) 112) 113) 115) 116) 117) 118) 119) 120) 121) 122) 123) 124) 131) 138) 139) 141) 142) 143) 144) 145) 150) 151) 152) 153) 154) 112 = true := alu_old a_112_464
  have a_113_472 : (alu (alu (alu (alu (alu (alu (alu (alu (alu (alu (alu (alu (alu (alu (alu (alu (alu (alu (alu (alu (alu (alu (alu (alu (alu (alu (alu (alu (alu (alu (alu (alu al 104) 105) 106) 107) 108) 109) 111) 112) 113) 115) 116) 117) 118) 119) 120) 121) 122) 123) 124) 131) 138) 139) 141) 142) 143) 144) 145) 150) 151) 152) 153) 154) 113 = true := alu_old a_113_464
  have a_115_472 : (alu (alu (alu (alu (alu (alu (alu (alu (alu (alu (alu (alu (alu (alu (alu (alu (alu (alu (alu (alu (alu (alu (alu (alu (alu (alu (alu (alu (alu (alu (alu (alu al 104) 105) 106) 107) 108) 109) 111) 112) 113) 115) 116) 117) 118) 119) 120) 121) 122) 123) 124) 131) 138) 139) 141) 142) 143) 144) 145) 150) 151) 152) 153) 154) 115 = true := alu_old a_115_464
  have a_116_472 : (alu (alu (alu (alu (alu (alu (alu (alu (alu (alu (alu (alu (alu (alu (alu (alu (alu (alu (alu (alu (alu (alu (alu (alu (alu (alu (alu (alu (alu (alu (alu (alu al 104) 105) 106) 107) 108) 109) 111) 112) 113) 115) 116) 117) 118) 119) 120) 121) 122) 123) 124) 131) 138) 139) 141) 142) 143) 144) 145) 150) 151) 152) 153) 154) 116 = true := alu_old a_116_464
  have a_117_472 : (alu (alu (alu (alu (alu (alu (alu (alu (alu (alu (alu (alu (alu (alu (alu (alu (alu (alu (alu (alu (alu (alu (alu (alu (alu (alu (alu (alu (alu (alu (alu (alu al 104) 105) 106) 107) 108) 109) 111) 112) 113) 115) 116) 117) 118) 119) 120) 121) 122) 123) 124) 131) 138) 139) 141) 142) 143) 144) 145) 150) 151) 152) 153) 154) 117 = true := alu_old a_117_464
  have a_118_472 : (alu (alu (alu (alu (alu (alu (alu (alu (alu (alu (alu (alu (alu (alu (alu (alu (alu (alu (alu (alu (alu (alu (alu (alu (alu (alu (alu (alu (alu (alu (alu (alu al 104) 105) 106) 107) 108) 109) 111) 112) 113) 115) 116) 117) 118) 119) 120) 121) 122) 123) 124) 131) 138) 139) 141) 142) 143) 144) 145) 150) 151) 152) 153) 154) 118 = true := alu_old a_118_464
  have a_119_472 : (alu (alu (alu (alu (alu (alu (alu (alu (alu (alu (alu (alu (alu (alu (alu (alu (alu (alu (alu (alu (alu (alu (alu (alu (alu (alu (alu (alu (alu (alu (alu (alu al 104) 105) 106) 107) 108) 109) 111) 112) 113) 115) 116) 117) 118) 119) 120) 121) 122) 123) 124) 131) 138) 139) 141) 142) 143) 144) 145) 150) 151) 152) 153) 154) 119 = true := alu_old a_119_464
  have a_120_472 : (alu (alu (alu (alu (alu (alu (alu (alu (alu (alu (alu (alu (alu (alu (alu (alu (alu (alu (alu (alu (alu (alu (alu (alu (alu (alu (alu (alu (alu (alu (alu (alu al 104) 105) 106) 107) 108) 109) 111) 112) 113) 115) 116) 117) 118) 119) 120) 121) 122) 123) 124) 131) 138) 139) 141) 142) 143) 144) 145) 150) 151) 152) 153) 154) 120 = true := alu_old a_120_464
  have a_121_472 : (alu (alu (alu (alu (alu (alu (alu (alu (alu (alu (alu (alu (alu (alu (alu (alu (alu (alu (alu (alu (alu (alu (alu (alu (alu (alu (alu (alu (alu (alu (alu (alu al 104) 105) 106) 107) 108) 109) 111) 112) 113) 115) 116) 117) 118) 119) 120) 121) 122) 123) 124) 131) 138) 139) 141) 142) 143) 144) 145) 150) 151) 152) 153) 154) 121 = true := alu_old a_121_464
  have a_122_472 : (alu (alu (alu (alu (alu (alu (alu (alu (alu (alu (alu (alu (alu (alu (alu (alu (alu (alu (alu (alu (alu (alu (alu (alu (alu (alu (alu (alu (alu (alu (alu (alu al 104) 105) 106) 107) 108) 109) 111) 112) 113) 115) 116) 117) 118) 119) 120) 121) 122) 123) 124) 131) 138) 139) 141) 142) 143) 144) 145) 150) 151) 152) 153) 154) 122 = true := alu_old a_122_464
  have a_123_472 : (alu (alu (alu (alu (alu (alu (alu (alu (alu (alu (alu (alu (alu (alu (alu (alu (alu (alu (alu (alu (alu (alu (alu (alu (alu (alu (alu (alu (alu (alu (alu (alu al 104) 105) 106) 107) 108) 109) 111) 112) 113) 115) 116) 117) 118) 119) 120) 121) 122) 123) 124) 131) 138) 139) 141) 142) 143) 144) 145) 150) 151) 152) 153) 154) 123 = true := alu_old a_123_464
  have a_124_472 : (alu (alu (alu (alu (alu (alu (alu (alu (alu (alu (alu (alu (alu (alu (alu (alu (alu (alu (alu (alu (alu (alu (alu (alu (alu (alu (alu (alu (alu (alu (alu (alu al 104) 105) 106) 107) 108) 109) 111) 112) 113) 115) 116) 117) 118) 119) 120) 121) 122) 123) 124) 131) 138) 139) 141) 142) 143) 144) 145) 150) 151) 152) 153) 154) 124 = true := alu_old a_124_464
  have a_131_472 : (alu (alu (alu (alu (alu (alu (alu (alu (alu (alu (alu (alu (alu (alu (alu (alu (alu (alu (alu (alu (alu (alu (alu (alu (alu (alu (alu (alu (alu (alu (alu (alu al 104) 105) 106) 107) 108) 109) 111) 112) 113) 115) 116) 117) 118) 119) 120) 121) 122) 123) 124) 131) 138) 139) 141) 142) 143) 144) 145) 150) 151) 152) 153) 154) 131 = true := alu_old a_131_464
  have a_138_472 : (alu (alu (alu (alu (alu (alu (alu (alu (alu (alu (alu (alu (alu (alu (alu (alu (alu (alu (alu (alu (alu (alu (alu (alu (alu (alu (alu (alu (alu (alu (alu (alu al 104) 105) 106) 107) 108) 109) 111) 112) 113) 115) 116) 117) 118) 119) 120) 121) 122) 123) 124) 131) 138) 139) 141) 142) 143) 144) 145) 150) 151) 152) 153) 154) 138 = true := alu_old a_138_464
  have a_139_472 : (alu (alu (alu (alu (alu (alu (alu (alu (alu (alu (alu (alu (alu (alu (alu (alu (alu (alu (alu (alu (alu (alu (alu (alu (alu (alu (alu (alu (alu (alu (alu (alu al 104) 105) 106) 107) 108) 109) 111) 112) 113) 115) 116) 117) 118) 119) 120) 121) 122) 123) 124) 131) 138) 139) 141) 142) 143) 144) 145) 150) 151) 152) 153) 154) 139 = true := alu_old a_139_464
  have a_141_472 : (alu (alu (alu (alu (alu (alu (alu (alu (alu (alu (alu (alu (alu (alu (alu (alu (alu (alu (alu (alu (alu (alu (alu (alu (alu (alu (alu (alu (alu (alu (alu (alu al 104) 105) 106) 107) 108) 109) 111) 112) 113) 115) 116) 117) 118) 119) 120) 121) 122) 123) 124) 131) 138) 139) 141) 142) 143) 144) 145) 150) 151) 152) 153) 154) 141 = true := alu_old a_141_464
  have a_142_472 : (alu (alu (alu (alu (alu (alu (alu (alu (alu (alu (alu (alu (alu (alu (alu (alu (alu (alu (alu (alu (alu (alu (alu (alu (alu (alu (alu (alu (alu (alu (alu (alu al 104) 105) 106) 107) 108) 109) 111) 112) 113) 115) 116) 117) 118) 119) 120) 121) 122) 123) 124) 131) 138) 139) 141) 142) 143) 144) 145) 150) 151) 152) 153) 154) 142 = true := alu_old a_142_464
  have a_143_472 : (alu (alu (alu (alu (alu (alu (alu (alu (alu (alu (alu (alu (alu (alu (alu (alu (alu (alu (alu (alu (alu (alu (alu (alu (alu (alu (alu (alu (alu (alu (alu (alu al 104) 105) 106) 107) 108) 109) 111) 112) 113) 115) 116) 117) 118) 119) 120) 121) 122) 123) 124) 131) 138) 139) 141) 142) 143) 144) 145) 150) 151) 152) 153) 154) 143 = true := alu_old a_143_464
  have a_144_472 : (alu (alu (alu (alu (alu (alu (alu (alu (alu (alu (alu (alu (alu (alu (alu (alu (alu (alu (alu (alu (alu (alu (alu (alu (alu (alu (alu (alu (alu (alu (alu (alu al 104) 105) 106) 107) 108) 109) 111) 112) 113) 115) 116) 117) 118) 119) 120) 121) 122) 123) 124) 131) 138) 139) 141) 142) 143) 144) 145) 150) 151) 152) 153) 154) 144 = true := alu_old a_144_464
  have a_145_472 : (alu (alu (alu (alu (alu (alu (alu (alu (alu (alu (alu (alu (alu (alu (alu (alu (alu (alu (alu (alu (alu (alu (alu (alu (alu (alu (alu (alu (alu (alu (alu (alu al 104) 105) 106) 107) 108) 109) 111) 112) 113) 115) 116) 117) 118) 119) 120) 121) 122) 123) 124) 131) 138) 139) 141) 142) 143) 144) 145) 150) 151) 152) 153) 154) 145 = true := alu_old a_145_464
  have a_150_472 : (alu (alu (alu (alu (alu (alu (alu (alu (alu (alu (alu (alu (alu (alu (alu (alu (alu (alu (alu (alu (alu (alu (alu (alu (alu (alu (alu (alu (alu (alu (alu (alu al 104) 105) 106) 107) 108) 109) 111) 112) 113) 115) 116) 117) 118) 119) 120) 121) 122) 123) 124) 131) 138) 139) 141) 142) 143) 144) 145) 150) 151) 152) 153) 154) 150 = true := alu_old a_150_464
  have a_151_472 : (alu (alu (alu (alu (alu (alu (alu (alu (alu (alu (alu (alu (alu (alu (alu (alu (alu (alu (alu (alu (alu (alu (alu (alu (alu (alu (alu (alu (alu (alu (alu (alu al 104) 105) 106) 107) 108) 109) 111) 112) 113) 115) 116) 117) 118) 119) 120) 121) 122) 123) 124) 131) 138) 139) 141) 142) 143) 144) 145) 150) 151) 152) 153) 154) 151 = true := alu_old a_151_464
  have a_152_472 : (alu (alu (alu (alu (alu (alu (alu (alu (alu (alu (alu (alu (alu (alu (alu (alu (alu (alu (alu (alu (alu (alu (alu (alu (alu (alu (alu (alu (alu (alu (alu (alu al 104) 105) 106) 107) 108) 109) 111) 112) 113) 115) 116) 117) 118) 119) 120) 121) 122) 123) 124) 131) 138) 139) 141) 142) 143) 144) 145) 150) 151) 152) 153) 154) 152 = true := alu_old a_152_464
  have a_153_472 : (alu (alu (alu (alu (alu (alu (alu (alu (alu (alu (alu (alu (alu (alu (alu (alu (alu (alu (alu (alu (alu (alu (alu (alu (alu (alu (alu (alu (alu (alu (alu (alu al 104) 105) 106) 107) 108) 109) 111) 112) 113) 115) 116) 117) 118) 119) 120) 121) 122) 123) 124) 131) 138) 139) 141) 142) 143) 144) 145) 150) 151) 152) 153) 154) 153 = true := alu_old a_153_464
  have a_154_472 : (alu (alu (alu (alu (alu (alu (alu (alu (alu (alu (alu (alu (alu (alu (alu (alu (alu (alu (alu (alu (alu (alu (alu (alu (alu (alu (alu (alu (alu (alu (alu (alu al 104) 105) 106) 107) 108) 109) 111) 112) 113) 115) 116) 117) 118) 119) 120) 121) 122) 123) 124) 131) 138) 139) 141) 142) 143) 144) 145) 150) 151) 152) 153) 154) 154 = true := alu_new
  have k_154_472 : kd 154 = 10 := g_472.2.2.1
  obtain ⟨R_474, e_R_474, h⟩ := lt_some h
  refine r_putq C fr_X8_115 (Or.inr ⟨rfl, hmn, ⟨_, rfl, rfl⟩⟩) hW a_100_472 rfl rfl a_154_472 k_154_472 rfl rfl dX8_init_474 (fun H locs hW => ?_)
  rw [← e_R_474] at hW
  refine lv_aload_n hx hb dX8_init_477 rfl (lv_at hl 0 rfl) ?_
  refine lv_iconst (v := 4) hx hb dX8_init_478 (by decide) ?_
  obtain ⟨g_479, h⟩ := gd_some h
  obtain ⟨I_479, e_I_479, h⟩ := lt_some h
  obtain ⟨R_479, e_R_479, h⟩ := lt_some h
  refine r_newa (at_ := .int) C gm_41 (Or.inr (Or.inl ⟨rfl, rfl⟩)) hW g_479.1 g_479.2.1 g_479.2.2.1 (by decide) g_479.2.2.2 (by rw [← g_479.2.2.2]; decide) (by decide) (by rw [← g_479.2.2.2]; decide) dX8_init_479 (fun H hW => ?_)
  rw [← g_479.2.2.2]
  rw [← e_I_479, ← e_R_479] at hW
  refine W.widen (k := 33) (n := 984) (by decide) (by decide) ?_
  have a_100_479 : (alu (alu (alu (alu (alu (alu (alu (alu (alu (alu (alu (alu (alu (alu (alu (alu (alu (alu (alu (alu (alu (alu (alu (alu (alu (alu (alu (alu (alu (alu (alu (alu (alu al 104) 105) 106) 107) 108) 109) 111) 112) 113) 115) 116) 117) 118) 119) 120) 121) 122) 123) 124) 131) 138) 139) 141) 142) 143) 144) 145) 150) 151) 152) 153) 154) 155) 100 = true := alu_old a_100_472
  have a_104_479 : (alu (alu (alu (alu (alu (alu (alu (alu (alu (alu (alu (alu (alu (alu (alu (alu (alu (alu (alu (alu (alu (alu (alu (alu (alu (alu (alu (alu (alu (alu (alu (alu (alu al 104) 105) 106) 107) 108) 109) 111) 112) 113) 115) 116) 117) 118) 119) 120) 121) 122) 123) 124) 131) 138) 139) 141) 142) 143) 144) 145) 150) 151) 152) 153) 154) 155) 104 = true := alu_old a_104_472
  have a_105_479 : (alu (alu (alu (alu (alu (alu (alu (alu (alu (alu (alu (alu (alu (alu (alu (alu (alu (alu (alu (alu (alu (alu (alu (alu (alu (alu (alu (alu (alu (alu (alu (alu (alu al 104) 105) 106) 107) 108) 109) 111) 112) 113) 115) 116) 117) 118) 119) 120) 121) 122) 123) 124) 131) 138) 139) 141) 142) 143) 144) 145) 150) 151) 152) 153) 154) 155) 105 = true := alu_old a_105_472
  have a_106_479 : (alu (alu (alu (alu (alu (alu (alu (alu (alu (alu (alu (alu (alu (alu (alu (alu (alu (alu (alu (alu (alu (alu (alu (alu (alu (alu (alu (alu (alu (alu (alu (alu (alu al 104) 105) 106) 107) 108) 109) 111) 112) 113) 115) 116) 117) 118) 119) 120) 121) 122) 123) 124) 131) 138) 139) 141) 142) 143) 144) 145) 150) 151) 152) 153) 154) 155) 106 = true := alu_old a_106_472
  have a_107_479 : (alu (alu (alu (alu (alu (alu (alu (alu (alu (alu (alu (alu (alu (alu (alu (alu (alu (alu (alu (alu (alu (alu (alu (alu (alu (alu (alu (alu (alu (alu (alu (alu (alu al 104) 105) 106) 107) 108) 109) 111) 112) 113) 115) 116) 117) 118) 119) 120) 121) 122) 123) 124) 131) 138) 139) 141) 142) 143) 144) 145) 150) 151) 152) 153) 154) 155) 107 = true := alu_old a_107_472
  have a_108_479 : (alu (alu (alu (alu (alu (alu (alu (alu (alu (alu (alu (alu (alu (alu (alu (alu (alu (alu (alu (alu (alu (alu (alu (alu (alu (alu (alu (alu (alu (alu (alu (alu (alu al 104) 105) 106) 107) 108) 109) 111) 112) 113) 115) 116) 117) 118) 119) 120) 121) 122) 123) 124) 131) 138) 139) 141) 142) 143) 144) 145) 150) 151) 152) 153) 154) 155) 108 = true := alu_old a_108_472
  have a_109_479 : (alu (alu (alu (alu (alu (alu (alu (alu (alu (alu (alu (alu (alu (alu (alu (alu (alu (alu (alu (alu (alu (alu (alu (alu (alu (alu (alu (alu (alu (alu (alu (alu (alu al 104) 105) 106) 107) 108) 109) 111) 112) 113) 115) 116) 117) 118) 119) 120) 121) 122) 123) 124) 131) 138) 139) 141) 142) 143) 144) 145) 150) 151) 152) 153) 154) 155) 109 = true := alu_old a_109_472
  have a_111_479 : (alu (alu (alu (alu (alu (alu (alu (alu (alu (alu (alu (alu (alu (alu (alu (alu (alu (alu (alu (alu (alu (alu (alu (alu (alu (alu (alu (alu (alu (alu (alu (alu (alu al 104) 105) 106) 107) 108) 109) 111) 112) 113) 115) 116) 117) 118) 119) 120) 121) 122) 123) 124) 131) 138) 139) 141) 142) 143) 144) 145) 150) 151) 152) 153) 154) 155) 111 = true := alu_old a_111_472
  have a_112_479 : (alu (alu (alu (alu (alu (alu (alu (alu (alu (alu (alu (alu (alu (alu (alu (alu (alu (alu (alu (alu (alu (alu (alu (alu (alu (alu (alu (alu (alu (alu (alu (alu (alu al 104) 105) 106) 107) 108) 109) 111) 112) 113) 115) 116) 117) 118) 119) 120) 121) 122) 123) 124) 131) 138) 139) 141) 142) 143) 144) 145) 150) 151) 152) 153) 154) 155) 112 = true := alu_old a_112_472
  have a_113_479 : (alu (alu (alu (alu (alu (alu (alu (alu (alu (alu (alu (alu (alu (alu (alu (alu (alu (alu (alu (alu (alu (alu (alu (alu (alu (alu (alu (alu (alu (alu (alu (alu (alu al 104) 105) 106) 107) 108) 109) 111) 112) 113) 115) 116) 117) 118) 119) 120) 121) 122) 123) 124) 131) 138) 139) 141) 142) 143) 144) 145) 150) 151) 152) 153) 154) 155) 113 = true := alu_old a_113_472
  have a_115_479 : (alu (alu (alu (alu (alu (alu (alu (alu (alu (alu (alu (alu (alu (alu (alu (alu (alu (alu (alu (alu (alu (alu (alu (alu (alu (alu (alu (alu (alu (alu (alu (alu (alu al 104) 105) 106) 107) 108) 109) 111) 112) 113) 115) 116) 117) 118) 119) 120) 121) 122) 123) 124) 131) 138) 139) 141) 142) 143) 144) 145) 150) 151) 152) 153) 154) 155) 115 = true := alu_old a_115_472
  have a_116_479 : (alu (alu (alu (alu (alu (alu (alu (alu (alu (alu (alu (alu (alu (alu (alu (alu (alu (alu (alu (alu (alu (alu (alu (alu (alu (alu (alu (alu (alu (alu (alu (alu (alu al 104) 105) 106) 107) 108) 109) 111) 112) 113) 115) 116) 117) 118) 119) 120) 121) 122) 123) 124) 131) 138) 139) 141) 142) 143) 144) 145) 150) 151) 152) 153) 154) 155) 116 = true := alu_old a_116_472
  have a_117_479 : (alu (alu (alu (alu (alu (alu (alu (alu (alu (alu (alu (alu (alu (alu (alu (alu (alu (alu (alu (alu (alu (alu (alu (alu (alu (alu (alu (alu (alu (alu (alu (alu (alu al 104) 105) 106) 107) 108) 109) 111) 112) 113) 115) 116) 117) 118) 119) 120) 121) 122) 123) 124) 131) 138) 139) 141) 142) 143) 144) 145) 150) 151) 152) 153) 154) 155) 117 = true := alu_old a_117_472
  have a_118_479 : (alu (alu (alu (alu (alu (alu (alu (alu (alu (alu (alu (alu (alu (alu (alu (alu (alu (alu (alu (alu (alu (alu (alu (alu (alu (alu (alu (alu (alu (alu (alu (alu (alu al 104) 105) 106) 107) 108) 109) 111) 112) 113) 115) 116) 117) 118) 119) 120) 121) 122) 123) 124) 131) 138) 139) 141) 142) 143) 144) 145) 150) 151) 152) 153) 154) 155) 118 = true := alu_old a_118_472
  have a_119_479 : (alu (alu (alu (alu (alu (alu (alu (alu (alu (alu (alu (alu (alu (alu (alu (alu (alu (alu (alu (alu (alu (alu (alu (alu (alu (alu (alu (alu (alu (alu (alu (alu (alu al 104) 105) 106) 107) 108) 109) 111) 112) 113) 115) 116) 117) 118) 119) 120) 121) 122) 123) 124) 131) 138) 139) 141) 142) 143) 144) 145) 150) 151) 152) 153) 154) 155) 119 = true := alu_old a_119_472
  have a_120_479 : (alu (alu (alu (alu (alu (alu (alu (alu (alu (alu (alu (alu (alu (alu (alu (alu (alu (alu (alu (alu (alu (alu (alu (alu (alu (alu (alu (alu (alu (alu (alu (alu (alu al 104) 105) 106) 107) 108) 109) 111) 112) 113) 115) 116) 117) 118) 119) 120) 121) 122) 123) 124) 131) 138) 139) 141) 142) 143) 144) 145) 150) 151) 152) 153) 154) 155) 120 = true := alu_old a_120_472
  have a_121_479 : (alu (alu (alu (alu (alu (alu (alu (alu (alu (alu (alu (alu (alu (alu (alu (alu (alu (alu (alu (alu (alu (alu (alu (alu (alu (alu (alu (alu (alu (alu (alu (alu (alu al 104) 105) 106) 107) 108) 109) 111) 112) 113) 115) 116) 117) 118) 119) 120) 121) 122) 123) 124) 131) 138) 139) 141) 142) 143) 144) 145) 150) 151) 152) 153) 154) 155) 121 = true := alu_old a_121_472
  have a_122_479 : (alu (alu (alu (alu (alu (alu (alu (alu (alu (alu (alu (alu (alu (alu (alu (alu (alu (alu (alu (alu (alu (alu (alu (alu (alu (alu (alu (alu (alu (alu (alu (alu (alu al 104) 105) 106) 107) 108) 109) 111) 112) 113) 115) 116) 117) 118) 119) 120) 121) 122) 123) 124) 131) 138) 139) 141) 142) 143) 144) 145) 150) 151) 152) 153) 154) 155) 122 = true := alu_old a_122_472
  have a_123_479 : (alu (alu (alu (alu (alu (alu (alu (alu (alu (alu (alu (alu (alu (alu (alu (alu (alu (alu (alu (alu (alu (alu (alu (alu (alu (alu (alu (alu (alu (alu (alu (alu (alu al 104) 105) 106) 107) 108) 109) 111) 112) 113) 115) 116) 117) 118) 119) 120) 121) 122) 123) 124) 131) 138) 139) 141) 142) 143) 144) 145) 150) 151) 152) 153) 154) 155) 123 = true := alu_old a_123_472
  have a_124_479 : (alu (alu (alu (alu (alu (alu (alu (alu (alu (alu (alu (alu (alu (alu (alu (alu (alu (alu (alu (alu (alu (alu (alu (alu (alu (alu (alu (alu (alu (alu (alu (alu (alu al 104) 105) 106) 107) 108) 109) 111) 112) 113) 115) 116) 117) 118) 119) 120) 121) 122) 123) 124) 131) 138) 139) 141) 142) 143) 144) 145) 150) 151) 152) 153) 154) 155) 124 = true := alu_old a_124_472
  have a_131_479 : (alu (alu (alu (alu (alu (alu (alu (alu (alu (alu (alu (alu (alu (alu (alu (alu (alu (alu (alu (alu (alu (alu (alu (alu (alu (alu (alu (alu (alu (alu (alu (alu (alu al 104) 105) 106) 107) 108) 109) 111) 112) 113) 115) 116) 117) 118) 119) 120) 121) 122) 123) 124) 131) 138) 139) 141) 142) 143) 144) 145) 150) 151) 152) 153) 154) 155) 131 = true := alu_old a_131_472
  have a_138_479 : (alu (alu (alu (alu (alu (alu (alu (alu (alu (alu (alu (alu (alu (alu (alu (alu (alu (alu (alu (alu (alu (alu (alu (alu (alu (alu (alu (alu (alu (alu (alu (alu (alu al 104) 105) 106) 107) 108) 109) 111) 112) 113) 115) 116) 117) 118) 119) 120) 121) 122) 123) 124) 131) 138) 139) 141) 142) 143) 144) 145) 150) 151) 152) 153) 154) 155) 138 = true := alu_old a_138_472
  have a_139_479 : (alu (alu (alu (alu (alu (alu (alu (alu (alu (alu (alu (alu (alu (alu (alu (alu (alu (alu (alu (alu (alu (alu (alu (alu (alu (alu (alu (alu (alu (alu (alu (alu (alu al 104) 105) 106) 107) 108) 109) 111) 112) 113) 115) 116) 117) 118) 119) 120) 121) 122) 123) 124) 131) 138) 139) 141) 142) 143) 144) 145) 150) 151) 152) 153) 154) 155) 139 = true := alu_old a_139_472
  have a_141_479 : (alu (alu (alu (alu (alu (alu (alu (alu (alu (alu (alu (alu (alu (alu (alu (alu (alu (alu (alu (alu (alu (alu (alu (alu (alu (alu (alu (alu (alu (alu (alu (alu (alu al 104) 105) 106) 107) 108) 109) 111) 112) 113) 115) 116) 117) 118) 119) 120) 121) 122) 123) 124) 131) 138) 139) 141) 142) 143) 144) 145) 150) 151) 152) 153) 154) 155) 141 = true := alu_old a_141_472
  have a_142_479 : (alu (alu (alu (alu (alu (alu (alu (alu (alu (alu (alu (alu (alu (alu (alu (alu (alu (alu (alu (alu (alu (alu (alu (alu (alu (alu (alu (alu (alu (alu (alu (alu (alu al 104) 105) 106) 107) 108) 109) 111) 112) 113) 115) 116) 117) 118) 119) 120) 121) 122) 123) 124) 131) 138) 139) 141) 142) 143) 144) 145) 150) 151) 152) 153) 154) 155) 142 = true := alu_old a_142_472
  have a_143_479 : (alu (alu (alu (alu (alu (alu (alu (alu (alu (alu (alu (alu (alu (alu (alu (alu (alu (alu (alu (alu (alu (alu (alu (alu (alu (alu (alu (alu (alu (alu (alu (alu (alu al 104) 105) 106) 107) 108) 109) 111) 112) 113) 115) 116) 117) 118) 119) 120) 121) 122) 123) 124) 131) 138) 139) 141) 142) 143) 144) 145) 150) 151) 152) 153) 154) 155) 143 = true := alu_old a_143_472
  have a_144_479 : (alu (alu (alu (alu (alu (alu (alu (alu (alu (alu (alu (alu (alu (alu (alu (alu (alu (alu (alu (alu (alu (alu (alu (alu (alu (alu (alu (alu (alu (alu (alu (alu (alu al 104) 105) 106) 107) 108) 109) 111) 112) 113) 115) 116) 117) 118) 119) 120) 121) 122) 123) 124) 131) 138) 139) 141) 142) 143) 144) 145) 150) 151) 152) 153) 154) 155) 144 = true := alu_old a_144_472
  have a_145_479 : (alu (alu (alu (alu (alu (alu (alu (alu (alu (alu (alu (alu (alu (alu (alu (alu (alu (alu (alu (alu (alu (alu (alu (alu (alu (alu (alu (alu (alu (alu (alu (alu (alu al 104) 105) 106) 107) 108) 109) 111) 112) 113) 115) 116) 117) 118) 119) 120) 121) 122) 123) 124) 131) 138) 139) 141) 142) 143) 144) 145) 150) 151) 152) 153) 154) 155) 145 = true := alu_old a_145_472
  have a_150_479 : (alu (alu (alu (alu (alu (alu (alu (alu (alu (alu (alu (alu (alu (alu (alu (alu (alu (alu (alu (alu (alu (alu (alu (alu (alu (alu (alu (alu (alu (alu (alu (alu (alu al 104) 105) 106) 107) 108) 109) 111) 112) 113) 115) 116) 117) 118) 119) 120) 121) 122) 123) 124) 131) 138) 139) 141) 142) 143) 144) 145) 150) 151) 152) 153) 154) 155) 150 = true := alu_old a_150_472
  have a_151_479 : (alu (alu (alu (alu (alu (alu (alu (alu (alu (alu (alu (alu (alu (alu (alu (alu (alu (alu (alu (alu (alu (alu (alu (alu (alu (alu (alu (alu (alu (alu (alu (alu (alu al 104) 105) 106) 107) 108) 109) 111) 112) 113) 115) 116) 117) 118) 119) 120) 121) 122) 123) 124) 131) 138) 139) 141) 142) 143) 144) 145) 150) 151) 152) 153) 154) 155) 151 = true := alu_old a_151_472
  have a_152_479 : (alu (alu (alu (alu (alu (alu (alu (alu (alu (alu (alu (alu (alu (alu (alu (alu (alu (alu (alu (alu (alu (alu (alu (alu (alu (alu (alu (alu (alu (alu (alu (alu (alu al 104) 105) 106) 107) 108) 109) 111) 112) 113) 115) 116) 117) 118) 119) 120) 121) 122) 123) 124) 131) 138) 139) 141) 142) 143) 144) 145) 150) 151) 152) 153) 154) 155) 152 = true := alu_old a_152_472
  have a_153_479 : (alu (alu (alu (alu (alu (alu (alu (alu (alu (alu (alu (alu (alu (alu (alu (alu (alu (alu (alu (alu (alu (alu (alu (alu (alu (alu (alu (alu (alu (alu (alu (alu (alu al 104) 105) 106) 107) 108) 109) 111) 112) 113) 115) 116) 117) 118) 119) 120) 121) 122) 123) 124) 131) 138) 139) 141) 142) 143) 144) 145) 150) 151) 152) 153) 154) 155) 153 = true := alu_old a_153_472
  have a_154_479 : (alu (alu (alu (alu (alu (alu (alu (alu (alu (alu (alu (alu (alu (alu (alu (alu (alu (alu (alu (alu (alu (alu (alu (alu (alu (alu (alu (alu (alu (alu (alu (alu (alu al 104) 105) 106) 107) 108) 109) 111) 112) 113) 115) 116) 117) 118) 119) 120) 121) 122) 123) 124) 131) 138) 139) 141) 142) 143) 144) 145) 150) 151) 152) 153) 154) 155) 154 = true := alu_old a_154_472
  have a_155_479 : (alu (alu (alu (alu (alu (alu (alu (alu (alu (alu (alu (alu (alu (alu (alu (alu (alu (alu (alu (alu (alu (alu (alu (alu (alu (alu (alu (alu (alu (alu (alu (alu (alu al 104) 105) 106) 107) 108) 109) 111) 112) 113) 115) 116) 117) 118) 119) 120) 121) 122) 123) 124) 131) 138) 139) 141) 142) 143) 144) 145) 150) 151) 152) 153) 154) 155) 155 = true := alu_new
  have k_155_479 : kd 155 = 10 := g_479.2.2.1
  obtain ⟨R_481, e_R_481, h⟩ := lt_some h
  refine r_putq C fr_X8_118 (Or.inr ⟨rfl, hmn, ⟨_, rfl, rfl⟩⟩) hW a_100_479 rfl rfl a_155_479 k_155_479 rfl rfl dX8_init_481 (fun H locs hW => ?_)
  rw [← e_R_481] at hW
  refine lv_aload_n hx hb dX8_init_484 rfl (lv_at hl 0 rfl) ?_
  refine lv_iconst (v := 4) hx hb dX8_init_485 (by decide) ?_
  obtain ⟨g_486, h⟩ := gd_some h
  obtain ⟨I_486, e_I_486, h⟩ := lt_some h
  obtain ⟨R_486, e_R_486, h⟩ := lt_some h
  refine r_newa (at_ := .int) C gm_41 (Or.inr (Or.inl ⟨rfl, rfl⟩)) hW g_486.1 g_486.2.1 g_486.2.2.1 (by decide) g_486.2.2.2 (by rw [← g_486.2.2.2]; decide) (by decide) (by rw [← g_486.2.2.2]; decide) dX8_init_486 (fun H hW => ?_)
  rw [← g_486.2.2.2]
  rw [← e_I_486, ← e_R_486] at hW
  refine W.widen (k := 34) (n := 988) (by decide) (by decide) ?_
  have a_100_486 : (alu (alu (alu (alu (alu (alu (alu (alu (alu (alu (alu (alu (alu (alu (alu (alu (alu (alu (alu (alu (alu (alu (alu (alu (alu (alu (alu (alu (alu (alu (alu (alu (alu (alu al 104) 105) 106) 107) 108) 109) 111) 112) 113) 115) 116) 117) 118) 119) 120) 121) 122) 123) 124) 131) 138) 139) 141) 142) 143) 144) 145) 150) 151) 152) 153) 154) 155) 156) 100 = true := alu_old a_100_479
  have a_104_486 : (alu (alu (alu (alu (alu (alu (alu (alu (alu (alu (alu (alu (alu (alu (alu (alu (alu (alu (alu (alu (alu (alu (alu (alu (alu (alu (alu (alu (alu (alu (alu (alu (alu (alu al 104) 105) 106) 107) 108) 109) 111) 112) 113) 115) 116) 117) 118) 119) 120) 121) 122) 123) 124) 131) 138) 139) 141) 142) 143) 144) 145) 150) 151) 152) 153) 154) 155) 156) 104 = true := alu_old a_104_479
  have a_105_486 : (alu (alu (alu (alu (alu (alu (alu (alu (alu (alu (alu (alu (alu (alu (alu (alu (alu (alu (alu (alu (alu (alu (alu (alu (alu (alu (alu (alu (alu (alu (alu (alu (alu (alu al 104) 105) 106) 107) 108) 109) 111) 112) 113) 115) 116) 117) 118) 119) 120) 121) 122) 123) 124) 131) 138) 139) 141) 142) 143) 144) 145) 150) 151) 152) 153) 154) 155) 156) 105 = true := alu_old a_105_479
  have a_106_486 : (alu (alu (alu (alu (alu (alu (alu (alu (alu (alu (alu (alu (alu (alu (alu (alu (alu (alu (alu (alu (alu (alu (alu (alu (alu (alu (alu (alu (alu (alu (alu (alu (alu (alu al 104) 105) 106) 107) 108) 109) 111) 112) 113) 115) 116) 117) 118) 119) 120) 121) 122) 123) 124) 131) 138) 139) 141) 142) 143) 144) 145) 150) 151) 152) 153) 154) 155) 156) 106 = true := alu_old a_106_479
  have a_107_486 : (alu (alu (alu (alu (alu (alu (alu (alu (alu (alu (alu (alu (alu (alu (alu (alu (alu (alu (alu (alu (alu (alu (alu (alu (alu (alu (alu (alu (alu (alu (alu (alu (alu (alu al 104) 105) 106) 107) 108) 109) 111) 112) 113) 115) 116) 117) 118) 119) 120) 121) 122) 123) 124) 131) 138) 139) 141) 142) 143) 144) 145) 150) 151) 152) 153) 154) 155) 156) 107 = true := alu_old a_107_479
  have a_108_486 : (alu (alu (alu (alu (alu (alu (alu (alu (alu (alu (alu (alu (alu (alu (alu (alu (alu (alu (alu (alu (alu (alu (alu (alu (alu (alu (alu (alu (alu (alu (alu (alu (alu (alu al 104) 105) 106) 107) 108) 109) 111) 112) 113) 115) 116) 117) 118) 119) 120) 121) 122) 123) 124) 131) 138) 139) 141) 142) 143) 144) 145) 150) 151) 152) 153) 154) 155) 156) 108 = true := alu_old a_108_479
  have a_109_486 : (alu (alu (alu (alu (alu (alu (alu (alu (alu (alu (alu (alu (alu (alu (alu (alu (alu (alu (alu (alu (alu (alu (alu (alu (alu (alu (alu (alu (alu (alu (alu (alu (alu (alu al 104) 105) 106) 107) 108) 109) 111) 112) 113) 115) 116) 117) 118) 119) 120) 121) 122) 123) 124) 131) 138) 139) 141) 142) 143) 144) 145) 150) 151) 152) 153) 154) 155) 156) 109 = true := alu_old a_109_479
  have a_111_486 : (alu (alu (alu (alu (alu (alu (alu (alu (alu (alu (alu (alu (alu (alu (alu (alu (alu (alu (alu (alu (alu (alu (alu (alu (alu (alu (alu (alu (alu (alu (alu (alu (alu (alu al 104) 105) 106) 107) 108) 109) 111) 112) 113) 115) 116) 117) 118) 119) 120) 121) 122) 123) 124) 131) 138) 139) 141) 142) 143) 144) 145) 150) 151) 152) 153) 154) 155) 156) 111 = true := alu_old a_111_479
  have a_112_486 : (alu (alu (alu (alu (alu (alu (alu (alu (alu (alu (alu (alu (alu (alu (alu (alu (alu (alu (alu (alu (alu (alu (alu (alu (alu (alu (alu (alu (alu (alu (alu (alu (alu (alu al 104) 105) 106) 107) 108) 109) 111) 112) 113) 115) 116) 117) 118) 119) 120) 121) 122) 123) 124) 131) 138) 139) 141) 142) 143) 144) 145) 150) 151) 152) 153) 154) 155) 156) 112 = true := alu_old a_112_479
  have a_113_486 : (alu (alu (alu (alu (alu (alu (alu (alu (alu (alu (alu (alu (alu (alu (alu (alu (alu (alu (alu (alu (alu (alu (alu (alu (alu (alu (alu (alu (alu (alu (alu (alu (alu (alu al 104) 105) 106) 107) 108) 109) 111) 112) 113) 115) 116) 117) 118) 119) 120) 121) 122) 123) 124) 131) 138) 139) 141) 142) 143) 144) 145) 150) 151) 152) 153) 154) 155) 156) 113 = true := alu_old a_113_479
  have a_115_486 : (alu (alu (alu (alu (alu (alu (alu (alu (alu (alu (alu (alu (alu (alu (alu (alu (alu (alu (alu (alu (alu (alu (alu (alu (alu (alu (alu (alu (alu (alu (alu (alu (alu (alu al 104) 105) 106) 107) 108) 109) 111) 112) 113) 115) 116) 117) 118) 119) 120) 121) 122) 123) 124) 131) 138) 139) 141) 142) 143) 144) 145) 150) 151) 152) 153) 154) 155) 156) 115 = true := alu_old a_115_479
  have a_116_486 : (alu (alu (alu (alu (alu (alu (alu (alu (alu (alu (alu (alu (alu (alu (alu (alu (alu (alu (alu (alu (alu (alu (alu (alu (alu (alu (alu (alu (alu (alu (alu (alu (alu (alu al 104) 105) 106) 107) 108) 109) 111) 112) 113) 115) 116) 117) 118) 119) 120) 121) 122) 123) 124) 131) 138) 139) 141) 142) 143) 144) 145) 150) 151) 152) 153) 154) 155) 156) 116 = true := alu_old a_116_479
  have a_117_486 : (alu (alu (alu (alu (alu (alu (alu (alu (alu (alu (alu (alu (alu (alu (alu (alu (alu (alu (alu (alu (alu (alu (alu (alu (alu (alu (alu (alu (alu (alu (alu (alu (alu (alu al 104) 105) 106) 107) 108) 109) 111) 112) 113) 115) 116) 117) 118) 119) 120) 121) 122) 123) 124) 131) 138) 139) 141) 142) 143) 144) 145) 150) 151) 152) 153) 154) 155) 156) 117 = true := alu_old a_117_479
  have a_118_486 : (alu (alu (alu (alu (alu (alu (alu (alu (alu (alu (alu (alu (alu (alu (alu (alu (alu (alu (alu (alu (alu (alu (alu (alu (alu (alu (alu (alu (alu (alu (alu (alu (alu (alu al 104) 105) 106) 107) 108) 109) 111) 112) 113) 115) 116) 117) 118) 119) 120) 121) 122) 123) 124) 131) 138) 139) 141) 142) 143) 144) 145) 150) 151) 152) 153) 154) 155) 156) 118 = true := alu_old a_118_479
  have a_119_486 : (alu (alu (alu (alu (alu (alu (alu (alu (alu (alu (alu (alu (alu (alu (alu (alu (alu (alu (alu (alu (alu (alu (alu (alu (alu (alu (alu (alu (alu (alu (alu (alu (alu (alu al 104) 105) 106) 107) 108) 109) 111) 112) 113) 115) 116) 117) 118) 119) 120) 121) 122) 123) 124) 131) 138) 139) 141) 142) 143) 144) 145) 150) 151) 152) 153) 154) 155) 156) 119 = true := alu_old a_119_479
  have a_120_486 : (alu (alu (alu (alu (alu (alu (alu (alu (alu (alu (alu (alu (alu (alu (alu (alu (alu (alu (alu (alu (alu (alu (alu (alu (alu (alu (alu (alu (alu (alu (alu (alu (alu (alu al 104) 105) 106) 107) 108) 109) 111) 112) 113) 115) 116) 117) 118) 119) 120) 121) 122) 123) 124) 131) 138) 139) 141) 142) 143) 144) 145) 150) 151) 152) 153) 154) 155) 156) 120 = true := alu_old a_120_479
  have a_121_486 : (alu (alu (alu (alu (alu (alu (alu (alu (alu (alu (alu (alu (alu (alu (alu (alu (alu (alu (alu (alu (alu (alu (alu (alu (alu (alu (alu (alu (alu (alu (alu (alu (alu (alu al 104) 105) 106) 107) 108) 109) 111) 112) 113) 115) 116) 117) 118) 119) 120) 121) 122) 123) 124) 131) 138) 139) 141) 142) 143) 144) 145) 150) 151) 152) 153) 154) 155) 156) 121 = true := alu_old a_121_479
  have a_122_486 : (alu (alu (alu (alu (alu (alu (alu (alu (alu (alu (alu (alu (alu (alu (alu (alu (alu (alu (alu (alu (alu (alu (alu (alu (alu (alu (alu (alu (alu (alu (alu (alu (alu (alu al 104) 105) 106) 107) 108) 109) 111) 112) 113) 115) 116) 117) 118) 119) 120) 121) 122) 123) 124) 131) 138) 139) 141) 142) 143) 144) 145) 150) 151) 152) 153) 154) 155) 156) 122 = true := alu_old a_122_479
  have a_123_486 : (alu (alu (alu (alu (alu (alu (alu (alu (alu (alu (alu (alu (alu (alu (alu (alu (alu (alu (alu (alu (alu (alu (alu (alu (alu (alu (alu (alu (alu (alu (alu (alu (alu (alu al 104) 105) 106) 107) 108) 109) 111) 112) 113) 115) 116) 117) 118) 119) 120) 121) 122) 123) 124) 131) 138) 139) 141) 142) 143) 144) 145) 150) 151) 152) 153) 154) 155) 156) 123 = true := alu_old a_123_479
  have a_124_486 : (alu (alu (alu (alu (alu (alu (alu (alu (alu (alu (alu (alu (alu (alu (alu (alu (alu (alu (alu (alu (alu (alu (alu (alu (alu (alu (alu (alu (alu (alu (alu (alu (alu (alu al 104) 105) 106) 107) 108) 109) 111) 112) 113) 115) 116) 117) 118) 119) 120) 121) 122) 123) 124) 131) 138) 139) 141) 142) 143) 144) 145) 150) 151) 152) 153) 154) 155) 156) 124 = true := alu_old a_124_479
  have a_131_486 : (alu (alu (alu (alu (alu (alu (alu (alu (alu (alu (alu (alu (alu (alu (alu (alu (alu (alu (alu (alu (alu (alu (alu (alu (alu (alu (alu (alu (alu (alu (alu (alu (alu (alu al 104) 105) 106) 107) 108) 109) 111) 112) 113) 115) 116) 117) 118) 119) 120) 121) 122) 123) 124) 131) 138) 139) 141) 142) 143) 144) 145) 150) 151) 152) 153) 154) 155) 156) 131 = true := alu_old a_131_479
  have a_138_486 : (alu (alu (alu (alu (alu (alu (alu (alu (alu (alu (alu (alu (alu (alu (alu (alu (alu (alu (alu (alu (alu (alu (alu (alu (alu (alu (alu (alu (alu (alu (alu (alu (alu (alu al 104) 105) 106) 107) 108) 109) 111) 112) 113) 115) 116) 117) 118) 119) 120) 121) 122) 123) 124) 131) 138) 139) 141) 142) 143) 144) 145) 150) 151) 152) 153) 154) 155) 156) 138 = true := alu_old a_138_479
  have a_139_486 : (alu (alu (alu (alu (alu (alu (alu (alu (alu (alu (alu (alu (alu (alu (alu (alu (alu (alu (alu (alu (alu (alu (alu (alu (alu (alu (alu (alu (alu (alu (alu (alu (alu (alu al 104) 105) 106) 107) 108) 109) 111) 112) 113) 115) 116) 117) 118) 119) 120) 121) 122) 123) 124) 131) 138) 139) 141) 142) 143) 144) 145) 150) 151) 152) 153) 154) 155) 156) 139 = true := alu_old a_139_479
  have a_141_486 : (alu (alu (alu (alu (alu (alu (alu (alu (alu (alu (alu (alu (alu (alu (alu (alu (alu (alu (alu (alu (alu (alu (alu (alu (alu (alu (alu (alu (alu (alu (alu (alu (alu (alu al 104) 105) 106) 107) 108) 109) 111) 112) 113) 115) 116) 117) 118) 119) 120) 121) 122) 123) 124) 131) 138) 139) 141) 142) 143) 144) 145) 150) 151) 152) 153) 154) 155) 156) 141 = true := alu_old a_141_479
  have a_142_486 : (alu (alu (alu (alu (alu (alu (alu (alu (alu (alu (alu (alu (alu (alu (alu (alu (alu (alu (alu (alu (alu (alu (alu (alu (alu (alu (alu (alu (alu (alu (alu (alu (alu (alu al 104) 105) 106) 107) 108) 109) 111) 112) 113) 115) 116) 117) 118) 119) 120) 121) 122) 123) 124) 131) 138) 139) 141) 142) 143) 144) 145) 150) 151) 152) 153) 154) 155) 156) 142 = true := alu_old a_142_479
  have a_143_486 : (alu (alu (alu (alu (alu (alu (alu (alu (alu (alu (alu (alu (alu (alu (alu (alu (alu (alu (alu (alu (alu (alu (alu (alu (alu (alu (alu (alu (alu (alu (alu (alu (alu (alu al 104) 105) 106) 107) 108) 109) 111) 112) 113) 115) 116) 117) 118) 119) 120) 121) 122) 123) 124) 131) 138) 139) 141) 142) 143) 144) 145) 150) 151) 152) 153) 154) 155) 156) 143 = true := alu_old a_143_479
  have a_144_486 : (alu (alu (alu (alu (alu (alu (alu (alu (alu (alu (alu (alu (alu (alu (alu (alu (alu (alu (alu (alu (alu (alu (alu (alu (alu (alu (alu (alu (alu (alu (alu (alu (alu (alu al 104) 105) 106) 107) 108) 109) 111) 112) 113) 115) 116) 117) 118) 119) 120) 121) 122) 123) 124) 131) 138) 139) 141) 142) 143) 144) 145) 150) 151) 152) 153) 154) 155) 156) 144 = true := alu_old a_144_479
  have a_145_486 : (alu (alu (alu (alu (alu (alu (alu (alu (alu (alu (alu (alu (alu (alu (alu (alu (alu (alu (alu (alu (alu (alu (alu (alu (alu (alu (alu (alu (alu (alu (alu (alu (alu (alu al 104) 105) 106) 107) 108) 109) 111) 112) 113) 115) 116) 117) 118) 119) 120) 121) 122) 123) 124) 131) 138) 139) 141) 142) 143) 144) 145) 150) 151) 152) 153) 154) 155) 156) 145 = true := alu_old a_145_479
  have a_150_486 : (alu (alu (alu (alu (alu (alu (alu (alu (alu (alu (alu (alu (alu (alu (alu (alu (alu (alu (alu (alu (alu (alu (alu (alu (alu (alu (alu (alu (alu (alu (alu (alu (alu (alu al 104) 105) 106) 107) 108) 109) 111) 112) 113) 115) 116) 117) 118) 119) 120) 121) 122) 123) 124) 131) 138) 139) 141) 142) 143) 144) 145) 150) 151) 152) 153) 154) 155) 156) 150 = true := alu_old a_150_479
  have a_151_486 : (alu (alu (alu (alu (alu (alu (alu (alu (alu (alu (alu (alu (alu (alu (alu (alu (alu (alu (alu (alu (alu (alu (alu (alu (alu (alu (alu (alu (alu (alu (alu (alu (alu (alu al 104) 105) 106) 107) 108) 109) 111) 112) 113) 115) 116) 117) 118) 119) 120) 121) 122) 123) 124) 131) 138) 139) 141) 142) 143) 144) 145) 150) 151) 152) 153) 154) 155) 156) 151 = true := alu_old a_151_479
  have a_152_486 : (alu (alu (alu (alu (alu (alu (alu (alu (alu (alu (alu (alu (alu (alu (alu (alu (alu (alu (alu (alu (alu (alu (alu (alu (alu (alu (alu (alu (alu (alu (alu (alu (alu (alu al 104) 105) 106) 107) 108) 109) 111) 112) 113) 115) 116) 117) 118) 119) 120) 121) 122) 123) 124) 131) 138) 139) 141) 142) 143) 144) 145) 150) 151) 152) 153) 154) 155) 156) 152 = true := alu_old a_152_479
  have a_153_486 : (alu (alu (alu (alu (alu (alu (alu (alu (alu (alu (alu (alu (alu (alu (alu (alu (alu (alu (alu (alu (alu (alu (alu (alu (alu (alu (alu (alu (alu (alu (alu (alu (alu (alu al 104) 105) 106) 107) 108) 109) 111) 112) 113) 115) 116) 117) 118) 119) 120) 121) 122) 123) 124) 131) 138) 139) 141) 142) 143) 144) 145) 150) 151) 152) 153) 154) 155) 156) 153 = true := alu_old a_153_479
  have a_154_486 : (alu (alu (alu (alu (alu (alu (alu (alu (alu (alu (alu (alu (alu (alu (alu (alu (alu (alu (alu (alu (alu (alu (alu (alu (alu (alu (alu (alu (alu (alu (alu (alu (alu (alu al 104) 105) 106) 107) 108) 109) 111) 112) 113) 115) 116) 117) 118) 119) 120) 121) 122) 123) 124) 131) 138) 139) 141) 142) 143) 144) 145) 150) 151) 152) 153) 154) 155) 156) 154 = true := alu_old a_154_479
  have a_155_486 : (alu (alu (alu (alu (alu (alu (alu (alu (alu (alu (alu (alu (alu (alu (alu (alu (alu (alu (alu (alu (alu (alu (alu (alu (alu (alu (alu (alu (alu (alu (alu (alu (alu (alu al 104) 105) 106) 107) 108) 109) 111) 112) 113) 115) 116) 117) 118) 119) 120) 121) 122) 123) 124) 131) 138) 139) 141) 142) 143) 144) 145) 150) 151) 152) 153) 154) 155) 156) 155 = true := alu_old a_155_479
  have a_156_486 : (alu (alu (alu (alu (alu (alu (alu (alu (alu (alu (alu (alu (alu (alu (alu (alu (alu (alu (alu (alu (alu (alu (alu (alu (alu (alu (alu (alu (alu (alu (alu (alu (alu (alu al 104) 105) 106) 107) 108) 109) 111) 112) 113) 115) 116) 117) 118) 119) 120) 121) 122) 123) 124) 131) 138) 139) 141) 142) 143) 144) 145) 150) 151) 152) 153) 154) 155) 156) 156 = true := alu_new
  have k_156_486 : kd 156 = 10 := g_486.2.2.1
  obtain ⟨R_488, e_R_488, h⟩ := lt_some h
  refine r_putq C fr_X8_121 (Or.inr ⟨rfl, hmn, ⟨_, rfl, rfl⟩⟩) hW a_100_486 rfl rfl a_156_486 k_156_486 rfl rfl dX8_init_488 (fun H locs hW => ?_)
  rw [← e_R_488] at hW
  refine lv_iconst (v := 0) hx hb dX8_init_491 (by decide) ?_
  refine lv_istore_n (lv' := [(1, .int 0), (0, .ref (q 100))]) hx hb dX8_init_492 rfl hl (by decide) rfl (fun ls hl => ?_)
  exact t_X8_init_493 C hmn 1000000 a_100_486 h hW (lv_sub hl [1, 0] rfl)
