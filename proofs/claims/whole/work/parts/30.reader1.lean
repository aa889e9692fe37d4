def f_X1_blame (I : MI) (R : MR) (x1 : Int32) (x2 : Int32) : Option (MI) := lt (p2 I 8 2 ((1 + (8 * x1)) + x2)) (fun I_9 => some (I_9))
set_option maxHeartbeats 4000000 in
set_option maxRecDepth 100000 in
theorem c_X1_blame {l : Launch} {E : EV} {q : Nat → Nat} {al : Nat → Bool} {n : Nat} {I : MI} {R : MR} {x1 : Int32} {x2 : Int32} (a_8 : al 8 = true) {res : MI} (h : f_X1_blame I R x1 x2 = some res) : Ct l yX1_blame cX1_blame 3 none 1 0 0 E q al I R n [.ref (q 8), .int x1, .int x2] none al res R n := by
  refine Ct.of (own := RX1) (mn := "blame") (by decide) rfl rfl (Nat.le_of_ble_eq_true rfl) ?_
  intro p e s m args below meth c ls C hmn hargs hW hl
  have hx := C.1
  have hb := C.2.1
  have hl : lv_has ls 3 [(0, .ref (q 8)), (1, .int x1), (2, .int x2)] := hl
  unfold f_X1_blame at h
  refine lv_aload_n hx hb dX1_blame_0 rfl (lv_at hl 0 rfl) ?_
  refine lv_iconst (v := 1) hx hb dX1_blame_1 (by decide) ?_
  refine lv_bipush (v := 8) hx hb dX1_blame_2 (by decide) ?_
  refine lv_iload_n hx hb dX1_blame_4 rfl (lv_at hl 1 rfl) ?_
  refine lv_imul hx hb dX1_blame_5 ?_
  refine lv_iadd hx hb dX1_blame_6 ?_
  refine lv_iload_n hx hb dX1_blame_7 rfl (lv_at hl 2 rfl) ?_
  refine lv_iadd hx hb dX1_blame_8 ?_
  obtain ⟨I_9, e_I_9, h⟩ := lt_some h
  refine r_put C fr_X1_15 (Or.inl rfl) hW a_8 rfl rfl rfl rfl dX1_blame_9 (fun H locs hW => ?_)
  rw [← e_I_9] at hW
  have h := Option.some.inj h
  subst h
  exact r_vret C hW dX1_blame_12
def f_X1_isBetween (I : MI) (R : MR) (x0 : Int32) (x1 : Int32) (x2 : Int32) : Option (Int32) := (if x0 < x1 then (some (0)) else ((if x2 < x0 then (some (0)) else (some (1)))))
set_option maxHeartbeats 4000000 in
set_option maxRecDepth 100000 in
theorem c_X1_isBetween {l : Launch} {E : EV} {q : Nat → Nat} {al : Nat → Bool} {n : Nat} {I : MI} {R : MR} {x0 : Int32} {x1 : Int32} {x2 : Int32}  {res : Int32} (h : f_X1_isBetween I R x0 x1 x2 = some res) : Ct l yX1_isBetween cX1_isBetween 3 (some .boolean) 1 0 0 E q al I R n [.int x0, .int x1, .int x2] (some (.int res)) al I R n := by
  refine Ct.of (own := RX1) (mn := "isBetween") (by decide) rfl rfl (Nat.le_of_ble_eq_true rfl) ?_
  intro p e s m args below meth c ls C hmn hargs hW hl
  have hx := C.1
  have hb := C.2.1
  have hl : lv_has ls 3 [(0, .int x0), (1, .int x1), (2, .int x2)] := hl
  unfold f_X1_isBetween at h
  refine lv_iload_n hx hb dX1_isBetween_0 rfl (lv_at hl 0 rfl) ?_
  refine lv_iload_n hx hb dX1_isBetween_1 rfl (lv_at hl 1 rfl) ?_
  refine lv_icmp_lt (tgt := 14) hx hb dX1_isBetween_2 (by decide) (fun c_2 => ?_) (fun c_2 => ?_)
  · have h := (if_pos c_2).symm.trans h
    refine lv_iconst (v := 0) hx hb dX1_isBetween_14 (by decide) ?_
    have h := Option.some.inj h
    subst h
    exact r_zret C hW (Or.inl rfl) dX1_isBetween_15
  · have h := (if_neg c_2).symm.trans h
    refine lv_iload_n hx hb dX1_isBetween_5 rfl (lv_at hl 0 rfl) ?_
    refine lv_iload_n hx hb dX1_isBetween_6 rfl (lv_at hl 2 rfl) ?_
    refine lv_icmp_gt (tgt := 14) hx hb dX1_isBetween_7 (by decide) (fun c_7 => ?_) (fun c_7 => ?_)
    · have h := (if_pos c_7).symm.trans h
      refine lv_iconst (v := 0) hx hb dX1_isBetween_14 (by decide) ?_
      have h := Option.some.inj h
      subst h
      exact r_zret C hW (Or.inl rfl) dX1_isBetween_15
    · have h := (if_neg c_7).symm.trans h
      refine lv_iconst (v := 1) hx hb dX1_isBetween_10 (by decide) ?_
      refine lv_goto (tgt := 15) hx hb dX1_isBetween_11 (by decide) ?_
      have h := Option.some.inj h
      subst h
      exact r_zret C hW (Or.inr rfl) dX1_isBetween_15
def f_X1_skipBlanks_2  : Nat → MI → MR → Int32 → Option (MI)
  | 0, _, _, _ => none
  | nn + 1, I, R, x1 => (if 200 ≤ x1 then (some (I)) else (bd (f_X6_at I R (I 8 1)) (fun z_17 => (if z_17 = 32 then (lt (p2 I 8 1 ((I 8 1) + 1)) (fun I_32 => f_X1_skipBlanks_2 nn I_32 R (x1 + 1))) else (some (I))))))
set_option maxHeartbeats 4000000 in
set_option maxRecDepth 100000 in
theorem t_X1_skipBlanks_2 {p : Program} {l : Launch} {e : Env} {s : State} {m : MethodId} {args : Array Value} {below : List Frame} {meth : Method} {c : Code} {E : EV} {q : Nat → Nat} {al : Nat → Bool} {n : Nat} (C : CX p s m args meth c E cX1_skipBlanks RX1 2 none) {res : MI}   : ∀ (nn : Nat) {I : MI} {R : MR} {x1 : Int32} {H : Heap} {locs : List Loc} {ls : Array Slot} (a_8 : al 8 = true) (h : f_X1_skipBlanks_2 nn I R x1 = some res) (hW : Wd E q al s.heap I R n H locs) (hF : Fx al R) (hl : lv_has ls 2 [(0, .ref (q 8)), (1, .int x1)]), W p l e (rmL 2 0 0) s m args below meth c H locs 0 0 (MQ below (Pst E q none al res R n) args s 0 0 (Bs E)) (F0 m 2 ls []) := by
  have hx := C.1
  have hb := C.2.1
  intro nn
  induction nn with
  | zero =>
    intro I R x1 H locs ls a_8 h
    cases (show (none : Option (MI)) = some res from h)
  | succ nn ih =>
    intro I R x1 H locs ls a_8 h hW hF hl
    rw [f_X1_skipBlanks_2.eq_2] at h
    refine lv_iload_n hx hb dX1_skipBlanks_2 rfl (lv_at hl 1 rfl) ?_
    refine lv_sipush (v := 200) hx hb dX1_skipBlanks_3 (by decide) ?_
    refine lv_icmp_ge (tgt := 41) hx hb dX1_skipBlanks_6 (by decide) (fun c_6 => ?_) (fun c_6 => ?_)
    · have h := (if_pos c_6).symm.trans h
      have h := Option.some.inj h
      subst h
      exact r_vret C hW dX1_skipBlanks_41
    · have h := (if_neg c_6).symm.trans h
      refine lv_aload_n hx hb dX1_skipBlanks_9 rfl (lv_at hl 0 rfl) ?_
      have ap_10 : al 6 = true := hW.cl a_8 (hF _ 0 _ a_8 rfl)
      refine r_getq C fr_X1_22 hW a_8 rfl rfl (hF _ 0 _ a_8 rfl) dX1_skipBlanks_10 ?_
      refine lv_aload_n hx hb dX1_skipBlanks_13 rfl (lv_at hl 0 rfl) ?_
      refine r_get C fr_X1_9 hW a_8 rfl rfl dX1_skipBlanks_14 ?_
      obtain ⟨z_17, e_z_17, h⟩ := bd_some h
      refine r_callV (v := (some (.int z_17))) (As := [.int (I 8 1)]) (rest := []) C ml_X6_at gm_377 gm_378 gm_379 (ci := 6) rfl hW ap_10 rfl hl.1 (c_X6_at ap_10 hF e_z_17) rfl ⟨(by decide), (by decide)⟩ ⟨(by decide), (by decide)⟩ rfl (Nat.le_of_ble_eq_true rfl) dX1_skipBlanks_17 (fun H locs hW => ?_)
      refine lv_bipush (v := 32) hx hb dX1_skipBlanks_20 (by decide) ?_
      refine lv_icmp_ne (tgt := 41) hx hb dX1_skipBlanks_22 (by decide) (fun c_22 => ?_) (fun c_22 => ?_)
      · have h := (if_neg c_22).symm.trans h
        have h := Option.some.inj h
        subst h
        exact r_vret C hW dX1_skipBlanks_41
      · have h := (if_pos c_22).symm.trans h
        refine lv_aload_n hx hb dX1_skipBlanks_25 rfl (lv_at hl 0 rfl) ?_
        refine lv_dup hx hb dX1_skipBlanks_26 rfl ?_
        refine r_get C fr_X1_9 hW a_8 rfl rfl dX1_skipBlanks_27 ?_
        refine lv_iconst (v := 1) hx hb dX1_skipBlanks_30 (by decide) ?_
        refine lv_iadd hx hb dX1_skipBlanks_31 ?_
        obtain ⟨I_32, e_I_32, h⟩ := lt_some h
        refine r_put C fr_X1_9 (Or.inl rfl) hW a_8 rfl rfl rfl rfl dX1_skipBlanks_32 (fun H locs hW => ?_)
        rw [← e_I_32] at hW
        refine lv_iinc (v := x1 + 1) (lv' := [(1, .int (x1 + 1)), (0, .ref (q 8))]) hx hb dX1_skipBlanks_35 hl (k := 1) rfl rfl (by decide) rfl (fun ls hl => ?_)
        refine lv_goto (tgt := 2) hx hb dX1_skipBlanks_38 (by decide) ?_
        exact ih a_8 h hW hF (lv_sub hl [1, 0] rfl)
def f_X1_skipBlanks (I : MI) (R : MR) : Option (MI) := f_X1_skipBlanks_2 1000000 I R 0
set_option maxHeartbeats 4000000 in
set_option maxRecDepth 100000 in
theorem c_X1_skipBlanks {l : Launch} {E : EV} {q : Nat → Nat} {al : Nat → Bool} {n : Nat} {I : MI} {R : MR}  (a_8 : al 8 = true) (hF : Fx al R) {res : MI} (h : f_X1_skipBlanks I R = some res) : Ct l yX1_skipBlanks cX1_skipBlanks 2 none 2 0 0 E q al I R n [.ref (q 8)] none al res R n := by
  refine Ct.of (own := RX1) (mn := "skipBlanks") (by decide) rfl rfl (Nat.le_of_ble_eq_true rfl) ?_
  intro p e s m args below meth c ls C hmn hargs hW hl
  have hx := C.1
  have hb := C.2.1
  have hl : lv_has ls 2 [(0, .ref (q 8))] := hl
  unfold f_X1_skipBlanks at h
  refine lv_iconst (v := 0) hx hb dX1_skipBlanks_0 (by decide) ?_
  refine lv_istore_n (lv' := [(1, .int 0), (0, .ref (q 8))]) hx hb dX1_skipBlanks_1 rfl hl (by decide) rfl (fun ls hl => ?_)
  exact t_X1_skipBlanks_2 C 1000000 a_8 h hW hF (lv_sub hl [1, 0] rfl)
def f_X1_readNumber_130  (I : MI) (R : MR) (x3 : Int32) (x4 : Int32) : Option (Int32 × MI) := bd (f_X1_blame I R x3 1) (fun z_133 => some (x4, z_133))
set_option maxHeartbeats 4000000 in
set_option maxRecDepth 100000 in
theorem t_X1_readNumber_130 {p : Program} {l : Launch} {e : Env} {s : State} {m : MethodId} {args : Array Value} {below : List Frame} {meth : Method} {c : Code} {E : EV} {q : Nat → Nat} {al : Nat → Bool} {n : Nat} (C : CX p s m args meth c E cX1_readNumber RX1 6 (some .int)) {res : Int32 × MI}   {I : MI} {R : MR} {x3 : Int32} {x4 : Int32} (a_8 : al 8 = true) {H : Heap} {locs : List Loc} {ls : Array Slot} (h : f_X1_readNumber_130 I R x3 x4 = some res) (hW : Wd E q al s.heap I R n H locs) (hF : Fx al R) (hl : lv_has ls 6 [(0, .ref (q 8)), (3, .int x3), (4, .int x4)]) : W p l e (rmL 3 0 0) s m args below meth c H locs 0 0 (MQ below (Pst E q (some (.int res.1)) al res.2 R n) args s 0 0 (Bs E)) (F0 m 130 ls []) := by
  have hx := C.1
  have hb := C.2.1
  unfold f_X1_readNumber_130 at h
  refine lv_aload_n hx hb dX1_readNumber_130 rfl (lv_at hl 0 rfl) ?_
  refine lv_iload_n hx hb dX1_readNumber_131 rfl (lv_at hl 1 rfl) ?_
  refine lv_iconst (v := 1) hx hb dX1_readNumber_132 (by decide) ?_
  obtain ⟨z_133, e_z_133, h⟩ := bd_some h
  refine r_callV (v := none) (As := [.int x3, .int 1]) (rest := []) C ml_X1_blame gm_453 gm_455 gs_7 (ci := 1) rfl hW a_8 rfl hl.1 (c_X1_blame a_8 e_z_133) rfl ⟨(by decide), (by decide)⟩ ⟨(by decide), (by decide)⟩ rfl (Nat.le_of_ble_eq_true rfl) dX1_readNumber_133 (fun H locs hW => ?_)
  refine lv_iload hx hb dX1_readNumber_136 (lv_at hl 2 rfl) ?_
  have h := Option.some.inj h
  subst h
  exact r_iret C hW dX1_readNumber_138
def f_X1_readNumber_93  (I : MI) (R : MR) (x1 : Int32) (x2 : Int32) (x3 : Int32) (x4 : Int32) : Option (Int32 × MI) := (if (I 8 1) = x3 then (bd (f_X1_blame I R x3 0) (fun z_104 => some (x4, z_104))) else ((if 3 < ((I 8 1) - x3) then (f_X1_readNumber_130 I R x3 x4) else (bd (f_X7_within I R x4 x1 x2) (fun z_124 => (if z_124 = 0 then (f_X1_readNumber_130 I R x3 x4) else (some (x4, I))))))))
set_option maxHeartbeats 4000000 in
set_option maxRecDepth 100000 in
theorem t_X1_readNumber_93 {p : Program} {l : Launch} {e : Env} {s : State} {m : MethodId} {args : Array Value} {below : List Frame} {meth : Method} {c : Code} {E : EV} {q : Nat → Nat} {al : Nat → Bool} {n : Nat} (C : CX p s m args meth c E cX1_readNumber RX1 6 (some .int)) {res : Int32 × MI}   {I : MI} {R : MR} {x1 : Int32} {x2 : Int32} {x3 : Int32} {x4 : Int32} (a_8 : al 8 = true) {H : Heap} {locs : List Loc} {ls : Array Slot} (h : f_X1_readNumber_93 I R x1 x2 x3 x4 = some res) (hW : Wd E q al s.heap I R n H locs) (hF : Fx al R) (hl : lv_has ls 6 [(0, .ref (q 8)), (1, .int x1), (2, .int x2), (3, .int x3), (4, .int x4)]) : W p l e (rmL 3 0 0) s m args below meth c H locs 0 0 (MQ below (Pst E q (some (.int res.1)) al res.2 R n) args s 0 0 (Bs E)) (F0 m 93 ls []) := by
  have hx := C.1
  have hb := C.2.1
  unfold f_X1_readNumber_93 at h
  refine lv_aload_n hx hb dX1_readNumber_93 rfl (lv_at hl 0 rfl) ?_
  refine r_get C fr_X1_9 hW a_8 rfl rfl dX1_readNumber_94 ?_
  refine lv_iload_n hx hb dX1_readNumber_97 rfl (lv_at hl 3 rfl) ?_
  refine lv_icmp_ne (tgt := 110) hx hb dX1_readNumber_98 (by decide) (fun c_98 => ?_) (fun c_98 => ?_)
  · have h := (if_neg c_98).symm.trans h
    refine lv_aload_n hx hb dX1_readNumber_110 rfl (lv_at hl 0 rfl) ?_
    refine r_get C fr_X1_9 hW a_8 rfl rfl dX1_readNumber_111 ?_
    refine lv_iload_n hx hb dX1_readNumber_114 rfl (lv_at hl 3 rfl) ?_
    refine lv_isub hx hb dX1_readNumber_115 ?_
    refine lv_iconst (v := 3) hx hb dX1_readNumber_116 (by decide) ?_
    refine lv_icmp_gt (tgt := 130) hx hb dX1_readNumber_117 (by decide) (fun c_117 => ?_) (fun c_117 => ?_)
    · have h := (if_pos c_117).symm.trans h
      exact t_X1_readNumber_130 C a_8 h hW hF (lv_sub hl [0, 3, 4] rfl)
    · have h := (if_neg c_117).symm.trans h
      refine lv_iload hx hb dX1_readNumber_120 (lv_at hl 4 rfl) ?_
      refine lv_iload_n hx hb dX1_readNumber_122 rfl (lv_at hl 1 rfl) ?_
      refine lv_iload_n hx hb dX1_readNumber_123 rfl (lv_at hl 2 rfl) ?_
      obtain ⟨z_124, e_z_124, h⟩ := bd_some h
      refine r_callSN (host := "GasYard") (v := (some (.int z_124))) (As := [.int x4, .int x1, .int x2]) (rest := []) C ml_X7_within (by decide +kernel) gm_322 hW hl.1 (c_X7_within  e_z_124) rfl ⟨(by decide), (by decide)⟩ ⟨(by decide), (by decide)⟩ rfl (Nat.le_of_ble_eq_true rfl) dX1_readNumber_124 (fun H locs hW => ?_)
      refine lv_if_ne (tgt := 136) hx hb dX1_readNumber_127 (by decide) (fun c_127 => ?_) (fun c_127 => ?_)
      · have h := (if_neg c_127).symm.trans h
        refine lv_iload hx hb dX1_readNumber_136 (lv_at hl 4 rfl) ?_
        have h := Option.some.inj h
        subst h
        exact r_iret C hW dX1_readNumber_138
      · have h := (if_pos c_127).symm.trans h
        exact t_X1_readNumber_130 C a_8 h hW hF (lv_sub hl [0, 3, 4] rfl)
  · have h := (if_pos c_98).symm.trans h
    refine lv_aload_n hx hb dX1_readNumber_101 rfl (lv_at hl 0 rfl) ?_
    refine lv_iload_n hx hb dX1_readNumber_102 rfl (lv_at hl 3 rfl) ?_
    refine lv_iconst (v := 0) hx hb dX1_readNumber_103 (by decide) ?_
    obtain ⟨z_104, e_z_104, h⟩ := bd_some h
    refine r_callV (v := none) (As := [.int x3, .int 0]) (rest := []) C ml_X1_blame gm_453 gm_455 gs_7 (ci := 1) rfl hW a_8 rfl hl.1 (c_X1_blame a_8 e_z_104) rfl ⟨(by decide), (by decide)⟩ ⟨(by decide), (by decide)⟩ rfl (Nat.le_of_ble_eq_true rfl) dX1_readNumber_104 (fun H locs hW => ?_)
    refine lv_goto (tgt := 136) hx hb dX1_readNumber_107 (by decide) ?_
    refine lv_iload hx hb dX1_readNumber_136 (lv_at hl 4 rfl) ?_
    have h := Option.some.inj h
    subst h
    exact r_iret C hW dX1_readNumber_138
def f_X1_readNumber_75 (k15 : MI → MR → Int32 → Int32 → Int32 → Int32 → Int32 → Option (Int32 × MI)) (I : MI) (R : MR) (x1 : Int32) (x2 : Int32) (x3 : Int32) (x5 : Int32) (y0 : Int32) : Option (Int32 × MI) := lt (p2 I 8 1 ((I 8 1) + 1)) (fun I_84 => k15 I_84 R x1 x2 x3 y0 (x5 + 1))
set_option maxHeartbeats 4000000 in
set_option maxRecDepth 100000 in
theorem t_X1_readNumber_75 {p : Program} {l : Launch} {e : Env} {s : State} {m : MethodId} {args : Array Value} {below : List Frame} {meth : Method} {c : Code} {E : EV} {q : Nat → Nat} {al : Nat → Bool} {n : Nat} (C : CX p s m args meth c E cX1_readNumber RX1 6 (some .int)) {res : Int32 × MI} {k15 : MI → MR → Int32 → Int32 → Int32 → Int32 → Int32 → Option (Int32 × MI)} (hk15 : ∀ {I : MI} {R : MR} {x1 : Int32} {x2 : Int32} {x3 : Int32} {x4 : Int32} {x5 : Int32} {H : Heap} {locs : List Loc} {ls : Array Slot}, al 8 = true → k15 I R x1 x2 x3 x4 x5 = some res → Wd E q al s.heap I R n H locs → Fx al R → lv_has ls 6 [(0, .ref (q 8)), (1, .int x1), (2, .int x2), (3, .int x3), (4, .int x4), (5, .int x5)] → W p l e (rmL 3 0 0) s m args below meth c H locs 0 0 (MQ below (Pst E q (some (.int res.1)) al res.2 R n) args s 0 0 (Bs E)) (F0 m 15 ls [])) {I : MI} {R : MR} {x1 : Int32} {x2 : Int32} {x3 : Int32} {x5 : Int32} {y0 : Int32} (a_8 : al 8 = true) {H : Heap} {locs : List Loc} {ls : Array Slot} (h : f_X1_readNumber_75 k15 I R x1 x2 x3 x5 y0 = some res) (hW : Wd E q al s.heap I R n H locs) (hF : Fx al R) (hl : lv_has ls 6 [(0, .ref (q 8)), (1, .int x1), (2, .int x2), (3, .int x3), (5, .int x5)]) : W p l e (rmL 3 0 0) s m args below meth c H locs 0 0 (MQ below (Pst E q (some (.int res.1)) al res.2 R n) args s 0 0 (Bs E)) (F0 m 75 ls [.int y0]) := by
  have hx := C.1
  have hb := C.2.1
  unfold f_X1_readNumber_75 at h
  refine lv_istore (lv' := [(4, .int y0), (0, .ref (q 8)), (1, .int x1), (2, .int x2), (3, .int x3), (5, .int x5)]) hx hb dX1_readNumber_75 hl (by decide) rfl (fun ls hl => ?_)
  refine lv_aload_n hx hb dX1_readNumber_77 rfl (lv_at hl 1 rfl) ?_
  refine lv_dup hx hb dX1_readNumber_78 rfl ?_
  refine r_get C fr_X1_9 hW a_8 rfl rfl dX1_readNumber_79 ?_
  refine lv_iconst (v := 1) hx hb dX1_readNumber_82 (by decide) ?_
  refine lv_iadd hx hb dX1_readNumber_83 ?_
  obtain ⟨I_84, e_I_84, h⟩ := lt_some h
  refine r_put C fr_X1_9 (Or.inl rfl) hW a_8 rfl rfl rfl rfl dX1_readNumber_84 (fun H locs hW => ?_)
  rw [← e_I_84] at hW
  refine lv_iinc (v := x5 + 1) (lv' := [(5, .int (x5 + 1)), (4, .int y0), (0, .ref (q 8)), (1, .int x1), (2, .int x2), (3, .int x3)]) hx hb dX1_readNumber_87 hl (k := 5) rfl rfl (by decide) rfl (fun ls hl => ?_)
  refine lv_goto (tgt := 15) hx hb dX1_readNumber_90 (by decide) ?_
  exact hk15 a_8 h hW hF (lv_sub hl [2, 3, 4, 5, 1, 0] rfl)
def f_X1_readNumber_15  : Nat → MI → MR → Int32 → Int32 → Int32 → Int32 → Int32 → Option (Int32 × MI)
  | 0, _, _, _, _, _, _, _ => none
  | nn + 1, I, R, x1, x2, x3, x4, x5 => (if 200 ≤ x5 then (f_X1_readNumber_93 I R x1 x2 x3 x4) else (bd (f_X6_at I R (I 8 1)) (fun z_31 => bd (f_X1_isBetween I R z_31 48 57) (fun z_38 => (if z_38 = 0 then (f_X1_readNumber_93 I R x1 x2 x3 x4) else ((if 3 ≤ x5 then (f_X1_readNumber_75 (f_X1_readNumber_15 nn) I R x1 x2 x3 x5 x4) else (bd (f_X6_at I R (I 8 1)) (fun z_63 => f_X1_readNumber_75 (f_X1_readNumber_15 nn) I R x1 x2 x3 x5 (((x4 * 10) + z_63) - 48))))))))))
set_option maxHeartbeats 4000000 in
set_option maxRecDepth 100000 in
theorem t_X1_readNumber_15 {p : Program} {l : Launch} {e : Env} {s : State} {m : MethodId} {args : Array Value} {below : List Frame} {meth : Method} {c : Code} {E : EV} {q : Nat → Nat} {al : Nat → Bool} {n : Nat} (C : CX p s m args meth c E cX1_readNumber RX1 6 (some .int)) {res : Int32 × MI}   : ∀ (nn : Nat) {I : MI} {R : MR} {x1 : Int32} {x2 : Int32} {x3 : Int32} {x4 : Int32} {x5 : Int32} {H : Heap} {locs : List Loc} {ls : Array Slot} (a_8 : al 8 = true) (h : f_X1_readNumber_15 nn I R x1 x2 x3 x4 x5 = some res) (hW : Wd E q al s.heap I R n H locs) (hF : Fx al R) (hl : lv_has ls 6 [(0, .ref (q 8)), (1, .int x1), (2, .int x2), (3, .int x3), (4, .int x4), (5, .int x5)]), W p l e (rmL 3 0 0) s m args below meth c H locs 0 0 (MQ below (Pst E q (some (.int res.1)) al res.2 R n) args s 0 0 (Bs E)) (F0 m 15 ls []) := by
  have hx := C.1
  have hb := C.2.1
  intro nn
  induction nn with
  | zero =>
    intro I R x1 x2 x3 x4 x5 H locs ls a_8 h
    cases (show (none : Option (Int32 × MI)) = some res from h)
  | succ nn ih =>
    intro I R x1 x2 x3 x4 x5 H locs ls a_8 h hW hF hl
    rw [f_X1_readNumber_15.eq_2] at h
    refine lv_iload hx hb dX1_readNumber_15 (lv_at hl 5 rfl) ?_
    refine lv_sipush (v := 200) hx hb dX1_readNumber_17 (by decide) ?_
    refine lv_icmp_ge (tgt := 93) hx hb dX1_readNumber_20 (by decide) (fun c_20 => ?_) (fun c_20 => ?_)
    · have h := (if_pos c_20).symm.trans h
      exact t_X1_readNumber_93 C a_8 h hW hF (lv_sub hl [0, 1, 2, 3, 4] rfl)
    · have h := (if_neg c_20).symm.trans h
      refine lv_aload_n hx hb dX1_readNumber_23 rfl (lv_at hl 0 rfl) ?_
      have ap_24 : al 6 = true := hW.cl a_8 (hF _ 0 _ a_8 rfl)
      refine r_getq C fr_X1_22 hW a_8 rfl rfl (hF _ 0 _ a_8 rfl) dX1_readNumber_24 ?_
      refine lv_aload_n hx hb dX1_readNumber_27 rfl (lv_at hl 0 rfl) ?_
      refine r_get C fr_X1_9 hW a_8 rfl rfl dX1_readNumber_28 ?_
      obtain ⟨z_31, e_z_31, h⟩ := bd_some h
      refine r_callV (v := (some (.int z_31))) (As := [.int (I 8 1)]) (rest := []) C ml_X6_at gm_377 gm_378 gm_379 (ci := 6) rfl hW ap_24 rfl hl.1 (c_X6_at ap_24 hF e_z_31) rfl ⟨(by decide), (by decide)⟩ ⟨(by decide), (by decide)⟩ rfl (Nat.le_of_ble_eq_true rfl) dX1_readNumber_31 (fun H locs hW => ?_)
      refine lv_bipush (v := 48) hx hb dX1_readNumber_34 (by decide) ?_
      refine lv_bipush (v := 57) hx hb dX1_readNumber_36 (by decide) ?_
      obtain ⟨z_38, e_z_38, h⟩ := bd_some h
      refine r_callS (v := (some (.int z_38))) (As := [.int z_31, .int 48, .int 57]) (rest := []) C ml_X1_isBetween gm_389 gm_390 hW hl.1 (c_X1_isBetween  e_z_38) rfl ⟨(by decide), (by decide)⟩ ⟨(by decide), (by decide)⟩ rfl (Nat.le_of_ble_eq_true rfl) dX1_readNumber_38 (fun H locs hW => ?_)
      refine lv_if_eq (tgt := 93) hx hb dX1_readNumber_41 (by decide) (fun c_41 => ?_) (fun c_41 => ?_)
      · have h := (if_pos c_41).symm.trans h
        exact t_X1_readNumber_93 C a_8 h hW hF (lv_sub hl [0, 1, 2, 3, 4] rfl)
      · have h := (if_neg c_41).symm.trans h
        refine lv_iload hx hb dX1_readNumber_44 (lv_at hl 5 rfl) ?_
        refine lv_iconst (v := 3) hx hb dX1_readNumber_46 (by decide) ?_
        refine lv_icmp_ge (tgt := 73) hx hb dX1_readNumber_47 (by decide) (fun c_47 => ?_) (fun c_47 => ?_)
        · have h := (if_pos c_47).symm.trans h
          refine lv_iload hx hb dX1_readNumber_73 (lv_at hl 4 rfl) ?_
          exact t_X1_readNumber_75 C ih a_8 h hW hF (lv_sub hl [0, 1, 2, 3, 5] rfl)
        · have h := (if_neg c_47).symm.trans h
          refine lv_iload hx hb dX1_readNumber_50 (lv_at hl 4 rfl) ?_
          refine lv_bipush (v := 10) hx hb dX1_readNumber_52 (by decide) ?_
          refine lv_imul hx hb dX1_readNumber_54 ?_
          refine lv_aload_n hx hb dX1_readNumber_55 rfl (lv_at hl 0 rfl) ?_
          refine r_getq C fr_X1_22 hW a_8 rfl rfl (hF _ 0 _ a_8 rfl) dX1_readNumber_56 ?_
          refine lv_aload_n hx hb dX1_readNumber_59 rfl (lv_at hl 0 rfl) ?_
          refine r_get C fr_X1_9 hW a_8 rfl rfl dX1_readNumber_60 ?_
          obtain ⟨z_63, e_z_63, h⟩ := bd_some h
          refine r_callV (v := (some (.int z_63))) (As := [.int (I 8 1)]) (rest := [.int (x4 * 10)]) C ml_X6_at gm_377 gm_378 gm_379 (ci := 6) rfl hW ap_24 rfl hl.1 (c_X6_at ap_24 hF e_z_63) rfl ⟨(by decide), (by decide)⟩ ⟨(by decide), (by decide)⟩ rfl (Nat.le_of_ble_eq_true rfl) dX1_readNumber_63 (fun H locs hW => ?_)
          refine lv_iadd hx hb dX1_readNumber_66 ?_
          refine lv_bipush (v := 48) hx hb dX1_readNumber_67 (by decide) ?_
          refine lv_isub hx hb dX1_readNumber_69 ?_
          refine lv_goto (tgt := 75) hx hb dX1_readNumber_70 (by decide) ?_
          exact t_X1_readNumber_75 C ih a_8 h hW hF (lv_sub hl [0, 1, 2, 3, 5] rfl)
def f_X1_readNumber (I : MI) (R : MR) (x1 : Int32) (x2 : Int32) : Option (Int32 × MI) := bd (f_X1_skipBlanks I R) (fun z_1 => f_X1_readNumber_15 1000000 z_1 R x1 x2 (z_1 8 1) 0 0)
set_option maxHeartbeats 4000000 in
set_option maxRecDepth 100000 in
theorem c_X1_readNumber {l : Launch} {E : EV} {q : Nat → Nat} {al : Nat → Bool} {n : Nat} {I : MI} {R : MR} {x1 : Int32} {x2 : Int32} (a_8 : al 8 = true) (hF : Fx al R) {res : Int32 × MI} (h : f_X1_readNumber I R x1 x2 = some res) : Ct l yX1_readNumber cX1_readNumber 6 (some .int) 3 0 0 E q al I R n [.ref (q 8), .int x1, .int x2] (some (.int res.1)) al res.2 R n := by
  refine Ct.of (own := RX1) (mn := "readNumber") (by decide) rfl rfl (Nat.le_of_ble_eq_true rfl) ?_
  intro p e s m args below meth c ls C hmn hargs hW hl
  have hx := C.1
  have hb := C.2.1
  have hl : lv_has ls 6 [(0, .ref (q 8)), (1, .int x1), (2, .int x2)] := hl
  unfold f_X1_readNumber at h
  refine lv_aload_n hx hb dX1_readNumber_0 rfl (lv_at hl 0 rfl) ?_
  obtain ⟨z_1, e_z_1, h⟩ := bd_some h
  refine r_callV (v := none) (As := []) (rest := []) C ml_X1_skipBlanks gm_373 gm_375 gs_3 (ci := 1) rfl hW a_8 rfl hl.1 (c_X1_skipBlanks a_8 hF e_z_1) rfl ⟨(by decide), (by decide)⟩ ⟨(by decide), (by decide)⟩ rfl (Nat.le_of_ble_eq_true rfl) dX1_readNumber_1 (fun H locs hW => ?_)
  refine lv_aload_n hx hb dX1_readNumber_4 rfl (lv_at hl 0 rfl) ?_
  refine r_get C fr_X1_9 hW a_8 rfl rfl dX1_readNumber_5 ?_
  refine lv_istore_n (lv' := [(3, .int (z_1 8 1)), (0, .ref (q 8)), (1, .int x1), (2, .int x2)]) hx hb dX1_readNumber_8 rfl hl (by decide) rfl (fun ls hl => ?_)
  refine lv_iconst (v := 0) hx hb dX1_readNumber_9 (by decide) ?_
  refine lv_istore (lv' := [(4, .int 0), (3, .int (z_1 8 1)), (0, .ref (q 8)), (1, .int x1), (2, .int x2)]) hx hb dX1_readNumber_10 hl (by decide) rfl (fun ls hl => ?_)
  refine lv_iconst (v := 0) hx hb dX1_readNumber_12 (by decide) ?_
  refine lv_istore (lv' := [(5, .int 0), (4, .int 0), (3, .int (z_1 8 1)), (0, .ref (q 8)), (1, .int x1), (2, .int x2)]) hx hb dX1_readNumber_13 hl (by decide) rfl (fun ls hl => ?_)
  exact t_X1_readNumber_15 C 1000000 a_8 h hW hF (lv_sub hl [3, 4, 5, 2, 1, 0] rfl)
def f_X1_readFlow_31  (I : MI) (R : MR) (o1 : Nat) (x2 : Int32) (y0 : Int32) : Option (MI) := (if (I 8 2) = 0 then (bd (f_X5_addFlow I R o1 x2 y0) (fun z_42 => some (z_42))) else (some (I)))
set_option maxHeartbeats 4000000 in
set_option maxRecDepth 100000 in
theorem t_X1_readFlow_31 {p : Program} {l : Launch} {e : Env} {s : State} {m : MethodId} {args : Array Value} {below : List Frame} {meth : Method} {c : Code} {E : EV} {q : Nat → Nat} {al : Nat → Bool} {n : Nat} (C : CX p s m args meth c E cX1_readFlow RX1 4 none) {res : MI}   {I : MI} {R : MR} {o1 : Nat} {x2 : Int32} {y0 : Int32} (a_8 : al 8 = true) (a_o1 : al o1 = true) (k_o1 : kd o1 = 5) {H : Heap} {locs : List Loc} {ls : Array Slot} (h : f_X1_readFlow_31 I R o1 x2 y0 = some res) (hW : Wd E q al s.heap I R n H locs) (hF : Fx al R) (hl : lv_has ls 4 [(0, .ref (q 8)), (1, .ref (q o1)), (2, .int x2)]) : W p l e (rmL 4 0 0) s m args below meth c H locs 0 0 (MQ below (Pst E q none al res R n) args s 0 0 (Bs E)) (F0 m 31 ls [.int y0]) := by
  have hx := C.1
  have hb := C.2.1
  unfold f_X1_readFlow_31 at h
  refine lv_istore_n (lv' := [(3, .int y0), (0, .ref (q 8)), (1, .ref (q o1)), (2, .int x2)]) hx hb dX1_readFlow_31 rfl hl (by decide) rfl (fun ls hl => ?_)
  refine lv_aload_n hx hb dX1_readFlow_32 rfl (lv_at hl 1 rfl) ?_
  refine r_get C fr_X1_15 hW a_8 rfl rfl dX1_readFlow_33 ?_
  refine lv_if_ne (tgt := 45) hx hb dX1_readFlow_36 (by decide) (fun c_36 => ?_) (fun c_36 => ?_)
  · have h := (if_neg c_36).symm.trans h
    have h := Option.some.inj h
    subst h
    exact r_vret C hW dX1_readFlow_45
  · have h := (if_pos c_36).symm.trans h
    refine lv_aload_n hx hb dX1_readFlow_39 rfl (lv_at hl 2 rfl) ?_
    refine lv_iload_n hx hb dX1_readFlow_40 rfl (lv_at hl 3 rfl) ?_
    refine lv_iload_n hx hb dX1_readFlow_41 rfl (lv_at hl 0 rfl) ?_
    obtain ⟨z_42, e_z_42, h⟩ := bd_some h
    refine r_callV (v := none) (As := [.int x2, .int y0]) (rest := []) C ml_X5_addFlow gm_470 gm_471 gm_472 (ci := 5) rfl hW a_o1 k_o1 hl.1 (c_X5_addFlow a_o1 k_o1 hF e_z_42) rfl ⟨(by decide), (by decide)⟩ ⟨(by decide), (by decide)⟩ rfl (Nat.le_of_ble_eq_true rfl) dX1_readFlow_42 (fun H locs hW => ?_)
    have h := Option.some.inj h
    subst h
    exact r_vret C hW dX1_readFlow_45
def f_X1_readFlow (I : MI) (R : MR) (o1 : Nat) : Option (MI) := bd (f_X5_nextFrom I R o1) (fun z_2 => bd (f_X1_readNumber I R z_2 400) (fun z_8 => (if (z_8.2 8 2) = 0 then (bd (f_X1_readNumber z_8.2 R 0 500) (fun z_24 => f_X1_readFlow_31 z_24.2 R o1 z_8.1 z_24.1)) else (f_X1_readFlow_31 z_8.2 R o1 z_8.1 0))))
set_option maxHeartbeats 4000000 in
set_option maxRecDepth 100000 in
theorem c_X1_readFlow {l : Launch} {E : EV} {q : Nat → Nat} {al : Nat → Bool} {n : Nat} {I : MI} {R : MR} {o1 : Nat} (a_8 : al 8 = true) (a_o1 : al o1 = true) (k_o1 : kd o1 = 5) (hF : Fx al R) {res : MI} (h : f_X1_readFlow I R o1 = some res) : Ct l yX1_readFlow cX1_readFlow 4 none 4 0 0 E q al I R n [.ref (q 8), .ref (q o1)] none al res R n := by
  refine Ct.of (own := RX1) (mn := "readFlow") (by decide) rfl rfl (Nat.le_of_ble_eq_true rfl) ?_
  intro p e s m args below meth c ls C hmn hargs hW hl
  have hx := C.1
  have hb := C.2.1
  have hl : lv_has ls 4 [(0, .ref (q 8)), (1, .ref (q o1))] := hl
  unfold f_X1_readFlow at h
  refine lv_aload_n hx hb dX1_readFlow_0 rfl (lv_at hl 0 rfl) ?_
  refine lv_aload_n hx hb dX1_readFlow_1 rfl (lv_at hl 1 rfl) ?_
  obtain ⟨z_2, e_z_2, h⟩ := bd_some h
  refine r_callV (v := (some (.int z_2))) (As := []) (rest := [.ref (q 8)]) C ml_X5_nextFrom gm_461 gm_462 gm_463 (ci := 5) rfl hW a_o1 k_o1 hl.1 (c_X5_nextFrom a_o1 k_o1 hF e_z_2) rfl ⟨(by decide), (by decide)⟩ ⟨(by decide), (by decide)⟩ rfl (Nat.le_of_ble_eq_true rfl) dX1_readFlow_2 (fun H locs hW => ?_)
  refine lv_sipush (v := 400) hx hb dX1_readFlow_5 (by decide) ?_
  obtain ⟨z_8, e_z_8, h⟩ := bd_some h
  refine r_callV (v := (some (.int z_8.1))) (As := [.int z_2, .int 400]) (rest := []) C ml_X1_readNumber gm_465 gm_467 gs_9 (ci := 1) rfl hW a_8 rfl hl.1 (c_X1_readNumber a_8 hF e_z_8) rfl ⟨(by decide), (by decide)⟩ ⟨(by decide), (by decide)⟩ rfl (Nat.le_of_ble_eq_true rfl) dX1_readFlow_8 (fun H locs hW => ?_)
  refine lv_istore_n (lv' := [(2, .int z_8.1), (0, .ref (q 8)), (1, .ref (q o1))]) hx hb dX1_readFlow_11 rfl hl (by decide) rfl (fun ls hl => ?_)
  refine lv_aload_n hx hb dX1_readFlow_12 rfl (lv_at hl 1 rfl) ?_
  refine r_get C fr_X1_15 hW a_8 rfl rfl dX1_readFlow_13 ?_
  refine lv_if_ne (tgt := 30) hx hb dX1_readFlow_16 (by decide) (fun c_16 => ?_) (fun c_16 => ?_)
  · have h := (if_neg c_16).symm.trans h
    refine lv_iconst (v := 0) hx hb dX1_readFlow_30 (by decide) ?_
    exact t_X1_readFlow_31 C a_8 a_o1 k_o1 h hW hF (lv_sub hl [1, 2, 0] rfl)
  · have h := (if_pos c_16).symm.trans h
    refine lv_aload_n hx hb dX1_readFlow_19 rfl (lv_at hl 1 rfl) ?_
    refine lv_iconst (v := 0) hx hb dX1_readFlow_20 (by decide) ?_
    refine lv_sipush (v := 500) hx hb dX1_readFlow_21 (by decide) ?_
    obtain ⟨z_24, e_z_24, h⟩ := bd_some h
    refine r_callV (v := (some (.int z_24.1))) (As := [.int 0, .int 500]) (rest := []) C ml_X1_readNumber gm_465 gm_467 gs_9 (ci := 1) rfl hW a_8 rfl hl.1 (c_X1_readNumber a_8 hF e_z_24) rfl ⟨(by decide), (by decide)⟩ ⟨(by decide), (by decide)⟩ rfl (Nat.le_of_ble_eq_true rfl) dX1_readFlow_24 (fun H locs hW => ?_)
    refine lv_goto (tgt := 31) hx hb dX1_readFlow_27 (by decide) ?_
    exact t_X1_readFlow_31 C a_8 a_o1 k_o1 h hW hF (lv_sub hl [1, 2, 0] rfl)
def f_X1_readSetting (I : MI) (R : MR) (x1 : Int32) (o2 : Nat) : Option (MI) := (if x1 = 1 then (bd (f_X1_readNumber I R 0 100) (fun z_37 => lt (p2 z_37.2 o2 0 z_37.1) (fun I_40 => some (I_40)))) else (if x1 = 2 then (bd (f_X1_readNumber I R 1 100) (fun z_51 => lt (p2 z_51.2 o2 1 z_51.1) (fun I_54 => some (I_54)))) else (if x1 = 3 then (bd (f_X1_readNumber I R 0 200) (fun z_66 => lt (p2 z_66.2 o2 2 z_66.1) (fun I_69 => some (I_69)))) else (if x1 = 4 then (bd (f_X1_readNumber I R 0 500) (fun z_81 => lt (p2 z_81.2 o2 3 z_81.1) (fun I_84 => some (I_84)))) else (bd (f_X1_readNumber I R 1 500) (fun z_96 => lt (p2 z_96.2 o2 4 z_96.1) (fun I_99 => some (I_99))))))))
set_option maxHeartbeats 4000000 in
set_option maxRecDepth 100000 in
theorem c_X1_readSetting {l : Launch} {E : EV} {q : Nat → Nat} {al : Nat → Bool} {n : Nat} {I : MI} {R : MR} {x1 : Int32} {o2 : Nat} (a_8 : al 8 = true) (a_o2 : al o2 = true) (k_o2 : kd o2 = 5) (hF : Fx al R) {res : MI} (h : f_X1_readSetting I R x1 o2 = some res) : Ct l yX1_readSetting cX1_readSetting 3 none 4 0 0 E q al I R n [.ref (q 8), .int x1, .ref (q o2)] none al res R n := by
  refine Ct.of (own := RX1) (mn := "readSetting") (by decide) rfl rfl (Nat.le_of_ble_eq_true rfl) ?_
  intro p e s m args below meth c ls C hmn hargs hW hl
  have hx := C.1
  have hb := C.2.1
  have hl : lv_has ls 3 [(0, .ref (q 8)), (1, .int x1), (2, .ref (q o2))] := hl
  unfold f_X1_readSetting at h
  refine lv_iload_n hx hb dX1_readSetting_0 rfl (lv_at hl 1 rfl) ?_
  by_cases c_1_1 : x1 = 1
  · have h := (if_pos c_1_1).symm.trans h
    refine lv_tableIn (off := 31) (tgt := 32) hx hb dX1_readSetting_1 (by rw [c_1_1]; decide) (by rw [c_1_1]; decide) (by rw [c_1_1]; decide) (by decide) ?_
    refine lv_aload_n hx hb dX1_readSetting_32 rfl (lv_at hl 2 rfl) ?_
    refine lv_aload_n hx hb dX1_readSetting_33 rfl (lv_at hl 0 rfl) ?_
    refine lv_iconst (v := 0) hx hb dX1_readSetting_34 (by decide) ?_
    refine lv_bipush (v := 100) hx hb dX1_readSetting_35 (by decide) ?_
    obtain ⟨z_37, e_z_37, h⟩ := bd_some h
    refine r_callV (v := (some (.int z_37.1))) (As := [.int 0, .int 100]) (rest := [.ref (q o2)]) C ml_X1_readNumber gm_465 gm_467 gs_9 (ci := 1) rfl hW a_8 rfl hl.1 (c_X1_readNumber a_8 hF e_z_37) rfl ⟨(by decide), (by decide)⟩ ⟨(by decide), (by decide)⟩ rfl (Nat.le_of_ble_eq_true rfl) dX1_readSetting_37 (fun H locs hW => ?_)
    obtain ⟨I_40, e_I_40, h⟩ := lt_some h
    refine r_put C fr_X1_81 (Or.inl rfl) hW a_o2 k_o2 rfl rfl rfl dX1_readSetting_40 (fun H locs hW => ?_)
    rw [← e_I_40] at hW
    refine lv_goto (tgt := 102) hx hb dX1_readSetting_43 (by decide) ?_
    have h := Option.some.inj h
    subst h
    exact r_vret C hW dX1_readSetting_102
  · have h := (if_neg c_1_1).symm.trans h
    by_cases c_1_2 : x1 = 2
    · have h := (if_pos c_1_2).symm.trans h
      refine lv_tableIn (off := 45) (tgt := 46) hx hb dX1_readSetting_1 (by rw [c_1_2]; decide) (by rw [c_1_2]; decide) (by rw [c_1_2]; decide) (by decide) ?_
      refine lv_aload_n hx hb dX1_readSetting_46 rfl (lv_at hl 2 rfl) ?_
      refine lv_aload_n hx hb dX1_readSetting_47 rfl (lv_at hl 0 rfl) ?_
      refine lv_iconst (v := 1) hx hb dX1_readSetting_48 (by decide) ?_
      refine lv_bipush (v := 100) hx hb dX1_readSetting_49 (by decide) ?_
      obtain ⟨z_51, e_z_51, h⟩ := bd_some h
      refine r_callV (v := (some (.int z_51.1))) (As := [.int 1, .int 100]) (rest := [.ref (q o2)]) C ml_X1_readNumber gm_465 gm_467 gs_9 (ci := 1) rfl hW a_8 rfl hl.1 (c_X1_readNumber a_8 hF e_z_51) rfl ⟨(by decide), (by decide)⟩ ⟨(by decide), (by decide)⟩ rfl (Nat.le_of_ble_eq_true rfl) dX1_readSetting_51 (fun H locs hW => ?_)
      obtain ⟨I_54, e_I_54, h⟩ := lt_some h
      refine r_put C fr_X1_84 (Or.inl rfl) hW a_o2 k_o2 rfl rfl rfl dX1_readSetting_54 (fun H locs hW => ?_)
      rw [← e_I_54] at hW
      refine lv_goto (tgt := 102) hx hb dX1_readSetting_57 (by decide) ?_
      have h := Option.some.inj h
      subst h
      exact r_vret C hW dX1_readSetting_102
    · have h := (if_neg c_1_2).symm.trans h
      by_cases c_1_3 : x1 = 3
      · have h := (if_pos c_1_3).symm.trans h
        refine lv_tableIn (off := 59) (tgt := 60) hx hb dX1_readSetting_1 (by rw [c_1_3]; decide) (by rw [c_1_3]; decide) (by rw [c_1_3]; decide) (by decide) ?_
        refine lv_aload_n hx hb dX1_readSetting_60 rfl (lv_at hl 2 rfl) ?_
        refine lv_aload_n hx hb dX1_readSetting_61 rfl (lv_at hl 0 rfl) ?_
        refine lv_iconst (v := 0) hx hb dX1_readSetting_62 (by decide) ?_
        refine lv_sipush (v := 200) hx hb dX1_readSetting_63 (by decide) ?_
        obtain ⟨z_66, e_z_66, h⟩ := bd_some h
        refine r_callV (v := (some (.int z_66.1))) (As := [.int 0, .int 200]) (rest := [.ref (q o2)]) C ml_X1_readNumber gm_465 gm_467 gs_9 (ci := 1) rfl hW a_8 rfl hl.1 (c_X1_readNumber a_8 hF e_z_66) rfl ⟨(by decide), (by decide)⟩ ⟨(by decide), (by decide)⟩ rfl (Nat.le_of_ble_eq_true rfl) dX1_readSetting_66 (fun H locs hW => ?_)
        obtain ⟨I_69, e_I_69, h⟩ := lt_some h
        refine r_put C fr_X1_87 (Or.inl rfl) hW a_o2 k_o2 rfl rfl rfl dX1_readSetting_69 (fun H locs hW => ?_)
        rw [← e_I_69] at hW
        refine lv_goto (tgt := 102) hx hb dX1_readSetting_72 (by decide) ?_
        have h := Option.some.inj h
        subst h
        exact r_vret C hW dX1_readSetting_102
      · have h := (if_neg c_1_3).symm.trans h
        by_cases c_1_4 : x1 = 4
        · have h := (if_pos c_1_4).symm.trans h
          refine lv_tableIn (off := 74) (tgt := 75) hx hb dX1_readSetting_1 (by rw [c_1_4]; decide) (by rw [c_1_4]; decide) (by rw [c_1_4]; decide) (by decide) ?_
          refine lv_aload_n hx hb dX1_readSetting_75 rfl (lv_at hl 2 rfl) ?_
          refine lv_aload_n hx hb dX1_readSetting_76 rfl (lv_at hl 0 rfl) ?_
          refine lv_iconst (v := 0) hx hb dX1_readSetting_77 (by decide) ?_
          refine lv_sipush (v := 500) hx hb dX1_readSetting_78 (by decide) ?_
          obtain ⟨z_81, e_z_81, h⟩ := bd_some h
          refine r_callV (v := (some (.int z_81.1))) (As := [.int 0, .int 500]) (rest := [.ref (q o2)]) C ml_X1_readNumber gm_465 gm_467 gs_9 (ci := 1) rfl hW a_8 rfl hl.1 (c_X1_readNumber a_8 hF e_z_81) rfl ⟨(by decide), (by decide)⟩ ⟨(by decide), (by decide)⟩ rfl (Nat.le_of_ble_eq_true rfl) dX1_readSetting_81 (fun H locs hW => ?_)
          obtain ⟨I_84, e_I_84, h⟩ := lt_some h
          refine r_put C fr_X1_90 (Or.inl rfl) hW a_o2 k_o2 rfl rfl rfl dX1_readSetting_84 (fun H locs hW => ?_)
          rw [← e_I_84] at hW
          refine lv_goto (tgt := 102) hx hb dX1_readSetting_87 (by decide) ?_
          have h := Option.some.inj h
          subst h
          exact r_vret C hW dX1_readSetting_102
        · have h := (if_neg c_1_4).symm.trans h
          have n_1 := lv_neT (a := 1) c_1_1 (by decide)
          have n_2 := lv_neT (a := 2) c_1_2 (by decide)
          have n_3 := lv_neT (a := 3) c_1_3 (by decide)
          have n_4 := lv_neT (a := 4) c_1_4 (by decide)
          refine lv_tableOut (tgt := 90) hx hb dX1_readSetting_1 (by omega) (by decide) ?_
          refine lv_aload_n hx hb dX1_readSetting_90 rfl (lv_at hl 2 rfl) ?_
          refine lv_aload_n hx hb dX1_readSetting_91 rfl (lv_at hl 0 rfl) ?_
          refine lv_iconst (v := 1) hx hb dX1_readSetting_92 (by decide) ?_
          refine lv_sipush (v := 500) hx hb dX1_readSetting_93 (by decide) ?_
          obtain ⟨z_96, e_z_96, h⟩ := bd_some h
          refine r_callV (v := (some (.int z_96.1))) (As := [.int 1, .int 500]) (rest := [.ref (q o2)]) C ml_X1_readNumber gm_465 gm_467 gs_9 (ci := 1) rfl hW a_8 rfl hl.1 (c_X1_readNumber a_8 hF e_z_96) rfl ⟨(by decide), (by decide)⟩ ⟨(by decide), (by decide)⟩ rfl (Nat.le_of_ble_eq_true rfl) dX1_readSetting_96 (fun H locs hW => ?_)
          obtain ⟨I_99, e_I_99, h⟩ := lt_some h
          refine r_put C fr_X1_93 (Or.inl rfl) hW a_o2 k_o2 rfl rfl rfl dX1_readSetting_99 (fun H locs hW => ?_)
          rw [← e_I_99] at hW
          have h := Option.some.inj h
          subst h
          exact r_vret C hW dX1_readSetting_102
def f_X1_init (q : Nat → Nat) (I : MI) (R : MR) (al : Nat → Bool) (n : Nat) (o1 : Nat) : Option (MI × MR) := lt (p2 I 8 1 0) (fun I_6 => lt (p2 I_6 8 2 0) (fun I_11 => gd (al 9 = false ∧ q 9 = n ∧ kd 9 = 11 ∧ (6 : Int32).toNatClampNeg = ln 9) (lt (zI I_11 9) (fun I_17 => lt (zR R 9) (fun R_17 => lt (pq R_17 8 3 (some 9)) (fun R_19 => lt (pq R_19 8 0 (some o1)) (fun R_24 => some (I_17, R_24))))))))
set_option maxHeartbeats 4000000 in
set_option maxRecDepth 100000 in
theorem c_X1_init {l : Launch} {E : EV} {q : Nat → Nat} {al : Nat → Bool} {n : Nat} {I : MI} {R : MR} {o1 : Nat} (a_8 : al 8 = true) (a_o1 : al o1 = true) (k_o1 : kd o1 = 6) {res : MI × MR} (h : f_X1_init q I R al n o1 = some res) : Ct l yX1_init cX1_init 2 none 1 1 6 E q al I R n [.ref (q 8), .ref (q o1)] none (alu al 9) res.1 res.2 (n + 1) := by
  refine Ct.of (own := RX1) (mn := "<init>") (by decide) rfl rfl (Nat.le_of_ble_eq_true rfl) ?_
  intro p e s m args below meth c ls C hmn hargs hW hl
  have hx := C.1
  have hb := C.2.1
  have hl : lv_has ls 2 [(0, .ref (q 8)), (1, .ref (q o1))] := hl
  unfold f_X1_init at h
  refine lv_aload_n hx hb dX1_init_0 rfl (lv_at hl 0 rfl) ?_
  refine r_obj C gm_49 gm_21 gm_22 hl.1 ⟨Nat.le_of_ble_eq_true rfl, Nat.le_of_ble_eq_true rfl⟩ dX1_init_1 ?_
  refine lv_aload_n hx hb dX1_init_4 rfl (lv_at hl 0 rfl) ?_
  refine lv_iconst (v := 0) hx hb dX1_init_5 (by decide) ?_
  obtain ⟨I_6, e_I_6, h⟩ := lt_some h
  refine r_put C fr_X1_9 (Or.inl rfl) hW a_8 rfl rfl rfl rfl dX1_init_6 (fun H locs hW => ?_)
  rw [← e_I_6] at hW
  refine lv_aload_n hx hb dX1_init_9 rfl (lv_at hl 0 rfl) ?_
  refine lv_iconst (v := 0) hx hb dX1_init_10 (by decide) ?_
  obtain ⟨I_11, e_I_11, h⟩ := lt_some h
  refine r_put C fr_X1_15 (Or.inl rfl) hW a_8 rfl rfl rfl rfl dX1_init_11 (fun H locs hW => ?_)
  rw [← e_I_11] at hW
  refine lv_aload_n hx hb dX1_init_14 rfl (lv_at hl 0 rfl) ?_
  refine lv_bipush (v := 6) hx hb dX1_init_15 (by decide) ?_
  obtain ⟨g_17, h⟩ := gd_some h
  obtain ⟨I_17, e_I_17, h⟩ := lt_some h
  obtain ⟨R_17, e_R_17, h⟩ := lt_some h
  refine r_newa (at_ := .boolean) C gm_42 (Or.inr (Or.inr ⟨rfl, rfl⟩)) hW g_17.1 g_17.2.1 g_17.2.2.1 (by decide) g_17.2.2.2 (by rw [← g_17.2.2.2]; decide) (by decide) (by rw [← g_17.2.2.2]; decide) dX1_init_17 (fun H hW => ?_)
  rw [← g_17.2.2.2]
  rw [← e_I_17, ← e_R_17] at hW
  refine W.widen (k := 1) (n := 6) (by decide) (by decide) ?_
  have a_8_17 : (alu al 9) 8 = true := alu_old a_8
  have a_o1_17 : (alu al 9) o1 = true := alu_old a_o1
  have a_9_17 : (alu al 9) 9 = true := alu_new
  have k_9_17 : kd 9 = 11 := g_17.2.2.1
  obtain ⟨R_19, e_R_19, h⟩ := lt_some h
  refine r_putq C fr_X1_18 (Or.inr ⟨rfl, hmn, ⟨_, rfl, rfl⟩⟩) hW a_8_17 rfl rfl a_9_17 k_9_17 rfl rfl dX1_init_19 (fun H locs hW => ?_)
  rw [← e_R_19] at hW
  refine lv_aload_n hx hb dX1_init_22 rfl (lv_at hl 0 rfl) ?_
  refine lv_aload_n hx hb dX1_init_23 rfl (lv_at hl 1 rfl) ?_
  obtain ⟨R_24, e_R_24, h⟩ := lt_some h
  refine r_putq C fr_X1_22 (Or.inr ⟨rfl, hmn, ⟨_, rfl, rfl⟩⟩) hW a_8_17 rfl rfl a_o1_17 k_o1 rfl rfl dX1_init_24 (fun H locs hW => ?_)
  rw [← e_R_24] at hW
  have h := Option.some.inj h
  subst h
  exact r_vret C hW dX1_init_27
def f_X1_wordText (I : MI) (R : MR) (x0 : Int32) : Option (Nat) := (if x0 = 0 then (some (0)) else (if x0 = 1 then (some (1)) else (if x0 = 2 then (some (2)) else (if x0 = 3 then (some (3)) else (if x0 = 4 then (some (4)) else (some (5)))))))
set_option maxHeartbeats 4000000 in
set_option maxRecDepth 100000 in
theorem c_X1_wordText {l : Launch} {E : EV} {q : Nat → Nat} {al : Nat → Bool} {n : Nat} {I : MI} {R : MR} {x0 : Int32}  {res : Nat} (h : f_X1_wordText I R x0 = some res) : Ct l yX1_wordText cX1_wordText 1 (some (.object "java/lang/String")) 1 0 0 E q al I R n [.int x0] (some (.ref (E.2.2.1 res))) al I R n := by
  refine Ct.of (own := RX1) (mn := "wordText") (by decide) rfl rfl (Nat.le_of_ble_eq_true rfl) ?_
  intro p e s m args below meth c ls C hmn hargs hW hl
  have hx := C.1
  have hb := C.2.1
  have hl : lv_has ls 1 [(0, .int x0)] := hl
  unfold f_X1_wordText at h
  refine lv_iload_n hx hb dX1_wordText_0 rfl (lv_at hl 0 rfl) ?_
  by_cases c_1_0 : x0 = 0
  · have h := (if_pos c_1_0).symm.trans h
    refine lv_tableIn (off := 35) (tgt := 36) hx hb dX1_wordText_1 (by rw [c_1_0]; decide) (by rw [c_1_0]; decide) (by rw [c_1_0]; decide) (by decide) ?_
    refine va_ldcS hx hb C.2.2.2.1 (C.2.2.2.2.2.2.1.2.1 0 _ rfl) dX1_wordText_36 ?_
    have h := Option.some.inj h
    subst h
    exact r_aret C rfl hW (Or.inr ⟨_, rfl⟩) dX1_wordText_38
  · have h := (if_neg c_1_0).symm.trans h
    by_cases c_1_1 : x0 = 1
    · have h := (if_pos c_1_1).symm.trans h
      refine lv_tableIn (off := 38) (tgt := 39) hx hb dX1_wordText_1 (by rw [c_1_1]; decide) (by rw [c_1_1]; decide) (by rw [c_1_1]; decide) (by decide) ?_
      refine va_ldcS hx hb C.2.2.2.1 (C.2.2.2.2.2.2.1.2.1 1 _ rfl) dX1_wordText_39 ?_
      have h := Option.some.inj h
      subst h
      exact r_aret C rfl hW (Or.inr ⟨_, rfl⟩) dX1_wordText_41
    · have h := (if_neg c_1_1).symm.trans h
      by_cases c_1_2 : x0 = 2
      · have h := (if_pos c_1_2).symm.trans h
        refine lv_tableIn (off := 41) (tgt := 42) hx hb dX1_wordText_1 (by rw [c_1_2]; decide) (by rw [c_1_2]; decide) (by rw [c_1_2]; decide) (by decide) ?_
        refine va_ldcS hx hb C.2.2.2.1 (C.2.2.2.2.2.2.1.2.1 2 _ rfl) dX1_wordText_42 ?_
        have h := Option.some.inj h
        subst h
        exact r_aret C rfl hW (Or.inr ⟨_, rfl⟩) dX1_wordText_44
      · have h := (if_neg c_1_2).symm.trans h
        by_cases c_1_3 : x0 = 3
        · have h := (if_pos c_1_3).symm.trans h
          refine lv_tableIn (off := 44) (tgt := 45) hx hb dX1_wordText_1 (by rw [c_1_3]; decide) (by rw [c_1_3]; decide) (by rw [c_1_3]; decide) (by decide) ?_
          refine va_ldcS hx hb C.2.2.2.1 (C.2.2.2.2.2.2.1.2.1 3 _ rfl) dX1_wordText_45 ?_
          have h := Option.some.inj h
          subst h
          exact r_aret C rfl hW (Or.inr ⟨_, rfl⟩) dX1_wordText_47
        · have h := (if_neg c_1_3).symm.trans h
          by_cases c_1_4 : x0 = 4
          · have h := (if_pos c_1_4).symm.trans h
            refine lv_tableIn (off := 47) (tgt := 48) hx hb dX1_wordText_1 (by rw [c_1_4]; decide) (by rw [c_1_4]; decide) (by rw [c_1_4]; decide) (by decide) ?_
            refine va_ldcS hx hb C.2.2.2.1 (C.2.2.2.2.2.2.1.2.1 4 _ rfl) dX1_wordText_48 ?_
            have h := Option.some.inj h
            subst h
            exact r_aret C rfl hW (Or.inr ⟨_, rfl⟩) dX1_wordText_50
          · have h := (if_neg c_1_4).symm.trans h
            have n_0 := lv_neT (a := 0) c_1_0 (by decide)
            have n_1 := lv_neT (a := 1) c_1_1 (by decide)
            have n_2 := lv_neT (a := 2) c_1_2 (by decide)
            have n_3 := lv_neT (a := 3) c_1_3 (by decide)
            have n_4 := lv_neT (a := 4) c_1_4 (by decide)
            refine lv_tableOut (tgt := 51) hx hb dX1_wordText_1 (by omega) (by decide) ?_
            refine va_ldcS hx hb C.2.2.2.1 (C.2.2.2.2.2.2.1.2.1 5 _ rfl) dX1_wordText_51 ?_
            have h := Option.some.inj h
            subst h
            exact r_aret C rfl hW (Or.inr ⟨_, rfl⟩) dX1_wordText_53
def f_X1_isWord_17  : Nat → MI → MR → Nat → Int32 → Int32 → Option (Int32)
  | 0, _, _, _, _, _ => none
  | nn + 1, I, R, o1, x2, x3 => gd (o1 < 6) ((if (nI (lenS.getD o1 0)) ≤ x3 then (some (1)) else (gd (o1 < 6 ∧ ix x3 (lenS.getD o1 0)) (bd (f_X6_at I R (x2 + x3)) (fun z_37 => (if ((bytS.getD o1 []).getD x3.toNatClampNeg 0) = z_37 then (f_X1_isWord_17 nn I R o1 x2 (x3 + 1)) else (some (0))))))))
set_option maxHeartbeats 4000000 in
set_option maxRecDepth 100000 in
theorem t_X1_isWord_17 {p : Program} {l : Launch} {e : Env} {s : State} {m : MethodId} {args : Array Value} {below : List Frame} {meth : Method} {c : Code} {E : EV} {q : Nat → Nat} {al : Nat → Bool} {n : Nat} (C : CX p s m args meth c E cX1_isWord RX1 4 (some .boolean)) {res : Int32}   : ∀ (nn : Nat) {I : MI} {R : MR} {o1 : Nat} {x2 : Int32} {x3 : Int32} {H : Heap} {locs : List Loc} {ls : Array Slot} (a_8 : al 8 = true) (h : f_X1_isWord_17 nn I R o1 x2 x3 = some res) (hW : Wd E q al s.heap I R n H locs) (hF : Fx al R) (hl : lv_has ls 4 [(0, .ref (q 8)), (1, .ref (E.2.2.1 o1)), (2, .int x2), (3, .int x3)]), W p l e (rmL 5 0 0) s m args below meth c H locs 0 0 (MQ below (Pst E q (some (.int res)) al I R n) args s 0 0 (Bs E)) (F0 m 17 ls []) := by
  have hx := C.1
  have hb := C.2.1
  intro nn
  induction nn with
  | zero =>
    intro I R o1 x2 x3 H locs ls a_8 h
    cases (show (none : Option (Int32)) = some res from h)
  | succ nn ih =>
    intro I R o1 x2 x3 H locs ls a_8 h hW hF hl
    rw [f_X1_isWord_17.eq_2] at h
    refine lv_iload_n hx hb dX1_isWord_17 rfl (lv_at hl 3 rfl) ?_
    refine lv_aload_n hx hb dX1_isWord_18 rfl (lv_at hl 1 rfl) ?_
    obtain ⟨g_19, h⟩ := gd_some h
    refine r_slen C hW g_19 hl.1 (by decide) (Nat.le_of_ble_eq_true rfl) dX1_isWord_19 (fun H locs hW => ?_)
    refine lv_icmp_ge (tgt := 51) hx hb dX1_isWord_22 (by decide) (fun c_22 => ?_) (fun c_22 => ?_)
    · have h := (if_pos c_22).symm.trans h
      refine lv_iconst (v := 1) hx hb dX1_isWord_51 (by decide) ?_
      have h := Option.some.inj h
      subst h
      exact r_zret C hW (Or.inr rfl) dX1_isWord_52
    · have h := (if_neg c_22).symm.trans h
      refine lv_aload_n hx hb dX1_isWord_25 rfl (lv_at hl 1 rfl) ?_
      refine lv_iload_n hx hb dX1_isWord_26 rfl (lv_at hl 3 rfl) ?_
      obtain ⟨g_27, h⟩ := gd_some h
      refine r_schar C hW g_27.1 g_27.2 hl.1 (by decide) (Nat.le_of_ble_eq_true rfl) dX1_isWord_27 (fun H locs hW => ?_)
      refine lv_aload_n hx hb dX1_isWord_30 rfl (lv_at hl 0 rfl) ?_
      have ap_31 : al 6 = true := hW.cl a_8 (hF _ 0 _ a_8 rfl)
      refine r_getq C fr_X1_22 hW a_8 rfl rfl (hF _ 0 _ a_8 rfl) dX1_isWord_31 ?_
      refine lv_iload_n hx hb dX1_isWord_34 rfl (lv_at hl 2 rfl) ?_
      refine lv_iload_n hx hb dX1_isWord_35 rfl (lv_at hl 3 rfl) ?_
      refine lv_iadd hx hb dX1_isWord_36 ?_
      obtain ⟨z_37, e_z_37, h⟩ := bd_some h
      refine r_callV (v := (some (.int z_37))) (As := [.int (x2 + x3)]) (rest := [.int ((bytS.getD o1 []).getD x3.toNatClampNeg 0)]) C ml_X6_at gm_377 gm_378 gm_379 (ci := 6) rfl hW ap_31 rfl hl.1 (c_X6_at ap_31 hF e_z_37) rfl ⟨(by decide), (by decide)⟩ ⟨(by decide), (by decide)⟩ rfl (Nat.le_of_ble_eq_true rfl) dX1_isWord_37 (fun H locs hW => ?_)
      refine lv_icmp_eq (tgt := 45) hx hb dX1_isWord_40 (by decide) (fun c_40 => ?_) (fun c_40 => ?_)
      · have h := (if_pos c_40).symm.trans h
        refine lv_iinc (v := x3 + 1) (lv' := [(3, .int (x3 + 1)), (0, .ref (q 8)), (1, .ref (E.2.2.1 o1)), (2, .int x2)]) hx hb dX1_isWord_45 hl (k := 3) rfl rfl (by decide) rfl (fun ls hl => ?_)
        refine lv_goto (tgt := 17) hx hb dX1_isWord_48 (by decide) ?_
        exact ih a_8 h hW hF (lv_sub hl [1, 2, 3, 0] rfl)
      · have h := (if_neg c_40).symm.trans h
        refine lv_iconst (v := 0) hx hb dX1_isWord_43 (by decide) ?_
        have h := Option.some.inj h
        subst h
        exact r_zret C hW (Or.inl rfl) dX1_isWord_44
def f_X1_isWord (I : MI) (R : MR) (x1 : Nat) (x2 : Int32) : Option (Int32) := gd (x1 < 6) ((if (nI (lenS.getD x1 0)) = ((I 8 1) - x2) then (f_X1_isWord_17 1000000 I R x1 x2 0) else (some (0))))
set_option maxHeartbeats 4000000 in
set_option maxRecDepth 100000 in
theorem c_X1_isWord {l : Launch} {E : EV} {q : Nat → Nat} {al : Nat → Bool} {n : Nat} {I : MI} {R : MR} {x1 : Nat} {x2 : Int32} (a_8 : al 8 = true) (hF : Fx al R) {res : Int32} (h : f_X1_isWord I R x1 x2 = some res) : Ct l yX1_isWord cX1_isWord 4 (some .boolean) 5 0 0 E q al I R n [.ref (q 8), .ref (E.2.2.1 x1), .int x2] (some (.int res)) al I R n := by
  refine Ct.of (own := RX1) (mn := "isWord") (by decide) rfl rfl (Nat.le_of_ble_eq_true rfl) ?_
  intro p e s m args below meth c ls C hmn hargs hW hl
  have hx := C.1
  have hb := C.2.1
  have hl : lv_has ls 4 [(0, .ref (q 8)), (1, .ref (E.2.2.1 x1)), (2, .int x2)] := hl
  unfold f_X1_isWord at h
  refine lv_aload_n hx hb dX1_isWord_0 rfl (lv_at hl 1 rfl) ?_
  obtain ⟨g_1, h⟩ := gd_some h
  refine r_slen C hW g_1 hl.1 (by decide) (Nat.le_of_ble_eq_true rfl) dX1_isWord_1 (fun H locs hW => ?_)
  refine lv_aload_n hx hb dX1_isWord_4 rfl (lv_at hl 0 rfl) ?_
  refine r_get C fr_X1_9 hW a_8 rfl rfl dX1_isWord_5 ?_
  refine lv_iload_n hx hb dX1_isWord_8 rfl (lv_at hl 2 rfl) ?_
  refine lv_isub hx hb dX1_isWord_9 ?_
  refine lv_icmp_eq (tgt := 15) hx hb dX1_isWord_10 (by decide) (fun c_10 => ?_) (fun c_10 => ?_)
  · have h := (if_pos c_10).symm.trans h
    refine lv_iconst (v := 0) hx hb dX1_isWord_15 (by decide) ?_
    refine lv_istore_n (lv' := [(3, .int 0), (0, .ref (q 8)), (1, .ref (E.2.2.1 x1)), (2, .int x2)]) hx hb dX1_isWord_16 rfl hl (by decide) rfl (fun ls hl => ?_)
    exact t_X1_isWord_17 C 1000000 a_8 h hW hF (lv_sub hl [1, 2, 3, 0] rfl)
  · have h := (if_neg c_10).symm.trans h
    refine lv_iconst (v := 0) hx hb dX1_isWord_13 (by decide) ?_
    have h := Option.some.inj h
    subst h
    exact r_zret C hW (Or.inl rfl) dX1_isWord_14
def f_X1_readWord_53  : Nat → MI → MR → Int32 → Int32 → Option (Int32 × MI)
  | 0, _, _, _, _ => none
  | nn + 1, I, R, x1, x2 => (if 6 ≤ x2 then (some ((-1), I)) else (bd (f_X1_wordText I R x2) (fun z_61 => bd (f_X1_isWord I R z_61 x1) (fun z_65 => (if z_65 = 0 then (f_X1_readWord_53 nn I R x1 (x2 + 1)) else (some (x2, I)))))))
set_option maxHeartbeats 4000000 in
set_option maxRecDepth 100000 in
theorem t_X1_readWord_53 {p : Program} {l : Launch} {e : Env} {s : State} {m : MethodId} {args : Array Value} {below : List Frame} {meth : Method} {c : Code} {E : EV} {q : Nat → Nat} {al : Nat → Bool} {n : Nat} (C : CX p s m args meth c E cX1_readWord RX1 3 (some .int)) {res : Int32 × MI}   : ∀ (nn : Nat) {I : MI} {R : MR} {x1 : Int32} {x2 : Int32} {H : Heap} {locs : List Loc} {ls : Array Slot} (a_8 : al 8 = true) (h : f_X1_readWord_53 nn I R x1 x2 = some res) (hW : Wd E q al s.heap I R n H locs) (hF : Fx al R) (hl : lv_has ls 3 [(0, .ref (q 8)), (1, .int x1), (2, .int x2)]), W p l e (rmL 6 0 0) s m args below meth c H locs 0 0 (MQ below (Pst E q (some (.int res.1)) al res.2 R n) args s 0 0 (Bs E)) (F0 m 53 ls []) := by
  have hx := C.1
  have hb := C.2.1
  intro nn
  induction nn with
  | zero =>
    intro I R x1 x2 H locs ls a_8 h
    cases (show (none : Option (Int32 × MI)) = some res from h)
  | succ nn ih =>
    intro I R x1 x2 H locs ls a_8 h hW hF hl
    rw [f_X1_readWord_53.eq_2] at h
    refine lv_iload_n hx hb dX1_readWord_53 rfl (lv_at hl 2 rfl) ?_
    refine lv_bipush (v := 6) hx hb dX1_readWord_54 (by decide) ?_
    refine lv_icmp_ge (tgt := 79) hx hb dX1_readWord_56 (by decide) (fun c_56 => ?_) (fun c_56 => ?_)
    · have h := (if_pos c_56).symm.trans h
      refine lv_iconst (v := (-1)) hx hb dX1_readWord_79 (by decide) ?_
      have h := Option.some.inj h
      subst h
      exact r_iret C hW dX1_readWord_80
    · have h := (if_neg c_56).symm.trans h
      refine lv_aload_n hx hb dX1_readWord_59 rfl (lv_at hl 0 rfl) ?_
      refine lv_iload_n hx hb dX1_readWord_60 rfl (lv_at hl 2 rfl) ?_
      obtain ⟨z_61, e_z_61, h⟩ := bd_some h
      refine r_callS (v := (some (.ref (E.2.2.1 z_61)))) (As := [.int x2]) (rest := [.ref (q 8)]) C ml_X1_wordText gm_392 gm_393 hW hl.1 (c_X1_wordText  e_z_61) rfl ⟨(by decide), (by decide)⟩ ⟨(by decide), (by decide)⟩ rfl (Nat.le_of_ble_eq_true rfl) dX1_readWord_61 (fun H locs hW => ?_)
      refine lv_iload_n hx hb dX1_readWord_64 rfl (lv_at hl 1 rfl) ?_
      obtain ⟨z_65, e_z_65, h⟩ := bd_some h
      refine r_callV (v := (some (.int z_65))) (As := [.ref (E.2.2.1 z_61), .int x1]) (rest := []) C ml_X1_isWord gm_401 gm_403 gs_6 (ci := 1) rfl hW a_8 rfl hl.1 (c_X1_isWord a_8 hF e_z_65) rfl ⟨(by decide), (by decide)⟩ ⟨(by decide), (by decide)⟩ rfl (Nat.le_of_ble_eq_true rfl) dX1_readWord_65 (fun H locs hW => ?_)
      refine lv_if_eq (tgt := 73) hx hb dX1_readWord_68 (by decide) (fun c_68 => ?_) (fun c_68 => ?_)
      · have h := (if_pos c_68).symm.trans h
        refine lv_iinc (v := x2 + 1) (lv' := [(2, .int (x2 + 1)), (0, .ref (q 8)), (1, .int x1)]) hx hb dX1_readWord_73 hl (k := 2) rfl rfl (by decide) rfl (fun ls hl => ?_)
        refine lv_goto (tgt := 53) hx hb dX1_readWord_76 (by decide) ?_
        exact ih a_8 h hW hF (lv_sub hl [1, 2, 0] rfl)
      · have h := (if_neg c_68).symm.trans h
        refine lv_iload_n hx hb dX1_readWord_71 rfl (lv_at hl 2 rfl) ?_
        have h := Option.some.inj h
        subst h
        exact r_iret C hW dX1_readWord_72
def f_X1_readWord_7  : Nat → MI → MR → Int32 → Int32 → Option (Int32 × MI)
  | 0, _, _, _, _ => none
  | nn + 1, I, R, x1, x2 => (if 200 ≤ x2 then (f_X1_readWord_53 1000000 I R x1 0) else (bd (f_X6_at I R (I 8 1)) (fun z_22 => bd (f_X1_isBetween I R z_22 97 122) (fun z_29 => (if z_29 = 0 then (f_X1_readWord_53 1000000 I R x1 0) else (lt (p2 I 8 1 ((I 8 1) + 1)) (fun I_42 => f_X1_readWord_7 nn I_42 R x1 (x2 + 1))))))))
set_option maxHeartbeats 4000000 in
set_option maxRecDepth 100000 in
theorem t_X1_readWord_7 {p : Program} {l : Launch} {e : Env} {s : State} {m : MethodId} {args : Array Value} {below : List Frame} {meth : Method} {c : Code} {E : EV} {q : Nat → Nat} {al : Nat → Bool} {n : Nat} (C : CX p s m args meth c E cX1_readWord RX1 3 (some .int)) {res : Int32 × MI}   : ∀ (nn : Nat) {I : MI} {R : MR} {x1 : Int32} {x2 : Int32} {H : Heap} {locs : List Loc} {ls : Array Slot} (a_8 : al 8 = true) (h : f_X1_readWord_7 nn I R x1 x2 = some res) (hW : Wd E q al s.heap I R n H locs) (hF : Fx al R) (hl : lv_has ls 3 [(0, .ref (q 8)), (1, .int x1), (2, .int x2)]), W p l e (rmL 6 0 0) s m args below meth c H locs 0 0 (MQ below (Pst E q (some (.int res.1)) al res.2 R n) args s 0 0 (Bs E)) (F0 m 7 ls []) := by
  have hx := C.1
  have hb := C.2.1
  intro nn
  induction nn with
  | zero =>
    intro I R x1 x2 H locs ls a_8 h
    cases (show (none : Option (Int32 × MI)) = some res from h)
  | succ nn ih =>
    intro I R x1 x2 H locs ls a_8 h hW hF hl
    rw [f_X1_readWord_7.eq_2] at h
    refine lv_iload_n hx hb dX1_readWord_7 rfl (lv_at hl 2 rfl) ?_
    refine lv_sipush (v := 200) hx hb dX1_readWord_8 (by decide) ?_
    refine lv_icmp_ge (tgt := 51) hx hb dX1_readWord_11 (by decide) (fun c_11 => ?_) (fun c_11 => ?_)
    · have h := (if_pos c_11).symm.trans h
      refine lv_iconst (v := 0) hx hb dX1_readWord_51 (by decide) ?_
      refine lv_istore_n (lv' := [(2, .int 0), (0, .ref (q 8)), (1, .int x1)]) hx hb dX1_readWord_52 rfl hl (by decide) rfl (fun ls hl => ?_)
      exact t_X1_readWord_53 C 1000000 a_8 h hW hF (lv_sub hl [1, 2, 0] rfl)
    · have h := (if_neg c_11).symm.trans h
      refine lv_aload_n hx hb dX1_readWord_14 rfl (lv_at hl 0 rfl) ?_
      have ap_15 : al 6 = true := hW.cl a_8 (hF _ 0 _ a_8 rfl)
      refine r_getq C fr_X1_22 hW a_8 rfl rfl (hF _ 0 _ a_8 rfl) dX1_readWord_15 ?_
      refine lv_aload_n hx hb dX1_readWord_18 rfl (lv_at hl 0 rfl) ?_
      refine r_get C fr_X1_9 hW a_8 rfl rfl dX1_readWord_19 ?_
      obtain ⟨z_22, e_z_22, h⟩ := bd_some h
      refine r_callV (v := (some (.int z_22))) (As := [.int (I 8 1)]) (rest := []) C ml_X6_at gm_377 gm_378 gm_379 (ci := 6) rfl hW ap_15 rfl hl.1 (c_X6_at ap_15 hF e_z_22) rfl ⟨(by decide), (by decide)⟩ ⟨(by decide), (by decide)⟩ rfl (Nat.le_of_ble_eq_true rfl) dX1_readWord_22 (fun H locs hW => ?_)
      refine lv_bipush (v := 97) hx hb dX1_readWord_25 (by decide) ?_
      refine lv_bipush (v := 122) hx hb dX1_readWord_27 (by decide) ?_
      obtain ⟨z_29, e_z_29, h⟩ := bd_some h
      refine r_callS (v := (some (.int z_29))) (As := [.int z_22, .int 97, .int 122]) (rest := []) C ml_X1_isBetween gm_389 gm_390 hW hl.1 (c_X1_isBetween  e_z_29) rfl ⟨(by decide), (by decide)⟩ ⟨(by decide), (by decide)⟩ rfl (Nat.le_of_ble_eq_true rfl) dX1_readWord_29 (fun H locs hW => ?_)
      refine lv_if_eq (tgt := 51) hx hb dX1_readWord_32 (by decide) (fun c_32 => ?_) (fun c_32 => ?_)
      · have h := (if_pos c_32).symm.trans h
        refine lv_iconst (v := 0) hx hb dX1_readWord_51 (by decide) ?_
        refine lv_istore_n (lv' := [(2, .int 0), (0, .ref (q 8)), (1, .int x1)]) hx hb dX1_readWord_52 rfl hl (by decide) rfl (fun ls hl => ?_)
        exact t_X1_readWord_53 C 1000000 a_8 h hW hF (lv_sub hl [1, 2, 0] rfl)
      · have h := (if_neg c_32).symm.trans h
        refine lv_aload_n hx hb dX1_readWord_35 rfl (lv_at hl 0 rfl) ?_
        refine lv_dup hx hb dX1_readWord_36 rfl ?_
        refine r_get C fr_X1_9 hW a_8 rfl rfl dX1_readWord_37 ?_
        refine lv_iconst (v := 1) hx hb dX1_readWord_40 (by decide) ?_
        refine lv_iadd hx hb dX1_readWord_41 ?_
        obtain ⟨I_42, e_I_42, h⟩ := lt_some h
        refine r_put C fr_X1_9 (Or.inl rfl) hW a_8 rfl rfl rfl rfl dX1_readWord_42 (fun H locs hW => ?_)
        rw [← e_I_42] at hW
        refine lv_iinc (v := x2 + 1) (lv' := [(2, .int (x2 + 1)), (0, .ref (q 8)), (1, .int x1)]) hx hb dX1_readWord_45 hl (k := 2) rfl rfl (by decide) rfl (fun ls hl => ?_)
        refine lv_goto (tgt := 7) hx hb dX1_readWord_48 (by decide) ?_
        exact ih a_8 h hW hF (lv_sub hl [1, 2, 0] rfl)
def f_X1_readWord (I : MI) (R : MR) : Option (Int32 × MI) := f_X1_readWord_7 1000000 I R (I 8 1) 0
set_option maxHeartbeats 4000000 in
set_option maxRecDepth 100000 in
theorem c_X1_readWord {l : Launch} {E : EV} {q : Nat → Nat} {al : Nat → Bool} {n : Nat} {I : MI} {R : MR}  (a_8 : al 8 = true) (hF : Fx al R) {res : Int32 × MI} (h : f_X1_readWord I R = some res) : Ct l yX1_readWord cX1_readWord 3 (some .int) 6 0 0 E q al I R n [.ref (q 8)] (some (.int res.1)) al res.2 R n := by
  refine Ct.of (own := RX1) (mn := "readWord") (by decide) rfl rfl (Nat.le_of_ble_eq_true rfl) ?_
  intro p e s m args below meth c ls C hmn hargs hW hl
  have hx := C.1
  have hb := C.2.1
  have hl : lv_has ls 3 [(0, .ref (q 8))] := hl
  unfold f_X1_readWord at h
  refine lv_aload_n hx hb dX1_readWord_0 rfl (lv_at hl 0 rfl) ?_
  refine r_get C fr_X1_9 hW a_8 rfl rfl dX1_readWord_1 ?_
  refine lv_istore_n (lv' := [(1, .int (I 8 1)), (0, .ref (q 8))]) hx hb dX1_readWord_4 rfl hl (by decide) rfl (fun ls hl => ?_)
  refine lv_iconst (v := 0) hx hb dX1_readWord_5 (by decide) ?_
  refine lv_istore_n (lv' := [(2, .int 0), (1, .int (I 8 1)), (0, .ref (q 8))]) hx hb dX1_readWord_6 rfl hl (by decide) rfl (fun ls hl => ?_)
  exact t_X1_readWord_7 C 1000000 a_8 h hW hF (lv_sub hl [2, 1, 0] rfl)
def f_X1_readClause_24  (I : MI) (R : MR) (x2 : Int32) : Option (MI) := bd (f_X1_blame I R x2 0) (fun z_27 => some (z_27))
set_option maxHeartbeats 4000000 in
set_option maxRecDepth 100000 in
theorem t_X1_readClause_24 {p : Program} {l : Launch} {e : Env} {s : State} {m : MethodId} {args : Array Value} {below : List Frame} {meth : Method} {c : Code} {E : EV} {q : Nat → Nat} {al : Nat → Bool} {n : Nat} (C : CX p s m args meth c E cX1_readClause RX1 4 none) {res : MI}   {I : MI} {R : MR} {x2 : Int32} (a_8 : al 8 = true) {H : Heap} {locs : List Loc} {ls : Array Slot} (h : f_X1_readClause_24 I R x2 = some res) (hW : Wd E q al s.heap I R n H locs) (hF : Fx al R) (hl : lv_has ls 4 [(0, .ref (q 8)), (2, .int x2)]) : W p l e (rmL 7 0 0) s m args below meth c H locs 0 0 (MQ below (Pst E q none al res R n) args s 0 0 (Bs E)) (F0 m 24 ls []) := by
  have hx := C.1
  have hb := C.2.1
  unfold f_X1_readClause_24 at h
  refine lv_aload_n hx hb dX1_readClause_24 rfl (lv_at hl 0 rfl) ?_
  refine lv_iload_n hx hb dX1_readClause_25 rfl (lv_at hl 1 rfl) ?_
  refine lv_iconst (v := 0) hx hb dX1_readClause_26 (by decide) ?_
  obtain ⟨z_27, e_z_27, h⟩ := bd_some h
  refine r_callV (v := none) (As := [.int x2, .int 0]) (rest := []) C ml_X1_blame gm_453 gm_455 gs_7 (ci := 1) rfl hW a_8 rfl hl.1 (c_X1_blame a_8 e_z_27) rfl ⟨(by decide), (by decide)⟩ ⟨(by decide), (by decide)⟩ rfl (Nat.le_of_ble_eq_true rfl) dX1_readClause_27 (fun H locs hW => ?_)
  refine lv_goto (tgt := 92) hx hb dX1_readClause_30 (by decide) ?_
  have h := Option.some.inj h
  subst h
  exact r_vret C hW dX1_readClause_92
def f_X1_readClause_67  (I : MI) (R : MR) (o1 : Nat) (x3 : Int32) : Option (MI) := (if x3 = 0 then (bd (f_X1_readFlow I R o1) (fun z_73 => some (z_73))) else (gd (ix x3 (ln 9)) (lt (p2 I 9 x3.toNatClampNeg (vp_nar .boolean 1)) (fun I_85 => bd (f_X1_readSetting I_85 R x3 o1) (fun z_89 => some (z_89))))))
set_option maxHeartbeats 4000000 in
set_option maxRecDepth 100000 in
theorem t_X1_readClause_67 {p : Program} {l : Launch} {e : Env} {s : State} {m : MethodId} {args : Array Value} {below : List Frame} {meth : Method} {c : Code} {E : EV} {q : Nat → Nat} {al : Nat → Bool} {n : Nat} (C : CX p s m args meth c E cX1_readClause RX1 4 none) {res : MI}   {I : MI} {R : MR} {o1 : Nat} {x3 : Int32} (a_8 : al 8 = true) (a_o1 : al o1 = true) (k_o1 : kd o1 = 5) {H : Heap} {locs : List Loc} {ls : Array Slot} (h : f_X1_readClause_67 I R o1 x3 = some res) (hW : Wd E q al s.heap I R n H locs) (hF : Fx al R) (hl : lv_has ls 4 [(0, .ref (q 8)), (1, .ref (q o1)), (3, .int x3)]) : W p l e (rmL 7 0 0) s m args below meth c H locs 0 0 (MQ below (Pst E q none al res R n) args s 0 0 (Bs E)) (F0 m 67 ls []) := by
  have hx := C.1
  have hb := C.2.1
  unfold f_X1_readClause_67 at h
  refine lv_iload_n hx hb dX1_readClause_67 rfl (lv_at hl 2 rfl) ?_
  refine lv_if_ne (tgt := 79) hx hb dX1_readClause_68 (by decide) (fun c_68 => ?_) (fun c_68 => ?_)
  · have h := (if_neg c_68).symm.trans h
    refine lv_aload_n hx hb dX1_readClause_79 rfl (lv_at hl 0 rfl) ?_
    have ap_80 : al 9 = true := hW.cl a_8 (hF _ 3 _ a_8 rfl)
    refine r_getq C fr_X1_18 hW a_8 rfl rfl (hF _ 3 _ a_8 rfl) dX1_readClause_80 ?_
    refine lv_iload_n hx hb dX1_readClause_83 rfl (lv_at hl 2 rfl) ?_
    refine lv_iconst (v := 1) hx hb dX1_readClause_84 (by decide) ?_
    obtain ⟨g_85, h⟩ := gd_some h
    obtain ⟨I_85, e_I_85, h⟩ := lt_some h
    refine r_zast C hW ap_80 rfl (ix_in g_85) dX1_readClause_85 (fun H locs hW => ?_)
    rw [← e_I_85] at hW
    refine lv_aload_n hx hb dX1_readClause_86 rfl (lv_at hl 0 rfl) ?_
    refine lv_iload_n hx hb dX1_readClause_87 rfl (lv_at hl 2 rfl) ?_
    refine lv_aload_n hx hb dX1_readClause_88 rfl (lv_at hl 1 rfl) ?_
    obtain ⟨z_89, e_z_89, h⟩ := bd_some h
    refine r_callV (v := none) (As := [.int x3, .ref (q o1)]) (rest := []) C ml_X1_readSetting gm_474 gm_476 gs_10 (ci := 1) rfl hW a_8 rfl hl.1 (c_X1_readSetting a_8 a_o1 k_o1 hF e_z_89) rfl ⟨(by decide), (by decide)⟩ ⟨(by decide), (by decide)⟩ rfl (Nat.le_of_ble_eq_true rfl) dX1_readClause_89 (fun H locs hW => ?_)
    have h := Option.some.inj h
    subst h
    exact r_vret C hW dX1_readClause_92
  · have h := (if_pos c_68).symm.trans h
    refine lv_aload_n hx hb dX1_readClause_71 rfl (lv_at hl 0 rfl) ?_
    refine lv_aload_n hx hb dX1_readClause_72 rfl (lv_at hl 1 rfl) ?_
    obtain ⟨z_73, e_z_73, h⟩ := bd_some h
    refine r_callV (v := none) (As := [.ref (q o1)]) (rest := []) C ml_X1_readFlow gm_457 gm_459 gs_8 (ci := 1) rfl hW a_8 rfl hl.1 (c_X1_readFlow a_8 a_o1 k_o1 hF e_z_73) rfl ⟨(by decide), (by decide)⟩ ⟨(by decide), (by decide)⟩ rfl (Nat.le_of_ble_eq_true rfl) dX1_readClause_73 (fun H locs hW => ?_)
    refine lv_goto (tgt := 92) hx hb dX1_readClause_76 (by decide) ?_
    have h := Option.some.inj h
    subst h
    exact r_vret C hW dX1_readClause_92
def f_X1_readClause_58  (I : MI) (R : MR) (x2 : Int32) : Option (MI) := bd (f_X1_blame I R x2 2) (fun z_61 => some (z_61))
set_option maxHeartbeats 4000000 in
set_option maxRecDepth 100000 in
theorem t_X1_readClause_58 {p : Program} {l : Launch} {e : Env} {s : State} {m : MethodId} {args : Array Value} {below : List Frame} {meth : Method} {c : Code} {E : EV} {q : Nat → Nat} {al : Nat → Bool} {n : Nat} (C : CX p s m args meth c E cX1_readClause RX1 4 none) {res : MI}   {I : MI} {R : MR} {x2 : Int32} (a_8 : al 8 = true) {H : Heap} {locs : List Loc} {ls : Array Slot} (h : f_X1_readClause_58 I R x2 = some res) (hW : Wd E q al s.heap I R n H locs) (hF : Fx al R) (hl : lv_has ls 4 [(0, .ref (q 8)), (2, .int x2)]) : W p l e (rmL 7 0 0) s m args below meth c H locs 0 0 (MQ below (Pst E q none al res R n) args s 0 0 (Bs E)) (F0 m 58 ls []) := by
  have hx := C.1
  have hb := C.2.1
  unfold f_X1_readClause_58 at h
  refine lv_aload_n hx hb dX1_readClause_58 rfl (lv_at hl 0 rfl) ?_
  refine lv_iload_n hx hb dX1_readClause_59 rfl (lv_at hl 1 rfl) ?_
  refine lv_iconst (v := 2) hx hb dX1_readClause_60 (by decide) ?_
  obtain ⟨z_61, e_z_61, h⟩ := bd_some h
  refine r_callV (v := none) (As := [.int x2, .int 2]) (rest := []) C ml_X1_blame gm_453 gm_455 gs_7 (ci := 1) rfl hW a_8 rfl hl.1 (c_X1_blame a_8 e_z_61) rfl ⟨(by decide), (by decide)⟩ ⟨(by decide), (by decide)⟩ rfl (Nat.le_of_ble_eq_true rfl) dX1_readClause_61 (fun H locs hW => ?_)
  refine lv_goto (tgt := 92) hx hb dX1_readClause_64 (by decide) ?_
  have h := Option.some.inj h
  subst h
  exact r_vret C hW dX1_readClause_92
def f_X1_readClause (I : MI) (R : MR) (o1 : Nat) : Option (MI) := bd (f_X1_skipBlanks I R) (fun z_1 => bd (f_X1_readWord z_1 R) (fun z_10 => (if z_10.1 < 0 then (f_X1_readClause_24 z_10.2 R (z_1 8 1)) else ((if z_10.1 < 6 then ((if z_10.1 = 0 then ((if (z_10.2 o1 7) < 8 then (f_X1_readClause_67 z_10.2 R o1 z_10.1) else (f_X1_readClause_58 z_10.2 R (z_1 8 1)))) else (gd (ix z_10.1 (ln 9)) ((if (z_10.2 9 z_10.1.toNatClampNeg) = 0 then (f_X1_readClause_67 z_10.2 R o1 z_10.1) else (f_X1_readClause_58 z_10.2 R (z_1 8 1))))))) else (f_X1_readClause_24 z_10.2 R (z_1 8 1)))))))
set_option maxHeartbeats 4000000 in
set_option maxRecDepth 100000 in
theorem c_X1_readClause {l : Launch} {E : EV} {q : Nat → Nat} {al : Nat → Bool} {n : Nat} {I : MI} {R : MR} {o1 : Nat} (a_8 : al 8 = true) (a_o1 : al o1 = true) (k_o1 : kd o1 = 5) (hF : Fx al R) {res : MI} (h : f_X1_readClause I R o1 = some res) : Ct l yX1_readClause cX1_readClause 4 none 7 0 0 E q al I R n [.ref (q 8), .ref (q o1)] none al res R n := by
  refine Ct.of (own := RX1) (mn := "readClause") (by decide) rfl rfl (Nat.le_of_ble_eq_true rfl) ?_
  intro p e s m args below meth c ls C hmn hargs hW hl
  have hx := C.1
  have hb := C.2.1
  have hl : lv_has ls 4 [(0, .ref (q 8)), (1, .ref (q o1))] := hl
  unfold f_X1_readClause at h
  refine lv_aload_n hx hb dX1_readClause_0 rfl (lv_at hl 0 rfl) ?_
  obtain ⟨z_1, e_z_1, h⟩ := bd_some h
  refine r_callV (v := none) (As := []) (rest := []) C ml_X1_skipBlanks gm_373 gm_375 gs_3 (ci := 1) rfl hW a_8 rfl hl.1 (c_X1_skipBlanks a_8 hF e_z_1) rfl ⟨(by decide), (by decide)⟩ ⟨(by decide), (by decide)⟩ rfl (Nat.le_of_ble_eq_true rfl) dX1_readClause_1 (fun H locs hW => ?_)
  refine lv_aload_n hx hb dX1_readClause_4 rfl (lv_at hl 0 rfl) ?_
  refine r_get C fr_X1_9 hW a_8 rfl rfl dX1_readClause_5 ?_
  refine lv_istore_n (lv' := [(2, .int (z_1 8 1)), (0, .ref (q 8)), (1, .ref (q o1))]) hx hb dX1_readClause_8 rfl hl (by decide) rfl (fun ls hl => ?_)
  refine lv_aload_n hx hb dX1_readClause_9 rfl (lv_at hl 1 rfl) ?_
  obtain ⟨z_10, e_z_10, h⟩ := bd_some h
  refine r_callV (v := (some (.int z_10.1))) (As := []) (rest := []) C ml_X1_readWord gm_385 gm_387 gs_5 (ci := 1) rfl hW a_8 rfl hl.1 (c_X1_readWord a_8 hF e_z_10) rfl ⟨(by decide), (by decide)⟩ ⟨(by decide), (by decide)⟩ rfl (Nat.le_of_ble_eq_true rfl) dX1_readClause_10 (fun H locs hW => ?_)
  refine lv_istore_n (lv' := [(3, .int z_10.1), (2, .int (z_1 8 1)), (0, .ref (q 8)), (1, .ref (q o1))]) hx hb dX1_readClause_13 rfl hl (by decide) rfl (fun ls hl => ?_)
  refine lv_iload_n hx hb dX1_readClause_14 rfl (lv_at hl 0 rfl) ?_
  refine lv_if_lt (tgt := 24) hx hb dX1_readClause_15 (by decide) (fun c_15 => ?_) (fun c_15 => ?_)
  · have h := (if_pos c_15).symm.trans h
    exact t_X1_readClause_24 C a_8 h hW hF (lv_sub hl [2, 1] rfl)
  · have h := (if_neg c_15).symm.trans h
    refine lv_iload_n hx hb dX1_readClause_18 rfl (lv_at hl 0 rfl) ?_
    refine lv_bipush (v := 6) hx hb dX1_readClause_19 (by decide) ?_
    refine lv_icmp_lt (tgt := 33) hx hb dX1_readClause_21 (by decide) (fun c_21 => ?_) (fun c_21 => ?_)
    · have h := (if_pos c_21).symm.trans h
      refine lv_iload_n hx hb dX1_readClause_33 rfl (lv_at hl 0 rfl) ?_
      refine lv_if_ne (tgt := 49) hx hb dX1_readClause_34 (by decide) (fun c_34 => ?_) (fun c_34 => ?_)
      · have h := (if_neg c_34).symm.trans h
        refine lv_aload_n hx hb dX1_readClause_49 rfl (lv_at hl 2 rfl) ?_
        have ap_50 : al 9 = true := hW.cl a_8 (hF _ 3 _ a_8 rfl)
        refine r_getq C fr_X1_18 hW a_8 rfl rfl (hF _ 3 _ a_8 rfl) dX1_readClause_50 ?_
        refine lv_iload_n hx hb dX1_readClause_53 rfl (lv_at hl 0 rfl) ?_
        obtain ⟨g_54, h⟩ := gd_some h
        refine r_zald C hW ap_50 rfl (ix_in g_54) dX1_readClause_54 ?_
        refine lv_if_eq (tgt := 67) hx hb dX1_readClause_55 (by decide) (fun c_55 => ?_) (fun c_55 => ?_)
        · have h := (if_pos c_55).symm.trans h
          exact t_X1_readClause_67 C a_8 a_o1 k_o1 h hW hF (lv_sub hl [2, 3, 0] rfl)
        · have h := (if_neg c_55).symm.trans h
          exact t_X1_readClause_58 C a_8 h hW hF (lv_sub hl [2, 1] rfl)
      · have h := (if_pos c_34).symm.trans h
        refine lv_aload_n hx hb dX1_readClause_37 rfl (lv_at hl 3 rfl) ?_
        refine r_get C fr_X1_61 hW a_o1 k_o1 rfl dX1_readClause_38 ?_
        refine lv_bipush (v := 8) hx hb dX1_readClause_41 (by decide) ?_
        refine lv_icmp_lt (tgt := 67) hx hb dX1_readClause_43 (by decide) (fun c_43 => ?_) (fun c_43 => ?_)
        · have h := (if_pos c_43).symm.trans h
          exact t_X1_readClause_67 C a_8 a_o1 k_o1 h hW hF (lv_sub hl [2, 3, 0] rfl)
        · have h := (if_neg c_43).symm.trans h
          refine lv_goto (tgt := 58) hx hb dX1_readClause_46 (by decide) ?_
          exact t_X1_readClause_58 C a_8 h hW hF (lv_sub hl [2, 1] rfl)
    · have h := (if_neg c_21).symm.trans h
      exact t_X1_readClause_24 C a_8 h hW hF (lv_sub hl [2, 1] rfl)
def f_X1_begin_12  : Nat → MI → MR → Nat → Int32 → Option (MI)
  | 0, _, _, _, _ => none
  | nn + 1, I, R, o1, x2 => (if 6 ≤ x2 then (bd (f_X5_asWithout I R o1) (fun z_32 => some (z_32))) else (gd (ix x2 (ln 9)) (lt (p2 I 9 x2.toNatClampNeg (vp_nar .boolean 0)) (fun I_24 => f_X1_begin_12 nn I_24 R o1 (x2 + 1)))))
set_option maxHeartbeats 4000000 in
set_option maxRecDepth 100000 in
theorem t_X1_begin_12 {p : Program} {l : Launch} {e : Env} {s : State} {m : MethodId} {args : Array Value} {below : List Frame} {meth : Method} {c : Code} {E : EV} {q : Nat → Nat} {al : Nat → Bool} {n : Nat} (C : CX p s m args meth c E cX1_begin RX1 3 none) {res : MI}   : ∀ (nn : Nat) {I : MI} {R : MR} {o1 : Nat} {x2 : Int32} {H : Heap} {locs : List Loc} {ls : Array Slot} (a_8 : al 8 = true) (a_o1 : al o1 = true) (k_o1 : kd o1 = 5) (h : f_X1_begin_12 nn I R o1 x2 = some res) (hW : Wd E q al s.heap I R n H locs) (hF : Fx al R) (hl : lv_has ls 3 [(0, .ref (q 8)), (1, .ref (q o1)), (2, .int x2)]), W p l e (rmL 2 0 0) s m args below meth c H locs 0 0 (MQ below (Pst E q none al res R n) args s 0 0 (Bs E)) (F0 m 12 ls []) := by
  have hx := C.1
  have hb := C.2.1
  intro nn
  induction nn with
  | zero =>
    intro I R o1 x2 H locs ls a_8 a_o1 k_o1 h
    cases (show (none : Option (MI)) = some res from h)
  | succ nn ih =>
    intro I R o1 x2 H locs ls a_8 a_o1 k_o1 h hW hF hl
    rw [f_X1_begin_12.eq_2] at h
    refine lv_iload_n hx hb dX1_begin_12 rfl (lv_at hl 2 rfl) ?_
    refine lv_bipush (v := 6) hx hb dX1_begin_13 (by decide) ?_
    refine lv_icmp_ge (tgt := 31) hx hb dX1_begin_15 (by decide) (fun c_15 => ?_) (fun c_15 => ?_)
    · have h := (if_pos c_15).symm.trans h
      refine lv_aload_n hx hb dX1_begin_31 rfl (lv_at hl 1 rfl) ?_
      obtain ⟨z_32, e_z_32, h⟩ := bd_some h
      refine r_callV (v := none) (As := []) (rest := []) C ml_X5_asWithout gm_365 gm_366 gm_367 (ci := 5) rfl hW a_o1 k_o1 hl.1 (c_X5_asWithout a_o1 k_o1 e_z_32) rfl ⟨(by decide), (by decide)⟩ ⟨(by decide), (by decide)⟩ rfl (Nat.le_of_ble_eq_true rfl) dX1_begin_32 (fun H locs hW => ?_)
      have h := Option.some.inj h
      subst h
      exact r_vret C hW dX1_begin_35
    · have h := (if_neg c_15).symm.trans h
      refine lv_aload_n hx hb dX1_begin_18 rfl (lv_at hl 0 rfl) ?_
      have ap_19 : al 9 = true := hW.cl a_8 (hF _ 3 _ a_8 rfl)
      refine r_getq C fr_X1_18 hW a_8 rfl rfl (hF _ 3 _ a_8 rfl) dX1_begin_19 ?_
      refine lv_iload_n hx hb dX1_begin_22 rfl (lv_at hl 2 rfl) ?_
      refine lv_iconst (v := 0) hx hb dX1_begin_23 (by decide) ?_
      obtain ⟨g_24, h⟩ := gd_some h
      obtain ⟨I_24, e_I_24, h⟩ := lt_some h
      refine r_zast C hW ap_19 rfl (ix_in g_24) dX1_begin_24 (fun H locs hW => ?_)
      rw [← e_I_24] at hW
      refine lv_iinc (v := x2 + 1) (lv' := [(2, .int (x2 + 1)), (0, .ref (q 8)), (1, .ref (q o1))]) hx hb dX1_begin_25 hl (k := 2) rfl rfl (by decide) rfl (fun ls hl => ?_)
      refine lv_goto (tgt := 12) hx hb dX1_begin_28 (by decide) ?_
      exact ih a_8 a_o1 k_o1 h hW hF (lv_sub hl [1, 2, 0] rfl)
def f_X1_begin (I : MI) (R : MR) (o1 : Nat) : Option (MI) := lt (p2 I 8 1 0) (fun I_2 => lt (p2 I_2 8 2 0) (fun I_7 => f_X1_begin_12 1000000 I_7 R o1 0))
set_option maxHeartbeats 4000000 in
set_option maxRecDepth 100000 in
theorem c_X1_begin {l : Launch} {E : EV} {q : Nat → Nat} {al : Nat → Bool} {n : Nat} {I : MI} {R : MR} {o1 : Nat} (a_8 : al 8 = true) (a_o1 : al o1 = true) (k_o1 : kd o1 = 5) (hF : Fx al R) {res : MI} (h : f_X1_begin I R o1 = some res) : Ct l yX1_begin cX1_begin 3 none 2 0 0 E q al I R n [.ref (q 8), .ref (q o1)] none al res R n := by
  refine Ct.of (own := RX1) (mn := "begin") (by decide) rfl rfl (Nat.le_of_ble_eq_true rfl) ?_
  intro p e s m args below meth c ls C hmn hargs hW hl
  have hx := C.1
  have hb := C.2.1
  have hl : lv_has ls 3 [(0, .ref (q 8)), (1, .ref (q o1))] := hl
  unfold f_X1_begin at h
  refine lv_aload_n hx hb dX1_begin_0 rfl (lv_at hl 0 rfl) ?_
  refine lv_iconst (v := 0) hx hb dX1_begin_1 (by decide) ?_
  obtain ⟨I_2, e_I_2, h⟩ := lt_some h
  refine r_put C fr_X1_9 (Or.inl rfl) hW a_8 rfl rfl rfl rfl dX1_begin_2 (fun H locs hW => ?_)
  rw [← e_I_2] at hW
  refine lv_aload_n hx hb dX1_begin_5 rfl (lv_at hl 0 rfl) ?_
  refine lv_iconst (v := 0) hx hb dX1_begin_6 (by decide) ?_
  obtain ⟨I_7, e_I_7, h⟩ := lt_some h
  refine r_put C fr_X1_15 (Or.inl rfl) hW a_8 rfl rfl rfl rfl dX1_begin_7 (fun H locs hW => ?_)
  rw [← e_I_7] at hW
  refine lv_iconst (v := 0) hx hb dX1_begin_10 (by decide) ?_
  refine lv_istore_n (lv' := [(2, .int 0), (0, .ref (q 8)), (1, .ref (q o1))]) hx hb dX1_begin_11 rfl hl (by decide) rfl (fun ls hl => ?_)
  exact t_X1_begin_12 C 1000000 a_8 a_o1 k_o1 h hW hF (lv_sub hl [1, 2, 0] rfl)
def f_X1_isAtEnd (I : MI) (R : MR) : Option (Int32 × MI) := bd (f_X1_skipBlanks I R) (fun z_1 => bd (f_X6_at z_1 R (z_1 8 1)) (fun z_12 => (if z_12 = (-1) then (some (1, z_1)) else (some (0, z_1)))))
set_option maxHeartbeats 4000000 in
set_option maxRecDepth 100000 in
theorem c_X1_isAtEnd {l : Launch} {E : EV} {q : Nat → Nat} {al : Nat → Bool} {n : Nat} {I : MI} {R : MR}  (a_8 : al 8 = true) (hF : Fx al R) {res : Int32 × MI} (h : f_X1_isAtEnd I R = some res) : Ct l yX1_isAtEnd cX1_isAtEnd 1 (some .boolean) 3 0 0 E q al I R n [.ref (q 8)] (some (.int res.1)) al res.2 R n := by
  refine Ct.of (own := RX1) (mn := "isAtEnd") (by decide) rfl rfl (Nat.le_of_ble_eq_true rfl) ?_
  intro p e s m args below meth c ls C hmn hargs hW hl
  have hx := C.1
  have hb := C.2.1
  have hl : lv_has ls 1 [(0, .ref (q 8))] := hl
  unfold f_X1_isAtEnd at h
  refine lv_aload_n hx hb dX1_isAtEnd_0 rfl (lv_at hl 0 rfl) ?_
  obtain ⟨z_1, e_z_1, h⟩ := bd_some h
  refine r_callV (v := none) (As := []) (rest := []) C ml_X1_skipBlanks gm_373 gm_375 gs_3 (ci := 1) rfl hW a_8 rfl hl.1 (c_X1_skipBlanks a_8 hF e_z_1) rfl ⟨(by decide), (by decide)⟩ ⟨(by decide), (by decide)⟩ rfl (Nat.le_of_ble_eq_true rfl) dX1_isAtEnd_1 (fun H locs hW => ?_)
  refine lv_aload_n hx hb dX1_isAtEnd_4 rfl (lv_at hl 0 rfl) ?_
  have ap_5 : al 6 = true := hW.cl a_8 (hF _ 0 _ a_8 rfl)
  refine r_getq C fr_X1_22 hW a_8 rfl rfl (hF _ 0 _ a_8 rfl) dX1_isAtEnd_5 ?_
  refine lv_aload_n hx hb dX1_isAtEnd_8 rfl (lv_at hl 0 rfl) ?_
  refine r_get C fr_X1_9 hW a_8 rfl rfl dX1_isAtEnd_9 ?_
  obtain ⟨z_12, e_z_12, h⟩ := bd_some h
  refine r_callV (v := (some (.int z_12))) (As := [.int (z_1 8 1)]) (rest := []) C ml_X6_at gm_377 gm_378 gm_379 (ci := 6) rfl hW ap_5 rfl hl.1 (c_X6_at ap_5 hF e_z_12) rfl ⟨(by decide), (by decide)⟩ ⟨(by decide), (by decide)⟩ rfl (Nat.le_of_ble_eq_true rfl) dX1_isAtEnd_12 (fun H locs hW => ?_)
  refine lv_iconst (v := (-1)) hx hb dX1_isAtEnd_15 (by decide) ?_
  refine lv_icmp_ne (tgt := 23) hx hb dX1_isAtEnd_16 (by decide) (fun c_16 => ?_) (fun c_16 => ?_)
  · have h := (if_neg c_16).symm.trans h
    refine lv_iconst (v := 0) hx hb dX1_isAtEnd_23 (by decide) ?_
    have h := Option.some.inj h
    subst h
    exact r_zret C hW (Or.inl rfl) dX1_isAtEnd_24
  · have h := (if_pos c_16).symm.trans h
    refine lv_iconst (v := 1) hx hb dX1_isAtEnd_19 (by decide) ?_
    refine lv_goto (tgt := 24) hx hb dX1_isAtEnd_20 (by decide) ?_
    have h := Option.some.inj h
    subst h
    exact r_zret C hW (Or.inr rfl) dX1_isAtEnd_24
def f_X1_takesSemicolon (I : MI) (R : MR) : Option (Int32 × MI) := bd (f_X6_at I R (I 8 1)) (fun z_8 => (if z_8 = 59 then (lt (p2 I 8 1 ((I 8 1) + 1)) (fun I_34 => some (1, I_34))) else (bd (f_X1_blame I R (I 8 1) 0) (fun z_22 => some (0, z_22)))))
set_option maxHeartbeats 4000000 in
set_option maxRecDepth 100000 in
theorem c_X1_takesSemicolon {l : Launch} {E : EV} {q : Nat → Nat} {al : Nat → Bool} {n : Nat} {I : MI} {R : MR}  (a_8 : al 8 = true) (hF : Fx al R) {res : Int32 × MI} (h : f_X1_takesSemicolon I R = some res) : Ct l yX1_takesSemicolon cX1_takesSemicolon 1 (some .boolean) 2 0 0 E q al I R n [.ref (q 8)] (some (.int res.1)) al res.2 R n := by
  refine Ct.of (own := RX1) (mn := "takesSemicolon") (by decide) rfl rfl (Nat.le_of_ble_eq_true rfl) ?_
  intro p e s m args below meth c ls C hmn hargs hW hl
  have hx := C.1
  have hb := C.2.1
  have hl : lv_has ls 1 [(0, .ref (q 8))] := hl
  unfold f_X1_takesSemicolon at h
  refine lv_aload_n hx hb dX1_takesSemicolon_0 rfl (lv_at hl 0 rfl) ?_
  have ap_1 : al 6 = true := hW.cl a_8 (hF _ 0 _ a_8 rfl)
  refine r_getq C fr_X1_22 hW a_8 rfl rfl (hF _ 0 _ a_8 rfl) dX1_takesSemicolon_1 ?_
  refine lv_aload_n hx hb dX1_takesSemicolon_4 rfl (lv_at hl 0 rfl) ?_
  refine r_get C fr_X1_9 hW a_8 rfl rfl dX1_takesSemicolon_5 ?_
  obtain ⟨z_8, e_z_8, h⟩ := bd_some h
  refine r_callV (v := (some (.int z_8))) (As := [.int (I 8 1)]) (rest := []) C ml_X6_at gm_377 gm_378 gm_379 (ci := 6) rfl hW ap_1 rfl hl.1 (c_X6_at ap_1 hF e_z_8) rfl ⟨(by decide), (by decide)⟩ ⟨(by decide), (by decide)⟩ rfl (Nat.le_of_ble_eq_true rfl) dX1_takesSemicolon_8 (fun H locs hW => ?_)
  refine lv_bipush (v := 59) hx hb dX1_takesSemicolon_11 (by decide) ?_
  refine lv_icmp_eq (tgt := 27) hx hb dX1_takesSemicolon_13 (by decide) (fun c_13 => ?_) (fun c_13 => ?_)
  · have h := (if_pos c_13).symm.trans h
    refine lv_aload_n hx hb dX1_takesSemicolon_27 rfl (lv_at hl 0 rfl) ?_
    refine lv_dup hx hb dX1_takesSemicolon_28 rfl ?_
    refine r_get C fr_X1_9 hW a_8 rfl rfl dX1_takesSemicolon_29 ?_
    refine lv_iconst (v := 1) hx hb dX1_takesSemicolon_32 (by decide) ?_
    refine lv_iadd hx hb dX1_takesSemicolon_33 ?_
    obtain ⟨I_34, e_I_34, h⟩ := lt_some h
    refine r_put C fr_X1_9 (Or.inl rfl) hW a_8 rfl rfl rfl rfl dX1_takesSemicolon_34 (fun H locs hW => ?_)
    rw [← e_I_34] at hW
    refine lv_iconst (v := 1) hx hb dX1_takesSemicolon_37 (by decide) ?_
    have h := Option.some.inj h
    subst h
    exact r_zret C hW (Or.inr rfl) dX1_takesSemicolon_38
  · have h := (if_neg c_13).symm.trans h
    refine lv_aload_n hx hb dX1_takesSemicolon_16 rfl (lv_at hl 0 rfl) ?_
    refine lv_aload_n hx hb dX1_takesSemicolon_17 rfl (lv_at hl 0 rfl) ?_
    refine r_get C fr_X1_9 hW a_8 rfl rfl dX1_takesSemicolon_18 ?_
    refine lv_iconst (v := 0) hx hb dX1_takesSemicolon_21 (by decide) ?_
    obtain ⟨z_22, e_z_22, h⟩ := bd_some h
    refine r_callV (v := none) (As := [.int (I 8 1), .int 0]) (rest := []) C ml_X1_blame gm_453 gm_455 gs_7 (ci := 1) rfl hW a_8 rfl hl.1 (c_X1_blame a_8 e_z_22) rfl ⟨(by decide), (by decide)⟩ ⟨(by decide), (by decide)⟩ rfl (Nat.le_of_ble_eq_true rfl) dX1_takesSemicolon_22 (fun H locs hW => ?_)
    refine lv_iconst (v := 0) hx hb dX1_takesSemicolon_25 (by decide) ?_
    have h := Option.some.inj h
    subst h
    exact r_zret C hW (Or.inl rfl) dX1_takesSemicolon_26
def f_X1_readInto_76  (I : MI) (R : MR) (x2 : Int32) : Option (Int32 × MI) := (if (I 8 2) = 0 then (some (x2, I)) else (some ((-2) - (I 8 2), I)))
set_option maxHeartbeats 4000000 in
set_option maxRecDepth 100000 in
theorem t_X1_readInto_76 {p : Program} {l : Launch} {e : Env} {s : State} {m : MethodId} {args : Array Value} {below : List Frame} {meth : Method} {c : Code} {E : EV} {q : Nat → Nat} {al : Nat → Bool} {n : Nat} (C : CX p s m args meth c E cX1_readInto RX1 5 (some .int)) {res : Int32 × MI}   {I : MI} {R : MR} {x2 : Int32} (a_8 : al 8 = true) {H : Heap} {locs : List Loc} {ls : Array Slot} (h : f_X1_readInto_76 I R x2 = some res) (hW : Wd E q al s.heap I R n H locs) (hF : Fx al R) (hl : lv_has ls 5 [(0, .ref (q 8)), (2, .int x2)]) : W p l e (rmL 8 0 0) s m args below meth c H locs 0 0 (MQ below (Pst E q (some (.int res.1)) al res.2 R n) args s 0 0 (Bs E)) (F0 m 76 ls []) := by
  have hx := C.1
  have hb := C.2.1
  unfold f_X1_readInto_76 at h
  refine lv_aload_n hx hb dX1_readInto_76 rfl (lv_at hl 0 rfl) ?_
  refine r_get C fr_X1_15 hW a_8 rfl rfl dX1_readInto_77 ?_
  refine lv_if_ne (tgt := 87) hx hb dX1_readInto_80 (by decide) (fun c_80 => ?_) (fun c_80 => ?_)
  · have h := (if_neg c_80).symm.trans h
    refine lv_bipush (v := (-2)) hx hb dX1_readInto_87 (by decide) ?_
    refine lv_aload_n hx hb dX1_readInto_89 rfl (lv_at hl 0 rfl) ?_
    refine r_get C fr_X1_15 hW a_8 rfl rfl dX1_readInto_90 ?_
    refine lv_isub hx hb dX1_readInto_93 ?_
    have h := Option.some.inj h
    subst h
    exact r_iret C hW dX1_readInto_94
  · have h := (if_pos c_80).symm.trans h
    refine lv_iload_n hx hb dX1_readInto_83 rfl (lv_at hl 1 rfl) ?_
    refine lv_goto (tgt := 94) hx hb dX1_readInto_84 (by decide) ?_
    have h := Option.some.inj h
    subst h
    exact r_iret C hW dX1_readInto_94
def f_X1_readInto_23  : Nat → MI → MR → Nat → Int32 → Int32 → Int32 → Option (Int32 × MI)
  | 0, _, _, _, _, _, _ => none
  | nn + 1, I, R, o1, x2, x3, x4 => (if 200 ≤ x4 then (f_X1_readInto_76 I R x2) else ((if x3 = 0 then (f_X1_readInto_76 I R x2) else (bd (f_X1_readClause I R o1) (fun z_37 => (if (z_37 8 2) = 0 then (bd (f_X1_isAtEnd z_37 R) (fun z_51 => (if z_51.1 = 0 then (bd (f_X1_takesSemicolon z_51.2 R) (fun z_58 => (if z_58.1 = 0 then (f_X1_readInto_23 nn z_58.2 R o1 (x2 + 1) 0 (x4 + 1)) else (f_X1_readInto_23 nn z_58.2 R o1 (x2 + 1) 1 (x4 + 1))))) else (f_X1_readInto_23 nn z_51.2 R o1 (x2 + 1) 0 (x4 + 1))))) else (f_X1_readInto_23 nn z_37 R o1 (x2 + 1) 0 (x4 + 1))))))))
set_option maxHeartbeats 4000000 in
set_option maxRecDepth 100000 in
theorem t_X1_readInto_23 {p : Program} {l : Launch} {e : Env} {s : State} {m : MethodId} {args : Array Value} {below : List Frame} {meth : Method} {c : Code} {E : EV} {q : Nat → Nat} {al : Nat → Bool} {n : Nat} (C : CX p s m args meth c E cX1_readInto RX1 5 (some .int)) {res : Int32 × MI}   : ∀ (nn : Nat) {I : MI} {R : MR} {o1 : Nat} {x2 : Int32} {x3 : Int32} {x4 : Int32} {H : Heap} {locs : List Loc} {ls : Array Slot} (a_8 : al 8 = true) (a_o1 : al o1 = true) (k_o1 : kd o1 = 5) (h : f_X1_readInto_23 nn I R o1 x2 x3 x4 = some res) (hW : Wd E q al s.heap I R n H locs) (hF : Fx al R) (hl : lv_has ls 5 [(0, .ref (q 8)), (1, .ref (q o1)), (2, .int x2), (3, .int x3), (4, .int x4)]), W p l e (rmL 8 0 0) s m args below meth c H locs 0 0 (MQ below (Pst E q (some (.int res.1)) al res.2 R n) args s 0 0 (Bs E)) (F0 m 23 ls []) := by
  have hx := C.1
  have hb := C.2.1
  intro nn
  induction nn with
  | zero =>
    intro I R o1 x2 x3 x4 H locs ls a_8 a_o1 k_o1 h
    cases (show (none : Option (Int32 × MI)) = some res from h)
  | succ nn ih =>
    intro I R o1 x2 x3 x4 H locs ls a_8 a_o1 k_o1 h hW hF hl
    rw [f_X1_readInto_23.eq_2] at h
    refine lv_iload hx hb dX1_readInto_23 (lv_at hl 4 rfl) ?_
    refine lv_sipush (v := 200) hx hb dX1_readInto_25 (by decide) ?_
    refine lv_icmp_ge (tgt := 76) hx hb dX1_readInto_28 (by decide) (fun c_28 => ?_) (fun c_28 => ?_)
    · have h := (if_pos c_28).symm.trans h
      exact t_X1_readInto_76 C a_8 h hW hF (lv_sub hl [0, 2] rfl)
    · have h := (if_neg c_28).symm.trans h
      refine lv_iload_n hx hb dX1_readInto_31 rfl (lv_at hl 3 rfl) ?_
      refine lv_if_eq (tgt := 76) hx hb dX1_readInto_32 (by decide) (fun c_32 => ?_) (fun c_32 => ?_)
      · have h := (if_pos c_32).symm.trans h
        exact t_X1_readInto_76 C a_8 h hW hF (lv_sub hl [0, 2] rfl)
      · have h := (if_neg c_32).symm.trans h
        refine lv_aload_n hx hb dX1_readInto_35 rfl (lv_at hl 0 rfl) ?_
        refine lv_aload_n hx hb dX1_readInto_36 rfl (lv_at hl 1 rfl) ?_
        obtain ⟨z_37, e_z_37, h⟩ := bd_some h
        refine r_callV (v := none) (As := [.ref (q o1)]) (rest := []) C ml_X1_readClause gm_381 gm_383 gs_4 (ci := 1) rfl hW a_8 rfl hl.1 (c_X1_readClause a_8 a_o1 k_o1 hF e_z_37) rfl ⟨(by decide), (by decide)⟩ ⟨(by decide), (by decide)⟩ rfl (Nat.le_of_ble_eq_true rfl) dX1_readInto_37 (fun H locs hW => ?_)
        refine lv_iinc (v := x2 + 1) (lv' := [(2, .int (x2 + 1)), (0, .ref (q 8)), (1, .ref (q o1)), (3, .int x3), (4, .int x4)]) hx hb dX1_readInto_40 hl (k := 2) rfl rfl (by decide) rfl (fun ls hl => ?_)
        refine lv_aload_n hx hb dX1_readInto_43 rfl (lv_at hl 1 rfl) ?_
        refine r_get C fr_X1_15 hW a_8 rfl rfl dX1_readInto_44 ?_
        refine lv_if_ne (tgt := 68) hx hb dX1_readInto_47 (by decide) (fun c_47 => ?_) (fun c_47 => ?_)
        · have h := (if_neg c_47).symm.trans h
          refine lv_iconst (v := 0) hx hb dX1_readInto_68 (by decide) ?_
          refine lv_istore_n (lv' := [(3, .int 0), (2, .int (x2 + 1)), (0, .ref (q 8)), (1, .ref (q o1)), (4, .int x4)]) hx hb dX1_readInto_69 rfl hl (by decide) rfl (fun ls hl => ?_)
          refine lv_iinc (v := x4 + 1) (lv' := [(4, .int (x4 + 1)), (3, .int 0), (2, .int (x2 + 1)), (0, .ref (q 8)), (1, .ref (q o1))]) hx hb dX1_readInto_70 hl (k := 4) rfl rfl (by decide) rfl (fun ls hl => ?_)
          refine lv_goto (tgt := 23) hx hb dX1_readInto_73 (by decide) ?_
          exact ih a_8 a_o1 k_o1 h hW hF (lv_sub hl [3, 4, 2, 1, 0] rfl)
        · have h := (if_pos c_47).symm.trans h
          refine lv_aload_n hx hb dX1_readInto_50 rfl (lv_at hl 1 rfl) ?_
          obtain ⟨z_51, e_z_51, h⟩ := bd_some h
          refine r_callV (v := (some (.int z_51.1))) (As := []) (rest := []) C ml_X1_isAtEnd gm_369 gm_371 gs_2 (ci := 1) rfl hW a_8 rfl hl.1 (c_X1_isAtEnd a_8 hF e_z_51) rfl ⟨(by decide), (by decide)⟩ ⟨(by decide), (by decide)⟩ rfl (Nat.le_of_ble_eq_true rfl) dX1_readInto_51 (fun H locs hW => ?_)
          refine lv_if_ne (tgt := 68) hx hb dX1_readInto_54 (by decide) (fun c_54 => ?_) (fun c_54 => ?_)
          · have h := (if_neg c_54).symm.trans h
            refine lv_iconst (v := 0) hx hb dX1_readInto_68 (by decide) ?_
            refine lv_istore_n (lv' := [(3, .int 0), (2, .int (x2 + 1)), (0, .ref (q 8)), (1, .ref (q o1)), (4, .int x4)]) hx hb dX1_readInto_69 rfl hl (by decide) rfl (fun ls hl => ?_)
            refine lv_iinc (v := x4 + 1) (lv' := [(4, .int (x4 + 1)), (3, .int 0), (2, .int (x2 + 1)), (0, .ref (q 8)), (1, .ref (q o1))]) hx hb dX1_readInto_70 hl (k := 4) rfl rfl (by decide) rfl (fun ls hl => ?_)
            refine lv_goto (tgt := 23) hx hb dX1_readInto_73 (by decide) ?_
            exact ih a_8 a_o1 k_o1 h hW hF (lv_sub hl [3, 4, 2, 1, 0] rfl)
          · have h := (if_pos c_54).symm.trans h
            refine lv_aload_n hx hb dX1_readInto_57 rfl (lv_at hl 1 rfl) ?_
            obtain ⟨z_58, e_z_58, h⟩ := bd_some h
            refine r_callV (v := (some (.int z_58.1))) (As := []) (rest := []) C ml_X1_takesSemicolon gm_478 gm_480 gs_11 (ci := 1) rfl hW a_8 rfl hl.1 (c_X1_takesSemicolon a_8 hF e_z_58) rfl ⟨(by decide), (by decide)⟩ ⟨(by decide), (by decide)⟩ rfl (Nat.le_of_ble_eq_true rfl) dX1_readInto_58 (fun H locs hW => ?_)
            refine lv_if_eq (tgt := 68) hx hb dX1_readInto_61 (by decide) (fun c_61 => ?_) (fun c_61 => ?_)
            · have h := (if_pos c_61).symm.trans h
              refine lv_iconst (v := 0) hx hb dX1_readInto_68 (by decide) ?_
              refine lv_istore_n (lv' := [(3, .int 0), (2, .int (x2 + 1)), (0, .ref (q 8)), (1, .ref (q o1)), (4, .int x4)]) hx hb dX1_readInto_69 rfl hl (by decide) rfl (fun ls hl => ?_)
              refine lv_iinc (v := x4 + 1) (lv' := [(4, .int (x4 + 1)), (3, .int 0), (2, .int (x2 + 1)), (0, .ref (q 8)), (1, .ref (q o1))]) hx hb dX1_readInto_70 hl (k := 4) rfl rfl (by decide) rfl (fun ls hl => ?_)
              refine lv_goto (tgt := 23) hx hb dX1_readInto_73 (by decide) ?_
              exact ih a_8 a_o1 k_o1 h hW hF (lv_sub hl [3, 4, 2, 1, 0] rfl)
            · have h := (if_neg c_61).symm.trans h
              refine lv_iconst (v := 1) hx hb dX1_readInto_64 (by decide) ?_
              refine lv_goto (tgt := 69) hx hb dX1_readInto_65 (by decide) ?_
              refine lv_istore_n (lv' := [(3, .int 1), (2, .int (x2 + 1)), (0, .ref (q 8)), (1, .ref (q o1)), (4, .int x4)]) hx hb dX1_readInto_69 rfl hl (by decide) rfl (fun ls hl => ?_)
              refine lv_iinc (v := x4 + 1) (lv' := [(4, .int (x4 + 1)), (3, .int 1), (2, .int (x2 + 1)), (0, .ref (q 8)), (1, .ref (q o1))]) hx hb dX1_readInto_70 hl (k := 4) rfl rfl (by decide) rfl (fun ls hl => ?_)
              refine lv_goto (tgt := 23) hx hb dX1_readInto_73 (by decide) ?_
              exact ih a_8 a_o1 k_o1 h hW hF (lv_sub hl [3, 4, 2, 1, 0] rfl)
def f_X1_readInto (I : MI) (R : MR) (o1 : Nat) : Option (Int32 × MI) := bd (f_X1_begin I R o1) (fun z_2 => bd (f_X1_isAtEnd z_2 R) (fun z_8 => (if z_8.1 = 0 then (f_X1_readInto_23 1000000 z_8.2 R o1 0 1 0) else (f_X1_readInto_23 1000000 z_8.2 R o1 0 0 0))))
set_option maxHeartbeats 4000000 in
set_option maxRecDepth 100000 in
theorem c_X1_readInto {l : Launch} {E : EV} {q : Nat → Nat} {al : Nat → Bool} {n : Nat} {I : MI} {R : MR} {o1 : Nat} (a_8 : al 8 = true) (a_o1 : al o1 = true) (k_o1 : kd o1 = 5) (hF : Fx al R) {res : Int32 × MI} (h : f_X1_readInto I R o1 = some res) : Ct l yX1_readInto cX1_readInto 5 (some .int) 8 0 0 E q al I R n [.ref (q 8), .ref (q o1)] (some (.int res.1)) al res.2 R n := by
  refine Ct.of (own := RX1) (mn := "readInto") (by decide) rfl rfl (Nat.le_of_ble_eq_true rfl) ?_
  intro p e s m args below meth c ls C hmn hargs hW hl
  have hx := C.1
  have hb := C.2.1
  have hl : lv_has ls 5 [(0, .ref (q 8)), (1, .ref (q o1))] := hl
  unfold f_X1_readInto at h
  refine lv_aload_n hx hb dX1_readInto_0 rfl (lv_at hl 0 rfl) ?_
  refine lv_aload_n hx hb dX1_readInto_1 rfl (lv_at hl 1 rfl) ?_
  obtain ⟨z_2, e_z_2, h⟩ := bd_some h
  refine r_callV (v := none) (As := [.ref (q o1)]) (rest := []) C ml_X1_begin gm_361 gm_363 gs_1 (ci := 1) rfl hW a_8 rfl hl.1 (c_X1_begin a_8 a_o1 k_o1 hF e_z_2) rfl ⟨(by decide), (by decide)⟩ ⟨(by decide), (by decide)⟩ rfl (Nat.le_of_ble_eq_true rfl) dX1_readInto_2 (fun H locs hW => ?_)
  refine lv_iconst (v := 0) hx hb dX1_readInto_5 (by decide) ?_
  refine lv_istore_n (lv' := [(2, .int 0), (0, .ref (q 8)), (1, .ref (q o1))]) hx hb dX1_readInto_6 rfl hl (by decide) rfl (fun ls hl => ?_)
  refine lv_aload_n hx hb dX1_readInto_7 rfl (lv_at hl 1 rfl) ?_
  obtain ⟨z_8, e_z_8, h⟩ := bd_some h
  refine r_callV (v := (some (.int z_8.1))) (As := []) (rest := []) C ml_X1_isAtEnd gm_369 gm_371 gs_2 (ci := 1) rfl hW a_8 rfl hl.1 (c_X1_isAtEnd a_8 hF e_z_8) rfl ⟨(by decide), (by decide)⟩ ⟨(by decide), (by decide)⟩ rfl (Nat.le_of_ble_eq_true rfl) dX1_readInto_8 (fun H locs hW => ?_)
  refine lv_if_ne (tgt := 18) hx hb dX1_readInto_11 (by decide) (fun c_11 => ?_) (fun c_11 => ?_)
  · have h := (if_neg c_11).symm.trans h
    refine lv_iconst (v := 0) hx hb dX1_readInto_18 (by decide) ?_
    refine lv_istore_n (lv' := [(3, .int 0), (2, .int 0), (0, .ref (q 8)), (1, .ref (q o1))]) hx hb dX1_readInto_19 rfl hl (by decide) rfl (fun ls hl => ?_)
    refine lv_iconst (v := 0) hx hb dX1_readInto_20 (by decide) ?_
    refine lv_istore (lv' := [(4, .int 0), (3, .int 0), (2, .int 0), (0, .ref (q 8)), (1, .ref (q o1))]) hx hb dX1_readInto_21 hl (by decide) rfl (fun ls hl => ?_)
    exact t_X1_readInto_23 C 1000000 a_8 a_o1 k_o1 h hW hF (lv_sub hl [3, 4, 2, 1, 0] rfl)
  · have h := (if_pos c_11).symm.trans h
    refine lv_iconst (v := 1) hx hb dX1_readInto_14 (by decide) ?_
    refine lv_goto (tgt := 19) hx hb dX1_readInto_15 (by decide) ?_
    refine lv_istore_n (lv' := [(3, .int 1), (2, .int 0), (0, .ref (q 8)), (1, .ref (q o1))]) hx hb dX1_readInto_19 rfl hl (by decide) rfl (fun ls hl => ?_)
    refine lv_iconst (v := 0) hx hb dX1_readInto_20 (by decide) ?_
    refine lv_istore (lv' := [(4, .int 0), (3, .int 1), (2, .int 0), (0, .ref (q 8)), (1, .ref (q o1))]) hx hb dX1_readInto_21 hl (by decide) rfl (fun ls hl => ?_)
    exact t_X1_readInto_23 C 1000000 a_8 a_o1 k_o1 h hW hF (lv_sub hl [3, 4, 2, 1, 0] rfl)
