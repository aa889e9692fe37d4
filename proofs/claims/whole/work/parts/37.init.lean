def f_X7_init_153 (q : Nat → Nat)  : Nat → MI → MR → (Nat → Bool) → Nat → Int32 → Option (MI × MR)
  | 0, _, _, _, _, _ => none
  | nn + 1, I, R, al, n, x1 => (if 24 ≤ x1 then (some (I, R)) else (bd (R 0 10) (fun z_160 => gd (ix x1 (ln z_160)) (lt (p2 I z_160 x1.toNatClampNeg 1) (fun I_165 => f_X7_init_153 q nn I_165 R al n (x1 + 1))))))
set_option maxHeartbeats 4000000 in
set_option maxRecDepth 100000 in
theorem t_X7_init_153 {p : Program} {l : Launch} {e : Env} {s : State} {m : MethodId} {args : Array Value} {below : List Frame} {meth : Method} {c : Code} {E : EV} {q : Nat → Nat} (C : CX p s m args meth c E cX7_init RX7 2 none) (hmn : meth.name = "<init>") {res : MI × MR}   : ∀ (nn : Nat) {I : MI} {R : MR} {al : Nat → Bool} {n : Nat} {x1 : Int32} {H : Heap} {locs : List Loc} {ls : Array Slot} (a_0 : al 0 = true) (h : f_X7_init_153 q nn I R al n x1 = some res) (hW : Wd E q al s.heap I R n H locs) (hl : lv_has ls 2 [(0, .ref (q 0)), (1, .int x1)]), W p l e (rmL 3 28 458) s m args below meth c H locs 28 458 (MQ below (Pst E q none al res.1 res.2 n) args s 28 458 (Bs E)) (F0 m 153 ls []) := by
  have hx := C.1
  have hb := C.2.1
  intro nn
  induction nn with
  | zero =>
    intro I R al n x1 H locs ls a_0 h
    cases (show (none : Option (MI × MR)) = some res from h)
  | succ nn ih =>
    intro I R al n x1 H locs ls a_0 h hW hl
    rw [f_X7_init_153.eq_2] at h
    refine lv_iload_n hx hb dX7_init_153 rfl (lv_at hl 1 rfl) ?_
    refine lv_bipush (v := 24) hx hb dX7_init_154 (by decide) ?_
    refine lv_icmp_ge (tgt := 172) hx hb dX7_init_156 (by decide) (fun c_156 => ?_) (fun c_156 => ?_)
    · have h := (if_pos c_156).symm.trans h
      have h := Option.some.inj h
      subst h
      exact r_vret C hW dX7_init_172
    · have h := (if_neg c_156).symm.trans h
      refine lv_aload_n hx hb dX7_init_159 rfl (lv_at hl 0 rfl) ?_
      obtain ⟨z_160, e_z_160, h⟩ := bd_some h
      have a_z_160 : al z_160 = true := hW.cl a_0 e_z_160
      have k_z_160 : kd z_160 = 10 := hW.kn a_0 e_z_160 (by rfl)
      refine r_getq C fr_X7_46 hW a_0 rfl rfl e_z_160 dX7_init_160 ?_
      refine lv_iload_n hx hb dX7_init_163 rfl (lv_at hl 1 rfl) ?_
      refine lv_iconst (v := 1) hx hb dX7_init_164 (by decide) ?_
      obtain ⟨g_165, h⟩ := gd_some h
      obtain ⟨I_165, e_I_165, h⟩ := lt_some h
      refine r_iast C hW a_z_160 k_z_160 (ix_in g_165) dX7_init_165 (fun H locs hW => ?_)
      rw [← e_I_165] at hW
      refine lv_iinc (v := x1 + 1) (lv' := [(1, .int (x1 + 1)), (0, .ref (q 0))]) hx hb dX7_init_166 hl (k := 1) rfl rfl (by decide) rfl (fun ls hl => ?_)
      refine lv_goto (tgt := 153) hx hb dX7_init_169 (by decide) ?_
      exact ih a_0 h hW (lv_sub hl [1, 0] rfl)
set_option maxRecDepth 100000 in
def f_X7_init (q : Nat → Nat) (I : MI) (R : MR) (al : Nat → Bool) (n : Nat) : Option (MI × MR) := gd (al 1 = false ∧ q 1 = n ∧ kd 1 = 12 ∧ (4 : Int32).toNatClampNeg = ln 1) (lt (zI I 1) (fun I_6 => lt (zR R 1) (fun R_6 => lt (pq R_6 0 0 (some 1)) (fun R_9 => lt (p2 I_6 0 1 0) (fun I_14 => gd ((alu al 1) 2 = false ∧ q 2 = (n + 1) ∧ kd 2 = 13 ∧ (60 : Int32).toNatClampNeg = ln 2) (lt (zI I_14 2) (fun I_20 => lt (zR R_9 2) (fun R_20 => lt (pq R_20 0 2 (some 2)) (fun R_23 => lt (p2 I_20 0 3 0) (fun I_28 => lt (p2 I_28 0 4 0) (fun I_33 => gd ((alu (alu al 1) 2) 3 = false ∧ q 3 = ((n + 1) + 1) ∧ kd 3 = 13 ∧ (2 : Int32).toNatClampNeg = ln 3) (lt (zI I_33 3) (fun I_38 => lt (zR R_23 3) (fun R_38 => lt (pq R_38 0 5 (some 3)) (fun R_41 => lt (p2 I_38 0 6 1) (fun I_46 => lt (p2 I_46 0 7 15) (fun I_52 => lt (p2 I_52 0 8 0) (fun I_57 => lt (p2 I_57 0 9 2) (fun I_62 => gd ((alu (alu (alu al 1) 2) 3) 4 = false ∧ q 4 = (((n + 1) + 1) + 1) ∧ kd 4 = 10 ∧ (24 : Int32).toNatClampNeg = ln 4) (lt (zI I_62 4) (fun I_68 => lt (zR R_41 4) (fun R_68 => lt (pq R_68 0 10 (some 4)) (fun R_70 => gd ((alu (alu (alu (alu al 1) 2) 3) 4) 5 = false ∧ q 5 = ((((n + 1) + 1) + 1) + 1) ∧ kd 5 = 11 ∧ (24 : Int32).toNatClampNeg = ln 5) (lt (zI I_68 5) (fun I_76 => lt (zR R_70 5) (fun R_76 => lt (pq R_76 0 11 (some 5)) (fun R_78 => gd ((alu (alu (alu (alu (alu al 1) 2) 3) 4) 5) 6 = false ∧ q 6 = (((((n + 1) + 1) + 1) + 1) + 1) ∧ kd 6 = 6) (lt (zI I_76 6) (fun I_82 => lt (zR R_78 6) (fun R_82 => bd (f_X6_init q I_82 R_82 (alu (alu (alu (alu (alu (alu al 1) 2) 3) 4) 5) 6) ((((((n + 1) + 1) + 1) + 1) + 1) + 1)) (fun z_86 => lt (pq z_86.2 0 12 (some 6)) (fun R_89 => gd ((alu (alu (alu (alu (alu (alu (alu al 1) 2) 3) 4) 5) 6) 7) 8 = false ∧ q 8 = (((((((n + 1) + 1) + 1) + 1) + 1) + 1) + 1) ∧ kd 8 = 1) (lt (zI z_86.1 8) (fun I_93 => lt (zR R_89 8) (fun R_93 => bd (R_93 0 12) (fun z_98 => bd (f_X1_init q I_93 R_93 (alu (alu (alu (alu (alu (alu (alu (alu al 1) 2) 3) 4) 5) 6) 7) 8) ((((((((n + 1) + 1) + 1) + 1) + 1) + 1) + 1) + 1) z_98) (fun z_101 => lt (pq z_101.2 0 13 (some 8)) (fun R_104 => gd ((alu (alu (alu (alu (alu (alu (alu (alu (alu al 1) 2) 3) 4) 5) 6) 7) 8) 9) 10 = false ∧ q 10 = (((((((((n + 1) + 1) + 1) + 1) + 1) + 1) + 1) + 1) + 1) ∧ kd 10 = 3) (lt (zI z_101.1 10) (fun I_108 => lt (zR R_104 10) (fun R_108 => bd (f_X3_init I_108 R_108) (fun z_112 => lt (pq R_108 0 14 (some 10)) (fun R_115 => gd ((alu (alu (alu (alu (alu (alu (alu (alu (alu (alu al 1) 2) 3) 4) 5) 6) 7) 8) 9) 10) 11 = false ∧ q 11 = ((((((((((n + 1) + 1) + 1) + 1) + 1) + 1) + 1) + 1) + 1) + 1) ∧ kd 11 = 4) (lt (zI z_112 11) (fun I_119 => lt (zR R_115 11) (fun R_119 => bd (f_X4_init q I_119 R_119 (alu (alu (alu (alu (alu (alu (alu (alu (alu (alu (alu al 1) 2) 3) 4) 5) 6) 7) 8) 9) 10) 11) (((((((((((n + 1) + 1) + 1) + 1) + 1) + 1) + 1) + 1) + 1) + 1) + 1)) (fun z_123 => lt (pq z_123.2 0 15 (some 11)) (fun R_126 => gd ((alu (alu (alu (alu (alu (alu (alu (alu (alu (alu (alu (alu (alu (alu (alu (alu (alu (alu (alu (alu (alu (alu al 1) 2) 3) 4) 5) 6) 7) 8) 9) 10) 11) 12) 13) 18) 19) 20) 21) 22) 14) 15) 16) 17) 23 = false ∧ q 23 = ((((((((((((((((((((((n + 1) + 1) + 1) + 1) + 1) + 1) + 1) + 1) + 1) + 1) + 1) + 1) + 1) + 1) + 1) + 1) + 1) + 1) + 1) + 1) + 1) + 1) ∧ kd 23 = 5) (lt (zI z_123.1 23) (fun I_130 => lt (zR R_126 23) (fun R_130 => bd (f_X5_init q I_130 R_130 (alu (alu (alu (alu (alu (alu (alu (alu (alu (alu (alu (alu (alu (alu (alu (alu (alu (alu (alu (alu (alu (alu (alu al 1) 2) 3) 4) 5) 6) 7) 8) 9) 10) 11) 12) 13) 18) 19) 20) 21) 22) 14) 15) 16) 17) 23) (((((((((((((((((((((((n + 1) + 1) + 1) + 1) + 1) + 1) + 1) + 1) + 1) + 1) + 1) + 1) + 1) + 1) + 1) + 1) + 1) + 1) + 1) + 1) + 1) + 1) + 1) 23) (fun z_134 => lt (pq z_134.2 0 16 (some 23)) (fun R_137 => gd ((alu (alu (alu (alu (alu (alu (alu (alu (alu (alu (alu (alu (alu (alu (alu (alu (alu (alu (alu (alu (alu (alu (alu (alu (alu al 1) 2) 3) 4) 5) 6) 7) 8) 9) 10) 11) 12) 13) 18) 19) 20) 21) 22) 14) 15) 16) 17) 23) (23 + 1)) (23 + 2)) 26 = false ∧ q 26 = (((((((((((((((((((((((((n + 1) + 1) + 1) + 1) + 1) + 1) + 1) + 1) + 1) + 1) + 1) + 1) + 1) + 1) + 1) + 1) + 1) + 1) + 1) + 1) + 1) + 1) + 1) + 1) + 1) ∧ kd 26 = 5) (lt (zI z_134.1 26) (fun I_141 => lt (zR R_137 26) (fun R_141 => bd (f_X5_init q I_141 R_141 (alu (alu (alu (alu (alu (alu (alu (alu (alu (alu (alu (alu (alu (alu (alu (alu (alu (alu (alu (alu (alu (alu (alu (alu (alu (alu al 1) 2) 3) 4) 5) 6) 7) 8) 9) 10) 11) 12) 13) 18) 19) 20) 21) 22) 14) 15) 16) 17) 23) (23 + 1)) (23 + 2)) 26) ((((((((((((((((((((((((((n + 1) + 1) + 1) + 1) + 1) + 1) + 1) + 1) + 1) + 1) + 1) + 1) + 1) + 1) + 1) + 1) + 1) + 1) + 1) + 1) + 1) + 1) + 1) + 1) + 1) + 1) 26) (fun z_145 => lt (pq z_145.2 0 17 (some 26)) (fun R_148 => f_X7_init_153 q 1000000 z_145.1 R_148 (alu (alu (alu (alu (alu (alu (alu (alu (alu (alu (alu (alu (alu (alu (alu (alu (alu (alu (alu (alu (alu (alu (alu (alu (alu (alu (alu (alu al 1) 2) 3) 4) 5) 6) 7) 8) 9) 10) 11) 12) 13) 18) 19) 20) 21) 22) 14) 15) 16) 17) 23) (23 + 1)) (23 + 2)) 26) (26 + 1)) (26 + 2)) ((((((((((((((((((((((((((((n + 1) + 1) + 1) + 1) + 1) + 1) + 1) + 1) + 1) + 1) + 1) + 1) + 1) + 1) + 1) + 1) + 1) + 1) + 1) + 1) + 1) + 1) + 1) + 1) + 1) + 1) + 1) + 1) 0))))))))))))))))))))))))))))))))))))))))))))))))))))))))))
set_option maxHeartbeats 4000000 in
set_option maxRecDepth 100000 in
theorem c_X7_init {l : Launch} {E : EV} {q : Nat → Nat} {al : Nat → Bool} {n : Nat} {I : MI} {R : MR}  (a_0 : al 0 = true) {res : MI × MR} (h : f_X7_init q I R al n = some res) : Ct l yX7_init cX7_init 2 none 3 28 458 E q al I R n [.ref (q 0)] none (alu (alu (alu (alu (alu (alu (alu (alu (alu (alu (alu (alu (alu (alu (alu (alu (alu (alu (alu (alu (alu (alu (alu (alu (alu (alu (alu (alu al 1) 2) 3) 4) 5) 6) 7) 8) 9) 10) 11) 12) 13) 18) 19) 20) 21) 22) 14) 15) 16) 17) 23) 24) 25) 26) 27) 28) res.1 res.2 ((((((((((((((((((((((((((((n + 1) + 1) + 1) + 1) + 1) + 1) + 1) + 1) + 1) + 1) + 1) + 1) + 1) + 1) + 1) + 1) + 1) + 1) + 1) + 1) + 1) + 1) + 1) + 1) + 1) + 1) + 1) + 1) := by
  refine Ct.of (own := RX7) (mn := "<init>") (by decide) rfl rfl (Nat.le_of_ble_eq_true rfl) ?_
  intro p e s m args below meth c ls C hmn hargs hW hl
  have hx := C.1
  have hb := C.2.1
  have hl : lv_has ls 2 [(0, .ref (q 0))] := hl
  unfold f_X7_init at h
  refine lv_aload_n hx hb dX7_init_0 rfl (lv_at hl 0 rfl) ?_
  refine r_obj C gm_20 gm_21 gm_22 hl.1 ⟨Nat.le_of_ble_eq_true rfl, Nat.le_of_ble_eq_true rfl⟩ dX7_init_1 ?_
  refine lv_aload_n hx hb dX7_init_4 rfl (lv_at hl 0 rfl) ?_
  refine lv_iconst (v := 4) hx hb dX7_init_5 (by decide) ?_
  obtain ⟨g_6, h⟩ := gd_some h
  obtain ⟨I_6, e_I_6, h⟩ := lt_some h
  obtain ⟨R_6, e_R_6, h⟩ := lt_some h
  refine r_anew C gm_23 (Or.inl ⟨rfl, rfl⟩) hW g_6.1 g_6.2.1 g_6.2.2.1 (by decide) g_6.2.2.2 (by rw [← g_6.2.2.2]; decide) (by decide) (by rw [← g_6.2.2.2]; decide) dX7_init_6 (fun H hW => ?_)
  rw [← g_6.2.2.2]
  rw [← e_I_6, ← e_R_6] at hW
  refine W.widen (k := 1) (n := 4) (by decide) (by decide) ?_
  have a_0_6 : (alu al 1) 0 = true := alu_old a_0
  have a_1_6 : (alu al 1) 1 = true := alu_new
  have k_1_6 : kd 1 = 12 := g_6.2.2.1
  obtain ⟨R_9, e_R_9, h⟩ := lt_some h
  refine r_putq C fr_X7_11 (Or.inr ⟨rfl, hmn, ⟨_, rfl, rfl⟩⟩) hW a_0_6 rfl rfl a_1_6 k_1_6 rfl rfl dX7_init_9 (fun H locs hW => ?_)
  rw [← e_R_9] at hW
  refine lv_aload_n hx hb dX7_init_12 rfl (lv_at hl 0 rfl) ?_
  refine lv_iconst (v := 0) hx hb dX7_init_13 (by decide) ?_
  obtain ⟨I_14, e_I_14, h⟩ := lt_some h
  refine r_put C fr_X7_15 (Or.inl rfl) hW a_0_6 rfl rfl rfl rfl dX7_init_14 (fun H locs hW => ?_)
  rw [← e_I_14] at hW
  refine lv_aload_n hx hb dX7_init_17 rfl (lv_at hl 0 rfl) ?_
  refine lv_bipush (v := 60) hx hb dX7_init_18 (by decide) ?_
  obtain ⟨g_20, h⟩ := gd_some h
  obtain ⟨I_20, e_I_20, h⟩ := lt_some h
  obtain ⟨R_20, e_R_20, h⟩ := lt_some h
  refine r_anew C gm_25 (Or.inr ⟨rfl, rfl⟩) hW g_20.1 g_20.2.1 g_20.2.2.1 (by decide) g_20.2.2.2 (by rw [← g_20.2.2.2]; decide) (by decide) (by rw [← g_20.2.2.2]; decide) dX7_init_20 (fun H hW => ?_)
  rw [← g_20.2.2.2]
  rw [← e_I_20, ← e_R_20] at hW
  refine W.widen (k := 2) (n := 64) (by decide) (by decide) ?_
  have a_0_20 : (alu (alu al 1) 2) 0 = true := alu_old a_0_6
  have a_1_20 : (alu (alu al 1) 2) 1 = true := alu_old a_1_6
  have a_2_20 : (alu (alu al 1) 2) 2 = true := alu_new
  have k_2_20 : kd 2 = 13 := g_20.2.2.1
  obtain ⟨R_23, e_R_23, h⟩ := lt_some h
  refine r_putq C fr_X7_21 (Or.inr ⟨rfl, hmn, ⟨_, rfl, rfl⟩⟩) hW a_0_20 rfl rfl a_2_20 k_2_20 rfl rfl dX7_init_23 (fun H locs hW => ?_)
  rw [← e_R_23] at hW
  refine lv_aload_n hx hb dX7_init_26 rfl (lv_at hl 0 rfl) ?_
  refine lv_iconst (v := 0) hx hb dX7_init_27 (by decide) ?_
  obtain ⟨I_28, e_I_28, h⟩ := lt_some h
  refine r_put C fr_X7_25 (Or.inl rfl) hW a_0_20 rfl rfl rfl rfl dX7_init_28 (fun H locs hW => ?_)
  rw [← e_I_28] at hW
  refine lv_aload_n hx hb dX7_init_31 rfl (lv_at hl 0 rfl) ?_
  refine lv_iconst (v := 0) hx hb dX7_init_32 (by decide) ?_
  obtain ⟨I_33, e_I_33, h⟩ := lt_some h
  refine r_put C fr_X7_28 (Or.inl rfl) hW a_0_20 rfl rfl rfl rfl dX7_init_33 (fun H locs hW => ?_)
  rw [← e_I_33] at hW
  refine lv_aload_n hx hb dX7_init_36 rfl (lv_at hl 0 rfl) ?_
  refine lv_iconst (v := 2) hx hb dX7_init_37 (by decide) ?_
  obtain ⟨g_38, h⟩ := gd_some h
  obtain ⟨I_38, e_I_38, h⟩ := lt_some h
  obtain ⟨R_38, e_R_38, h⟩ := lt_some h
  refine r_anew C gm_25 (Or.inr ⟨rfl, rfl⟩) hW g_38.1 g_38.2.1 g_38.2.2.1 (by decide) g_38.2.2.2 (by rw [← g_38.2.2.2]; decide) (by decide) (by rw [← g_38.2.2.2]; decide) dX7_init_38 (fun H hW => ?_)
  rw [← g_38.2.2.2]
  rw [← e_I_38, ← e_R_38] at hW
  refine W.widen (k := 3) (n := 66) (by decide) (by decide) ?_
  have a_0_38 : (alu (alu (alu al 1) 2) 3) 0 = true := alu_old a_0_20
  have a_1_38 : (alu (alu (alu al 1) 2) 3) 1 = true := alu_old a_1_20
  have a_2_38 : (alu (alu (alu al 1) 2) 3) 2 = true := alu_old a_2_20
  have a_3_38 : (alu (alu (alu al 1) 2) 3) 3 = true := alu_new
  have k_3_38 : kd 3 = 13 := g_38.2.2.1
  obtain ⟨R_41, e_R_41, h⟩ := lt_some h
  refine r_putq C fr_X7_31 (Or.inr ⟨rfl, hmn, ⟨_, rfl, rfl⟩⟩) hW a_0_38 rfl rfl a_3_38 k_3_38 rfl rfl dX7_init_41 (fun H locs hW => ?_)
  rw [← e_R_41] at hW
  refine lv_aload_n hx hb dX7_init_44 rfl (lv_at hl 0 rfl) ?_
  refine lv_iconst (v := 1) hx hb dX7_init_45 (by decide) ?_
  obtain ⟨I_46, e_I_46, h⟩ := lt_some h
  refine r_put C fr_X7_34 (Or.inl rfl) hW a_0_38 rfl rfl rfl rfl dX7_init_46 (fun H locs hW => ?_)
  rw [← e_I_46] at hW
  refine lv_aload_n hx hb dX7_init_49 rfl (lv_at hl 0 rfl) ?_
  refine lv_bipush (v := 15) hx hb dX7_init_50 (by decide) ?_
  obtain ⟨I_52, e_I_52, h⟩ := lt_some h
  refine r_put C fr_X7_37 (Or.inl rfl) hW a_0_38 rfl rfl rfl rfl dX7_init_52 (fun H locs hW => ?_)
  rw [← e_I_52] at hW
  refine lv_aload_n hx hb dX7_init_55 rfl (lv_at hl 0 rfl) ?_
  refine lv_iconst (v := 0) hx hb dX7_init_56 (by decide) ?_
  obtain ⟨I_57, e_I_57, h⟩ := lt_some h
  refine r_put C fr_X7_40 (Or.inl rfl) hW a_0_38 rfl rfl rfl rfl dX7_init_57 (fun H locs hW => ?_)
  rw [← e_I_57] at hW
  refine lv_aload_n hx hb dX7_init_60 rfl (lv_at hl 0 rfl) ?_
  refine lv_iconst (v := 2) hx hb dX7_init_61 (by decide) ?_
  obtain ⟨I_62, e_I_62, h⟩ := lt_some h
  refine r_put C fr_X7_43 (Or.inl rfl) hW a_0_38 rfl rfl rfl rfl dX7_init_62 (fun H locs hW => ?_)
  rw [← e_I_62] at hW
  refine lv_aload_n hx hb dX7_init_65 rfl (lv_at hl 0 rfl) ?_
  refine lv_bipush (v := 24) hx hb dX7_init_66 (by decide) ?_
  obtain ⟨g_68, h⟩ := gd_some h
  obtain ⟨I_68, e_I_68, h⟩ := lt_some h
  obtain ⟨R_68, e_R_68, h⟩ := lt_some h
  refine r_newa (at_ := .int) C gm_41 (Or.inr (Or.inl ⟨rfl, rfl⟩)) hW g_68.1 g_68.2.1 g_68.2.2.1 (by decide) g_68.2.2.2 (by rw [← g_68.2.2.2]; decide) (by decide) (by rw [← g_68.2.2.2]; decide) dX7_init_68 (fun H hW => ?_)
  rw [← g_68.2.2.2]
  rw [← e_I_68, ← e_R_68] at hW
  refine W.widen (k := 4) (n := 90) (by decide) (by decide) ?_
  have a_0_68 : (alu (alu (alu (alu al 1) 2) 3) 4) 0 = true := alu_old a_0_38
  have a_1_68 : (alu (alu (alu (alu al 1) 2) 3) 4) 1 = true := alu_old a_1_38
  have a_2_68 : (alu (alu (alu (alu al 1) 2) 3) 4) 2 = true := alu_old a_2_38
  have a_3_68 : (alu (alu (alu (alu al 1) 2) 3) 4) 3 = true := alu_old a_3_38
  have a_4_68 : (alu (alu (alu (alu al 1) 2) 3) 4) 4 = true := alu_new
  have k_4_68 : kd 4 = 10 := g_68.2.2.1
  obtain ⟨R_70, e_R_70, h⟩ := lt_some h
  refine r_putq C fr_X7_46 (Or.inr ⟨rfl, hmn, ⟨_, rfl, rfl⟩⟩) hW a_0_68 rfl rfl a_4_68 k_4_68 rfl rfl dX7_init_70 (fun H locs hW => ?_)
  rw [← e_R_70] at hW
  refine lv_aload_n hx hb dX7_init_73 rfl (lv_at hl 0 rfl) ?_
  refine lv_bipush (v := 24) hx hb dX7_init_74 (by decide) ?_
  obtain ⟨g_76, h⟩ := gd_some h
  obtain ⟨I_76, e_I_76, h⟩ := lt_some h
  obtain ⟨R_76, e_R_76, h⟩ := lt_some h
  refine r_newa (at_ := .boolean) C gm_42 (Or.inr (Or.inr ⟨rfl, rfl⟩)) hW g_76.1 g_76.2.1 g_76.2.2.1 (by decide) g_76.2.2.2 (by rw [← g_76.2.2.2]; decide) (by decide) (by rw [← g_76.2.2.2]; decide) dX7_init_76 (fun H hW => ?_)
  rw [← g_76.2.2.2]
  rw [← e_I_76, ← e_R_76] at hW
  refine W.widen (k := 5) (n := 114) (by decide) (by decide) ?_
  have a_0_76 : (alu (alu (alu (alu (alu al 1) 2) 3) 4) 5) 0 = true := alu_old a_0_68
  have a_1_76 : (alu (alu (alu (alu (alu al 1) 2) 3) 4) 5) 1 = true := alu_old a_1_68
  have a_2_76 : (alu (alu (alu (alu (alu al 1) 2) 3) 4) 5) 2 = true := alu_old a_2_68
  have a_3_76 : (alu (alu (alu (alu (alu al 1) 2) 3) 4) 5) 3 = true := alu_old a_3_68
  have a_4_76 : (alu (alu (alu (alu (alu al 1) 2) 3) 4) 5) 4 = true := alu_old a_4_68
  have a_5_76 : (alu (alu (alu (alu (alu al 1) 2) 3) 4) 5) 5 = true := alu_new
  have k_5_76 : kd 5 = 11 := g_76.2.2.1
  obtain ⟨R_78, e_R_78, h⟩ := lt_some h
  refine r_putq C fr_X7_50 (Or.inr ⟨rfl, hmn, ⟨_, rfl, rfl⟩⟩) hW a_0_76 rfl rfl a_5_76 k_5_76 rfl rfl dX7_init_78 (fun H locs hW => ?_)
  rw [← e_R_78] at hW
  refine lv_aload_n hx hb dX7_init_81 rfl (lv_at hl 0 rfl) ?_
  obtain ⟨g_82, h⟩ := gd_some h
  obtain ⟨I_82, e_I_82, h⟩ := lt_some h
  obtain ⟨R_82, e_R_82, h⟩ := lt_some h
  refine r_new C nc_X7_54 hW g_82.1 g_82.2.1 g_82.2.2 (by decide) (by decide) dX7_init_82 (fun H hW => ?_)
  rw [← e_I_82, ← e_R_82] at hW
  refine W.widen (k := 6) (n := 116) (by decide) (by decide) ?_
  have a_0_82 : (alu (alu (alu (alu (alu (alu al 1) 2) 3) 4) 5) 6) 0 = true := alu_old a_0_76
  have a_1_82 : (alu (alu (alu (alu (alu (alu al 1) 2) 3) 4) 5) 6) 1 = true := alu_old a_1_76
  have a_2_82 : (alu (alu (alu (alu (alu (alu al 1) 2) 3) 4) 5) 6) 2 = true := alu_old a_2_76
  have a_3_82 : (alu (alu (alu (alu (alu (alu al 1) 2) 3) 4) 5) 6) 3 = true := alu_old a_3_76
  have a_4_82 : (alu (alu (alu (alu (alu (alu al 1) 2) 3) 4) 5) 6) 4 = true := alu_old a_4_76
  have a_5_82 : (alu (alu (alu (alu (alu (alu al 1) 2) 3) 4) 5) 6) 5 = true := alu_old a_5_76
  have a_6_82 : (alu (alu (alu (alu (alu (alu al 1) 2) 3) 4) 5) 6) 6 = true := alu_new
  have k_6_82 : kd 6 = 6 := g_82.2.2
  refine lv_dup hx hb dX7_init_85 rfl ?_
  obtain ⟨z_86, e_z_86, h⟩ := bd_some h
  refine r_callIN (host := "GasYard") (v := none) (As := []) (rest := [.ref (q 6), .ref (q 0)]) C ml_X6_init (by decide +kernel) gm_30 rfl hW hl.1 (c_X6_init a_6_82 e_z_86) rfl ⟨(by decide), (by decide)⟩ ⟨(by decide), (by decide)⟩ rfl (Nat.le_of_ble_eq_true rfl) dX7_init_86 (fun H locs hW => ?_)
  have a_0_86 : (alu (alu (alu (alu (alu (alu (alu al 1) 2) 3) 4) 5) 6) 7) 0 = true := (alu_old a_0_82)
  have a_1_86 : (alu (alu (alu (alu (alu (alu (alu al 1) 2) 3) 4) 5) 6) 7) 1 = true := (alu_old a_1_82)
  have a_2_86 : (alu (alu (alu (alu (alu (alu (alu al 1) 2) 3) 4) 5) 6) 7) 2 = true := (alu_old a_2_82)
  have a_3_86 : (alu (alu (alu (alu (alu (alu (alu al 1) 2) 3) 4) 5) 6) 7) 3 = true := (alu_old a_3_82)
  have a_4_86 : (alu (alu (alu (alu (alu (alu (alu al 1) 2) 3) 4) 5) 6) 7) 4 = true := (alu_old a_4_82)
  have a_5_86 : (alu (alu (alu (alu (alu (alu (alu al 1) 2) 3) 4) 5) 6) 7) 5 = true := (alu_old a_5_82)
  have a_6_86 : (alu (alu (alu (alu (alu (alu (alu al 1) 2) 3) 4) 5) 6) 7) 6 = true := (alu_old a_6_82)
  obtain ⟨R_89, e_R_89, h⟩ := lt_some h
  refine r_putq C fr_X7_57 (Or.inr ⟨rfl, hmn, ⟨_, rfl, rfl⟩⟩) hW a_0_86 rfl rfl a_6_86 k_6_82 rfl rfl dX7_init_89 (fun H locs hW => ?_)
  rw [← e_R_89] at hW
  refine lv_aload_n hx hb dX7_init_92 rfl (lv_at hl 0 rfl) ?_
  obtain ⟨g_93, h⟩ := gd_some h
  obtain ⟨I_93, e_I_93, h⟩ := lt_some h
  obtain ⟨R_93, e_R_93, h⟩ := lt_some h
  refine r_new C nc_X7_61 hW g_93.1 g_93.2.1 g_93.2.2 (by decide) (by decide) dX7_init_93 (fun H hW => ?_)
  rw [← e_I_93, ← e_R_93] at hW
  refine W.widen (k := 8) (n := 320) (by decide) (by decide) ?_
  have a_0_93 : (alu (alu (alu (alu (alu (alu (alu (alu al 1) 2) 3) 4) 5) 6) 7) 8) 0 = true := alu_old a_0_86
  have a_1_93 : (alu (alu (alu (alu (alu (alu (alu (alu al 1) 2) 3) 4) 5) 6) 7) 8) 1 = true := alu_old a_1_86
  have a_2_93 : (alu (alu (alu (alu (alu (alu (alu (alu al 1) 2) 3) 4) 5) 6) 7) 8) 2 = true := alu_old a_2_86
  have a_3_93 : (alu (alu (alu (alu (alu (alu (alu (alu al 1) 2) 3) 4) 5) 6) 7) 8) 3 = true := alu_old a_3_86
  have a_4_93 : (alu (alu (alu (alu (alu (alu (alu (alu al 1) 2) 3) 4) 5) 6) 7) 8) 4 = true := alu_old a_4_86
  have a_5_93 : (alu (alu (alu (alu (alu (alu (alu (alu al 1) 2) 3) 4) 5) 6) 7) 8) 5 = true := alu_old a_5_86
  have a_6_93 : (alu (alu (alu (alu (alu (alu (alu (alu al 1) 2) 3) 4) 5) 6) 7) 8) 6 = true := alu_old a_6_86
  have a_8_93 : (alu (alu (alu (alu (alu (alu (alu (alu al 1) 2) 3) 4) 5) 6) 7) 8) 8 = true := alu_new
  have k_8_93 : kd 8 = 1 := g_93.2.2
  refine lv_dup hx hb dX7_init_96 rfl ?_
  refine lv_aload_n hx hb dX7_init_97 rfl (lv_at hl 0 rfl) ?_
  obtain ⟨z_98, e_z_98, h⟩ := bd_some h
  have a_z_98 : (alu (alu (alu (alu (alu (alu (alu (alu al 1) 2) 3) 4) 5) 6) 7) 8) z_98 = true := hW.cl a_0_93 e_z_98
  have k_z_98 : kd z_98 = 6 := hW.kn a_0_93 e_z_98 (by rfl)
  refine r_getq C fr_X7_57 hW a_0_93 rfl rfl e_z_98 dX7_init_98 ?_
  obtain ⟨z_101, e_z_101, h⟩ := bd_some h
  refine r_callI (v := none) (As := [.ref (q z_98)]) (rest := [.ref (q 8), .ref (q 0)]) C ml_X1_init gm_46 gm_47 rfl hW hl.1 (c_X1_init a_8_93 a_z_98 k_z_98 e_z_101) rfl ⟨(by decide), (by decide)⟩ ⟨(by decide), (by decide)⟩ rfl (Nat.le_of_ble_eq_true rfl) dX7_init_101 (fun H locs hW => ?_)
  have a_0_101 : (alu (alu (alu (alu (alu (alu (alu (alu (alu al 1) 2) 3) 4) 5) 6) 7) 8) 9) 0 = true := (alu_old a_0_93)
  have a_1_101 : (alu (alu (alu (alu (alu (alu (alu (alu (alu al 1) 2) 3) 4) 5) 6) 7) 8) 9) 1 = true := (alu_old a_1_93)
  have a_2_101 : (alu (alu (alu (alu (alu (alu (alu (alu (alu al 1) 2) 3) 4) 5) 6) 7) 8) 9) 2 = true := (alu_old a_2_93)
  have a_3_101 : (alu (alu (alu (alu (alu (alu (alu (alu (alu al 1) 2) 3) 4) 5) 6) 7) 8) 9) 3 = true := (alu_old a_3_93)
  have a_4_101 : (alu (alu (alu (alu (alu (alu (alu (alu (alu al 1) 2) 3) 4) 5) 6) 7) 8) 9) 4 = true := (alu_old a_4_93)
  have a_5_101 : (alu (alu (alu (alu (alu (alu (alu (alu (alu al 1) 2) 3) 4) 5) 6) 7) 8) 9) 5 = true := (alu_old a_5_93)
  have a_6_101 : (alu (alu (alu (alu (alu (alu (alu (alu (alu al 1) 2) 3) 4) 5) 6) 7) 8) 9) 6 = true := (alu_old a_6_93)
  have a_8_101 : (alu (alu (alu (alu (alu (alu (alu (alu (alu al 1) 2) 3) 4) 5) 6) 7) 8) 9) 8 = true := (alu_old a_8_93)
  have a_z_98_101 : (alu (alu (alu (alu (alu (alu (alu (alu (alu al 1) 2) 3) 4) 5) 6) 7) 8) 9) z_98 = true := (alu_old a_z_98)
  obtain ⟨R_104, e_R_104, h⟩ := lt_some h
  refine r_putq C fr_X7_66 (Or.inr ⟨rfl, hmn, ⟨_, rfl, rfl⟩⟩) hW a_0_101 rfl rfl a_8_101 k_8_93 rfl rfl dX7_init_104 (fun H locs hW => ?_)
  rw [← e_R_104] at hW
  refine lv_aload_n hx hb dX7_init_107 rfl (lv_at hl 0 rfl) ?_
  obtain ⟨g_108, h⟩ := gd_some h
  obtain ⟨I_108, e_I_108, h⟩ := lt_some h
  obtain ⟨R_108, e_R_108, h⟩ := lt_some h
  refine r_new C nc_X7_70 hW g_108.1 g_108.2.1 g_108.2.2 (by decide) (by decide) dX7_init_108 (fun H hW => ?_)
  rw [← e_I_108, ← e_R_108] at hW
  refine W.widen (k := 10) (n := 331) (by decide) (by decide) ?_
  have a_0_108 : (alu (alu (alu (alu (alu (alu (alu (alu (alu (alu al 1) 2) 3) 4) 5) 6) 7) 8) 9) 10) 0 = true := alu_old a_0_101
  have a_1_108 : (alu (alu (alu (alu (alu (alu (alu (alu (alu (alu al 1) 2) 3) 4) 5) 6) 7) 8) 9) 10) 1 = true := alu_old a_1_101
  have a_2_108 : (alu (alu (alu (alu (alu (alu (alu (alu (alu (alu al 1) 2) 3) 4) 5) 6) 7) 8) 9) 10) 2 = true := alu_old a_2_101
  have a_3_108 : (alu (alu (alu (alu (alu (alu (alu (alu (alu (alu al 1) 2) 3) 4) 5) 6) 7) 8) 9) 10) 3 = true := alu_old a_3_101
  have a_4_108 : (alu (alu (alu (alu (alu (alu (alu (alu (alu (alu al 1) 2) 3) 4) 5) 6) 7) 8) 9) 10) 4 = true := alu_old a_4_101
  have a_5_108 : (alu (alu (alu (alu (alu (alu (alu (alu (alu (alu al 1) 2) 3) 4) 5) 6) 7) 8) 9) 10) 5 = true := alu_old a_5_101
  have a_6_108 : (alu (alu (alu (alu (alu (alu (alu (alu (alu (alu al 1) 2) 3) 4) 5) 6) 7) 8) 9) 10) 6 = true := alu_old a_6_101
  have a_8_108 : (alu (alu (alu (alu (alu (alu (alu (alu (alu (alu al 1) 2) 3) 4) 5) 6) 7) 8) 9) 10) 8 = true := alu_old a_8_101
  have a_z_98_108 : (alu (alu (alu (alu (alu (alu (alu (alu (alu (alu al 1) 2) 3) 4) 5) 6) 7) 8) 9) 10) z_98 = true := alu_old a_z_98_101
  have a_10_108 : (alu (alu (alu (alu (alu (alu (alu (alu (alu (alu al 1) 2) 3) 4) 5) 6) 7) 8) 9) 10) 10 = true := alu_new
  have k_10_108 : kd 10 = 3 := g_108.2.2
  refine lv_dup hx hb dX7_init_111 rfl ?_
  obtain ⟨z_112, e_z_112, h⟩ := bd_some h
  refine r_callIN (host := "GasYard") (v := none) (As := []) (rest := [.ref (q 10), .ref (q 0)]) C ml_X3_init (by decide +kernel) gm_66 rfl hW hl.1 (c_X3_init a_10_108 e_z_112) rfl ⟨(by decide), (by decide)⟩ ⟨(by decide), (by decide)⟩ rfl (Nat.le_of_ble_eq_true rfl) dX7_init_112 (fun H locs hW => ?_)
  obtain ⟨R_115, e_R_115, h⟩ := lt_some h
  refine r_putq C fr_X7_73 (Or.inr ⟨rfl, hmn, ⟨_, rfl, rfl⟩⟩) hW a_0_108 rfl rfl a_10_108 k_10_108 rfl rfl dX7_init_115 (fun H locs hW => ?_)
  rw [← e_R_115] at hW
  refine lv_aload_n hx hb dX7_init_118 rfl (lv_at hl 0 rfl) ?_
  obtain ⟨g_119, h⟩ := gd_some h
  obtain ⟨I_119, e_I_119, h⟩ := lt_some h
  obtain ⟨R_119, e_R_119, h⟩ := lt_some h
  refine r_new C nc_X7_77 hW g_119.1 g_119.2.1 g_119.2.2 (by decide) (by decide) dX7_init_119 (fun H hW => ?_)
  rw [← e_I_119, ← e_R_119] at hW
  refine W.widen (k := 11) (n := 344) (by decide) (by decide) ?_
  have a_0_119 : (alu (alu (alu (alu (alu (alu (alu (alu (alu (alu (alu al 1) 2) 3) 4) 5) 6) 7) 8) 9) 10) 11) 0 = true := alu_old a_0_108
  have a_1_119 : (alu (alu (alu (alu (alu (alu (alu (alu (alu (alu (alu al 1) 2) 3) 4) 5) 6) 7) 8) 9) 10) 11) 1 = true := alu_old a_1_108
  have a_2_119 : (alu (alu (alu (alu (alu (alu (alu (alu (alu (alu (alu al 1) 2) 3) 4) 5) 6) 7) 8) 9) 10) 11) 2 = true := alu_old a_2_108
  have a_3_119 : (alu (alu (alu (alu (alu (alu (alu (alu (alu (alu (alu al 1) 2) 3) 4) 5) 6) 7) 8) 9) 10) 11) 3 = true := alu_old a_3_108
  have a_4_119 : (alu (alu (alu (alu (alu (alu (alu (alu (alu (alu (alu al 1) 2) 3) 4) 5) 6) 7) 8) 9) 10) 11) 4 = true := alu_old a_4_108
  have a_5_119 : (alu (alu (alu (alu (alu (alu (alu (alu (alu (alu (alu al 1) 2) 3) 4) 5) 6) 7) 8) 9) 10) 11) 5 = true := alu_old a_5_108
  have a_6_119 : (alu (alu (alu (alu (alu (alu (alu (alu (alu (alu (alu al 1) 2) 3) 4) 5) 6) 7) 8) 9) 10) 11) 6 = true := alu_old a_6_108
  have a_8_119 : (alu (alu (alu (alu (alu (alu (alu (alu (alu (alu (alu al 1) 2) 3) 4) 5) 6) 7) 8) 9) 10) 11) 8 = true := alu_old a_8_108
  have a_z_98_119 : (alu (alu (alu (alu (alu (alu (alu (alu (alu (alu (alu al 1) 2) 3) 4) 5) 6) 7) 8) 9) 10) 11) z_98 = true := alu_old a_z_98_108
  have a_10_119 : (alu (alu (alu (alu (alu (alu (alu (alu (alu (alu (alu al 1) 2) 3) 4) 5) 6) 7) 8) 9) 10) 11) 10 = true := alu_old a_10_108
  have a_11_119 : (alu (alu (alu (alu (alu (alu (alu (alu (alu (alu (alu al 1) 2) 3) 4) 5) 6) 7) 8) 9) 10) 11) 11 = true := alu_new
  have k_11_119 : kd 11 = 4 := g_119.2.2
  refine lv_dup hx hb dX7_init_122 rfl ?_
  obtain ⟨z_123, e_z_123, h⟩ := bd_some h
  refine r_callI (v := none) (As := []) (rest := [.ref (q 11), .ref (q 0)]) C ml_X4_init gm_92 gm_93 rfl hW hl.1 (c_X4_init a_11_119 e_z_123) rfl ⟨(by decide), (by decide)⟩ ⟨(by decide), (by decide)⟩ rfl (Nat.le_of_ble_eq_true rfl) dX7_init_123 (fun H locs hW => ?_)
  have a_0_123 : (alu (alu (alu (alu (alu (alu (alu (alu (alu (alu (alu (alu (alu (alu (alu (alu (alu (alu (alu (alu (alu (alu al 1) 2) 3) 4) 5) 6) 7) 8) 9) 10) 11) 12) 13) 18) 19) 20) 21) 22) 14) 15) 16) 17) 0 = true := (alu_old (alu_old (alu_old (alu_old (alu_old (alu_old (alu_old (alu_old (alu_old (alu_old (alu_old a_0_119)))))))))))
  have a_1_123 : (alu (alu (alu (alu (alu (alu (alu (alu (alu (alu (alu (alu (alu (alu (alu (alu (alu (alu (alu (alu (alu (alu al 1) 2) 3) 4) 5) 6) 7) 8) 9) 10) 11) 12) 13) 18) 19) 20) 21) 22) 14) 15) 16) 17) 1 = true := (alu_old (alu_old (alu_old (alu_old (alu_old (alu_old (alu_old (alu_old (alu_old (alu_old (alu_old a_1_119)))))))))))
  have a_2_123 : (alu (alu (alu (alu (alu (alu (alu (alu (alu (alu (alu (alu (alu (alu (alu (alu (alu (alu (alu (alu (alu (alu al 1) 2) 3) 4) 5) 6) 7) 8) 9) 10) 11) 12) 13) 18) 19) 20) 21) 22) 14) 15) 16) 17) 2 = true := (alu_old (alu_old (alu_old (alu_old (alu_old (alu_old (alu_old (alu_old (alu_old (alu_old (alu_old a_2_119)))))))))))
  have a_3_123 : (alu (alu (alu (alu (alu (alu (alu (alu (alu (alu (alu (alu (alu (alu (alu (alu (alu (alu (alu (alu (alu (alu al 1) 2) 3) 4) 5) 6) 7) 8) 9) 10) 11) 12) 13) 18) 19) 20) 21) 22) 14) 15) 16) 17) 3 = true := (alu_old (alu_old (alu_old (alu_old (alu_old (alu_old (alu_old (alu_old (alu_old (alu_old (alu_old a_3_119)))))))))))
  have a_4_123 : (alu (alu (alu (alu (alu (alu (alu (alu (alu (alu (alu (alu (alu (alu (alu (alu (alu (alu (alu (alu (alu (alu al 1) 2) 3) 4) 5) 6) 7) 8) 9) 10) 11) 12) 13) 18) 19) 20) 21) 22) 14) 15) 16) 17) 4 = true := (alu_old (alu_old (alu_old (alu_old (alu_old (alu_old (alu_old (alu_old (alu_old (alu_old (alu_old a_4_119)))))))))))
  have a_5_123 : (alu (alu (alu (alu (alu (alu (alu (alu (alu (alu (alu (alu (alu (alu (alu (alu (alu (alu (alu (alu (alu (alu al 1) 2) 3) 4) 5) 6) 7) 8) 9) 10) 11) 12) 13) 18) 19) 20) 21) 22) 14) 15) 16) 17) 5 = true := (alu_old (alu_old (alu_old (alu_old (alu_old (alu_old (alu_old (alu_old (alu_old (alu_old (alu_old a_5_119)))))))))))
  have a_6_123 : (alu (alu (alu (alu (alu (alu (alu (alu (alu (alu (alu (alu (alu (alu (alu (alu (alu (alu (alu (alu (alu (alu al 1) 2) 3) 4) 5) 6) 7) 8) 9) 10) 11) 12) 13) 18) 19) 20) 21) 22) 14) 15) 16) 17) 6 = true := (alu_old (alu_old (alu_old (alu_old (alu_old (alu_old (alu_old (alu_old (alu_old (alu_old (alu_old a_6_119)))))))))))
  have a_8_123 : (alu (alu (alu (alu (alu (alu (alu (alu (alu (alu (alu (alu (alu (alu (alu (alu (alu (alu (alu (alu (alu (alu al 1) 2) 3) 4) 5) 6) 7) 8) 9) 10) 11) 12) 13) 18) 19) 20) 21) 22) 14) 15) 16) 17) 8 = true := (alu_old (alu_old (alu_old (alu_old (alu_old (alu_old (alu_old (alu_old (alu_old (alu_old (alu_old a_8_119)))))))))))
  have a_z_98_123 : (alu (alu (alu (alu (alu (alu (alu (alu (alu (alu (alu (alu (alu (alu (alu (alu (alu (alu (alu (alu (alu (alu al 1) 2) 3) 4) 5) 6) 7) 8) 9) 10) 11) 12) 13) 18) 19) 20) 21) 22) 14) 15) 16) 17) z_98 = true := (alu_old (alu_old (alu_old (alu_old (alu_old (alu_old (alu_old (alu_old (alu_old (alu_old (alu_old a_z_98_119)))))))))))
  have a_10_123 : (alu (alu (alu (alu (alu (alu (alu (alu (alu (alu (alu (alu (alu (alu (alu (alu (alu (alu (alu (alu (alu (alu al 1) 2) 3) 4) 5) 6) 7) 8) 9) 10) 11) 12) 13) 18) 19) 20) 21) 22) 14) 15) 16) 17) 10 = true := (alu_old (alu_old (alu_old (alu_old (alu_old (alu_old (alu_old (alu_old (alu_old (alu_old (alu_old a_10_119)))))))))))
  have a_11_123 : (alu (alu (alu (alu (alu (alu (alu (alu (alu (alu (alu (alu (alu (alu (alu (alu (alu (alu (alu (alu (alu (alu al 1) 2) 3) 4) 5) 6) 7) 8) 9) 10) 11) 12) 13) 18) 19) 20) 21) 22) 14) 15) 16) 17) 11 = true := (alu_old (alu_old (alu_old (alu_old (alu_old (alu_old (alu_old (alu_old (alu_old (alu_old (alu_old a_11_119)))))))))))
  obtain ⟨R_126, e_R_126, h⟩ := lt_some h
  refine r_putq C fr_X7_80 (Or.inr ⟨rfl, hmn, ⟨_, rfl, rfl⟩⟩) hW a_0_123 rfl rfl a_11_123 k_11_119 rfl rfl dX7_init_126 (fun H locs hW => ?_)
  rw [← e_R_126] at hW
  refine lv_aload_n hx hb dX7_init_129 rfl (lv_at hl 0 rfl) ?_
  obtain ⟨g_130, h⟩ := gd_some h
  obtain ⟨I_130, e_I_130, h⟩ := lt_some h
  obtain ⟨R_130, e_R_130, h⟩ := lt_some h
  refine r_new C nc_X7_84 hW g_130.1 g_130.2.1 g_130.2.2 (by decide) (by decide) dX7_init_130 (fun H hW => ?_)
  rw [← e_I_130, ← e_R_130] at hW
  refine W.widen (k := 23) (n := 418) (by decide) (by decide) ?_
  have a_0_130 : (alu (alu (alu (alu (alu (alu (alu (alu (alu (alu (alu (alu (alu (alu (alu (alu (alu (alu (alu (alu (alu (alu (alu al 1) 2) 3) 4) 5) 6) 7) 8) 9) 10) 11) 12) 13) 18) 19) 20) 21) 22) 14) 15) 16) 17) 23) 0 = true := alu_old a_0_123
  have a_1_130 : (alu (alu (alu (alu (alu (alu (alu (alu (alu (alu (alu (alu (alu (alu (alu (alu (alu (alu (alu (alu (alu (alu (alu al 1) 2) 3) 4) 5) 6) 7) 8) 9) 10) 11) 12) 13) 18) 19) 20) 21) 22) 14) 15) 16) 17) 23) 1 = true := alu_old a_1_123
  have a_2_130 : (alu (alu (alu (alu (alu (alu (alu (alu (alu (alu (alu (alu (alu (alu (alu (alu (alu (alu (alu (alu (alu (alu (alu al 1) 2) 3) 4) 5) 6) 7) 8) 9) 10) 11) 12) 13) 18) 19) 20) 21) 22) 14) 15) 16) 17) 23) 2 = true := alu_old a_2_123
  have a_3_130 : (alu (alu (alu (alu (alu (alu (alu (alu (alu (alu (alu (alu (alu (alu (alu (alu (alu (alu (alu (alu (alu (alu (alu al 1) 2) 3) 4) 5) 6) 7) 8) 9) 10) 11) 12) 13) 18) 19) 20) 21) 22) 14) 15) 16) 17) 23) 3 = true := alu_old a_3_123
  have a_4_130 : (alu (alu (alu (alu (alu (alu (alu (alu (alu (alu (alu (alu (alu (alu (alu (alu (alu (alu (alu (alu (alu (alu (alu al 1) 2) 3) 4) 5) 6) 7) 8) 9) 10) 11) 12) 13) 18) 19) 20) 21) 22) 14) 15) 16) 17) 23) 4 = true := alu_old a_4_123
  have a_5_130 : (alu (alu (alu (alu (alu (alu (alu (alu (alu (alu (alu (alu (alu (alu (alu (alu (alu (alu (alu (alu (alu (alu (alu al 1) 2) 3) 4) 5) 6) 7) 8) 9) 10) 11) 12) 13) 18) 19) 20) 21) 22) 14) 15) 16) 17) 23) 5 = true := alu_old a_5_123
  have a_6_130 : (alu (alu (alu (alu (alu (alu (alu (alu (alu (alu (alu (alu (alu (alu (alu (alu (alu (alu (alu (alu (alu (alu (alu al 1) 2) 3) 4) 5) 6) 7) 8) 9) 10) 11) 12) 13) 18) 19) 20) 21) 22) 14) 15) 16) 17) 23) 6 = true := alu_old a_6_123
  have a_8_130 : (alu (alu (alu (alu (alu (alu (alu (alu (alu (alu (alu (alu (alu (alu (alu (alu (alu (alu (alu (alu (alu (alu (alu al 1) 2) 3) 4) 5) 6) 7) 8) 9) 10) 11) 12) 13) 18) 19) 20) 21) 22) 14) 15) 16) 17) 23) 8 = true := alu_old a_8_123
  have a_z_98_130 : (alu (alu (alu (alu (alu (alu (alu (alu (alu (alu (alu (alu (alu (alu (alu (alu (alu (alu (alu (alu (alu (alu (alu al 1) 2) 3) 4) 5) 6) 7) 8) 9) 10) 11) 12) 13) 18) 19) 20) 21) 22) 14) 15) 16) 17) 23) z_98 = true := alu_old a_z_98_123
  have a_10_130 : (alu (alu (alu (alu (alu (alu (alu (alu (alu (alu (alu (alu (alu (alu (alu (alu (alu (alu (alu (alu (alu (alu (alu al 1) 2) 3) 4) 5) 6) 7) 8) 9) 10) 11) 12) 13) 18) 19) 20) 21) 22) 14) 15) 16) 17) 23) 10 = true := alu_old a_10_123
  have a_11_130 : (alu (alu (alu (alu (alu (alu (alu (alu (alu (alu (alu (alu (alu (alu (alu (alu (alu (alu (alu (alu (alu (alu (alu al 1) 2) 3) 4) 5) 6) 7) 8) 9) 10) 11) 12) 13) 18) 19) 20) 21) 22) 14) 15) 16) 17) 23) 11 = true := alu_old a_11_123
  have a_23_130 : (alu (alu (alu (alu (alu (alu (alu (alu (alu (alu (alu (alu (alu (alu (alu (alu (alu (alu (alu (alu (alu (alu (alu al 1) 2) 3) 4) 5) 6) 7) 8) 9) 10) 11) 12) 13) 18) 19) 20) 21) 22) 14) 15) 16) 17) 23) 23 = true := alu_new
  have k_23_130 : kd 23 = 5 := g_130.2.2
  refine lv_dup hx hb dX7_init_133 rfl ?_
  obtain ⟨z_134, e_z_134, h⟩ := bd_some h
  refine r_callIN (host := "GasYard") (v := none) (As := []) (rest := [.ref (q 23), .ref (q 0)]) C ml_X5_init (by decide +kernel) gm_223 rfl hW hl.1 (c_X5_init a_23_130 k_23_130 e_z_134) rfl ⟨(by decide), (by decide)⟩ ⟨(by decide), (by decide)⟩ rfl (Nat.le_of_ble_eq_true rfl) dX7_init_134 (fun H locs hW => ?_)
  have a_0_134 : (alu (alu (alu (alu (alu (alu (alu (alu (alu (alu (alu (alu (alu (alu (alu (alu (alu (alu (alu (alu (alu (alu (alu (alu (alu al 1) 2) 3) 4) 5) 6) 7) 8) 9) 10) 11) 12) 13) 18) 19) 20) 21) 22) 14) 15) 16) 17) 23) (23 + 1)) (23 + 2)) 0 = true := (alu_old (alu_old a_0_130))
  have a_1_134 : (alu (alu (alu (alu (alu (alu (alu (alu (alu (alu (alu (alu (alu (alu (alu (alu (alu (alu (alu (alu (alu (alu (alu (alu (alu al 1) 2) 3) 4) 5) 6) 7) 8) 9) 10) 11) 12) 13) 18) 19) 20) 21) 22) 14) 15) 16) 17) 23) (23 + 1)) (23 + 2)) 1 = true := (alu_old (alu_old a_1_130))
  have a_2_134 : (alu (alu (alu (alu (alu (alu (alu (alu (alu (alu (alu (alu (alu (alu (alu (alu (alu (alu (alu (alu (alu (alu (alu (alu (alu al 1) 2) 3) 4) 5) 6) 7) 8) 9) 10) 11) 12) 13) 18) 19) 20) 21) 22) 14) 15) 16) 17) 23) (23 + 1)) (23 + 2)) 2 = true := (alu_old (alu_old a_2_130))
  have a_3_134 : (alu (alu (alu (alu (alu (alu (alu (alu (alu (alu (alu (alu (alu (alu (alu (alu (alu (alu (alu (alu (alu (alu (alu (alu (alu al 1) 2) 3) 4) 5) 6) 7) 8) 9) 10) 11) 12) 13) 18) 19) 20) 21) 22) 14) 15) 16) 17) 23) (23 + 1)) (23 + 2)) 3 = true := (alu_old (alu_old a_3_130))
  have a_4_134 : (alu (alu (alu (alu (alu (alu (alu (alu (alu (alu (alu (alu (alu (alu (alu (alu (alu (alu (alu (alu (alu (alu (alu (alu (alu al 1) 2) 3) 4) 5) 6) 7) 8) 9) 10) 11) 12) 13) 18) 19) 20) 21) 22) 14) 15) 16) 17) 23) (23 + 1)) (23 + 2)) 4 = true := (alu_old (alu_old a_4_130))
  have a_5_134 : (alu (alu (alu (alu (alu (alu (alu (alu (alu (alu (alu (alu (alu (alu (alu (alu (alu (alu (alu (alu (alu (alu (alu (alu (alu al 1) 2) 3) 4) 5) 6) 7) 8) 9) 10) 11) 12) 13) 18) 19) 20) 21) 22) 14) 15) 16) 17) 23) (23 + 1)) (23 + 2)) 5 = true := (alu_old (alu_old a_5_130))
  have a_6_134 : (alu (alu (alu (alu (alu (alu (alu (alu (alu (alu (alu (alu (alu (alu (alu (alu (alu (alu (alu (alu (alu (alu (alu (alu (alu al 1) 2) 3) 4) 5) 6) 7) 8) 9) 10) 11) 12) 13) 18) 19) 20) 21) 22) 14) 15) 16) 17) 23) (23 + 1)) (23 + 2)) 6 = true := (alu_old (alu_old a_6_130))
  have a_8_134 : (alu (alu (alu (alu (alu (alu (alu (alu (alu (alu (alu (alu (alu (alu (alu (alu (alu (alu (alu (alu (alu (alu (alu (alu (alu al 1) 2) 3) 4) 5) 6) 7) 8) 9) 10) 11) 12) 13) 18) 19) 20) 21) 22) 14) 15) 16) 17) 23) (23 + 1)) (23 + 2)) 8 = true := (alu_old (alu_old a_8_130))
  have a_z_98_134 : (alu (alu (alu (alu (alu (alu (alu (alu (alu (alu (alu (alu (alu (alu (alu (alu (alu (alu (alu (alu (alu (alu (alu (alu (alu al 1) 2) 3) 4) 5) 6) 7) 8) 9) 10) 11) 12) 13) 18) 19) 20) 21) 22) 14) 15) 16) 17) 23) (23 + 1)) (23 + 2)) z_98 = true := (alu_old (alu_old a_z_98_130))
  have a_10_134 : (alu (alu (alu (alu (alu (alu (alu (alu (alu (alu (alu (alu (alu (alu (alu (alu (alu (alu (alu (alu (alu (alu (alu (alu (alu al 1) 2) 3) 4) 5) 6) 7) 8) 9) 10) 11) 12) 13) 18) 19) 20) 21) 22) 14) 15) 16) 17) 23) (23 + 1)) (23 + 2)) 10 = true := (alu_old (alu_old a_10_130))
  have a_11_134 : (alu (alu (alu (alu (alu (alu (alu (alu (alu (alu (alu (alu (alu (alu (alu (alu (alu (alu (alu (alu (alu (alu (alu (alu (alu al 1) 2) 3) 4) 5) 6) 7) 8) 9) 10) 11) 12) 13) 18) 19) 20) 21) 22) 14) 15) 16) 17) 23) (23 + 1)) (23 + 2)) 11 = true := (alu_old (alu_old a_11_130))
  have a_23_134 : (alu (alu (alu (alu (alu (alu (alu (alu (alu (alu (alu (alu (alu (alu (alu (alu (alu (alu (alu (alu (alu (alu (alu (alu (alu al 1) 2) 3) 4) 5) 6) 7) 8) 9) 10) 11) 12) 13) 18) 19) 20) 21) 22) 14) 15) 16) 17) 23) (23 + 1)) (23 + 2)) 23 = true := (alu_old (alu_old a_23_130))
  obtain ⟨R_137, e_R_137, h⟩ := lt_some h
  refine r_putq C fr_X7_87 (Or.inl rfl) hW a_0_134 rfl rfl a_23_134 k_23_130 rfl rfl dX7_init_137 (fun H locs hW => ?_)
  rw [← e_R_137] at hW
  refine lv_aload_n hx hb dX7_init_140 rfl (lv_at hl 0 rfl) ?_
  obtain ⟨g_141, h⟩ := gd_some h
  obtain ⟨I_141, e_I_141, h⟩ := lt_some h
  obtain ⟨R_141, e_R_141, h⟩ := lt_some h
  refine r_new C nc_X7_84 hW g_141.1 g_141.2.1 g_141.2.2 (by decide) (by decide) dX7_init_141 (fun H hW => ?_)
  rw [← e_I_141, ← e_R_141] at hW
  refine W.widen (k := 26) (n := 442) (by decide) (by decide) ?_
  have a_0_141 : (alu (alu (alu (alu (alu (alu (alu (alu (alu (alu (alu (alu (alu (alu (alu (alu (alu (alu (alu (alu (alu (alu (alu (alu (alu (alu al 1) 2) 3) 4) 5) 6) 7) 8) 9) 10) 11) 12) 13) 18) 19) 20) 21) 22) 14) 15) 16) 17) 23) (23 + 1)) (23 + 2)) 26) 0 = true := alu_old a_0_134
  have a_1_141 : (alu (alu (alu (alu (alu (alu (alu (alu (alu (alu (alu (alu (alu (alu (alu (alu (alu (alu (alu (alu (alu (alu (alu (alu (alu (alu al 1) 2) 3) 4) 5) 6) 7) 8) 9) 10) 11) 12) 13) 18) 19) 20) 21) 22) 14) 15) 16) 17) 23) (23 + 1)) (23 + 2)) 26) 1 = true := alu_old a_1_134
  have a_2_141 : (alu (alu (alu (alu (alu (alu (alu (alu (alu (alu (alu (alu (alu (alu (alu (alu (alu (alu (alu (alu (alu (alu (alu (alu (alu (alu al 1) 2) 3) 4) 5) 6) 7) 8) 9) 10) 11) 12) 13) 18) 19) 20) 21) 22) 14) 15) 16) 17) 23) (23 + 1)) (23 + 2)) 26) 2 = true := alu_old a_2_134
  have a_3_141 : (alu (alu (alu (alu (alu (alu (alu (alu (alu (alu (alu (alu (alu (alu (alu (alu (alu (alu (alu (alu (alu (alu (alu (alu (alu (alu al 1) 2) 3) 4) 5) 6) 7) 8) 9) 10) 11) 12) 13) 18) 19) 20) 21) 22) 14) 15) 16) 17) 23) (23 + 1)) (23 + 2)) 26) 3 = true := alu_old a_3_134
  have a_4_141 : (alu (alu (alu (alu (alu (alu (alu (alu (alu (alu (alu (alu (alu (alu (alu (alu (alu (alu (alu (alu (alu (alu (alu (alu (alu (alu al 1) 2) 3) 4) 5) 6) 7) 8) 9) 10) 11) 12) 13) 18) 19) 20) 21) 22) 14) 15) 16) 17) 23) (23 + 1)) (23 + 2)) 26) 4 = true := alu_old a_4_134
  have a_5_141 : (alu (alu (alu (alu (alu (alu (alu (alu (alu (alu (alu (alu (alu (alu (alu (alu (alu (alu (alu (alu (alu (alu (alu (alu (alu (alu al 1) 2) 3) 4) 5) 6) 7) 8) 9) 10) 11) 12) 13) 18) 19) 20) 21) 22) 14) 15) 16) 17) 23) (23 + 1)) (23 + 2)) 26) 5 = true := alu_old a_5_134
  have a_6_141 : (alu (alu (alu (alu (alu (alu (alu (alu (alu (alu (alu (alu (alu (alu (alu (alu (alu (alu (alu (alu (alu (alu (alu (alu (alu (alu al 1) 2) 3) 4) 5) 6) 7) 8) 9) 10) 11) 12) 13) 18) 19) 20) 21) 22) 14) 15) 16) 17) 23) (23 + 1)) (23 + 2)) 26) 6 = true := alu_old a_6_134
  have a_8_141 : (alu (alu (alu (alu (alu (alu (alu (alu (alu (alu (alu (alu (alu (alu (alu (alu (alu (alu (alu (alu (alu (alu (alu (alu (alu (alu al 1) 2) 3) 4) 5) 6) 7) 8) 9) 10) 11) 12) 13) 18) 19) 20) 21) 22) 14) 15) 16) 17) 23) (23 + 1)) (23 + 2)) 26) 8 = true := alu_old a_8_134
  have a_z_98_141 : (alu (alu (alu (alu (alu (alu (alu (alu (alu (alu (alu (alu (alu (alu (alu (alu (alu (alu (alu (alu (alu (alu (alu (alu (alu (alu al 1) 2) 3) 4) 5) 6) 7) 8) 9) 10) 11) 12) 13) 18) 19) 20) 21) 22) 14) 15) 16) 17) 23) (23 + 1)) (23 + 2)) 26) z_98 = true := alu_old a_z_98_134
  have a_10_141 : (alu (alu (alu (alu (alu (alu (alu (alu (alu (alu (alu (alu (alu (alu (alu (alu (alu (alu (alu (alu (alu (alu (alu (alu (alu (alu al 1) 2) 3) 4) 5) 6) 7) 8) 9) 10) 11) 12) 13) 18) 19) 20) 21) 22) 14) 15) 16) 17) 23) (23 + 1)) (23 + 2)) 26) 10 = true := alu_old a_10_134
  have a_11_141 : (alu (alu (alu (alu (alu (alu (alu (alu (alu (alu (alu (alu (alu (alu (alu (alu (alu (alu (alu (alu (alu (alu (alu (alu (alu (alu al 1) 2) 3) 4) 5) 6) 7) 8) 9) 10) 11) 12) 13) 18) 19) 20) 21) 22) 14) 15) 16) 17) 23) (23 + 1)) (23 + 2)) 26) 11 = true := alu_old a_11_134
  have a_23_141 : (alu (alu (alu (alu (alu (alu (alu (alu (alu (alu (alu (alu (alu (alu (alu (alu (alu (alu (alu (alu (alu (alu (alu (alu (alu (alu al 1) 2) 3) 4) 5) 6) 7) 8) 9) 10) 11) 12) 13) 18) 19) 20) 21) 22) 14) 15) 16) 17) 23) (23 + 1)) (23 + 2)) 26) 23 = true := alu_old a_23_134
  have a_26_141 : (alu (alu (alu (alu (alu (alu (alu (alu (alu (alu (alu (alu (alu (alu (alu (alu (alu (alu (alu (alu (alu (alu (alu (alu (alu (alu al 1) 2) 3) 4) 5) 6) 7) 8) 9) 10) 11) 12) 13) 18) 19) 20) 21) 22) 14) 15) 16) 17) 23) (23 + 1)) (23 + 2)) 26) 26 = true := alu_new
  have k_26_141 : kd 26 = 5 := g_141.2.2
  refine lv_dup hx hb dX7_init_144 rfl ?_
  obtain ⟨z_145, e_z_145, h⟩ := bd_some h
  refine r_callIN (host := "GasYard") (v := none) (As := []) (rest := [.ref (q 26), .ref (q 0)]) C ml_X5_init (by decide +kernel) gm_223 rfl hW hl.1 (c_X5_init a_26_141 k_26_141 e_z_145) rfl ⟨(by decide), (by decide)⟩ ⟨(by decide), (by decide)⟩ rfl (Nat.le_of_ble_eq_true rfl) dX7_init_145 (fun H locs hW => ?_)
  have a_0_145 : (alu (alu (alu (alu (alu (alu (alu (alu (alu (alu (alu (alu (alu (alu (alu (alu (alu (alu (alu (alu (alu (alu (alu (alu (alu (alu (alu (alu al 1) 2) 3) 4) 5) 6) 7) 8) 9) 10) 11) 12) 13) 18) 19) 20) 21) 22) 14) 15) 16) 17) 23) (23 + 1)) (23 + 2)) 26) (26 + 1)) (26 + 2)) 0 = true := (alu_old (alu_old a_0_141))
  have a_1_145 : (alu (alu (alu (alu (alu (alu (alu (alu (alu (alu (alu (alu (alu (alu (alu (alu (alu (alu (alu (alu (alu (alu (alu (alu (alu (alu (alu (alu al 1) 2) 3) 4) 5) 6) 7) 8) 9) 10) 11) 12) 13) 18) 19) 20) 21) 22) 14) 15) 16) 17) 23) (23 + 1)) (23 + 2)) 26) (26 + 1)) (26 + 2)) 1 = true := (alu_old (alu_old a_1_141))
  have a_2_145 : (alu (alu (alu (alu (alu (alu (alu (alu (alu (alu (alu (alu (alu (alu (alu (alu (alu (alu (alu (alu (alu (alu (alu (alu (alu (alu (alu (alu al 1) 2) 3) 4) 5) 6) 7) 8) 9) 10) 11) 12) 13) 18) 19) 20) 21) 22) 14) 15) 16) 17) 23) (23 + 1)) (23 + 2)) 26) (26 + 1)) (26 + 2)) 2 = true := (alu_old (alu_old a_2_141))
  have a_3_145 : (alu (alu (alu (alu (alu (alu (alu (alu (alu (alu (alu (alu (alu (alu (alu (alu (alu (alu (alu (alu (alu (alu (alu (alu (alu (alu (alu (alu al 1) 2) 3) 4) 5) 6) 7) 8) 9) 10) 11) 12) 13) 18) 19) 20) 21) 22) 14) 15) 16) 17) 23) (23 + 1)) (23 + 2)) 26) (26 + 1)) (26 + 2)) 3 = true := (alu_old (alu_old a_3_141))
  have a_4_145 : (alu (alu (alu (alu (alu (alu (alu (alu (alu (alu (alu (alu (alu (alu (alu (alu (alu (alu (alu (alu (alu (alu (alu (alu (alu (alu (alu (alu al 1) 2) 3) 4) 5) 6) 7) 8) 9) 10) 11) 12) 13) 18) 19) 20) 21) 22) 14) 15) 16) 17) 23) (23 + 1)) (23 + 2)) 26) (26 + 1)) (26 + 2)) 4 = true := (alu_old (alu_old a_4_141))
  have a_5_145 : (alu (alu (alu (alu (alu (alu (alu (alu (alu (alu (alu (alu (alu (alu (alu (alu (alu (alu (alu (alu (alu (alu (alu (alu (alu (alu (alu (alu al 1) 2) 3) 4) 5) 6) 7) 8) 9) 10) 11) 12) 13) 18) 19) 20) 21) 22) 14) 15) 16) 17) 23) (23 + 1)) (23 + 2)) 26) (26 + 1)) (26 + 2)) 5 = true := (alu_old (alu_old a_5_141))
  have a_6_145 : (alu (alu (alu (alu (alu (alu (alu (alu (alu (alu (alu (alu (alu (alu (alu (alu (alu (alu (alu (alu (alu (alu (alu (alu (alu (alu (alu (alu al 1) 2) 3) 4) 5) 6) 7) 8) 9) 10) 11) 12) 13) 18) 19) 20) 21) 22) 14) 15) 16) 17) 23) (23 + 1)) (23 + 2)) 26) (26 + 1)) (26 + 2)) 6 = true := (alu_old (alu_old a_6_141))
  have a_8_145 : (alu (alu (alu (alu (alu (alu (alu (alu (alu (alu (alu (alu (alu (alu (alu (alu (alu (alu (alu (alu (alu (alu (alu (alu (alu (alu (alu (alu al 1) 2) 3) 4) 5) 6) 7) 8) 9) 10) 11) 12) 13) 18) 19) 20) 21) 22) 14) 15) 16) 17) 23) (23 + 1)) (23 + 2)) 26) (26 + 1)) (26 + 2)) 8 = true := (alu_old (alu_old a_8_141))
  have a_z_98_145 : (alu (alu (alu (alu (alu (alu (alu (alu (alu (alu (alu (alu (alu (alu (alu (alu (alu (alu (alu (alu (alu (alu (alu (alu (alu (alu (alu (alu al 1) 2) 3) 4) 5) 6) 7) 8) 9) 10) 11) 12) 13) 18) 19) 20) 21) 22) 14) 15) 16) 17) 23) (23 + 1)) (23 + 2)) 26) (26 + 1)) (26 + 2)) z_98 = true := (alu_old (alu_old a_z_98_141))
  have a_10_145 : (alu (alu (alu (alu (alu (alu (alu (alu (alu (alu (alu (alu (alu (alu (alu (alu (alu (alu (alu (alu (alu (alu (alu (alu (alu (alu (alu (alu al 1) 2) 3) 4) 5) 6) 7) 8) 9) 10) 11) 12) 13) 18) 19) 20) 21) 22) 14) 15) 16) 17) 23) (23 + 1)) (23 + 2)) 26) (26 + 1)) (26 + 2)) 10 = true := (alu_old (alu_old a_10_141))
  have a_11_145 : (alu (alu (alu (alu (alu (alu (alu (alu (alu (alu (alu (alu (alu (alu (alu (alu (alu (alu (alu (alu (alu (alu (alu (alu (alu (alu (alu (alu al 1) 2) 3) 4) 5) 6) 7) 8) 9) 10) 11) 12) 13) 18) 19) 20) 21) 22) 14) 15) 16) 17) 23) (23 + 1)) (23 + 2)) 26) (26 + 1)) (26 + 2)) 11 = true := (alu_old (alu_old a_11_141))
  have a_23_145 : (alu (alu (alu (alu (alu (alu (alu (alu (alu (alu (alu (alu (alu (alu (alu (alu (alu (alu (alu (alu (alu (alu (alu (alu (alu (alu (alu (alu al 1) 2) 3) 4) 5) 6) 7) 8) 9) 10) 11) 12) 13) 18) 19) 20) 21) 22) 14) 15) 16) 17) 23) (23 + 1)) (23 + 2)) 26) (26 + 1)) (26 + 2)) 23 = true := (alu_old (alu_old a_23_141))
  have a_26_145 : (alu (alu (alu (alu (alu (alu (alu (alu (alu (alu (alu (alu (alu (alu (alu (alu (alu (alu (alu (alu (alu (alu (alu (alu (alu (alu (alu (alu al 1) 2) 3) 4) 5) 6) 7) 8) 9) 10) 11) 12) 13) 18) 19) 20) 21) 22) 14) 15) 16) 17) 23) (23 + 1)) (23 + 2)) 26) (26 + 1)) (26 + 2)) 26 = true := (alu_old (alu_old a_26_141))
  obtain ⟨R_148, e_R_148, h⟩ := lt_some h
  refine r_putq C fr_X7_91 (Or.inl rfl) hW a_0_145 rfl rfl a_26_145 k_26_141 rfl rfl dX7_init_148 (fun H locs hW => ?_)
  rw [← e_R_148] at hW
  refine lv_iconst (v := 0) hx hb dX7_init_151 (by decide) ?_
  refine lv_istore_n (lv' := [(1, .int 0), (0, .ref (q 0))]) hx hb dX7_init_152 rfl hl (by decide) rfl (fun ls hl => ?_)
  exact t_X7_init_153 C hmn 1000000 a_0_145 h hW (lv_sub hl [1, 0] rfl)
