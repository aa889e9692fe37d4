def f_X8_see_38  (I : MI) (R : MR)  : Option (Int32 × MI) := (if (I 100 31) ≤ (I 100 32) then (some ((-1), I)) else (gd (ix (I 100 32) (ln 131)) (some ((I 131 (I 100 32).toNatClampNeg) &&& 255, I))))
set_option maxHeartbeats 4000000 in
set_option maxRecDepth 100000 in
theorem t_X8_see_38 {p : Program} {l : Launch} {e : Env} {s : State} {m : MethodId} {args : Array Value} {below : List Frame} {meth : Method} {c : Code} {E : EV} {q : Nat → Nat} {al : Nat → Bool} {n : Nat} (C : CX p s m args meth c E cX8_see RX8 1 (some .int)) {res : Int32 × MI}   {I : MI} {R : MR}  (a_100 : al 100 = true) {H : Heap} {locs : List Loc} {ls : Array Slot} (h : f_X8_see_38 I R = some res) (hW : Wd E q al s.heap I R n H locs) (hF : Fx al R) (hl : lv_has ls 1 [(0, .ref (q 100))]) : W p l e (rmL 1 0 0) s m args below meth c H locs 0 0 (MQ below (Pst E q (some (.int res.1)) al res.2 R n) args s 0 0 (Bs E)) (F0 m 38 ls []) := by
  have hx := C.1
  have hb := C.2.1
  unfold f_X8_see_38 at h
  refine lv_aload_n hx hb dX8_see_38 rfl (lv_at hl 0 rfl) ?_
  refine r_get C fr_X8_155 hW a_100 rfl rfl dX8_see_39 ?_
  refine lv_aload_n hx hb dX8_see_42 rfl (lv_at hl 0 rfl) ?_
  refine r_get C fr_X8_145 hW a_100 rfl rfl dX8_see_43 ?_
  refine lv_icmp_ge (tgt := 65) hx hb dX8_see_46 (by decide) (fun c_46 => ?_) (fun c_46 => ?_)
  · have h := (if_pos c_46).symm.trans h
    refine lv_iconst (v := (-1)) hx hb dX8_see_65 (by decide) ?_
    have h := Option.some.inj h
    subst h
    exact r_iret C hW dX8_see_66
  · have h := (if_neg c_46).symm.trans h
    refine lv_aload_n hx hb dX8_see_49 rfl (lv_at hl 0 rfl) ?_
    have ap_50 : al 131 = true := hW.cl a_100 (hF _ 30 _ a_100 rfl)
    refine r_getq C fr_X8_78 hW a_100 rfl rfl (hF _ 30 _ a_100 rfl) dX8_see_50 ?_
    refine lv_aload_n hx hb dX8_see_53 rfl (lv_at hl 0 rfl) ?_
    refine r_get C fr_X8_155 hW a_100 rfl rfl dX8_see_54 ?_
    obtain ⟨g_57, h⟩ := gd_some h
    refine r_bald C hW ap_50 rfl (ix_in g_57) dX8_see_57 ?_
    refine lv_sipush (v := 255) hx hb dX8_see_58 (by decide) ?_
    refine lv_iand hx hb dX8_see_61 ?_
    refine lv_goto (tgt := 66) hx hb dX8_see_62 (by decide) ?_
    have h := Option.some.inj h
    subst h
    exact r_iret C hW dX8_see_66
def f_X8_see_0  : Nat → MI → MR → Option (Int32 × MI)
  | 0, _, _ => none
  | nn + 1, I, R => (if (I 100 31) ≤ (I 100 32) then (f_X8_see_38 I R) else (gd (ix (I 100 32) (ln 131)) ((if (I 131 (I 100 32).toNatClampNeg) = 32 then (lt (p2 I 100 32 ((I 100 32) + 1)) (fun I_32 => f_X8_see_0 nn I_32 R)) else (f_X8_see_38 I R)))))
set_option maxHeartbeats 4000000 in
set_option maxRecDepth 100000 in
theorem t_X8_see_0 {p : Program} {l : Launch} {e : Env} {s : State} {m : MethodId} {args : Array Value} {below : List Frame} {meth : Method} {c : Code} {E : EV} {q : Nat → Nat} {al : Nat → Bool} {n : Nat} (C : CX p s m args meth c E cX8_see RX8 1 (some .int)) {res : Int32 × MI}   : ∀ (nn : Nat) {I : MI} {R : MR}  {H : Heap} {locs : List Loc} {ls : Array Slot} (a_100 : al 100 = true) (h : f_X8_see_0 nn I R = some res) (hW : Wd E q al s.heap I R n H locs) (hF : Fx al R) (hl : lv_has ls 1 [(0, .ref (q 100))]), W p l e (rmL 1 0 0) s m args below meth c H locs 0 0 (MQ below (Pst E q (some (.int res.1)) al res.2 R n) args s 0 0 (Bs E)) (F0 m 0 ls []) := by
  have hx := C.1
  have hb := C.2.1
  intro nn
  induction nn with
  | zero =>
    intro I R H locs ls a_100 h
    cases (show (none : Option (Int32 × MI)) = some res from h)
  | succ nn ih =>
    intro I R H locs ls a_100 h hW hF hl
    rw [f_X8_see_0.eq_2] at h
    refine lv_aload_n hx hb dX8_see_0 rfl (lv_at hl 0 rfl) ?_
    refine r_get C fr_X8_155 hW a_100 rfl rfl dX8_see_1 ?_
    refine lv_aload_n hx hb dX8_see_4 rfl (lv_at hl 0 rfl) ?_
    refine r_get C fr_X8_145 hW a_100 rfl rfl dX8_see_5 ?_
    refine lv_icmp_ge (tgt := 38) hx hb dX8_see_8 (by decide) (fun c_8 => ?_) (fun c_8 => ?_)
    · have h := (if_pos c_8).symm.trans h
      exact t_X8_see_38 C a_100 h hW hF (lv_sub hl [0] rfl)
    · have h := (if_neg c_8).symm.trans h
      refine lv_aload_n hx hb dX8_see_11 rfl (lv_at hl 0 rfl) ?_
      have ap_12 : al 131 = true := hW.cl a_100 (hF _ 30 _ a_100 rfl)
      refine r_getq C fr_X8_78 hW a_100 rfl rfl (hF _ 30 _ a_100 rfl) dX8_see_12 ?_
      refine lv_aload_n hx hb dX8_see_15 rfl (lv_at hl 0 rfl) ?_
      refine r_get C fr_X8_155 hW a_100 rfl rfl dX8_see_16 ?_
      obtain ⟨g_19, h⟩ := gd_some h
      refine r_bald C hW ap_12 rfl (ix_in g_19) dX8_see_19 ?_
      refine lv_bipush (v := 32) hx hb dX8_see_20 (by decide) ?_
      refine lv_icmp_ne (tgt := 38) hx hb dX8_see_22 (by decide) (fun c_22 => ?_) (fun c_22 => ?_)
      · have h := (if_neg c_22).symm.trans h
        exact t_X8_see_38 C a_100 h hW hF (lv_sub hl [0] rfl)
      · have h := (if_pos c_22).symm.trans h
        refine lv_aload_n hx hb dX8_see_25 rfl (lv_at hl 0 rfl) ?_
        refine lv_dup hx hb dX8_see_26 rfl ?_
        refine r_get C fr_X8_155 hW a_100 rfl rfl dX8_see_27 ?_
        refine lv_iconst (v := 1) hx hb dX8_see_30 (by decide) ?_
        refine lv_iadd hx hb dX8_see_31 ?_
        obtain ⟨I_32, e_I_32, h⟩ := lt_some h
        refine r_put C fr_X8_155 (Or.inl rfl) hW a_100 rfl rfl rfl rfl dX8_see_32 (fun H locs hW => ?_)
        rw [← e_I_32] at hW
        refine lv_goto (tgt := 0) hx hb dX8_see_35 (by decide) ?_
        exact ih a_100 h hW hF (lv_sub hl [0] rfl)
def f_X8_see (I : MI) (R : MR) : Option (Int32 × MI) := f_X8_see_0 1000000 I R
set_option maxHeartbeats 4000000 in
set_option maxRecDepth 100000 in
theorem c_X8_see {l : Launch} {E : EV} {q : Nat → Nat} {al : Nat → Bool} {n : Nat} {I : MI} {R : MR}  (a_100 : al 100 = true) (hF : Fx al R) {res : Int32 × MI} (h : f_X8_see I R = some res) : Ct l yX8_see cX8_see 1 (some .int) 1 0 0 E q al I R n [.ref (q 100)] (some (.int res.1)) al res.2 R n := by
  refine Ct.of (own := RX8) (mn := "see") (by decide) rfl rfl (Nat.le_of_ble_eq_true rfl) ?_
  intro p e s m args below meth c ls C hmn hargs hW hl
  have hx := C.1
  have hb := C.2.1
  have hl : lv_has ls 1 [(0, .ref (q 100))] := hl
  unfold f_X8_see at h
  exact t_X8_see_0 C 1000000 a_100 h hW hF (lv_sub hl [0] rfl)
def f_X8_wordHere_188 (k79 : MI → MR → Int32 → Option (Int32 × MI)) (I : MI) (R : MR) (x1 : Int32) (x3 : Int32) : Option (Int32 × MI) := (if x3 = 0 then (k79 I R (x1 + 1)) else (some (x1, I)))
set_option maxHeartbeats 4000000 in
set_option maxRecDepth 100000 in
theorem t_X8_wordHere_188 {p : Program} {l : Launch} {e : Env} {s : State} {m : MethodId} {args : Array Value} {below : List Frame} {meth : Method} {c : Code} {E : EV} {q : Nat → Nat} {al : Nat → Bool} {n : Nat} (C : CX p s m args meth c E cX8_wordHere RX8 5 (some .int)) {res : Int32 × MI} {k79 : MI → MR → Int32 → Option (Int32 × MI)} (hk79 : ∀ {I : MI} {R : MR} {x1 : Int32} {H : Heap} {locs : List Loc} {ls : Array Slot}, al 100 = true → k79 I R x1 = some res → Wd E q al s.heap I R n H locs → Fx al R → lv_has ls 5 [(0, .ref (q 100)), (1, .int x1)] → W p l e (rmL 2 0 0) s m args below meth c H locs 0 0 (MQ below (Pst E q (some (.int res.1)) al res.2 R n) args s 0 0 (Bs E)) (F0 m 79 ls [])) {I : MI} {R : MR} {x1 : Int32} {x3 : Int32} (a_100 : al 100 = true) {H : Heap} {locs : List Loc} {ls : Array Slot} (h : f_X8_wordHere_188 k79 I R x1 x3 = some res) (hW : Wd E q al s.heap I R n H locs) (hF : Fx al R) (hl : lv_has ls 5 [(0, .ref (q 100)), (1, .int x1), (3, .int x3)]) : W p l e (rmL 2 0 0) s m args below meth c H locs 0 0 (MQ below (Pst E q (some (.int res.1)) al res.2 R n) args s 0 0 (Bs E)) (F0 m 188 ls []) := by
  have hx := C.1
  have hb := C.2.1
  unfold f_X8_wordHere_188 at h
  refine lv_iload_n hx hb dX8_wordHere_188 rfl (lv_at hl 2 rfl) ?_
  refine lv_if_eq (tgt := 194) hx hb dX8_wordHere_189 (by decide) (fun c_189 => ?_) (fun c_189 => ?_)
  · have h := (if_pos c_189).symm.trans h
    refine lv_iinc (v := x1 + 1) (lv' := [(1, .int (x1 + 1)), (0, .ref (q 100)), (3, .int x3)]) hx hb dX8_wordHere_194 hl (k := 1) rfl rfl (by decide) rfl (fun ls hl => ?_)
    refine lv_goto (tgt := 79) hx hb dX8_wordHere_197 (by decide) ?_
    exact hk79 a_100 h hW hF (lv_sub hl [1, 0] rfl)
  · have h := (if_neg c_189).symm.trans h
    refine lv_iload_n hx hb dX8_wordHere_192 rfl (lv_at hl 1 rfl) ?_
    have h := Option.some.inj h
    subst h
    exact r_iret C hW dX8_wordHere_193
def f_X8_wordHere_139 (k79 : MI → MR → Int32 → Option (Int32 × MI)) : Nat → MI → MR → Int32 → Int32 → Int32 → Int32 → Option (Int32 × MI)
  | 0, _, _, _, _, _, _ => none
  | nn + 1, I, R, x1, x2, x3, x4 => (if x3 = 0 then (f_X8_wordHere_188 k79 I R x1 x3) else ((if x2 ≤ x4 then (f_X8_wordHere_188 k79 I R x1 x3) else (gd (ix ((6 * x1) + x4) (ln 145)) (gd (ix ((I 100 32) + x4) (ln 131)) ((if (I 145 ((6 * x1) + x4).toNatClampNeg) = (I 131 ((I 100 32) + x4).toNatClampNeg) then (f_X8_wordHere_139 k79 nn I R x1 x2 1 (x4 + 1)) else (f_X8_wordHere_139 k79 nn I R x1 x2 0 (x4 + 1)))))))))
set_option maxHeartbeats 4000000 in
set_option maxRecDepth 100000 in
theorem t_X8_wordHere_139 {p : Program} {l : Launch} {e : Env} {s : State} {m : MethodId} {args : Array Value} {below : List Frame} {meth : Method} {c : Code} {E : EV} {q : Nat → Nat} {al : Nat → Bool} {n : Nat} (C : CX p s m args meth c E cX8_wordHere RX8 5 (some .int)) {res : Int32 × MI} {k79 : MI → MR → Int32 → Option (Int32 × MI)} (hk79 : ∀ {I : MI} {R : MR} {x1 : Int32} {H : Heap} {locs : List Loc} {ls : Array Slot}, al 100 = true → k79 I R x1 = some res → Wd E q al s.heap I R n H locs → Fx al R → lv_has ls 5 [(0, .ref (q 100)), (1, .int x1)] → W p l e (rmL 2 0 0) s m args below meth c H locs 0 0 (MQ below (Pst E q (some (.int res.1)) al res.2 R n) args s 0 0 (Bs E)) (F0 m 79 ls [])) : ∀ (nn : Nat) {I : MI} {R : MR} {x1 : Int32} {x2 : Int32} {x3 : Int32} {x4 : Int32} {H : Heap} {locs : List Loc} {ls : Array Slot} (a_100 : al 100 = true) (h : f_X8_wordHere_139 k79 nn I R x1 x2 x3 x4 = some res) (hW : Wd E q al s.heap I R n H locs) (hF : Fx al R) (hl : lv_has ls 5 [(0, .ref (q 100)), (1, .int x1), (2, .int x2), (3, .int x3), (4, .int x4)]), W p l e (rmL 2 0 0) s m args below meth c H locs 0 0 (MQ below (Pst E q (some (.int res.1)) al res.2 R n) args s 0 0 (Bs E)) (F0 m 139 ls []) := by
  have hx := C.1
  have hb := C.2.1
  intro nn
  induction nn with
  | zero =>
    intro I R x1 x2 x3 x4 H locs ls a_100 h
    cases (show (none : Option (Int32 × MI)) = some res from h)
  | succ nn ih =>
    intro I R x1 x2 x3 x4 H locs ls a_100 h hW hF hl
    rw [f_X8_wordHere_139.eq_2] at h
    refine lv_iload_n hx hb dX8_wordHere_139 rfl (lv_at hl 3 rfl) ?_
    refine lv_if_eq (tgt := 188) hx hb dX8_wordHere_140 (by decide) (fun c_140 => ?_) (fun c_140 => ?_)
    · have h := (if_pos c_140).symm.trans h
      exact t_X8_wordHere_188 C hk79 a_100 h hW hF (lv_sub hl [0, 1, 3] rfl)
    · have h := (if_neg c_140).symm.trans h
      refine lv_iload hx hb dX8_wordHere_143 (lv_at hl 4 rfl) ?_
      refine lv_iload_n hx hb dX8_wordHere_145 rfl (lv_at hl 2 rfl) ?_
      refine lv_icmp_ge (tgt := 188) hx hb dX8_wordHere_146 (by decide) (fun c_146 => ?_) (fun c_146 => ?_)
      · have h := (if_pos c_146).symm.trans h
        exact t_X8_wordHere_188 C hk79 a_100 h hW hF (lv_sub hl [0, 1, 3] rfl)
      · have h := (if_neg c_146).symm.trans h
        refine lv_aload_n hx hb dX8_wordHere_149 rfl (lv_at hl 0 rfl) ?_
        have ap_150 : al 145 = true := hW.cl a_100 (hF _ 44 _ a_100 rfl)
        refine r_getq C fr_X8_100 hW a_100 rfl rfl (hF _ 44 _ a_100 rfl) dX8_wordHere_150 ?_
        refine lv_bipush (v := 6) hx hb dX8_wordHere_153 (by decide) ?_
        refine lv_iload_n hx hb dX8_wordHere_155 rfl (lv_at hl 1 rfl) ?_
        refine lv_imul hx hb dX8_wordHere_156 ?_
        refine lv_iload hx hb dX8_wordHere_157 (lv_at hl 4 rfl) ?_
        refine lv_iadd hx hb dX8_wordHere_159 ?_
        obtain ⟨g_160, h⟩ := gd_some h
        refine r_bald C hW ap_150 rfl (ix_in g_160) dX8_wordHere_160 ?_
        refine lv_aload_n hx hb dX8_wordHere_161 rfl (lv_at hl 0 rfl) ?_
        have ap_162 : al 131 = true := hW.cl a_100 (hF _ 30 _ a_100 rfl)
        refine r_getq C fr_X8_78 hW a_100 rfl rfl (hF _ 30 _ a_100 rfl) dX8_wordHere_162 ?_
        refine lv_aload_n hx hb dX8_wordHere_165 rfl (lv_at hl 0 rfl) ?_
        refine r_get C fr_X8_155 hW a_100 rfl rfl dX8_wordHere_166 ?_
        refine lv_iload hx hb dX8_wordHere_169 (lv_at hl 4 rfl) ?_
        refine lv_iadd hx hb dX8_wordHere_171 ?_
        obtain ⟨g_172, h⟩ := gd_some h
        refine r_bald C hW ap_162 rfl (ix_in g_172) dX8_wordHere_172 ?_
        refine lv_icmp_ne (tgt := 180) hx hb dX8_wordHere_173 (by decide) (fun c_173 => ?_) (fun c_173 => ?_)
        · have h := (if_neg c_173).symm.trans h
          refine lv_iconst (v := 0) hx hb dX8_wordHere_180 (by decide) ?_
          refine lv_istore_n (lv' := [(3, .int 0), (0, .ref (q 100)), (1, .int x1), (2, .int x2), (4, .int x4)]) hx hb dX8_wordHere_181 rfl hl (by decide) rfl (fun ls hl => ?_)
          refine lv_iinc (v := x4 + 1) (lv' := [(4, .int (x4 + 1)), (3, .int 0), (0, .ref (q 100)), (1, .int x1), (2, .int x2)]) hx hb dX8_wordHere_182 hl (k := 4) rfl rfl (by decide) rfl (fun ls hl => ?_)
          refine lv_goto (tgt := 139) hx hb dX8_wordHere_185 (by decide) ?_
          exact ih a_100 h hW hF (lv_sub hl [2, 3, 4, 1, 0] rfl)
        · have h := (if_pos c_173).symm.trans h
          refine lv_iconst (v := 1) hx hb dX8_wordHere_176 (by decide) ?_
          refine lv_goto (tgt := 181) hx hb dX8_wordHere_177 (by decide) ?_
          refine lv_istore_n (lv' := [(3, .int 1), (0, .ref (q 100)), (1, .int x1), (2, .int x2), (4, .int x4)]) hx hb dX8_wordHere_181 rfl hl (by decide) rfl (fun ls hl => ?_)
          refine lv_iinc (v := x4 + 1) (lv' := [(4, .int (x4 + 1)), (3, .int 1), (0, .ref (q 100)), (1, .int x1), (2, .int x2)]) hx hb dX8_wordHere_182 hl (k := 4) rfl rfl (by decide) rfl (fun ls hl => ?_)
          refine lv_goto (tgt := 139) hx hb dX8_wordHere_185 (by decide) ?_
          exact ih a_100 h hW hF (lv_sub hl [2, 3, 4, 1, 0] rfl)
def f_X8_wordHere_122 (k79 : MI → MR → Int32 → Option (Int32 × MI)) (I : MI) (R : MR) (x1 : Int32) (x2 : Int32) : Option (Int32 × MI) := (if x2 = (I 100 45) then (f_X8_wordHere_139 k79 1000000 I R x1 x2 1 0) else (f_X8_wordHere_139 k79 1000000 I R x1 x2 0 0))
set_option maxHeartbeats 4000000 in
set_option maxRecDepth 100000 in
theorem t_X8_wordHere_122 {p : Program} {l : Launch} {e : Env} {s : State} {m : MethodId} {args : Array Value} {below : List Frame} {meth : Method} {c : Code} {E : EV} {q : Nat → Nat} {al : Nat → Bool} {n : Nat} (C : CX p s m args meth c E cX8_wordHere RX8 5 (some .int)) {res : Int32 × MI} {k79 : MI → MR → Int32 → Option (Int32 × MI)} (hk79 : ∀ {I : MI} {R : MR} {x1 : Int32} {H : Heap} {locs : List Loc} {ls : Array Slot}, al 100 = true → k79 I R x1 = some res → Wd E q al s.heap I R n H locs → Fx al R → lv_has ls 5 [(0, .ref (q 100)), (1, .int x1)] → W p l e (rmL 2 0 0) s m args below meth c H locs 0 0 (MQ below (Pst E q (some (.int res.1)) al res.2 R n) args s 0 0 (Bs E)) (F0 m 79 ls [])) {I : MI} {R : MR} {x1 : Int32} {x2 : Int32} (a_100 : al 100 = true) {H : Heap} {locs : List Loc} {ls : Array Slot} (h : f_X8_wordHere_122 k79 I R x1 x2 = some res) (hW : Wd E q al s.heap I R n H locs) (hF : Fx al R) (hl : lv_has ls 5 [(0, .ref (q 100)), (1, .int x1), (2, .int x2)]) : W p l e (rmL 2 0 0) s m args below meth c H locs 0 0 (MQ below (Pst E q (some (.int res.1)) al res.2 R n) args s 0 0 (Bs E)) (F0 m 122 ls []) := by
  have hx := C.1
  have hb := C.2.1
  unfold f_X8_wordHere_122 at h
  refine lv_iload_n hx hb dX8_wordHere_122 rfl (lv_at hl 2 rfl) ?_
  refine lv_aload_n hx hb dX8_wordHere_123 rfl (lv_at hl 0 rfl) ?_
  refine r_get C fr_X8_162 hW a_100 rfl rfl dX8_wordHere_124 ?_
  refine lv_icmp_ne (tgt := 134) hx hb dX8_wordHere_127 (by decide) (fun c_127 => ?_) (fun c_127 => ?_)
  · have h := (if_neg c_127).symm.trans h
    refine lv_iconst (v := 0) hx hb dX8_wordHere_134 (by decide) ?_
    refine lv_istore_n (lv' := [(3, .int 0), (0, .ref (q 100)), (1, .int x1), (2, .int x2)]) hx hb dX8_wordHere_135 rfl hl (by decide) rfl (fun ls hl => ?_)
    refine lv_iconst (v := 0) hx hb dX8_wordHere_136 (by decide) ?_
    refine lv_istore (lv' := [(4, .int 0), (3, .int 0), (0, .ref (q 100)), (1, .int x1), (2, .int x2)]) hx hb dX8_wordHere_137 hl (by decide) rfl (fun ls hl => ?_)
    exact t_X8_wordHere_139 C hk79 1000000 a_100 h hW hF (lv_sub hl [2, 3, 4, 1, 0] rfl)
  · have h := (if_pos c_127).symm.trans h
    refine lv_iconst (v := 1) hx hb dX8_wordHere_130 (by decide) ?_
    refine lv_goto (tgt := 135) hx hb dX8_wordHere_131 (by decide) ?_
    refine lv_istore_n (lv' := [(3, .int 1), (0, .ref (q 100)), (1, .int x1), (2, .int x2)]) hx hb dX8_wordHere_135 rfl hl (by decide) rfl (fun ls hl => ?_)
    refine lv_iconst (v := 0) hx hb dX8_wordHere_136 (by decide) ?_
    refine lv_istore (lv' := [(4, .int 0), (3, .int 1), (0, .ref (q 100)), (1, .int x1), (2, .int x2)]) hx hb dX8_wordHere_137 hl (by decide) rfl (fun ls hl => ?_)
    exact t_X8_wordHere_139 C hk79 1000000 a_100 h hW hF (lv_sub hl [2, 3, 4, 1, 0] rfl)
def f_X8_wordHere_96 (k79 : MI → MR → Int32 → Option (Int32 × MI)) : Nat → MI → MR → Int32 → Int32 → Option (Int32 × MI)
  | 0, _, _, _, _ => none
  | nn + 1, I, R, x1, x2 => (if 6 ≤ x2 then (f_X8_wordHere_122 k79 I R x1 x2) else (gd (ix ((6 * x1) + x2) (ln 145)) ((if (I 145 ((6 * x1) + x2).toNatClampNeg) = 0 then (f_X8_wordHere_122 k79 I R x1 x2) else (f_X8_wordHere_96 k79 nn I R x1 (x2 + 1))))))
set_option maxHeartbeats 4000000 in
set_option maxRecDepth 100000 in
theorem t_X8_wordHere_96 {p : Program} {l : Launch} {e : Env} {s : State} {m : MethodId} {args : Array Value} {below : List Frame} {meth : Method} {c : Code} {E : EV} {q : Nat → Nat} {al : Nat → Bool} {n : Nat} (C : CX p s m args meth c E cX8_wordHere RX8 5 (some .int)) {res : Int32 × MI} {k79 : MI → MR → Int32 → Option (Int32 × MI)} (hk79 : ∀ {I : MI} {R : MR} {x1 : Int32} {H : Heap} {locs : List Loc} {ls : Array Slot}, al 100 = true → k79 I R x1 = some res → Wd E q al s.heap I R n H locs → Fx al R → lv_has ls 5 [(0, .ref (q 100)), (1, .int x1)] → W p l e (rmL 2 0 0) s m args below meth c H locs 0 0 (MQ below (Pst E q (some (.int res.1)) al res.2 R n) args s 0 0 (Bs E)) (F0 m 79 ls [])) : ∀ (nn : Nat) {I : MI} {R : MR} {x1 : Int32} {x2 : Int32} {H : Heap} {locs : List Loc} {ls : Array Slot} (a_100 : al 100 = true) (h : f_X8_wordHere_96 k79 nn I R x1 x2 = some res) (hW : Wd E q al s.heap I R n H locs) (hF : Fx al R) (hl : lv_has ls 5 [(0, .ref (q 100)), (1, .int x1), (2, .int x2)]), W p l e (rmL 2 0 0) s m args below meth c H locs 0 0 (MQ below (Pst E q (some (.int res.1)) al res.2 R n) args s 0 0 (Bs E)) (F0 m 96 ls []) := by
  have hx := C.1
  have hb := C.2.1
  intro nn
  induction nn with
  | zero =>
    intro I R x1 x2 H locs ls a_100 h
    cases (show (none : Option (Int32 × MI)) = some res from h)
  | succ nn ih =>
    intro I R x1 x2 H locs ls a_100 h hW hF hl
    rw [f_X8_wordHere_96.eq_2] at h
    refine lv_iload_n hx hb dX8_wordHere_96 rfl (lv_at hl 2 rfl) ?_
    refine lv_bipush (v := 6) hx hb dX8_wordHere_97 (by decide) ?_
    refine lv_icmp_ge (tgt := 122) hx hb dX8_wordHere_99 (by decide) (fun c_99 => ?_) (fun c_99 => ?_)
    · have h := (if_pos c_99).symm.trans h
      exact t_X8_wordHere_122 C hk79 a_100 h hW hF (lv_sub hl [0, 1, 2] rfl)
    · have h := (if_neg c_99).symm.trans h
      refine lv_aload_n hx hb dX8_wordHere_102 rfl (lv_at hl 0 rfl) ?_
      have ap_103 : al 145 = true := hW.cl a_100 (hF _ 44 _ a_100 rfl)
      refine r_getq C fr_X8_100 hW a_100 rfl rfl (hF _ 44 _ a_100 rfl) dX8_wordHere_103 ?_
      refine lv_bipush (v := 6) hx hb dX8_wordHere_106 (by decide) ?_
      refine lv_iload_n hx hb dX8_wordHere_108 rfl (lv_at hl 1 rfl) ?_
      refine lv_imul hx hb dX8_wordHere_109 ?_
      refine lv_iload_n hx hb dX8_wordHere_110 rfl (lv_at hl 2 rfl) ?_
      refine lv_iadd hx hb dX8_wordHere_111 ?_
      obtain ⟨g_112, h⟩ := gd_some h
      refine r_bald C hW ap_103 rfl (ix_in g_112) dX8_wordHere_112 ?_
      refine lv_if_eq (tgt := 122) hx hb dX8_wordHere_113 (by decide) (fun c_113 => ?_) (fun c_113 => ?_)
      · have h := (if_pos c_113).symm.trans h
        exact t_X8_wordHere_122 C hk79 a_100 h hW hF (lv_sub hl [0, 1, 2] rfl)
      · have h := (if_neg c_113).symm.trans h
        refine lv_iinc (v := x2 + 1) (lv' := [(2, .int (x2 + 1)), (0, .ref (q 100)), (1, .int x1)]) hx hb dX8_wordHere_116 hl (k := 2) rfl rfl (by decide) rfl (fun ls hl => ?_)
        refine lv_goto (tgt := 96) hx hb dX8_wordHere_119 (by decide) ?_
        exact ih a_100 h hW hF (lv_sub hl [1, 2, 0] rfl)
def f_X8_wordHere_79  : Nat → MI → MR → Int32 → Option (Int32 × MI)
  | 0, _, _, _ => none
  | nn + 1, I, R, x1 => (if 6 ≤ x1 then (some ((-1), I)) else ((if 6 < (I 100 45) then (some ((-1), I)) else (f_X8_wordHere_96 (f_X8_wordHere_79 nn) 1000000 I R x1 0))))
set_option maxHeartbeats 4000000 in
set_option maxRecDepth 100000 in
theorem t_X8_wordHere_79 {p : Program} {l : Launch} {e : Env} {s : State} {m : MethodId} {args : Array Value} {below : List Frame} {meth : Method} {c : Code} {E : EV} {q : Nat → Nat} {al : Nat → Bool} {n : Nat} (C : CX p s m args meth c E cX8_wordHere RX8 5 (some .int)) {res : Int32 × MI}   : ∀ (nn : Nat) {I : MI} {R : MR} {x1 : Int32} {H : Heap} {locs : List Loc} {ls : Array Slot} (a_100 : al 100 = true) (h : f_X8_wordHere_79 nn I R x1 = some res) (hW : Wd E q al s.heap I R n H locs) (hF : Fx al R) (hl : lv_has ls 5 [(0, .ref (q 100)), (1, .int x1)]), W p l e (rmL 2 0 0) s m args below meth c H locs 0 0 (MQ below (Pst E q (some (.int res.1)) al res.2 R n) args s 0 0 (Bs E)) (F0 m 79 ls []) := by
  have hx := C.1
  have hb := C.2.1
  intro nn
  induction nn with
  | zero =>
    intro I R x1 H locs ls a_100 h
    cases (show (none : Option (Int32 × MI)) = some res from h)
  | succ nn ih =>
    intro I R x1 H locs ls a_100 h hW hF hl
    rw [f_X8_wordHere_79.eq_2] at h
    refine lv_iload_n hx hb dX8_wordHere_79 rfl (lv_at hl 1 rfl) ?_
    refine lv_bipush (v := 6) hx hb dX8_wordHere_80 (by decide) ?_
    refine lv_icmp_ge (tgt := 200) hx hb dX8_wordHere_82 (by decide) (fun c_82 => ?_) (fun c_82 => ?_)
    · have h := (if_pos c_82).symm.trans h
      refine lv_iconst (v := (-1)) hx hb dX8_wordHere_200 (by decide) ?_
      have h := Option.some.inj h
      subst h
      exact r_iret C hW dX8_wordHere_201
    · have h := (if_neg c_82).symm.trans h
      refine lv_aload_n hx hb dX8_wordHere_85 rfl (lv_at hl 0 rfl) ?_
      refine r_get C fr_X8_162 hW a_100 rfl rfl dX8_wordHere_86 ?_
      refine lv_bipush (v := 6) hx hb dX8_wordHere_89 (by decide) ?_
      refine lv_icmp_gt (tgt := 200) hx hb dX8_wordHere_91 (by decide) (fun c_91 => ?_) (fun c_91 => ?_)
      · have h := (if_pos c_91).symm.trans h
        refine lv_iconst (v := (-1)) hx hb dX8_wordHere_200 (by decide) ?_
        have h := Option.some.inj h
        subst h
        exact r_iret C hW dX8_wordHere_201
      · have h := (if_neg c_91).symm.trans h
        refine lv_iconst (v := 0) hx hb dX8_wordHere_94 (by decide) ?_
        refine lv_istore_n (lv' := [(2, .int 0), (0, .ref (q 100)), (1, .int x1)]) hx hb dX8_wordHere_95 rfl hl (by decide) rfl (fun ls hl => ?_)
        exact t_X8_wordHere_96 C ih 1000000 a_100 h hW hF (lv_sub hl [1, 2, 0] rfl)
def f_X8_wordHere_10  : Nat → MI → MR → Option (Int32 × MI)
  | 0, _, _ => none
  | nn + 1, I, R => (if (I 100 31) ≤ ((I 100 32) + (I 100 45)) then (f_X8_wordHere_79 1000000 I R 0) else (gd (ix ((I 100 32) + (I 100 45)) (ln 131)) ((if (I 131 ((I 100 32) + (I 100 45)).toNatClampNeg) < 97 then (f_X8_wordHere_79 1000000 I R 0) else (gd (ix ((I 100 32) + (I 100 45)) (ln 131)) ((if 122 < (I 131 ((I 100 32) + (I 100 45)).toNatClampNeg) then (f_X8_wordHere_79 1000000 I R 0) else (lt (p2 I 100 45 ((I 100 45) + 1)) (fun I_71 => f_X8_wordHere_10 nn I_71 R)))))))))
set_option maxHeartbeats 4000000 in
set_option maxRecDepth 100000 in
theorem t_X8_wordHere_10 {p : Program} {l : Launch} {e : Env} {s : State} {m : MethodId} {args : Array Value} {below : List Frame} {meth : Method} {c : Code} {E : EV} {q : Nat → Nat} {al : Nat → Bool} {n : Nat} (C : CX p s m args meth c E cX8_wordHere RX8 5 (some .int)) {res : Int32 × MI}   : ∀ (nn : Nat) {I : MI} {R : MR}  {H : Heap} {locs : List Loc} {ls : Array Slot} (a_100 : al 100 = true) (h : f_X8_wordHere_10 nn I R = some res) (hW : Wd E q al s.heap I R n H locs) (hF : Fx al R) (hl : lv_has ls 5 [(0, .ref (q 100))]), W p l e (rmL 2 0 0) s m args below meth c H locs 0 0 (MQ below (Pst E q (some (.int res.1)) al res.2 R n) args s 0 0 (Bs E)) (F0 m 10 ls []) := by
  have hx := C.1
  have hb := C.2.1
  intro nn
  induction nn with
  | zero =>
    intro I R H locs ls a_100 h
    cases (show (none : Option (Int32 × MI)) = some res from h)
  | succ nn ih =>
    intro I R H locs ls a_100 h hW hF hl
    rw [f_X8_wordHere_10.eq_2] at h
    refine lv_aload_n hx hb dX8_wordHere_10 rfl (lv_at hl 0 rfl) ?_
    refine r_get C fr_X8_155 hW a_100 rfl rfl dX8_wordHere_11 ?_
    refine lv_aload_n hx hb dX8_wordHere_14 rfl (lv_at hl 0 rfl) ?_
    refine r_get C fr_X8_162 hW a_100 rfl rfl dX8_wordHere_15 ?_
    refine lv_iadd hx hb dX8_wordHere_18 ?_
    refine lv_aload_n hx hb dX8_wordHere_19 rfl (lv_at hl 0 rfl) ?_
    refine r_get C fr_X8_145 hW a_100 rfl rfl dX8_wordHere_20 ?_
    refine lv_icmp_ge (tgt := 77) hx hb dX8_wordHere_23 (by decide) (fun c_23 => ?_) (fun c_23 => ?_)
    · have h := (if_pos c_23).symm.trans h
      refine lv_iconst (v := 0) hx hb dX8_wordHere_77 (by decide) ?_
      refine lv_istore_n (lv' := [(1, .int 0), (0, .ref (q 100))]) hx hb dX8_wordHere_78 rfl hl (by decide) rfl (fun ls hl => ?_)
      exact t_X8_wordHere_79 C 1000000 a_100 h hW hF (lv_sub hl [1, 0] rfl)
    · have h := (if_neg c_23).symm.trans h
      refine lv_aload_n hx hb dX8_wordHere_26 rfl (lv_at hl 0 rfl) ?_
      have ap_27 : al 131 = true := hW.cl a_100 (hF _ 30 _ a_100 rfl)
      refine r_getq C fr_X8_78 hW a_100 rfl rfl (hF _ 30 _ a_100 rfl) dX8_wordHere_27 ?_
      refine lv_aload_n hx hb dX8_wordHere_30 rfl (lv_at hl 0 rfl) ?_
      refine r_get C fr_X8_155 hW a_100 rfl rfl dX8_wordHere_31 ?_
      refine lv_aload_n hx hb dX8_wordHere_34 rfl (lv_at hl 0 rfl) ?_
      refine r_get C fr_X8_162 hW a_100 rfl rfl dX8_wordHere_35 ?_
      refine lv_iadd hx hb dX8_wordHere_38 ?_
      obtain ⟨g_39, h⟩ := gd_some h
      refine r_bald C hW ap_27 rfl (ix_in g_39) dX8_wordHere_39 ?_
      refine lv_bipush (v := 97) hx hb dX8_wordHere_40 (by decide) ?_
      refine lv_icmp_lt (tgt := 77) hx hb dX8_wordHere_42 (by decide) (fun c_42 => ?_) (fun c_42 => ?_)
      · have h := (if_pos c_42).symm.trans h
        refine lv_iconst (v := 0) hx hb dX8_wordHere_77 (by decide) ?_
        refine lv_istore_n (lv' := [(1, .int 0), (0, .ref (q 100))]) hx hb dX8_wordHere_78 rfl hl (by decide) rfl (fun ls hl => ?_)
        exact t_X8_wordHere_79 C 1000000 a_100 h hW hF (lv_sub hl [1, 0] rfl)
      · have h := (if_neg c_42).symm.trans h
        refine lv_aload_n hx hb dX8_wordHere_45 rfl (lv_at hl 0 rfl) ?_
        refine r_getq C fr_X8_78 hW a_100 rfl rfl (hF _ 30 _ a_100 rfl) dX8_wordHere_46 ?_
        refine lv_aload_n hx hb dX8_wordHere_49 rfl (lv_at hl 0 rfl) ?_
        refine r_get C fr_X8_155 hW a_100 rfl rfl dX8_wordHere_50 ?_
        refine lv_aload_n hx hb dX8_wordHere_53 rfl (lv_at hl 0 rfl) ?_
        refine r_get C fr_X8_162 hW a_100 rfl rfl dX8_wordHere_54 ?_
        refine lv_iadd hx hb dX8_wordHere_57 ?_
        obtain ⟨g_58, h⟩ := gd_some h
        refine r_bald C hW ap_27 rfl (ix_in g_58) dX8_wordHere_58 ?_
        refine lv_bipush (v := 122) hx hb dX8_wordHere_59 (by decide) ?_
        refine lv_icmp_gt (tgt := 77) hx hb dX8_wordHere_61 (by decide) (fun c_61 => ?_) (fun c_61 => ?_)
        · have h := (if_pos c_61).symm.trans h
          refine lv_iconst (v := 0) hx hb dX8_wordHere_77 (by decide) ?_
          refine lv_istore_n (lv' := [(1, .int 0), (0, .ref (q 100))]) hx hb dX8_wordHere_78 rfl hl (by decide) rfl (fun ls hl => ?_)
          exact t_X8_wordHere_79 C 1000000 a_100 h hW hF (lv_sub hl [1, 0] rfl)
        · have h := (if_neg c_61).symm.trans h
          refine lv_aload_n hx hb dX8_wordHere_64 rfl (lv_at hl 0 rfl) ?_
          refine lv_dup hx hb dX8_wordHere_65 rfl ?_
          refine r_get C fr_X8_162 hW a_100 rfl rfl dX8_wordHere_66 ?_
          refine lv_iconst (v := 1) hx hb dX8_wordHere_69 (by decide) ?_
          refine lv_iadd hx hb dX8_wordHere_70 ?_
          obtain ⟨I_71, e_I_71, h⟩ := lt_some h
          refine r_put C fr_X8_162 (Or.inl rfl) hW a_100 rfl rfl rfl rfl dX8_wordHere_71 (fun H locs hW => ?_)
          rw [← e_I_71] at hW
          refine lv_goto (tgt := 10) hx hb dX8_wordHere_74 (by decide) ?_
          exact ih a_100 h hW hF (lv_sub hl [0] rfl)
def f_X8_wordHere (I : MI) (R : MR) : Option (Int32 × MI) := bd (f_X8_see I R) (fun z_1 => lt (p2 z_1.2 100 45 0) (fun I_7 => f_X8_wordHere_10 1000000 I_7 R))
set_option maxHeartbeats 4000000 in
set_option maxRecDepth 100000 in
theorem c_X8_wordHere {l : Launch} {E : EV} {q : Nat → Nat} {al : Nat → Bool} {n : Nat} {I : MI} {R : MR}  (a_100 : al 100 = true) (hF : Fx al R) {res : Int32 × MI} (h : f_X8_wordHere I R = some res) : Ct l yX8_wordHere cX8_wordHere 5 (some .int) 2 0 0 E q al I R n [.ref (q 100)] (some (.int res.1)) al res.2 R n := by
  refine Ct.of (own := RX8) (mn := "wordHere") (by decide) rfl rfl (Nat.le_of_ble_eq_true rfl) ?_
  intro p e s m args below meth c ls C hmn hargs hW hl
  have hx := C.1
  have hb := C.2.1
  have hl : lv_has ls 5 [(0, .ref (q 100))] := hl
  unfold f_X8_wordHere at h
  refine lv_aload_n hx hb dX8_wordHere_0 rfl (lv_at hl 0 rfl) ?_
  obtain ⟨z_1, e_z_1, h⟩ := bd_some h
  refine r_callV (v := (some (.int z_1.1))) (As := []) (rest := []) C ml_X8_see gm_916 gm_918 gs_28 (ci := 8) rfl hW a_100 rfl hl.1 (c_X8_see a_100 hF e_z_1) rfl ⟨(by decide), (by decide)⟩ ⟨(by decide), (by decide)⟩ rfl (Nat.le_of_ble_eq_true rfl) dX8_wordHere_1 (fun H locs hW => ?_)
  refine lv_pop hx hb dX8_wordHere_4 rfl ?_
  refine lv_aload_n hx hb dX8_wordHere_5 rfl (lv_at hl 0 rfl) ?_
  refine lv_iconst (v := 0) hx hb dX8_wordHere_6 (by decide) ?_
  obtain ⟨I_7, e_I_7, h⟩ := lt_some h
  refine r_put C fr_X8_162 (Or.inl rfl) hW a_100 rfl rfl rfl rfl dX8_wordHere_7 (fun H locs hW => ?_)
  rw [← e_I_7] at hW
  exact t_X8_wordHere_10 C 1000000 a_100 h hW hF (lv_sub hl [0] rfl)
def f_X8_number_17  (I : MI) (R : MR)  : Option (Int32 × MI) := bd (f_X8_fails I R 0 (I 100 32)) (fun z_23 => gd (z_23.1 = 0 ∨ z_23.1 = 1) (some (z_23.1, z_23.2)))
set_option maxHeartbeats 4000000 in
set_option maxRecDepth 100000 in
theorem t_X8_number_17 {p : Program} {l : Launch} {e : Env} {s : State} {m : MethodId} {args : Array Value} {below : List Frame} {meth : Method} {c : Code} {E : EV} {q : Nat → Nat} {al : Nat → Bool} {n : Nat} (C : CX p s m args meth c E cX8_number RX8 7 (some .boolean)) {res : Int32 × MI}   {I : MI} {R : MR}  (a_100 : al 100 = true) {H : Heap} {locs : List Loc} {ls : Array Slot} (h : f_X8_number_17 I R = some res) (hW : Wd E q al s.heap I R n H locs) (hF : Fx al R) (hl : lv_has ls 7 [(0, .ref (q 100))]) : W p l e (rmL 2 0 0) s m args below meth c H locs 0 0 (MQ below (Pst E q (some (.int res.1)) al res.2 R n) args s 0 0 (Bs E)) (F0 m 17 ls []) := by
  have hx := C.1
  have hb := C.2.1
  unfold f_X8_number_17 at h
  refine lv_aload_n hx hb dX8_number_17 rfl (lv_at hl 0 rfl) ?_
  refine lv_iconst (v := 0) hx hb dX8_number_18 (by decide) ?_
  refine lv_aload_n hx hb dX8_number_19 rfl (lv_at hl 0 rfl) ?_
  refine r_get C fr_X8_155 hW a_100 rfl rfl dX8_number_20 ?_
  obtain ⟨z_23, e_z_23, h⟩ := bd_some h
  refine r_callV (v := (some (.int z_23.1))) (As := [.int 0, .int (I 100 32)]) (rest := []) C ml_X8_fails gm_928 gm_930 gs_31 (ci := 8) rfl hW a_100 rfl hl.1 (c_X8_fails a_100 e_z_23) rfl ⟨(by decide), (by decide)⟩ ⟨(by decide), (by decide)⟩ rfl (Nat.le_of_ble_eq_true rfl) dX8_number_23 (fun H locs hW => ?_)
  obtain ⟨g_26, h⟩ := gd_some h
  have h := Option.some.inj h
  subst h
  exact r_zret C hW g_26 dX8_number_26
def f_X8_number_142  (I : MI) (R : MR) (x4 : Int32) : Option (Int32 × MI) := bd (f_X8_fails I R 1 x4) (fun z_146 => (if z_146.1 = 0 then (some (0, z_146.2)) else (some (1, z_146.2))))
set_option maxHeartbeats 4000000 in
set_option maxRecDepth 100000 in
theorem t_X8_number_142 {p : Program} {l : Launch} {e : Env} {s : State} {m : MethodId} {args : Array Value} {below : List Frame} {meth : Method} {c : Code} {E : EV} {q : Nat → Nat} {al : Nat → Bool} {n : Nat} (C : CX p s m args meth c E cX8_number RX8 7 (some .boolean)) {res : Int32 × MI}   {I : MI} {R : MR} {x4 : Int32} (a_100 : al 100 = true) {H : Heap} {locs : List Loc} {ls : Array Slot} (h : f_X8_number_142 I R x4 = some res) (hW : Wd E q al s.heap I R n H locs) (hF : Fx al R) (hl : lv_has ls 7 [(0, .ref (q 100)), (4, .int x4)]) : W p l e (rmL 2 0 0) s m args below meth c H locs 0 0 (MQ below (Pst E q (some (.int res.1)) al res.2 R n) args s 0 0 (Bs E)) (F0 m 142 ls []) := by
  have hx := C.1
  have hb := C.2.1
  unfold f_X8_number_142 at h
  refine lv_aload_n hx hb dX8_number_142 rfl (lv_at hl 0 rfl) ?_
  refine lv_iconst (v := 1) hx hb dX8_number_143 (by decide) ?_
  refine lv_iload hx hb dX8_number_144 (lv_at hl 1 rfl) ?_
  obtain ⟨z_146, e_z_146, h⟩ := bd_some h
  refine r_callV (v := (some (.int z_146.1))) (As := [.int 1, .int x4]) (rest := []) C ml_X8_fails gm_928 gm_930 gs_31 (ci := 8) rfl hW a_100 rfl hl.1 (c_X8_fails a_100 e_z_146) rfl ⟨(by decide), (by decide)⟩ ⟨(by decide), (by decide)⟩ rfl (Nat.le_of_ble_eq_true rfl) dX8_number_146 (fun H locs hW => ?_)
  refine lv_if_eq (tgt := 156) hx hb dX8_number_149 (by decide) (fun c_149 => ?_) (fun c_149 => ?_)
  · have h := (if_pos c_149).symm.trans h
    refine lv_iconst (v := 0) hx hb dX8_number_156 (by decide) ?_
    have h := Option.some.inj h
    subst h
    exact r_zret C hW (Or.inl rfl) dX8_number_157
  · have h := (if_neg c_149).symm.trans h
    refine lv_iconst (v := 1) hx hb dX8_number_152 (by decide) ?_
    refine lv_goto (tgt := 157) hx hb dX8_number_153 (by decide) ?_
    have h := Option.some.inj h
    subst h
    exact r_zret C hW (Or.inr rfl) dX8_number_157
def f_X8_number_120  (I : MI) (R : MR) (x1 : Int32) (x2 : Int32) (x4 : Int32) (x5 : Int32) (x6 : Int32) : Option (Int32 × MI) := lt (p2 I 100 35 x6) (fun I_123 => (if 3 < x5 then (f_X8_number_142 I_123 R x4) else (bd (f_X8_in I_123 R x6 x1 x2) (fun z_136 => (if z_136 = 0 then (f_X8_number_142 I_123 R x4) else (some (1, I_123)))))))
set_option maxHeartbeats 4000000 in
set_option maxRecDepth 100000 in
theorem t_X8_number_120 {p : Program} {l : Launch} {e : Env} {s : State} {m : MethodId} {args : Array Value} {below : List Frame} {meth : Method} {c : Code} {E : EV} {q : Nat → Nat} {al : Nat → Bool} {n : Nat} (C : CX p s m args meth c E cX8_number RX8 7 (some .boolean)) {res : Int32 × MI}   {I : MI} {R : MR} {x1 : Int32} {x2 : Int32} {x4 : Int32} {x5 : Int32} {x6 : Int32} (a_100 : al 100 = true) {H : Heap} {locs : List Loc} {ls : Array Slot} (h : f_X8_number_120 I R x1 x2 x4 x5 x6 = some res) (hW : Wd E q al s.heap I R n H locs) (hF : Fx al R) (hl : lv_has ls 7 [(0, .ref (q 100)), (1, .int x1), (2, .int x2), (4, .int x4), (5, .int x5), (6, .int x6)]) : W p l e (rmL 2 0 0) s m args below meth c H locs 0 0 (MQ below (Pst E q (some (.int res.1)) al res.2 R n) args s 0 0 (Bs E)) (F0 m 120 ls []) := by
  have hx := C.1
  have hb := C.2.1
  unfold f_X8_number_120 at h
  refine lv_aload_n hx hb dX8_number_120 rfl (lv_at hl 0 rfl) ?_
  refine lv_iload hx hb dX8_number_121 (lv_at hl 5 rfl) ?_
  obtain ⟨I_123, e_I_123, h⟩ := lt_some h
  refine r_put C fr_X8_169 (Or.inl rfl) hW a_100 rfl rfl rfl rfl dX8_number_123 (fun H locs hW => ?_)
  rw [← e_I_123] at hW
  refine lv_iload hx hb dX8_number_126 (lv_at hl 4 rfl) ?_
  refine lv_iconst (v := 3) hx hb dX8_number_128 (by decide) ?_
  refine lv_icmp_gt (tgt := 142) hx hb dX8_number_129 (by decide) (fun c_129 => ?_) (fun c_129 => ?_)
  · have h := (if_pos c_129).symm.trans h
    exact t_X8_number_142 C a_100 h hW hF (lv_sub hl [0, 3] rfl)
  · have h := (if_neg c_129).symm.trans h
    refine lv_iload hx hb dX8_number_132 (lv_at hl 5 rfl) ?_
    refine lv_iload_n hx hb dX8_number_134 rfl (lv_at hl 1 rfl) ?_
    refine lv_iload_n hx hb dX8_number_135 rfl (lv_at hl 2 rfl) ?_
    obtain ⟨z_136, e_z_136, h⟩ := bd_some h
    refine r_callS (v := (some (.int z_136))) (As := [.int x6, .int x1, .int x2]) (rest := []) C ml_X8_in gm_881 gm_882 hW hl.1 (c_X8_in  e_z_136) rfl ⟨(by decide), (by decide)⟩ ⟨(by decide), (by decide)⟩ rfl (Nat.le_of_ble_eq_true rfl) dX8_number_136 (fun H locs hW => ?_)
    refine lv_if_ne (tgt := 152) hx hb dX8_number_139 (by decide) (fun c_139 => ?_) (fun c_139 => ?_)
    · have h := (if_neg c_139).symm.trans h
      refine lv_iconst (v := 1) hx hb dX8_number_152 (by decide) ?_
      refine lv_goto (tgt := 157) hx hb dX8_number_153 (by decide) ?_
      have h := Option.some.inj h
      subst h
      exact r_zret C hW (Or.inr rfl) dX8_number_157
    · have h := (if_pos c_139).symm.trans h
      exact t_X8_number_142 C a_100 h hW hF (lv_sub hl [0, 3] rfl)
def f_X8_number_104 (k39 : MI → MR → Int32 → Int32 → Int32 → Int32 → Int32 → Option (Int32 × MI)) (I : MI) (R : MR) (x1 : Int32) (x2 : Int32) (x4 : Int32) (x5 : Int32) (x6 : Int32) : Option (Int32 × MI) := lt (p2 I 100 32 ((I 100 32) + 1)) (fun I_114 => k39 I_114 R x1 x2 x4 (x5 + 1) x6)
set_option maxHeartbeats 4000000 in
set_option maxRecDepth 100000 in
theorem t_X8_number_104 {p : Program} {l : Launch} {e : Env} {s : State} {m : MethodId} {args : Array Value} {below : List Frame} {meth : Method} {c : Code} {E : EV} {q : Nat → Nat} {al : Nat → Bool} {n : Nat} (C : CX p s m args meth c E cX8_number RX8 7 (some .boolean)) {res : Int32 × MI} {k39 : MI → MR → Int32 → Int32 → Int32 → Int32 → Int32 → Option (Int32 × MI)} (hk39 : ∀ {I : MI} {R : MR} {x1 : Int32} {x2 : Int32} {x4 : Int32} {x5 : Int32} {x6 : Int32} {H : Heap} {locs : List Loc} {ls : Array Slot}, al 100 = true → k39 I R x1 x2 x4 x5 x6 = some res → Wd E q al s.heap I R n H locs → Fx al R → lv_has ls 7 [(0, .ref (q 100)), (1, .int x1), (2, .int x2), (4, .int x4), (5, .int x5), (6, .int x6)] → W p l e (rmL 2 0 0) s m args below meth c H locs 0 0 (MQ below (Pst E q (some (.int res.1)) al res.2 R n) args s 0 0 (Bs E)) (F0 m 39 ls [])) {I : MI} {R : MR} {x1 : Int32} {x2 : Int32} {x4 : Int32} {x5 : Int32} {x6 : Int32} (a_100 : al 100 = true) {H : Heap} {locs : List Loc} {ls : Array Slot} (h : f_X8_number_104 k39 I R x1 x2 x4 x5 x6 = some res) (hW : Wd E q al s.heap I R n H locs) (hF : Fx al R) (hl : lv_has ls 7 [(0, .ref (q 100)), (1, .int x1), (2, .int x2), (4, .int x4), (5, .int x5), (6, .int x6)]) : W p l e (rmL 2 0 0) s m args below meth c H locs 0 0 (MQ below (Pst E q (some (.int res.1)) al res.2 R n) args s 0 0 (Bs E)) (F0 m 104 ls []) := by
  have hx := C.1
  have hb := C.2.1
  unfold f_X8_number_104 at h
  refine lv_iinc (v := x5 + 1) (lv' := [(5, .int (x5 + 1)), (0, .ref (q 100)), (1, .int x1), (2, .int x2), (4, .int x4), (6, .int x6)]) hx hb dX8_number_104 hl (k := 4) rfl rfl (by decide) rfl (fun ls hl => ?_)
  refine lv_aload_n hx hb dX8_number_107 rfl (lv_at hl 1 rfl) ?_
  refine lv_dup hx hb dX8_number_108 rfl ?_
  refine r_get C fr_X8_155 hW a_100 rfl rfl dX8_number_109 ?_
  refine lv_iconst (v := 1) hx hb dX8_number_112 (by decide) ?_
  refine lv_iadd hx hb dX8_number_113 ?_
  obtain ⟨I_114, e_I_114, h⟩ := lt_some h
  refine r_put C fr_X8_155 (Or.inl rfl) hW a_100 rfl rfl rfl rfl dX8_number_114 (fun H locs hW => ?_)
  rw [← e_I_114] at hW
  refine lv_goto (tgt := 39) hx hb dX8_number_117 (by decide) ?_
  exact hk39 a_100 h hW hF (lv_sub hl [1, 2, 3, 4, 0, 5] rfl)
def f_X8_number_39  : Nat → MI → MR → Int32 → Int32 → Int32 → Int32 → Int32 → Option (Int32 × MI)
  | 0, _, _, _, _, _, _, _ => none
  | nn + 1, I, R, x1, x2, x4, x5, x6 => (if (I 100 31) ≤ (I 100 32) then (f_X8_number_120 I R x1 x2 x4 x5 x6) else (gd (ix (I 100 32) (ln 131)) ((if (I 131 (I 100 32).toNatClampNeg) < 48 then (f_X8_number_120 I R x1 x2 x4 x5 x6) else (gd (ix (I 100 32) (ln 131)) ((if 57 < (I 131 (I 100 32).toNatClampNeg) then (f_X8_number_120 I R x1 x2 x4 x5 x6) else ((if 3 ≤ x5 then (f_X8_number_104 (f_X8_number_39 nn) I R x1 x2 x4 x5 x6) else (gd (ix (I 100 32) (ln 131)) (lt (((10 * x6) + (I 131 (I 100 32).toNatClampNeg)) - 48) (fun v_102 => f_X8_number_104 (f_X8_number_39 nn) I R x1 x2 x4 x5 v_102))))))))))))
set_option maxHeartbeats 4000000 in
set_option maxRecDepth 100000 in
theorem t_X8_number_39 {p : Program} {l : Launch} {e : Env} {s : State} {m : MethodId} {args : Array Value} {below : List Frame} {meth : Method} {c : Code} {E : EV} {q : Nat → Nat} {al : Nat → Bool} {n : Nat} (C : CX p s m args meth c E cX8_number RX8 7 (some .boolean)) {res : Int32 × MI}   : ∀ (nn : Nat) {I : MI} {R : MR} {x1 : Int32} {x2 : Int32} {x4 : Int32} {x5 : Int32} {x6 : Int32} {H : Heap} {locs : List Loc} {ls : Array Slot} (a_100 : al 100 = true) (h : f_X8_number_39 nn I R x1 x2 x4 x5 x6 = some res) (hW : Wd E q al s.heap I R n H locs) (hF : Fx al R) (hl : lv_has ls 7 [(0, .ref (q 100)), (1, .int x1), (2, .int x2), (4, .int x4), (5, .int x5), (6, .int x6)]), W p l e (rmL 2 0 0) s m args below meth c H locs 0 0 (MQ below (Pst E q (some (.int res.1)) al res.2 R n) args s 0 0 (Bs E)) (F0 m 39 ls []) := by
  have hx := C.1
  have hb := C.2.1
  intro nn
  induction nn with
  | zero =>
    intro I R x1 x2 x4 x5 x6 H locs ls a_100 h
    cases (show (none : Option (Int32 × MI)) = some res from h)
  | succ nn ih =>
    intro I R x1 x2 x4 x5 x6 H locs ls a_100 h hW hF hl
    rw [f_X8_number_39.eq_2] at h
    refine lv_aload_n hx hb dX8_number_39 rfl (lv_at hl 0 rfl) ?_
    refine r_get C fr_X8_155 hW a_100 rfl rfl dX8_number_40 ?_
    refine lv_aload_n hx hb dX8_number_43 rfl (lv_at hl 0 rfl) ?_
    refine r_get C fr_X8_145 hW a_100 rfl rfl dX8_number_44 ?_
    refine lv_icmp_ge (tgt := 120) hx hb dX8_number_47 (by decide) (fun c_47 => ?_) (fun c_47 => ?_)
    · have h := (if_pos c_47).symm.trans h
      exact t_X8_number_120 C a_100 h hW hF (lv_sub hl [0, 1, 2, 3, 4, 5] rfl)
    · have h := (if_neg c_47).symm.trans h
      refine lv_aload_n hx hb dX8_number_50 rfl (lv_at hl 0 rfl) ?_
      have ap_51 : al 131 = true := hW.cl a_100 (hF _ 30 _ a_100 rfl)
      refine r_getq C fr_X8_78 hW a_100 rfl rfl (hF _ 30 _ a_100 rfl) dX8_number_51 ?_
      refine lv_aload_n hx hb dX8_number_54 rfl (lv_at hl 0 rfl) ?_
      refine r_get C fr_X8_155 hW a_100 rfl rfl dX8_number_55 ?_
      obtain ⟨g_58, h⟩ := gd_some h
      refine r_bald C hW ap_51 rfl (ix_in g_58) dX8_number_58 ?_
      refine lv_bipush (v := 48) hx hb dX8_number_59 (by decide) ?_
      refine lv_icmp_lt (tgt := 120) hx hb dX8_number_61 (by decide) (fun c_61 => ?_) (fun c_61 => ?_)
      · have h := (if_pos c_61).symm.trans h
        exact t_X8_number_120 C a_100 h hW hF (lv_sub hl [0, 1, 2, 3, 4, 5] rfl)
      · have h := (if_neg c_61).symm.trans h
        refine lv_aload_n hx hb dX8_number_64 rfl (lv_at hl 0 rfl) ?_
        refine r_getq C fr_X8_78 hW a_100 rfl rfl (hF _ 30 _ a_100 rfl) dX8_number_65 ?_
        refine lv_aload_n hx hb dX8_number_68 rfl (lv_at hl 0 rfl) ?_
        refine r_get C fr_X8_155 hW a_100 rfl rfl dX8_number_69 ?_
        obtain ⟨g_72, h⟩ := gd_some h
        refine r_bald C hW ap_51 rfl (ix_in g_72) dX8_number_72 ?_
        refine lv_bipush (v := 57) hx hb dX8_number_73 (by decide) ?_
        refine lv_icmp_gt (tgt := 120) hx hb dX8_number_75 (by decide) (fun c_75 => ?_) (fun c_75 => ?_)
        · have h := (if_pos c_75).symm.trans h
          exact t_X8_number_120 C a_100 h hW hF (lv_sub hl [0, 1, 2, 3, 4, 5] rfl)
        · have h := (if_neg c_75).symm.trans h
          refine lv_iload hx hb dX8_number_78 (lv_at hl 4 rfl) ?_
          refine lv_iconst (v := 3) hx hb dX8_number_80 (by decide) ?_
          refine lv_icmp_ge (tgt := 104) hx hb dX8_number_81 (by decide) (fun c_81 => ?_) (fun c_81 => ?_)
          · have h := (if_pos c_81).symm.trans h
            exact t_X8_number_104 C ih a_100 h hW hF (lv_sub hl [0, 1, 2, 3, 4, 5] rfl)
          · have h := (if_neg c_81).symm.trans h
            refine lv_bipush (v := 10) hx hb dX8_number_84 (by decide) ?_
            refine lv_iload hx hb dX8_number_86 (lv_at hl 5 rfl) ?_
            refine lv_imul hx hb dX8_number_88 ?_
            refine lv_aload_n hx hb dX8_number_89 rfl (lv_at hl 0 rfl) ?_
            refine r_getq C fr_X8_78 hW a_100 rfl rfl (hF _ 30 _ a_100 rfl) dX8_number_90 ?_
            refine lv_aload_n hx hb dX8_number_93 rfl (lv_at hl 0 rfl) ?_
            refine r_get C fr_X8_155 hW a_100 rfl rfl dX8_number_94 ?_
            obtain ⟨g_97, h⟩ := gd_some h
            refine r_bald C hW ap_51 rfl (ix_in g_97) dX8_number_97 ?_
            refine lv_iadd hx hb dX8_number_98 ?_
            refine lv_bipush (v := 48) hx hb dX8_number_99 (by decide) ?_
            refine lv_isub hx hb dX8_number_101 ?_
            obtain ⟨v_102, e_v_102, h⟩ := lt_some h
            rw [← e_v_102]
            refine lv_istore (lv' := [(6, .int v_102), (0, .ref (q 100)), (1, .int x1), (2, .int x2), (4, .int x4), (5, .int x5)]) hx hb dX8_number_102 hl (by decide) rfl (fun ls hl => ?_)
            exact t_X8_number_104 C ih a_100 h hW hF (lv_sub hl [1, 2, 3, 4, 5, 0] rfl)
def f_X8_number (I : MI) (R : MR) (x1 : Int32) (x2 : Int32) : Option (Int32 × MI) := bd (f_X8_see I R) (fun z_1 => (if z_1.1 < 48 then (f_X8_number_17 z_1.2 R) else ((if z_1.1 ≤ 57 then (f_X8_number_39 1000000 z_1.2 R x1 x2 (z_1.2 100 32) 0 0) else (f_X8_number_17 z_1.2 R)))))
set_option maxHeartbeats 4000000 in
set_option maxRecDepth 100000 in
theorem c_X8_number {l : Launch} {E : EV} {q : Nat → Nat} {al : Nat → Bool} {n : Nat} {I : MI} {R : MR} {x1 : Int32} {x2 : Int32} (a_100 : al 100 = true) (hF : Fx al R) {res : Int32 × MI} (h : f_X8_number I R x1 x2 = some res) : Ct l yX8_number cX8_number 7 (some .boolean) 2 0 0 E q al I R n [.ref (q 100), .int x1, .int x2] (some (.int res.1)) al res.2 R n := by
  refine Ct.of (own := RX8) (mn := "number") (by decide) rfl rfl (Nat.le_of_ble_eq_true rfl) ?_
  intro p e s m args below meth c ls C hmn hargs hW hl
  have hx := C.1
  have hb := C.2.1
  have hl : lv_has ls 7 [(0, .ref (q 100)), (1, .int x1), (2, .int x2)] := hl
  unfold f_X8_number at h
  refine lv_aload_n hx hb dX8_number_0 rfl (lv_at hl 0 rfl) ?_
  obtain ⟨z_1, e_z_1, h⟩ := bd_some h
  refine r_callV (v := (some (.int z_1.1))) (As := []) (rest := []) C ml_X8_see gm_916 gm_918 gs_28 (ci := 8) rfl hW a_100 rfl hl.1 (c_X8_see a_100 hF e_z_1) rfl ⟨(by decide), (by decide)⟩ ⟨(by decide), (by decide)⟩ rfl (Nat.le_of_ble_eq_true rfl) dX8_number_1 (fun H locs hW => ?_)
  refine lv_istore_n (lv' := [(3, .int z_1.1), (0, .ref (q 100)), (1, .int x1), (2, .int x2)]) hx hb dX8_number_4 rfl hl (by decide) rfl (fun ls hl => ?_)
  refine lv_iload_n hx hb dX8_number_5 rfl (lv_at hl 0 rfl) ?_
  refine lv_bipush (v := 48) hx hb dX8_number_6 (by decide) ?_
  refine lv_icmp_lt (tgt := 17) hx hb dX8_number_8 (by decide) (fun c_8 => ?_) (fun c_8 => ?_)
  · have h := (if_pos c_8).symm.trans h
    exact t_X8_number_17 C a_100 h hW hF (lv_sub hl [1] rfl)
  · have h := (if_neg c_8).symm.trans h
    refine lv_iload_n hx hb dX8_number_11 rfl (lv_at hl 0 rfl) ?_
    refine lv_bipush (v := 57) hx hb dX8_number_12 (by decide) ?_
    refine lv_icmp_le (tgt := 27) hx hb dX8_number_14 (by decide) (fun c_14 => ?_) (fun c_14 => ?_)
    · have h := (if_pos c_14).symm.trans h
      refine lv_aload_n hx hb dX8_number_27 rfl (lv_at hl 1 rfl) ?_
      refine r_get C fr_X8_155 hW a_100 rfl rfl dX8_number_28 ?_
      refine lv_istore (lv' := [(4, .int (z_1.2 100 32)), (3, .int z_1.1), (0, .ref (q 100)), (1, .int x1), (2, .int x2)]) hx hb dX8_number_31 hl (by decide) rfl (fun ls hl => ?_)
      refine lv_iconst (v := 0) hx hb dX8_number_33 (by decide) ?_
      refine lv_istore (lv' := [(5, .int 0), (4, .int (z_1.2 100 32)), (3, .int z_1.1), (0, .ref (q 100)), (1, .int x1), (2, .int x2)]) hx hb dX8_number_34 hl (by decide) rfl (fun ls hl => ?_)
      refine lv_iconst (v := 0) hx hb dX8_number_36 (by decide) ?_
      refine lv_istore (lv' := [(6, .int 0), (5, .int 0), (4, .int (z_1.2 100 32)), (3, .int z_1.1), (0, .ref (q 100)), (1, .int x1), (2, .int x2)]) hx hb dX8_number_37 hl (by decide) rfl (fun ls hl => ?_)
      exact t_X8_number_39 C 1000000 a_100 h hW hF (lv_sub hl [4, 5, 6, 2, 1, 0] rfl)
    · have h := (if_neg c_14).symm.trans h
      exact t_X8_number_17 C a_100 h hW hF (lv_sub hl [1] rfl)
def f_X8_clause_219  (I : MI) (R : MR) (x1 : Int32) (y0 : Int32) (y1 : Int32) : Option (Int32 × MI) := bd (f_X8_number I R y1 y0) (fun z_219 => (if z_219.1 = 0 then (some (0, z_219.2)) else (gd (ix x1 (ln 144)) (lt (p2 z_219.2 144 x1.toNatClampNeg (z_219.2 100 35)) (fun I_236 => some (1, I_236))))))
set_option maxHeartbeats 4000000 in
set_option maxRecDepth 100000 in
theorem t_X8_clause_219 {p : Program} {l : Launch} {e : Env} {s : State} {m : MethodId} {args : Array Value} {below : List Frame} {meth : Method} {c : Code} {E : EV} {q : Nat → Nat} {al : Nat → Bool} {n : Nat} (C : CX p s m args meth c E cX8_clause RX8 2 (some .boolean)) {res : Int32 × MI}   {I : MI} {R : MR} {x1 : Int32} {y0 : Int32} {y1 : Int32} (a_100 : al 100 = true) (_ : al 100 = true) {H : Heap} {locs : List Loc} {ls : Array Slot} (h : f_X8_clause_219 I R x1 y0 y1 = some res) (hW : Wd E q al s.heap I R n H locs) (hF : Fx al R) (hl : lv_has ls 2 [(0, .ref (q 100)), (1, .int x1)]) : W p l e (rmL 3 0 0) s m args below meth c H locs 0 0 (MQ below (Pst E q (some (.int res.1)) al res.2 R n) args s 0 0 (Bs E)) (F0 m 219 ls [.int y0, .int y1, .ref (q 100)]) := by
  have hx := C.1
  have hb := C.2.1
  unfold f_X8_clause_219 at h
  obtain ⟨z_219, e_z_219, h⟩ := bd_some h
  refine r_callV (v := (some (.int z_219.1))) (As := [.int y1, .int y0]) (rest := []) C ml_X8_number gm_932 gm_934 gs_32 (ci := 8) rfl hW a_100 rfl hl.1 (c_X8_number a_100 hF e_z_219) rfl ⟨(by decide), (by decide)⟩ ⟨(by decide), (by decide)⟩ rfl (Nat.le_of_ble_eq_true rfl) dX8_clause_219 (fun H locs hW => ?_)
  refine lv_if_ne (tgt := 227) hx hb dX8_clause_222 (by decide) (fun c_222 => ?_) (fun c_222 => ?_)
  · have h := (if_neg c_222).symm.trans h
    refine lv_aload_n hx hb dX8_clause_227 rfl (lv_at hl 0 rfl) ?_
    have ap_228 : al 144 = true := hW.cl a_100 (hF _ 43 _ a_100 rfl)
    refine r_getq C fr_X8_97 hW a_100 rfl rfl (hF _ 43 _ a_100 rfl) dX8_clause_228 ?_
    refine lv_iload_n hx hb dX8_clause_231 rfl (lv_at hl 1 rfl) ?_
    refine lv_aload_n hx hb dX8_clause_232 rfl (lv_at hl 0 rfl) ?_
    refine r_get C fr_X8_169 hW a_100 rfl rfl dX8_clause_233 ?_
    obtain ⟨g_236, h⟩ := gd_some h
    obtain ⟨I_236, e_I_236, h⟩ := lt_some h
    refine r_iast C hW ap_228 rfl (ix_in g_236) dX8_clause_236 (fun H locs hW => ?_)
    rw [← e_I_236] at hW
    refine lv_iconst (v := 1) hx hb dX8_clause_237 (by decide) ?_
    have h := Option.some.inj h
    subst h
    exact r_zret C hW (Or.inr rfl) dX8_clause_238
  · have h := (if_pos c_222).symm.trans h
    refine lv_iconst (v := 0) hx hb dX8_clause_225 (by decide) ?_
    have h := Option.some.inj h
    subst h
    exact r_zret C hW (Or.inl rfl) dX8_clause_226
def f_X8_clause_200  (I : MI) (R : MR) (x1 : Int32) (y0 : Int32) : Option (Int32 × MI) := f_X8_clause_219 I R x1 100 y0
set_option maxHeartbeats 4000000 in
set_option maxRecDepth 100000 in
theorem t_X8_clause_200 {p : Program} {l : Launch} {e : Env} {s : State} {m : MethodId} {args : Array Value} {below : List Frame} {meth : Method} {c : Code} {E : EV} {q : Nat → Nat} {al : Nat → Bool} {n : Nat} (C : CX p s m args meth c E cX8_clause RX8 2 (some .boolean)) {res : Int32 × MI}   {I : MI} {R : MR} {x1 : Int32} {y0 : Int32} (a_100 : al 100 = true) (_ : al 100 = true) {H : Heap} {locs : List Loc} {ls : Array Slot} (h : f_X8_clause_200 I R x1 y0 = some res) (hW : Wd E q al s.heap I R n H locs) (hF : Fx al R) (hl : lv_has ls 2 [(0, .ref (q 100)), (1, .int x1)]) : W p l e (rmL 3 0 0) s m args below meth c H locs 0 0 (MQ below (Pst E q (some (.int res.1)) al res.2 R n) args s 0 0 (Bs E)) (F0 m 200 ls [.int y0, .ref (q 100)]) := by
  have hx := C.1
  have hb := C.2.1
  unfold f_X8_clause_200 at h
  refine lv_bipush (v := 100) hx hb dX8_clause_200 (by decide) ?_
  refine lv_goto (tgt := 219) hx hb dX8_clause_202 (by decide) ?_
  exact t_X8_clause_219 C a_100 a_100 h hW hF (lv_sub hl [0, 1] rfl)
def f_X8_clause_191  (I : MI) (R : MR) (x1 : Int32) (y0 : Int32) : Option (Int32 × MI) := (if x1 = 0 then (f_X8_clause_200 I R x1 y0) else ((if x1 = 1 then (f_X8_clause_200 I R x1 y0) else ((if x1 = 2 then (f_X8_clause_219 I R x1 200 y0) else (f_X8_clause_219 I R x1 500 y0))))))
set_option maxHeartbeats 4000000 in
set_option maxRecDepth 100000 in
theorem t_X8_clause_191 {p : Program} {l : Launch} {e : Env} {s : State} {m : MethodId} {args : Array Value} {below : List Frame} {meth : Method} {c : Code} {E : EV} {q : Nat → Nat} {al : Nat → Bool} {n : Nat} (C : CX p s m args meth c E cX8_clause RX8 2 (some .boolean)) {res : Int32 × MI}   {I : MI} {R : MR} {x1 : Int32} {y0 : Int32} (a_100 : al 100 = true) (_ : al 100 = true) {H : Heap} {locs : List Loc} {ls : Array Slot} (h : f_X8_clause_191 I R x1 y0 = some res) (hW : Wd E q al s.heap I R n H locs) (hF : Fx al R) (hl : lv_has ls 2 [(0, .ref (q 100)), (1, .int x1)]) : W p l e (rmL 3 0 0) s m args below meth c H locs 0 0 (MQ below (Pst E q (some (.int res.1)) al res.2 R n) args s 0 0 (Bs E)) (F0 m 191 ls [.int y0, .ref (q 100)]) := by
  have hx := C.1
  have hb := C.2.1
  unfold f_X8_clause_191 at h
  refine lv_iload_n hx hb dX8_clause_191 rfl (lv_at hl 1 rfl) ?_
  refine lv_if_eq (tgt := 200) hx hb dX8_clause_192 (by decide) (fun c_192 => ?_) (fun c_192 => ?_)
  · have h := (if_pos c_192).symm.trans h
    exact t_X8_clause_200 C a_100 a_100 h hW hF (lv_sub hl [0, 1] rfl)
  · have h := (if_neg c_192).symm.trans h
    refine lv_iload_n hx hb dX8_clause_195 rfl (lv_at hl 1 rfl) ?_
    refine lv_iconst (v := 1) hx hb dX8_clause_196 (by decide) ?_
    refine lv_icmp_ne (tgt := 205) hx hb dX8_clause_197 (by decide) (fun c_197 => ?_) (fun c_197 => ?_)
    · have h := (if_neg c_197).symm.trans h
      refine lv_iload_n hx hb dX8_clause_205 rfl (lv_at hl 1 rfl) ?_
      refine lv_iconst (v := 2) hx hb dX8_clause_206 (by decide) ?_
      refine lv_icmp_ne (tgt := 216) hx hb dX8_clause_207 (by decide) (fun c_207 => ?_) (fun c_207 => ?_)
      · have h := (if_neg c_207).symm.trans h
        refine lv_sipush (v := 500) hx hb dX8_clause_216 (by decide) ?_
        exact t_X8_clause_219 C a_100 a_100 h hW hF (lv_sub hl [0, 1] rfl)
      · have h := (if_pos c_207).symm.trans h
        refine lv_sipush (v := 200) hx hb dX8_clause_210 (by decide) ?_
        refine lv_goto (tgt := 219) hx hb dX8_clause_213 (by decide) ?_
        exact t_X8_clause_219 C a_100 a_100 h hW hF (lv_sub hl [0, 1] rfl)
    · have h := (if_pos c_197).symm.trans h
      exact t_X8_clause_200 C a_100 a_100 h hW hF (lv_sub hl [0, 1] rfl)
def f_X8_clause_186  (I : MI) (R : MR) (x1 : Int32) : Option (Int32 × MI) := f_X8_clause_191 I R x1 1
set_option maxHeartbeats 4000000 in
set_option maxRecDepth 100000 in
theorem t_X8_clause_186 {p : Program} {l : Launch} {e : Env} {s : State} {m : MethodId} {args : Array Value} {below : List Frame} {meth : Method} {c : Code} {E : EV} {q : Nat → Nat} {al : Nat → Bool} {n : Nat} (C : CX p s m args meth c E cX8_clause RX8 2 (some .boolean)) {res : Int32 × MI}   {I : MI} {R : MR} {x1 : Int32} (a_100 : al 100 = true) (_ : al 100 = true) {H : Heap} {locs : List Loc} {ls : Array Slot} (h : f_X8_clause_186 I R x1 = some res) (hW : Wd E q al s.heap I R n H locs) (hF : Fx al R) (hl : lv_has ls 2 [(0, .ref (q 100)), (1, .int x1)]) : W p l e (rmL 3 0 0) s m args below meth c H locs 0 0 (MQ below (Pst E q (some (.int res.1)) al res.2 R n) args s 0 0 (Bs E)) (F0 m 186 ls [.ref (q 100)]) := by
  have hx := C.1
  have hb := C.2.1
  unfold f_X8_clause_186 at h
  refine lv_iconst (v := 1) hx hb dX8_clause_186 (by decide) ?_
  refine lv_goto (tgt := 191) hx hb dX8_clause_187 (by decide) ?_
  exact t_X8_clause_191 C a_100 a_100 h hW hF (lv_sub hl [0, 1] rfl)
def f_X8_clause_101  (I : MI) (R : MR) (y0 : Int32) : Option (Int32 × MI) := bd (f_X8_number I R y0 400) (fun z_104 => (if z_104.1 = 0 then (some (0, z_104.2)) else (gd (ix (z_104.2 100 39) (ln 141)) (lt (p2 z_104.2 141 (z_104.2 100 39).toNatClampNeg (z_104.2 100 35)) (fun I_124 => bd (f_X8_number I_124 R 0 500) (fun z_130 => (if z_130.1 = 0 then (some (0, z_130.2)) else (gd (ix (z_130.2 100 39) (ln 142)) (lt (p2 z_130.2 142 (z_130.2 100 39).toNatClampNeg (z_130.2 100 35)) (fun I_150 => lt (p2 I_150 100 39 ((I_150 100 39) + 1)) (fun I_158 => some (1, I_158))))))))))))
set_option maxHeartbeats 4000000 in
set_option maxRecDepth 100000 in
theorem t_X8_clause_101 {p : Program} {l : Launch} {e : Env} {s : State} {m : MethodId} {args : Array Value} {below : List Frame} {meth : Method} {c : Code} {E : EV} {q : Nat → Nat} {al : Nat → Bool} {n : Nat} (C : CX p s m args meth c E cX8_clause RX8 2 (some .boolean)) {res : Int32 × MI}   {I : MI} {R : MR} {y0 : Int32} (a_100 : al 100 = true) (_ : al 100 = true) {H : Heap} {locs : List Loc} {ls : Array Slot} (h : f_X8_clause_101 I R y0 = some res) (hW : Wd E q al s.heap I R n H locs) (hF : Fx al R) (hl : lv_has ls 2 [(0, .ref (q 100))]) : W p l e (rmL 3 0 0) s m args below meth c H locs 0 0 (MQ below (Pst E q (some (.int res.1)) al res.2 R n) args s 0 0 (Bs E)) (F0 m 101 ls [.int y0, .ref (q 100)]) := by
  have hx := C.1
  have hb := C.2.1
  unfold f_X8_clause_101 at h
  refine lv_sipush (v := 400) hx hb dX8_clause_101 (by decide) ?_
  obtain ⟨z_104, e_z_104, h⟩ := bd_some h
  refine r_callV (v := (some (.int z_104.1))) (As := [.int y0, .int 400]) (rest := []) C ml_X8_number gm_932 gm_934 gs_32 (ci := 8) rfl hW a_100 rfl hl.1 (c_X8_number a_100 hF e_z_104) rfl ⟨(by decide), (by decide)⟩ ⟨(by decide), (by decide)⟩ rfl (Nat.le_of_ble_eq_true rfl) dX8_clause_104 (fun H locs hW => ?_)
  refine lv_if_ne (tgt := 112) hx hb dX8_clause_107 (by decide) (fun c_107 => ?_) (fun c_107 => ?_)
  · have h := (if_neg c_107).symm.trans h
    refine lv_aload_n hx hb dX8_clause_112 rfl (lv_at hl 0 rfl) ?_
    have ap_113 : al 141 = true := hW.cl a_100 (hF _ 40 _ a_100 rfl)
    refine r_getq C fr_X8_88 hW a_100 rfl rfl (hF _ 40 _ a_100 rfl) dX8_clause_113 ?_
    refine lv_aload_n hx hb dX8_clause_116 rfl (lv_at hl 0 rfl) ?_
    refine r_get C fr_X8_175 hW a_100 rfl rfl dX8_clause_117 ?_
    refine lv_aload_n hx hb dX8_clause_120 rfl (lv_at hl 0 rfl) ?_
    refine r_get C fr_X8_169 hW a_100 rfl rfl dX8_clause_121 ?_
    obtain ⟨g_124, h⟩ := gd_some h
    obtain ⟨I_124, e_I_124, h⟩ := lt_some h
    refine r_iast C hW ap_113 rfl (ix_in g_124) dX8_clause_124 (fun H locs hW => ?_)
    rw [← e_I_124] at hW
    refine lv_aload_n hx hb dX8_clause_125 rfl (lv_at hl 0 rfl) ?_
    refine lv_iconst (v := 0) hx hb dX8_clause_126 (by decide) ?_
    refine lv_sipush (v := 500) hx hb dX8_clause_127 (by decide) ?_
    obtain ⟨z_130, e_z_130, h⟩ := bd_some h
    refine r_callV (v := (some (.int z_130.1))) (As := [.int 0, .int 500]) (rest := []) C ml_X8_number gm_932 gm_934 gs_32 (ci := 8) rfl hW a_100 rfl hl.1 (c_X8_number a_100 hF e_z_130) rfl ⟨(by decide), (by decide)⟩ ⟨(by decide), (by decide)⟩ rfl (Nat.le_of_ble_eq_true rfl) dX8_clause_130 (fun H locs hW => ?_)
    refine lv_if_ne (tgt := 138) hx hb dX8_clause_133 (by decide) (fun c_133 => ?_) (fun c_133 => ?_)
    · have h := (if_neg c_133).symm.trans h
      refine lv_aload_n hx hb dX8_clause_138 rfl (lv_at hl 0 rfl) ?_
      have ap_139 : al 142 = true := hW.cl a_100 (hF _ 41 _ a_100 rfl)
      refine r_getq C fr_X8_91 hW a_100 rfl rfl (hF _ 41 _ a_100 rfl) dX8_clause_139 ?_
      refine lv_aload_n hx hb dX8_clause_142 rfl (lv_at hl 0 rfl) ?_
      refine r_get C fr_X8_175 hW a_100 rfl rfl dX8_clause_143 ?_
      refine lv_aload_n hx hb dX8_clause_146 rfl (lv_at hl 0 rfl) ?_
      refine r_get C fr_X8_169 hW a_100 rfl rfl dX8_clause_147 ?_
      obtain ⟨g_150, h⟩ := gd_some h
      obtain ⟨I_150, e_I_150, h⟩ := lt_some h
      refine r_iast C hW ap_139 rfl (ix_in g_150) dX8_clause_150 (fun H locs hW => ?_)
      rw [← e_I_150] at hW
      refine lv_aload_n hx hb dX8_clause_151 rfl (lv_at hl 0 rfl) ?_
      refine lv_dup hx hb dX8_clause_152 rfl ?_
      refine r_get C fr_X8_175 hW a_100 rfl rfl dX8_clause_153 ?_
      refine lv_iconst (v := 1) hx hb dX8_clause_156 (by decide) ?_
      refine lv_iadd hx hb dX8_clause_157 ?_
      obtain ⟨I_158, e_I_158, h⟩ := lt_some h
      refine r_put C fr_X8_175 (Or.inl rfl) hW a_100 rfl rfl rfl rfl dX8_clause_158 (fun H locs hW => ?_)
      rw [← e_I_158] at hW
      refine lv_iconst (v := 1) hx hb dX8_clause_161 (by decide) ?_
      have h := Option.some.inj h
      subst h
      exact r_zret C hW (Or.inr rfl) dX8_clause_162
    · have h := (if_pos c_133).symm.trans h
      refine lv_iconst (v := 0) hx hb dX8_clause_136 (by decide) ?_
      have h := Option.some.inj h
      subst h
      exact r_zret C hW (Or.inl rfl) dX8_clause_137
  · have h := (if_pos c_107).symm.trans h
    refine lv_iconst (v := 0) hx hb dX8_clause_110 (by decide) ?_
    have h := Option.some.inj h
    subst h
    exact r_zret C hW (Or.inl rfl) dX8_clause_111
def f_X8_clause_58  (I : MI) (R : MR) (x1 : Int32) : Option (Int32 × MI) := lt (p2 I 100 32 ((I 100 32) + (I 100 45))) (fun I_68 => (if x1 = 5 then ((if (I_68 100 39) = 0 then (f_X8_clause_101 I_68 R 0) else (gd (ix ((I_68 100 39) - 1) (ln 141)) (f_X8_clause_101 I_68 R ((I_68 141 ((I_68 100 39) - 1).toNatClampNeg) + 1))))) else (lt (p2 I_68 100 34 ((I_68 100 34) ||| (1 <<< (x1 &&& 31)))) (fun I_172 => (if x1 = 1 then (f_X8_clause_186 I_172 R x1) else ((if x1 = 4 then (f_X8_clause_186 I_172 R x1) else (f_X8_clause_191 I_172 R x1 0))))))))
set_option maxHeartbeats 4000000 in
set_option maxRecDepth 100000 in
theorem t_X8_clause_58 {p : Program} {l : Launch} {e : Env} {s : State} {m : MethodId} {args : Array Value} {below : List Frame} {meth : Method} {c : Code} {E : EV} {q : Nat → Nat} {al : Nat → Bool} {n : Nat} (C : CX p s m args meth c E cX8_clause RX8 2 (some .boolean)) {res : Int32 × MI}   {I : MI} {R : MR} {x1 : Int32} (a_100 : al 100 = true) {H : Heap} {locs : List Loc} {ls : Array Slot} (h : f_X8_clause_58 I R x1 = some res) (hW : Wd E q al s.heap I R n H locs) (hF : Fx al R) (hl : lv_has ls 2 [(0, .ref (q 100)), (1, .int x1)]) : W p l e (rmL 3 0 0) s m args below meth c H locs 0 0 (MQ below (Pst E q (some (.int res.1)) al res.2 R n) args s 0 0 (Bs E)) (F0 m 58 ls []) := by
  have hx := C.1
  have hb := C.2.1
  unfold f_X8_clause_58 at h
  refine lv_aload_n hx hb dX8_clause_58 rfl (lv_at hl 0 rfl) ?_
  refine lv_dup hx hb dX8_clause_59 rfl ?_
  refine r_get C fr_X8_155 hW a_100 rfl rfl dX8_clause_60 ?_
  refine lv_aload_n hx hb dX8_clause_63 rfl (lv_at hl 0 rfl) ?_
  refine r_get C fr_X8_162 hW a_100 rfl rfl dX8_clause_64 ?_
  refine lv_iadd hx hb dX8_clause_67 ?_
  obtain ⟨I_68, e_I_68, h⟩ := lt_some h
  refine r_put C fr_X8_155 (Or.inl rfl) hW a_100 rfl rfl rfl rfl dX8_clause_68 (fun H locs hW => ?_)
  rw [← e_I_68] at hW
  refine lv_iload_n hx hb dX8_clause_71 rfl (lv_at hl 1 rfl) ?_
  refine lv_iconst (v := 5) hx hb dX8_clause_72 (by decide) ?_
  refine lv_icmp_ne (tgt := 163) hx hb dX8_clause_73 (by decide) (fun c_73 => ?_) (fun c_73 => ?_)
  · have h := (if_neg c_73).symm.trans h
    refine lv_aload_n hx hb dX8_clause_163 rfl (lv_at hl 0 rfl) ?_
    refine lv_dup hx hb dX8_clause_164 rfl ?_
    refine r_get C fr_X8_178 hW a_100 rfl rfl dX8_clause_165 ?_
    refine lv_iconst (v := 1) hx hb dX8_clause_168 (by decide) ?_
    refine lv_iload_n hx hb dX8_clause_169 rfl (lv_at hl 1 rfl) ?_
    refine lv_ishl hx hb dX8_clause_170 ?_
    refine lv_ior hx hb dX8_clause_171 ?_
    obtain ⟨I_172, e_I_172, h⟩ := lt_some h
    refine r_put C fr_X8_178 (Or.inl rfl) hW a_100 rfl rfl rfl rfl dX8_clause_172 (fun H locs hW => ?_)
    rw [← e_I_172] at hW
    refine lv_aload_n hx hb dX8_clause_175 rfl (lv_at hl 0 rfl) ?_
    refine lv_iload_n hx hb dX8_clause_176 rfl (lv_at hl 1 rfl) ?_
    refine lv_iconst (v := 1) hx hb dX8_clause_177 (by decide) ?_
    refine lv_icmp_eq (tgt := 186) hx hb dX8_clause_178 (by decide) (fun c_178 => ?_) (fun c_178 => ?_)
    · have h := (if_pos c_178).symm.trans h
      exact t_X8_clause_186 C a_100 a_100 h hW hF (lv_sub hl [0, 1] rfl)
    · have h := (if_neg c_178).symm.trans h
      refine lv_iload_n hx hb dX8_clause_181 rfl (lv_at hl 1 rfl) ?_
      refine lv_iconst (v := 4) hx hb dX8_clause_182 (by decide) ?_
      refine lv_icmp_ne (tgt := 190) hx hb dX8_clause_183 (by decide) (fun c_183 => ?_) (fun c_183 => ?_)
      · have h := (if_neg c_183).symm.trans h
        refine lv_iconst (v := 0) hx hb dX8_clause_190 (by decide) ?_
        exact t_X8_clause_191 C a_100 a_100 h hW hF (lv_sub hl [0, 1] rfl)
      · have h := (if_pos c_183).symm.trans h
        exact t_X8_clause_186 C a_100 a_100 h hW hF (lv_sub hl [0, 1] rfl)
  · have h := (if_pos c_73).symm.trans h
    refine lv_aload_n hx hb dX8_clause_76 rfl (lv_at hl 0 rfl) ?_
    refine lv_aload_n hx hb dX8_clause_77 rfl (lv_at hl 0 rfl) ?_
    refine r_get C fr_X8_175 hW a_100 rfl rfl dX8_clause_78 ?_
    refine lv_if_ne (tgt := 88) hx hb dX8_clause_81 (by decide) (fun c_81 => ?_) (fun c_81 => ?_)
    · have h := (if_neg c_81).symm.trans h
      refine lv_aload_n hx hb dX8_clause_88 rfl (lv_at hl 0 rfl) ?_
      have ap_89 : al 141 = true := hW.cl a_100 (hF _ 40 _ a_100 rfl)
      refine r_getq C fr_X8_88 hW a_100 rfl rfl (hF _ 40 _ a_100 rfl) dX8_clause_89 ?_
      refine lv_aload_n hx hb dX8_clause_92 rfl (lv_at hl 0 rfl) ?_
      refine r_get C fr_X8_175 hW a_100 rfl rfl dX8_clause_93 ?_
      refine lv_iconst (v := 1) hx hb dX8_clause_96 (by decide) ?_
      refine lv_isub hx hb dX8_clause_97 ?_
      obtain ⟨g_98, h⟩ := gd_some h
      refine r_iald C hW ap_89 rfl (ix_in g_98) dX8_clause_98 ?_
      refine lv_iconst (v := 1) hx hb dX8_clause_99 (by decide) ?_
      refine lv_iadd hx hb dX8_clause_100 ?_
      exact t_X8_clause_101 C a_100 a_100 h hW hF (lv_sub hl [0] rfl)
    · have h := (if_pos c_81).symm.trans h
      refine lv_iconst (v := 0) hx hb dX8_clause_84 (by decide) ?_
      refine lv_goto (tgt := 101) hx hb dX8_clause_85 (by decide) ?_
      exact t_X8_clause_101 C a_100 a_100 h hW hF (lv_sub hl [0] rfl)
def f_X8_clause_48  (I : MI) (R : MR)  : Option (Int32 × MI) := bd (f_X8_fails I R 2 (I 100 32)) (fun z_54 => gd (z_54.1 = 0 ∨ z_54.1 = 1) (some (z_54.1, z_54.2)))
set_option maxHeartbeats 4000000 in
set_option maxRecDepth 100000 in
theorem t_X8_clause_48 {p : Program} {l : Launch} {e : Env} {s : State} {m : MethodId} {args : Array Value} {below : List Frame} {meth : Method} {c : Code} {E : EV} {q : Nat → Nat} {al : Nat → Bool} {n : Nat} (C : CX p s m args meth c E cX8_clause RX8 2 (some .boolean)) {res : Int32 × MI}   {I : MI} {R : MR}  (a_100 : al 100 = true) {H : Heap} {locs : List Loc} {ls : Array Slot} (h : f_X8_clause_48 I R = some res) (hW : Wd E q al s.heap I R n H locs) (hF : Fx al R) (hl : lv_has ls 2 [(0, .ref (q 100))]) : W p l e (rmL 3 0 0) s m args below meth c H locs 0 0 (MQ below (Pst E q (some (.int res.1)) al res.2 R n) args s 0 0 (Bs E)) (F0 m 48 ls []) := by
  have hx := C.1
  have hb := C.2.1
  unfold f_X8_clause_48 at h
  refine lv_aload_n hx hb dX8_clause_48 rfl (lv_at hl 0 rfl) ?_
  refine lv_iconst (v := 2) hx hb dX8_clause_49 (by decide) ?_
  refine lv_aload_n hx hb dX8_clause_50 rfl (lv_at hl 0 rfl) ?_
  refine r_get C fr_X8_155 hW a_100 rfl rfl dX8_clause_51 ?_
  obtain ⟨z_54, e_z_54, h⟩ := bd_some h
  refine r_callV (v := (some (.int z_54.1))) (As := [.int 2, .int (I 100 32)]) (rest := []) C ml_X8_fails gm_928 gm_930 gs_31 (ci := 8) rfl hW a_100 rfl hl.1 (c_X8_fails a_100 e_z_54) rfl ⟨(by decide), (by decide)⟩ ⟨(by decide), (by decide)⟩ rfl (Nat.le_of_ble_eq_true rfl) dX8_clause_54 (fun H locs hW => ?_)
  obtain ⟨g_57, h⟩ := gd_some h
  have h := Option.some.inj h
  subst h
  exact r_zret C hW g_57 dX8_clause_57
def f_X8_clause (I : MI) (R : MR) : Option (Int32 × MI) := bd (f_X8_wordHere I R) (fun z_1 => (if 0 ≤ z_1.1 then ((if z_1.1 = 5 then ((if (z_1.2 100 39) = 8 then (f_X8_clause_48 z_1.2 R) else (f_X8_clause_58 z_1.2 R z_1.1))) else ((if (((z_1.2 100 34) >>> (z_1.1 &&& 31)) &&& 1) = 1 then (f_X8_clause_48 z_1.2 R) else (f_X8_clause_58 z_1.2 R z_1.1))))) else (bd (f_X8_fails z_1.2 R 0 (z_1.2 100 32)) (fun z_15 => gd (z_15.1 = 0 ∨ z_15.1 = 1) (some (z_15.1, z_15.2))))))
set_option maxHeartbeats 4000000 in
set_option maxRecDepth 100000 in
theorem c_X8_clause {l : Launch} {E : EV} {q : Nat → Nat} {al : Nat → Bool} {n : Nat} {I : MI} {R : MR}  (a_100 : al 100 = true) (hF : Fx al R) {res : Int32 × MI} (h : f_X8_clause I R = some res) : Ct l yX8_clause cX8_clause 2 (some .boolean) 3 0 0 E q al I R n [.ref (q 100)] (some (.int res.1)) al res.2 R n := by
  refine Ct.of (own := RX8) (mn := "clause") (by decide) rfl rfl (Nat.le_of_ble_eq_true rfl) ?_
  intro p e s m args below meth c ls C hmn hargs hW hl
  have hx := C.1
  have hb := C.2.1
  have hl : lv_has ls 2 [(0, .ref (q 100))] := hl
  unfold f_X8_clause at h
  refine lv_aload_n hx hb dX8_clause_0 rfl (lv_at hl 0 rfl) ?_
  obtain ⟨z_1, e_z_1, h⟩ := bd_some h
  refine r_callV (v := (some (.int z_1.1))) (As := []) (rest := []) C ml_X8_wordHere gm_924 gm_926 gs_30 (ci := 8) rfl hW a_100 rfl hl.1 (c_X8_wordHere a_100 hF e_z_1) rfl ⟨(by decide), (by decide)⟩ ⟨(by decide), (by decide)⟩ rfl (Nat.le_of_ble_eq_true rfl) dX8_clause_1 (fun H locs hW => ?_)
  refine lv_istore_n (lv' := [(1, .int z_1.1), (0, .ref (q 100))]) hx hb dX8_clause_4 rfl hl (by decide) rfl (fun ls hl => ?_)
  refine lv_iload_n hx hb dX8_clause_5 rfl (lv_at hl 0 rfl) ?_
  refine lv_if_ge (tgt := 19) hx hb dX8_clause_6 (by decide) (fun c_6 => ?_) (fun c_6 => ?_)
  · have h := (if_pos c_6).symm.trans h
    refine lv_iload_n hx hb dX8_clause_19 rfl (lv_at hl 0 rfl) ?_
    refine lv_iconst (v := 5) hx hb dX8_clause_20 (by decide) ?_
    refine lv_icmp_ne (tgt := 36) hx hb dX8_clause_21 (by decide) (fun c_21 => ?_) (fun c_21 => ?_)
    · have h := (if_neg c_21).symm.trans h
      refine lv_aload_n hx hb dX8_clause_36 rfl (lv_at hl 1 rfl) ?_
      refine r_get C fr_X8_178 hW a_100 rfl rfl dX8_clause_37 ?_
      refine lv_iload_n hx hb dX8_clause_40 rfl (lv_at hl 0 rfl) ?_
      refine lv_ishr hx hb dX8_clause_41 ?_
      refine lv_iconst (v := 1) hx hb dX8_clause_42 (by decide) ?_
      refine lv_iand hx hb dX8_clause_43 ?_
      refine lv_iconst (v := 1) hx hb dX8_clause_44 (by decide) ?_
      refine lv_icmp_ne (tgt := 58) hx hb dX8_clause_45 (by decide) (fun c_45 => ?_) (fun c_45 => ?_)
      · have h := (if_neg c_45).symm.trans h
        exact t_X8_clause_58 C a_100 h hW hF (lv_sub hl [1, 0] rfl)
      · have h := (if_pos c_45).symm.trans h
        exact t_X8_clause_48 C a_100 h hW hF (lv_sub hl [1] rfl)
    · have h := (if_pos c_21).symm.trans h
      refine lv_aload_n hx hb dX8_clause_24 rfl (lv_at hl 1 rfl) ?_
      refine r_get C fr_X8_175 hW a_100 rfl rfl dX8_clause_25 ?_
      refine lv_bipush (v := 8) hx hb dX8_clause_28 (by decide) ?_
      refine lv_icmp_ne (tgt := 58) hx hb dX8_clause_30 (by decide) (fun c_30 => ?_) (fun c_30 => ?_)
      · have h := (if_neg c_30).symm.trans h
        exact t_X8_clause_58 C a_100 h hW hF (lv_sub hl [1, 0] rfl)
      · have h := (if_pos c_30).symm.trans h
        refine lv_goto (tgt := 48) hx hb dX8_clause_33 (by decide) ?_
        exact t_X8_clause_48 C a_100 h hW hF (lv_sub hl [1] rfl)
  · have h := (if_neg c_6).symm.trans h
    refine lv_aload_n hx hb dX8_clause_9 rfl (lv_at hl 1 rfl) ?_
    refine lv_iconst (v := 0) hx hb dX8_clause_10 (by decide) ?_
    refine lv_aload_n hx hb dX8_clause_11 rfl (lv_at hl 1 rfl) ?_
    refine r_get C fr_X8_155 hW a_100 rfl rfl dX8_clause_12 ?_
    obtain ⟨z_15, e_z_15, h⟩ := bd_some h
    refine r_callV (v := (some (.int z_15.1))) (As := [.int 0, .int (z_1.2 100 32)]) (rest := []) C ml_X8_fails gm_928 gm_930 gs_31 (ci := 8) rfl hW a_100 rfl hl.1 (c_X8_fails a_100 e_z_15) rfl ⟨(by decide), (by decide)⟩ ⟨(by decide), (by decide)⟩ rfl (Nat.le_of_ble_eq_true rfl) dX8_clause_15 (fun H locs hW => ?_)
    obtain ⟨g_18, h⟩ := gd_some h
    have h := Option.some.inj h
    subst h
    exact r_zret C hW g_18 dX8_clause_18
def f_X8_book_236  : Nat → MI → MR → Int32 → Int32 → Option (Int32 × MI)
  | 0, _, _, _, _ => none
  | nn + 1, I, R, x1, x4 => (if 5 ≤ x4 then (some (x1, I)) else (gd (ix x4 (ln 144)) (gd (ix x4 (ln 143)) (lt (p2 I 143 x4.toNatClampNeg (I 144 x4.toNatClampNeg)) (fun I_255 => f_X8_book_236 nn I_255 R x1 (x4 + 1))))))
set_option maxHeartbeats 4000000 in
set_option maxRecDepth 100000 in
theorem t_X8_book_236 {p : Program} {l : Launch} {e : Env} {s : State} {m : MethodId} {args : Array Value} {below : List Frame} {meth : Method} {c : Code} {E : EV} {q : Nat → Nat} {al : Nat → Bool} {n : Nat} (C : CX p s m args meth c E cX8_book RX8 5 (some .int)) {res : Int32 × MI}   : ∀ (nn : Nat) {I : MI} {R : MR} {x1 : Int32} {x4 : Int32} {H : Heap} {locs : List Loc} {ls : Array Slot} (a_100 : al 100 = true) (h : f_X8_book_236 nn I R x1 x4 = some res) (hW : Wd E q al s.heap I R n H locs) (hF : Fx al R) (hl : lv_has ls 5 [(0, .ref (q 100)), (1, .int x1), (4, .int x4)]), W p l e (rmL 4 0 0) s m args below meth c H locs 0 0 (MQ below (Pst E q (some (.int res.1)) al res.2 R n) args s 0 0 (Bs E)) (F0 m 236 ls []) := by
  have hx := C.1
  have hb := C.2.1
  intro nn
  induction nn with
  | zero =>
    intro I R x1 x4 H locs ls a_100 h
    cases (show (none : Option (Int32 × MI)) = some res from h)
  | succ nn ih =>
    intro I R x1 x4 H locs ls a_100 h hW hF hl
    rw [f_X8_book_236.eq_2] at h
    refine lv_iload hx hb dX8_book_236 (lv_at hl 2 rfl) ?_
    refine lv_iconst (v := 5) hx hb dX8_book_238 (by decide) ?_
    refine lv_icmp_ge (tgt := 262) hx hb dX8_book_239 (by decide) (fun c_239 => ?_) (fun c_239 => ?_)
    · have h := (if_pos c_239).symm.trans h
      refine lv_iload_n hx hb dX8_book_262 rfl (lv_at hl 1 rfl) ?_
      have h := Option.some.inj h
      subst h
      exact r_iret C hW dX8_book_263
    · have h := (if_neg c_239).symm.trans h
      refine lv_aload_n hx hb dX8_book_242 rfl (lv_at hl 0 rfl) ?_
      have ap_243 : al 143 = true := hW.cl a_100 (hF _ 42 _ a_100 rfl)
      refine r_getq C fr_X8_94 hW a_100 rfl rfl (hF _ 42 _ a_100 rfl) dX8_book_243 ?_
      refine lv_iload hx hb dX8_book_246 (lv_at hl 2 rfl) ?_
      refine lv_aload_n hx hb dX8_book_248 rfl (lv_at hl 0 rfl) ?_
      have ap_249 : al 144 = true := hW.cl a_100 (hF _ 43 _ a_100 rfl)
      refine r_getq C fr_X8_97 hW a_100 rfl rfl (hF _ 43 _ a_100 rfl) dX8_book_249 ?_
      refine lv_iload hx hb dX8_book_252 (lv_at hl 2 rfl) ?_
      obtain ⟨g_254, h⟩ := gd_some h
      refine r_iald C hW ap_249 rfl (ix_in g_254) dX8_book_254 ?_
      obtain ⟨g_255, h⟩ := gd_some h
      obtain ⟨I_255, e_I_255, h⟩ := lt_some h
      refine r_iast C hW ap_243 rfl (ix_in g_255) dX8_book_255 (fun H locs hW => ?_)
      rw [← e_I_255] at hW
      refine lv_iinc (v := x4 + 1) (lv' := [(4, .int (x4 + 1)), (0, .ref (q 100)), (1, .int x1)]) hx hb dX8_book_256 hl (k := 2) rfl rfl (by decide) rfl (fun ls hl => ?_)
      refine lv_goto (tgt := 236) hx hb dX8_book_259 (by decide) ?_
      exact ih a_100 h hW hF (lv_sub hl [1, 2, 0] rfl)
def f_X8_book_190  : Nat → MI → MR → Int32 → Int32 → Option (Int32 × MI)
  | 0, _, _, _, _ => none
  | nn + 1, I, R, x1, x4 => (if (I 100 36) ≤ x4 then (f_X8_book_236 1000000 I R x1 0) else (gd (ix x4 (ln 141)) (gd (ix x4 (ln 138)) (lt (p2 I 138 x4.toNatClampNeg (I 141 x4.toNatClampNeg)) (fun I_212 => gd (ix x4 (ln 142)) (gd (ix x4 (ln 139)) (lt (p2 I_212 139 x4.toNatClampNeg (I_212 142 x4.toNatClampNeg)) (fun I_226 => f_X8_book_190 nn I_226 R x1 (x4 + 1)))))))))
set_option maxHeartbeats 4000000 in
set_option maxRecDepth 100000 in
theorem t_X8_book_190 {p : Program} {l : Launch} {e : Env} {s : State} {m : MethodId} {args : Array Value} {below : List Frame} {meth : Method} {c : Code} {E : EV} {q : Nat → Nat} {al : Nat → Bool} {n : Nat} (C : CX p s m args meth c E cX8_book RX8 5 (some .int)) {res : Int32 × MI}   : ∀ (nn : Nat) {I : MI} {R : MR} {x1 : Int32} {x4 : Int32} {H : Heap} {locs : List Loc} {ls : Array Slot} (a_100 : al 100 = true) (h : f_X8_book_190 nn I R x1 x4 = some res) (hW : Wd E q al s.heap I R n H locs) (hF : Fx al R) (hl : lv_has ls 5 [(0, .ref (q 100)), (1, .int x1), (4, .int x4)]), W p l e (rmL 4 0 0) s m args below meth c H locs 0 0 (MQ below (Pst E q (some (.int res.1)) al res.2 R n) args s 0 0 (Bs E)) (F0 m 190 ls []) := by
  have hx := C.1
  have hb := C.2.1
  intro nn
  induction nn with
  | zero =>
    intro I R x1 x4 H locs ls a_100 h
    cases (show (none : Option (Int32 × MI)) = some res from h)
  | succ nn ih =>
    intro I R x1 x4 H locs ls a_100 h hW hF hl
    rw [f_X8_book_190.eq_2] at h
    refine lv_iload hx hb dX8_book_190 (lv_at hl 2 rfl) ?_
    refine lv_aload_n hx hb dX8_book_192 rfl (lv_at hl 0 rfl) ?_
    refine r_get C fr_X8_124 hW a_100 rfl rfl dX8_book_193 ?_
    refine lv_icmp_ge (tgt := 233) hx hb dX8_book_196 (by decide) (fun c_196 => ?_) (fun c_196 => ?_)
    · have h := (if_pos c_196).symm.trans h
      refine lv_iconst (v := 0) hx hb dX8_book_233 (by decide) ?_
      refine lv_istore (lv' := [(4, .int 0), (0, .ref (q 100)), (1, .int x1)]) hx hb dX8_book_234 hl (by decide) rfl (fun ls hl => ?_)
      exact t_X8_book_236 C 1000000 a_100 h hW hF (lv_sub hl [1, 2, 0] rfl)
    · have h := (if_neg c_196).symm.trans h
      refine lv_aload_n hx hb dX8_book_199 rfl (lv_at hl 0 rfl) ?_
      have ap_200 : al 138 = true := hW.cl a_100 (hF _ 37 _ a_100 rfl)
      refine r_getq C fr_X8_82 hW a_100 rfl rfl (hF _ 37 _ a_100 rfl) dX8_book_200 ?_
      refine lv_iload hx hb dX8_book_203 (lv_at hl 2 rfl) ?_
      refine lv_aload_n hx hb dX8_book_205 rfl (lv_at hl 0 rfl) ?_
      have ap_206 : al 141 = true := hW.cl a_100 (hF _ 40 _ a_100 rfl)
      refine r_getq C fr_X8_88 hW a_100 rfl rfl (hF _ 40 _ a_100 rfl) dX8_book_206 ?_
      refine lv_iload hx hb dX8_book_209 (lv_at hl 2 rfl) ?_
      obtain ⟨g_211, h⟩ := gd_some h
      refine r_iald C hW ap_206 rfl (ix_in g_211) dX8_book_211 ?_
      obtain ⟨g_212, h⟩ := gd_some h
      obtain ⟨I_212, e_I_212, h⟩ := lt_some h
      refine r_iast C hW ap_200 rfl (ix_in g_212) dX8_book_212 (fun H locs hW => ?_)
      rw [← e_I_212] at hW
      refine lv_aload_n hx hb dX8_book_213 rfl (lv_at hl 0 rfl) ?_
      have ap_214 : al 139 = true := hW.cl a_100 (hF _ 38 _ a_100 rfl)
      refine r_getq C fr_X8_85 hW a_100 rfl rfl (hF _ 38 _ a_100 rfl) dX8_book_214 ?_
      refine lv_iload hx hb dX8_book_217 (lv_at hl 2 rfl) ?_
      refine lv_aload_n hx hb dX8_book_219 rfl (lv_at hl 0 rfl) ?_
      have ap_220 : al 142 = true := hW.cl a_100 (hF _ 41 _ a_100 rfl)
      refine r_getq C fr_X8_91 hW a_100 rfl rfl (hF _ 41 _ a_100 rfl) dX8_book_220 ?_
      refine lv_iload hx hb dX8_book_223 (lv_at hl 2 rfl) ?_
      obtain ⟨g_225, h⟩ := gd_some h
      refine r_iald C hW ap_220 rfl (ix_in g_225) dX8_book_225 ?_
      obtain ⟨g_226, h⟩ := gd_some h
      obtain ⟨I_226, e_I_226, h⟩ := lt_some h
      refine r_iast C hW ap_214 rfl (ix_in g_226) dX8_book_226 (fun H locs hW => ?_)
      rw [← e_I_226] at hW
      refine lv_iinc (v := x4 + 1) (lv' := [(4, .int (x4 + 1)), (0, .ref (q 100)), (1, .int x1)]) hx hb dX8_book_227 hl (k := 2) rfl rfl (by decide) rfl (fun ls hl => ?_)
      refine lv_goto (tgt := 190) hx hb dX8_book_230 (by decide) ?_
      exact ih a_100 h hW hF (lv_sub hl [1, 2, 0] rfl)
def f_X8_book_179  (I : MI) (R : MR) (x1 : Int32) : Option (Int32 × MI) := lt (p2 I 100 36 (I 100 39)) (fun I_184 => f_X8_book_190 1000000 I_184 R x1 0)
set_option maxHeartbeats 4000000 in
set_option maxRecDepth 100000 in
theorem t_X8_book_179 {p : Program} {l : Launch} {e : Env} {s : State} {m : MethodId} {args : Array Value} {below : List Frame} {meth : Method} {c : Code} {E : EV} {q : Nat → Nat} {al : Nat → Bool} {n : Nat} (C : CX p s m args meth c E cX8_book RX8 5 (some .int)) {res : Int32 × MI}   {I : MI} {R : MR} {x1 : Int32} (a_100 : al 100 = true) {H : Heap} {locs : List Loc} {ls : Array Slot} (h : f_X8_book_179 I R x1 = some res) (hW : Wd E q al s.heap I R n H locs) (hF : Fx al R) (hl : lv_has ls 5 [(0, .ref (q 100)), (1, .int x1)]) : W p l e (rmL 4 0 0) s m args below meth c H locs 0 0 (MQ below (Pst E q (some (.int res.1)) al res.2 R n) args s 0 0 (Bs E)) (F0 m 179 ls []) := by
  have hx := C.1
  have hb := C.2.1
  unfold f_X8_book_179 at h
  refine lv_aload_n hx hb dX8_book_179 rfl (lv_at hl 0 rfl) ?_
  refine lv_aload_n hx hb dX8_book_180 rfl (lv_at hl 0 rfl) ?_
  refine r_get C fr_X8_175 hW a_100 rfl rfl dX8_book_181 ?_
  obtain ⟨I_184, e_I_184, h⟩ := lt_some h
  refine r_put C fr_X8_124 (Or.inl rfl) hW a_100 rfl rfl rfl rfl dX8_book_184 (fun H locs hW => ?_)
  rw [← e_I_184] at hW
  refine lv_iconst (v := 0) hx hb dX8_book_187 (by decide) ?_
  refine lv_istore (lv' := [(4, .int 0), (0, .ref (q 100)), (1, .int x1)]) hx hb dX8_book_188 hl (by decide) rfl (fun ls hl => ?_)
  exact t_X8_book_190 C 1000000 a_100 h hW hF (lv_sub hl [1, 2, 0] rfl)
def f_X8_book_135  (I : MI) (R : MR) (x1 : Int32) (x2 : Int32) : Option (Int32 × MI) := lt (p2 I 100 31 0) (fun I_137 => (if x2 = 0 then (some ((-2) - (I_137 100 33), I_137)) else ((if (I_137 100 39) = 0 then (gd (ix 0 (ln 141)) (lt (p2 I_137 141 (0 : Int32).toNatClampNeg 0) (fun I_165 => gd (ix 0 (ln 142)) (lt (p2 I_165 142 (0 : Int32).toNatClampNeg 20) (fun I_173 => lt (p2 I_173 100 39 1) (fun I_176 => f_X8_book_179 I_176 R x1)))))) else (f_X8_book_179 I_137 R x1)))))
set_option maxHeartbeats 4000000 in
set_option maxRecDepth 100000 in
theorem t_X8_book_135 {p : Program} {l : Launch} {e : Env} {s : State} {m : MethodId} {args : Array Value} {below : List Frame} {meth : Method} {c : Code} {E : EV} {q : Nat → Nat} {al : Nat → Bool} {n : Nat} (C : CX p s m args meth c E cX8_book RX8 5 (some .int)) {res : Int32 × MI}   {I : MI} {R : MR} {x1 : Int32} {x2 : Int32} (a_100 : al 100 = true) {H : Heap} {locs : List Loc} {ls : Array Slot} (h : f_X8_book_135 I R x1 x2 = some res) (hW : Wd E q al s.heap I R n H locs) (hF : Fx al R) (hl : lv_has ls 5 [(0, .ref (q 100)), (1, .int x1), (2, .int x2)]) : W p l e (rmL 4 0 0) s m args below meth c H locs 0 0 (MQ below (Pst E q (some (.int res.1)) al res.2 R n) args s 0 0 (Bs E)) (F0 m 135 ls []) := by
  have hx := C.1
  have hb := C.2.1
  unfold f_X8_book_135 at h
  refine lv_aload_n hx hb dX8_book_135 rfl (lv_at hl 0 rfl) ?_
  refine lv_iconst (v := 0) hx hb dX8_book_136 (by decide) ?_
  obtain ⟨I_137, e_I_137, h⟩ := lt_some h
  refine r_put C fr_X8_145 (Or.inl rfl) hW a_100 rfl rfl rfl rfl dX8_book_137 (fun H locs hW => ?_)
  rw [← e_I_137] at hW
  refine lv_iload_n hx hb dX8_book_140 rfl (lv_at hl 2 rfl) ?_
  refine lv_if_ne (tgt := 152) hx hb dX8_book_141 (by decide) (fun c_141 => ?_) (fun c_141 => ?_)
  · have h := (if_neg c_141).symm.trans h
    refine lv_aload_n hx hb dX8_book_152 rfl (lv_at hl 0 rfl) ?_
    refine r_get C fr_X8_175 hW a_100 rfl rfl dX8_book_153 ?_
    refine lv_if_ne (tgt := 179) hx hb dX8_book_156 (by decide) (fun c_156 => ?_) (fun c_156 => ?_)
    · have h := (if_neg c_156).symm.trans h
      exact t_X8_book_179 C a_100 h hW hF (lv_sub hl [0, 1] rfl)
    · have h := (if_pos c_156).symm.trans h
      refine lv_aload_n hx hb dX8_book_159 rfl (lv_at hl 0 rfl) ?_
      have ap_160 : al 141 = true := hW.cl a_100 (hF _ 40 _ a_100 rfl)
      refine r_getq C fr_X8_88 hW a_100 rfl rfl (hF _ 40 _ a_100 rfl) dX8_book_160 ?_
      refine lv_iconst (v := 0) hx hb dX8_book_163 (by decide) ?_
      refine lv_iconst (v := 0) hx hb dX8_book_164 (by decide) ?_
      obtain ⟨g_165, h⟩ := gd_some h
      obtain ⟨I_165, e_I_165, h⟩ := lt_some h
      refine r_iast C hW ap_160 rfl (ix_in g_165) dX8_book_165 (fun H locs hW => ?_)
      rw [← e_I_165] at hW
      refine lv_aload_n hx hb dX8_book_166 rfl (lv_at hl 0 rfl) ?_
      have ap_167 : al 142 = true := hW.cl a_100 (hF _ 41 _ a_100 rfl)
      refine r_getq C fr_X8_91 hW a_100 rfl rfl (hF _ 41 _ a_100 rfl) dX8_book_167 ?_
      refine lv_iconst (v := 0) hx hb dX8_book_170 (by decide) ?_
      refine lv_bipush (v := 20) hx hb dX8_book_171 (by decide) ?_
      obtain ⟨g_173, h⟩ := gd_some h
      obtain ⟨I_173, e_I_173, h⟩ := lt_some h
      refine r_iast C hW ap_167 rfl (ix_in g_173) dX8_book_173 (fun H locs hW => ?_)
      rw [← e_I_173] at hW
      refine lv_aload_n hx hb dX8_book_174 rfl (lv_at hl 0 rfl) ?_
      refine lv_iconst (v := 1) hx hb dX8_book_175 (by decide) ?_
      obtain ⟨I_176, e_I_176, h⟩ := lt_some h
      refine r_put C fr_X8_175 (Or.inl rfl) hW a_100 rfl rfl rfl rfl dX8_book_176 (fun H locs hW => ?_)
      rw [← e_I_176] at hW
      exact t_X8_book_179 C a_100 h hW hF (lv_sub hl [0, 1] rfl)
  · have h := (if_pos c_141).symm.trans h
    refine lv_bipush (v := (-2)) hx hb dX8_book_144 (by decide) ?_
    refine lv_aload_n hx hb dX8_book_146 rfl (lv_at hl 0 rfl) ?_
    refine r_get C fr_X8_152 hW a_100 rfl rfl dX8_book_147 ?_
    refine lv_isub hx hb dX8_book_150 ?_
    have h := Option.some.inj h
    subst h
    exact r_iret C hW dX8_book_151
def f_X8_book_118 (k61 : MI → MR → Int32 → Int32 → Int32 → Option (Int32 × MI)) (I : MI) (R : MR) (x1 : Int32) (x2 : Int32) (x3 : Int32) : Option (Int32 × MI) := (if x3 = 0 then (k61 I R x1 x2 x3) else (lt (p2 I 100 32 ((I 100 32) + 1)) (fun I_129 => k61 I_129 R x1 x2 x3)))
set_option maxHeartbeats 4000000 in
set_option maxRecDepth 100000 in
theorem t_X8_book_118 {p : Program} {l : Launch} {e : Env} {s : State} {m : MethodId} {args : Array Value} {below : List Frame} {meth : Method} {c : Code} {E : EV} {q : Nat → Nat} {al : Nat → Bool} {n : Nat} (C : CX p s m args meth c E cX8_book RX8 5 (some .int)) {res : Int32 × MI} {k61 : MI → MR → Int32 → Int32 → Int32 → Option (Int32 × MI)} (hk61 : ∀ {I : MI} {R : MR} {x1 : Int32} {x2 : Int32} {x3 : Int32} {H : Heap} {locs : List Loc} {ls : Array Slot}, al 100 = true → k61 I R x1 x2 x3 = some res → Wd E q al s.heap I R n H locs → Fx al R → lv_has ls 5 [(0, .ref (q 100)), (1, .int x1), (2, .int x2), (3, .int x3)] → W p l e (rmL 4 0 0) s m args below meth c H locs 0 0 (MQ below (Pst E q (some (.int res.1)) al res.2 R n) args s 0 0 (Bs E)) (F0 m 61 ls [])) {I : MI} {R : MR} {x1 : Int32} {x2 : Int32} {x3 : Int32} (a_100 : al 100 = true) {H : Heap} {locs : List Loc} {ls : Array Slot} (h : f_X8_book_118 k61 I R x1 x2 x3 = some res) (hW : Wd E q al s.heap I R n H locs) (hF : Fx al R) (hl : lv_has ls 5 [(0, .ref (q 100)), (1, .int x1), (2, .int x2), (3, .int x3)]) : W p l e (rmL 4 0 0) s m args below meth c H locs 0 0 (MQ below (Pst E q (some (.int res.1)) al res.2 R n) args s 0 0 (Bs E)) (F0 m 118 ls []) := by
  have hx := C.1
  have hb := C.2.1
  unfold f_X8_book_118 at h
  refine lv_iload_n hx hb dX8_book_118 rfl (lv_at hl 3 rfl) ?_
  refine lv_if_eq (tgt := 61) hx hb dX8_book_119 (by decide) (fun c_119 => ?_) (fun c_119 => ?_)
  · have h := (if_pos c_119).symm.trans h
    exact hk61 a_100 h hW hF (lv_sub hl [0, 1, 2, 3] rfl)
  · have h := (if_neg c_119).symm.trans h
    refine lv_aload_n hx hb dX8_book_122 rfl (lv_at hl 0 rfl) ?_
    refine lv_dup hx hb dX8_book_123 rfl ?_
    refine r_get C fr_X8_155 hW a_100 rfl rfl dX8_book_124 ?_
    refine lv_iconst (v := 1) hx hb dX8_book_127 (by decide) ?_
    refine lv_iadd hx hb dX8_book_128 ?_
    obtain ⟨I_129, e_I_129, h⟩ := lt_some h
    refine r_put C fr_X8_155 (Or.inl rfl) hW a_100 rfl rfl rfl rfl dX8_book_129 (fun H locs hW => ?_)
    rw [← e_I_129] at hW
    refine lv_goto (tgt := 61) hx hb dX8_book_132 (by decide) ?_
    exact hk61 a_100 h hW hF (lv_sub hl [0, 1, 2, 3] rfl)
def f_X8_book_94 (k61 : MI → MR → Int32 → Int32 → Int32 → Option (Int32 × MI)) (I : MI) (R : MR) (x1 : Int32) (x2 : Int32) (y0 : Int32) : Option (Int32 × MI) := (if y0 = 0 then (f_X8_book_118 k61 I R x1 x2 y0) else (bd (f_X8_see I R) (fun z_100 => (if z_100.1 = 59 then (f_X8_book_118 k61 z_100.2 R x1 x2 y0) else (bd (f_X8_fails z_100.2 R 0 (z_100.2 100 32)) (fun z_114 => f_X8_book_118 k61 z_114.2 R x1 z_114.1 y0))))))
set_option maxHeartbeats 4000000 in
set_option maxRecDepth 100000 in
theorem t_X8_book_94 {p : Program} {l : Launch} {e : Env} {s : State} {m : MethodId} {args : Array Value} {below : List Frame} {meth : Method} {c : Code} {E : EV} {q : Nat → Nat} {al : Nat → Bool} {n : Nat} (C : CX p s m args meth c E cX8_book RX8 5 (some .int)) {res : Int32 × MI} {k61 : MI → MR → Int32 → Int32 → Int32 → Option (Int32 × MI)} (hk61 : ∀ {I : MI} {R : MR} {x1 : Int32} {x2 : Int32} {x3 : Int32} {H : Heap} {locs : List Loc} {ls : Array Slot}, al 100 = true → k61 I R x1 x2 x3 = some res → Wd E q al s.heap I R n H locs → Fx al R → lv_has ls 5 [(0, .ref (q 100)), (1, .int x1), (2, .int x2), (3, .int x3)] → W p l e (rmL 4 0 0) s m args below meth c H locs 0 0 (MQ below (Pst E q (some (.int res.1)) al res.2 R n) args s 0 0 (Bs E)) (F0 m 61 ls [])) {I : MI} {R : MR} {x1 : Int32} {x2 : Int32} {y0 : Int32} (a_100 : al 100 = true) {H : Heap} {locs : List Loc} {ls : Array Slot} (h : f_X8_book_94 k61 I R x1 x2 y0 = some res) (hW : Wd E q al s.heap I R n H locs) (hF : Fx al R) (hl : lv_has ls 5 [(0, .ref (q 100)), (1, .int x1), (2, .int x2)]) : W p l e (rmL 4 0 0) s m args below meth c H locs 0 0 (MQ below (Pst E q (some (.int res.1)) al res.2 R n) args s 0 0 (Bs E)) (F0 m 94 ls [.int y0]) := by
  have hx := C.1
  have hb := C.2.1
  unfold f_X8_book_94 at h
  refine lv_istore_n (lv' := [(3, .int y0), (0, .ref (q 100)), (1, .int x1), (2, .int x2)]) hx hb dX8_book_94 rfl hl (by decide) rfl (fun ls hl => ?_)
  refine lv_iload_n hx hb dX8_book_95 rfl (lv_at hl 0 rfl) ?_
  refine lv_if_eq (tgt := 118) hx hb dX8_book_96 (by decide) (fun c_96 => ?_) (fun c_96 => ?_)
  · have h := (if_pos c_96).symm.trans h
    exact t_X8_book_118 C hk61 a_100 h hW hF (lv_sub hl [1, 2, 3, 0] rfl)
  · have h := (if_neg c_96).symm.trans h
    refine lv_aload_n hx hb dX8_book_99 rfl (lv_at hl 1 rfl) ?_
    obtain ⟨z_100, e_z_100, h⟩ := bd_some h
    refine r_callV (v := (some (.int z_100.1))) (As := []) (rest := []) C ml_X8_see gm_916 gm_918 gs_28 (ci := 8) rfl hW a_100 rfl hl.1 (c_X8_see a_100 hF e_z_100) rfl ⟨(by decide), (by decide)⟩ ⟨(by decide), (by decide)⟩ rfl (Nat.le_of_ble_eq_true rfl) dX8_book_100 (fun H locs hW => ?_)
    refine lv_bipush (v := 59) hx hb dX8_book_103 (by decide) ?_
    refine lv_icmp_eq (tgt := 118) hx hb dX8_book_105 (by decide) (fun c_105 => ?_) (fun c_105 => ?_)
    · have h := (if_pos c_105).symm.trans h
      exact t_X8_book_118 C hk61 a_100 h hW hF (lv_sub hl [1, 2, 3, 0] rfl)
    · have h := (if_neg c_105).symm.trans h
      refine lv_aload_n hx hb dX8_book_108 rfl (lv_at hl 1 rfl) ?_
      refine lv_iconst (v := 0) hx hb dX8_book_109 (by decide) ?_
      refine lv_aload_n hx hb dX8_book_110 rfl (lv_at hl 1 rfl) ?_
      refine r_get C fr_X8_155 hW a_100 rfl rfl dX8_book_111 ?_
      obtain ⟨z_114, e_z_114, h⟩ := bd_some h
      refine r_callV (v := (some (.int z_114.1))) (As := [.int 0, .int (z_100.2 100 32)]) (rest := []) C ml_X8_fails gm_928 gm_930 gs_31 (ci := 8) rfl hW a_100 rfl hl.1 (c_X8_fails a_100 e_z_114) rfl ⟨(by decide), (by decide)⟩ ⟨(by decide), (by decide)⟩ rfl (Nat.le_of_ble_eq_true rfl) dX8_book_114 (fun H locs hW => ?_)
      refine lv_istore_n (lv' := [(2, .int z_114.1), (3, .int y0), (0, .ref (q 100)), (1, .int x1)]) hx hb dX8_book_117 rfl hl (by decide) rfl (fun ls hl => ?_)
      exact t_X8_book_118 C hk61 a_100 h hW hF (lv_sub hl [2, 3, 0, 1] rfl)
def f_X8_book_93 (k61 : MI → MR → Int32 → Int32 → Int32 → Option (Int32 × MI)) (I : MI) (R : MR) (x1 : Int32) (x2 : Int32) : Option (Int32 × MI) := f_X8_book_94 k61 I R x1 x2 0
set_option maxHeartbeats 4000000 in
set_option maxRecDepth 100000 in
theorem t_X8_book_93 {p : Program} {l : Launch} {e : Env} {s : State} {m : MethodId} {args : Array Value} {below : List Frame} {meth : Method} {c : Code} {E : EV} {q : Nat → Nat} {al : Nat → Bool} {n : Nat} (C : CX p s m args meth c E cX8_book RX8 5 (some .int)) {res : Int32 × MI} {k61 : MI → MR → Int32 → Int32 → Int32 → Option (Int32 × MI)} (hk61 : ∀ {I : MI} {R : MR} {x1 : Int32} {x2 : Int32} {x3 : Int32} {H : Heap} {locs : List Loc} {ls : Array Slot}, al 100 = true → k61 I R x1 x2 x3 = some res → Wd E q al s.heap I R n H locs → Fx al R → lv_has ls 5 [(0, .ref (q 100)), (1, .int x1), (2, .int x2), (3, .int x3)] → W p l e (rmL 4 0 0) s m args below meth c H locs 0 0 (MQ below (Pst E q (some (.int res.1)) al res.2 R n) args s 0 0 (Bs E)) (F0 m 61 ls [])) {I : MI} {R : MR} {x1 : Int32} {x2 : Int32} (a_100 : al 100 = true) {H : Heap} {locs : List Loc} {ls : Array Slot} (h : f_X8_book_93 k61 I R x1 x2 = some res) (hW : Wd E q al s.heap I R n H locs) (hF : Fx al R) (hl : lv_has ls 5 [(0, .ref (q 100)), (1, .int x1), (2, .int x2)]) : W p l e (rmL 4 0 0) s m args below meth c H locs 0 0 (MQ below (Pst E q (some (.int res.1)) al res.2 R n) args s 0 0 (Bs E)) (F0 m 93 ls []) := by
  have hx := C.1
  have hb := C.2.1
  unfold f_X8_book_93 at h
  refine lv_iconst (v := 0) hx hb dX8_book_93 (by decide) ?_
  exact t_X8_book_94 C hk61 a_100 h hW hF (lv_sub hl [0, 1, 2] rfl)
def f_X8_book_61  : Nat → MI → MR → Int32 → Int32 → Int32 → Option (Int32 × MI)
  | 0, _, _, _, _, _ => none
  | nn + 1, I, R, x1, x2, x3 => (if x2 = 0 then (f_X8_book_135 I R x1 x2) else ((if x3 = 0 then (f_X8_book_135 I R x1 x2) else (bd (f_X8_clause I R) (fun z_70 => (if z_70.1 = 0 then (f_X8_book_93 (f_X8_book_61 nn) z_70.2 R (x1 + 1) z_70.1) else (bd (f_X8_see z_70.2 R) (fun z_82 => (if z_82.1 = (-1) then (f_X8_book_93 (f_X8_book_61 nn) z_82.2 R (x1 + 1) z_70.1) else (f_X8_book_94 (f_X8_book_61 nn) z_82.2 R (x1 + 1) z_70.1 1))))))))))
set_option maxHeartbeats 4000000 in
set_option maxRecDepth 100000 in
theorem t_X8_book_61 {p : Program} {l : Launch} {e : Env} {s : State} {m : MethodId} {args : Array Value} {below : List Frame} {meth : Method} {c : Code} {E : EV} {q : Nat → Nat} {al : Nat → Bool} {n : Nat} (C : CX p s m args meth c E cX8_book RX8 5 (some .int)) {res : Int32 × MI}   : ∀ (nn : Nat) {I : MI} {R : MR} {x1 : Int32} {x2 : Int32} {x3 : Int32} {H : Heap} {locs : List Loc} {ls : Array Slot} (a_100 : al 100 = true) (h : f_X8_book_61 nn I R x1 x2 x3 = some res) (hW : Wd E q al s.heap I R n H locs) (hF : Fx al R) (hl : lv_has ls 5 [(0, .ref (q 100)), (1, .int x1), (2, .int x2), (3, .int x3)]), W p l e (rmL 4 0 0) s m args below meth c H locs 0 0 (MQ below (Pst E q (some (.int res.1)) al res.2 R n) args s 0 0 (Bs E)) (F0 m 61 ls []) := by
  have hx := C.1
  have hb := C.2.1
  intro nn
  induction nn with
  | zero =>
    intro I R x1 x2 x3 H locs ls a_100 h
    cases (show (none : Option (Int32 × MI)) = some res from h)
  | succ nn ih =>
    intro I R x1 x2 x3 H locs ls a_100 h hW hF hl
    rw [f_X8_book_61.eq_2] at h
    refine lv_iload_n hx hb dX8_book_61 rfl (lv_at hl 2 rfl) ?_
    refine lv_if_eq (tgt := 135) hx hb dX8_book_62 (by decide) (fun c_62 => ?_) (fun c_62 => ?_)
    · have h := (if_pos c_62).symm.trans h
      exact t_X8_book_135 C a_100 h hW hF (lv_sub hl [0, 1, 2] rfl)
    · have h := (if_neg c_62).symm.trans h
      refine lv_iload_n hx hb dX8_book_65 rfl (lv_at hl 3 rfl) ?_
      refine lv_if_eq (tgt := 135) hx hb dX8_book_66 (by decide) (fun c_66 => ?_) (fun c_66 => ?_)
      · have h := (if_pos c_66).symm.trans h
        exact t_X8_book_135 C a_100 h hW hF (lv_sub hl [0, 1, 2] rfl)
      · have h := (if_neg c_66).symm.trans h
        refine lv_aload_n hx hb dX8_book_69 rfl (lv_at hl 0 rfl) ?_
        obtain ⟨z_70, e_z_70, h⟩ := bd_some h
        refine r_callV (v := (some (.int z_70.1))) (As := []) (rest := []) C ml_X8_clause gm_920 gm_922 gs_29 (ci := 8) rfl hW a_100 rfl hl.1 (c_X8_clause a_100 hF e_z_70) rfl ⟨(by decide), (by decide)⟩ ⟨(by decide), (by decide)⟩ rfl (Nat.le_of_ble_eq_true rfl) dX8_book_70 (fun H locs hW => ?_)
        refine lv_istore_n (lv' := [(2, .int z_70.1), (0, .ref (q 100)), (1, .int x1), (3, .int x3)]) hx hb dX8_book_73 rfl hl (by decide) rfl (fun ls hl => ?_)
        refine lv_iinc (v := x1 + 1) (lv' := [(1, .int (x1 + 1)), (2, .int z_70.1), (0, .ref (q 100)), (3, .int x3)]) hx hb dX8_book_74 hl (k := 2) rfl rfl (by decide) rfl (fun ls hl => ?_)
        refine lv_iload_n hx hb dX8_book_77 rfl (lv_at hl 1 rfl) ?_
        refine lv_if_eq (tgt := 93) hx hb dX8_book_78 (by decide) (fun c_78 => ?_) (fun c_78 => ?_)
        · have h := (if_pos c_78).symm.trans h
          exact t_X8_book_93 C ih a_100 h hW hF (lv_sub hl [2, 0, 1] rfl)
        · have h := (if_neg c_78).symm.trans h
          refine lv_aload_n hx hb dX8_book_81 rfl (lv_at hl 2 rfl) ?_
          obtain ⟨z_82, e_z_82, h⟩ := bd_some h
          refine r_callV (v := (some (.int z_82.1))) (As := []) (rest := []) C ml_X8_see gm_916 gm_918 gs_28 (ci := 8) rfl hW a_100 rfl hl.1 (c_X8_see a_100 hF e_z_82) rfl ⟨(by decide), (by decide)⟩ ⟨(by decide), (by decide)⟩ rfl (Nat.le_of_ble_eq_true rfl) dX8_book_82 (fun H locs hW => ?_)
          refine lv_iconst (v := (-1)) hx hb dX8_book_85 (by decide) ?_
          refine lv_icmp_eq (tgt := 93) hx hb dX8_book_86 (by decide) (fun c_86 => ?_) (fun c_86 => ?_)
          · have h := (if_pos c_86).symm.trans h
            exact t_X8_book_93 C ih a_100 h hW hF (lv_sub hl [2, 0, 1] rfl)
          · have h := (if_neg c_86).symm.trans h
            refine lv_iconst (v := 1) hx hb dX8_book_89 (by decide) ?_
            refine lv_goto (tgt := 94) hx hb dX8_book_90 (by decide) ?_
            exact t_X8_book_94 C ih a_100 h hW hF (lv_sub hl [2, 0, 1] rfl)
def f_X8_book_22  : Nat → MI → MR → Int32 → Option (Int32 × MI)
  | 0, _, _, _ => none
  | nn + 1, I, R, x1 => (if 5 ≤ x1 then (bd (f_X8_see I R) (fun z_48 => (if z_48.1 = (-1) then (f_X8_book_61 1000000 z_48.2 R 0 1 0) else (f_X8_book_61 1000000 z_48.2 R 0 1 1)))) else (bd (f_X8_without I R x1) (fun z_33 => gd (ix x1 (ln 144)) (lt (p2 I 144 x1.toNatClampNeg z_33) (fun I_36 => f_X8_book_22 nn I_36 R (x1 + 1))))))
set_option maxHeartbeats 4000000 in
set_option maxRecDepth 100000 in
theorem t_X8_book_22 {p : Program} {l : Launch} {e : Env} {s : State} {m : MethodId} {args : Array Value} {below : List Frame} {meth : Method} {c : Code} {E : EV} {q : Nat → Nat} {al : Nat → Bool} {n : Nat} (C : CX p s m args meth c E cX8_book RX8 5 (some .int)) {res : Int32 × MI}   : ∀ (nn : Nat) {I : MI} {R : MR} {x1 : Int32} {H : Heap} {locs : List Loc} {ls : Array Slot} (a_100 : al 100 = true) (h : f_X8_book_22 nn I R x1 = some res) (hW : Wd E q al s.heap I R n H locs) (hF : Fx al R) (hl : lv_has ls 5 [(0, .ref (q 100)), (1, .int x1)]), W p l e (rmL 4 0 0) s m args below meth c H locs 0 0 (MQ below (Pst E q (some (.int res.1)) al res.2 R n) args s 0 0 (Bs E)) (F0 m 22 ls []) := by
  have hx := C.1
  have hb := C.2.1
  intro nn
  induction nn with
  | zero =>
    intro I R x1 H locs ls a_100 h
    cases (show (none : Option (Int32 × MI)) = some res from h)
  | succ nn ih =>
    intro I R x1 H locs ls a_100 h hW hF hl
    rw [f_X8_book_22.eq_2] at h
    refine lv_iload_n hx hb dX8_book_22 rfl (lv_at hl 1 rfl) ?_
    refine lv_iconst (v := 5) hx hb dX8_book_23 (by decide) ?_
    refine lv_icmp_ge (tgt := 43) hx hb dX8_book_24 (by decide) (fun c_24 => ?_) (fun c_24 => ?_)
    · have h := (if_pos c_24).symm.trans h
      refine lv_iconst (v := 0) hx hb dX8_book_43 (by decide) ?_
      refine lv_istore_n (lv' := [(1, .int 0), (0, .ref (q 100))]) hx hb dX8_book_44 rfl hl (by decide) rfl (fun ls hl => ?_)
      refine lv_iconst (v := 1) hx hb dX8_book_45 (by decide) ?_
      refine lv_istore_n (lv' := [(2, .int 1), (1, .int 0), (0, .ref (q 100))]) hx hb dX8_book_46 rfl hl (by decide) rfl (fun ls hl => ?_)
      refine lv_aload_n hx hb dX8_book_47 rfl (lv_at hl 2 rfl) ?_
      obtain ⟨z_48, e_z_48, h⟩ := bd_some h
      refine r_callV (v := (some (.int z_48.1))) (As := []) (rest := []) C ml_X8_see gm_916 gm_918 gs_28 (ci := 8) rfl hW a_100 rfl hl.1 (c_X8_see a_100 hF e_z_48) rfl ⟨(by decide), (by decide)⟩ ⟨(by decide), (by decide)⟩ rfl (Nat.le_of_ble_eq_true rfl) dX8_book_48 (fun H locs hW => ?_)
      refine lv_iconst (v := (-1)) hx hb dX8_book_51 (by decide) ?_
      refine lv_icmp_eq (tgt := 59) hx hb dX8_book_52 (by decide) (fun c_52 => ?_) (fun c_52 => ?_)
      · have h := (if_pos c_52).symm.trans h
        refine lv_iconst (v := 0) hx hb dX8_book_59 (by decide) ?_
        refine lv_istore_n (lv' := [(3, .int 0), (2, .int 1), (1, .int 0), (0, .ref (q 100))]) hx hb dX8_book_60 rfl hl (by decide) rfl (fun ls hl => ?_)
        exact t_X8_book_61 C 1000000 a_100 h hW hF (lv_sub hl [3, 2, 1, 0] rfl)
      · have h := (if_neg c_52).symm.trans h
        refine lv_iconst (v := 1) hx hb dX8_book_55 (by decide) ?_
        refine lv_goto (tgt := 60) hx hb dX8_book_56 (by decide) ?_
        refine lv_istore_n (lv' := [(3, .int 1), (2, .int 1), (1, .int 0), (0, .ref (q 100))]) hx hb dX8_book_60 rfl hl (by decide) rfl (fun ls hl => ?_)
        exact t_X8_book_61 C 1000000 a_100 h hW hF (lv_sub hl [3, 2, 1, 0] rfl)
    · have h := (if_neg c_24).symm.trans h
      refine lv_aload_n hx hb dX8_book_27 rfl (lv_at hl 0 rfl) ?_
      have ap_28 : al 144 = true := hW.cl a_100 (hF _ 43 _ a_100 rfl)
      refine r_getq C fr_X8_97 hW a_100 rfl rfl (hF _ 43 _ a_100 rfl) dX8_book_28 ?_
      refine lv_iload_n hx hb dX8_book_31 rfl (lv_at hl 1 rfl) ?_
      refine lv_iload_n hx hb dX8_book_32 rfl (lv_at hl 1 rfl) ?_
      obtain ⟨z_33, e_z_33, h⟩ := bd_some h
      refine r_callS (v := (some (.int z_33))) (As := [.int x1]) (rest := [.int x1, .ref (q 144)]) C ml_X8_without gm_705 gm_706 hW hl.1 (c_X8_without  e_z_33) rfl ⟨(by decide), (by decide)⟩ ⟨(by decide), (by decide)⟩ rfl (Nat.le_of_ble_eq_true rfl) dX8_book_33 (fun H locs hW => ?_)
      obtain ⟨g_36, h⟩ := gd_some h
      obtain ⟨I_36, e_I_36, h⟩ := lt_some h
      refine r_iast C hW ap_28 rfl (ix_in g_36) dX8_book_36 (fun H locs hW => ?_)
      rw [← e_I_36] at hW
      refine lv_iinc (v := x1 + 1) (lv' := [(1, .int (x1 + 1)), (0, .ref (q 100))]) hx hb dX8_book_37 hl (k := 1) rfl rfl (by decide) rfl (fun ls hl => ?_)
      refine lv_goto (tgt := 22) hx hb dX8_book_40 (by decide) ?_
      exact ih a_100 h hW hF (lv_sub hl [1, 0] rfl)
def f_X8_book (I : MI) (R : MR) : Option (Int32 × MI) := lt (p2 I 100 32 0) (fun I_2 => lt (p2 I_2 100 33 0) (fun I_7 => lt (p2 I_7 100 34 0) (fun I_12 => lt (p2 I_12 100 39 0) (fun I_17 => f_X8_book_22 1000000 I_17 R 0))))
set_option maxHeartbeats 4000000 in
set_option maxRecDepth 100000 in
theorem c_X8_book {l : Launch} {E : EV} {q : Nat → Nat} {al : Nat → Bool} {n : Nat} {I : MI} {R : MR}  (a_100 : al 100 = true) (hF : Fx al R) {res : Int32 × MI} (h : f_X8_book I R = some res) : Ct l yX8_book cX8_book 5 (some .int) 4 0 0 E q al I R n [.ref (q 100)] (some (.int res.1)) al res.2 R n := by
  refine Ct.of (own := RX8) (mn := "book") (by decide) rfl rfl (Nat.le_of_ble_eq_true rfl) ?_
  intro p e s m args below meth c ls C hmn hargs hW hl
  have hx := C.1
  have hb := C.2.1
  have hl : lv_has ls 5 [(0, .ref (q 100))] := hl
  unfold f_X8_book at h
  refine lv_aload_n hx hb dX8_book_0 rfl (lv_at hl 0 rfl) ?_
  refine lv_iconst (v := 0) hx hb dX8_book_1 (by decide) ?_
  obtain ⟨I_2, e_I_2, h⟩ := lt_some h
  refine r_put C fr_X8_155 (Or.inl rfl) hW a_100 rfl rfl rfl rfl dX8_book_2 (fun H locs hW => ?_)
  rw [← e_I_2] at hW
  refine lv_aload_n hx hb dX8_book_5 rfl (lv_at hl 0 rfl) ?_
  refine lv_iconst (v := 0) hx hb dX8_book_6 (by decide) ?_
  obtain ⟨I_7, e_I_7, h⟩ := lt_some h
  refine r_put C fr_X8_152 (Or.inl rfl) hW a_100 rfl rfl rfl rfl dX8_book_7 (fun H locs hW => ?_)
  rw [← e_I_7] at hW
  refine lv_aload_n hx hb dX8_book_10 rfl (lv_at hl 0 rfl) ?_
  refine lv_iconst (v := 0) hx hb dX8_book_11 (by decide) ?_
  obtain ⟨I_12, e_I_12, h⟩ := lt_some h
  refine r_put C fr_X8_178 (Or.inl rfl) hW a_100 rfl rfl rfl rfl dX8_book_12 (fun H locs hW => ?_)
  rw [← e_I_12] at hW
  refine lv_aload_n hx hb dX8_book_15 rfl (lv_at hl 0 rfl) ?_
  refine lv_iconst (v := 0) hx hb dX8_book_16 (by decide) ?_
  obtain ⟨I_17, e_I_17, h⟩ := lt_some h
  refine r_put C fr_X8_175 (Or.inl rfl) hW a_100 rfl rfl rfl rfl dX8_book_17 (fun H locs hW => ?_)
  rw [← e_I_17] at hW
  refine lv_iconst (v := 0) hx hb dX8_book_20 (by decide) ?_
  refine lv_istore_n (lv' := [(1, .int 0), (0, .ref (q 100))]) hx hb dX8_book_21 rfl hl (by decide) rfl (fun ls hl => ?_)
  exact t_X8_book_22 C 1000000 a_100 h hW hF (lv_sub hl [1, 0] rfl)
