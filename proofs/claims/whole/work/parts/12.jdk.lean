/-! ===== the JDK's own methods on the six words ===== -/
section JDKR
variable {p : Program} {l : Launch} {e : Env} {Ro : Room} {s : State} {m : MethodId} {args : Array Value} {below : List Frame} {meth : Method} {c : Code} {H : Heap} {locs : List Loc} {cells slots : Nat} {Q : State → Prop}
variable {E : EV} {cc : ByteArray} {own : String} {nL : Nat} {ret : Option FieldType} {q : Nat → Nat} {al : Nat → Bool} {I : MI} {R : MR} {n : Nat} {pc : Nat} {ls : Array Slot} {rest : List Value} {id : Nat}
variable {y : MethodName} {bytes : ByteArray} {mL : Nat} {rty : Option FieldType} {L mc ms : Nat} {al' : Nat → Bool} {I' : MI} {R' : MR} {n' : Nat} {As : List Value} {v : Option Value}
theorem r_callVX (C : CX p s m args meth c E cc own nL ret) {idx k b : Nat} {N : String} (M : MLx y bytes mL rty k) (w1 : Cond.methodLink own idx y ∈ gG) (w2 : Cond.instanceMethod y ∈ gG) (w3 : Cond.selects N y y ∈ gG) (hrv : ∃ cellB : Cell, H[b]? = some cellB ∧ cellB.vm.isStatics = false ∧ s.vm.findClass N = some cellB.cls) (hW : Wd E q al s.heap I R n H locs) (hl : ls.size = nL) (hM : Ct l y bytes mL rty L mc ms E q al I R n (.ref b :: As) v al' I' R' n') (hn : As.length = k) (hR : L + 1 ≤ Ro.frames ∧ 8 + (mL + 11) + 60 * L ≤ Ro.locals) (hcs : cells + mc ≤ Ro.cells ∧ slots + ms ≤ Ro.slots) {st0 : List Value} (hst : st0 = As.reverse ++ .ref b :: rest) (hrm : (rest.map fun v => v.category).sum ≤ 8) (hdg : decode cc pc = .ok (.invokevirtual idx, 3))
    (kk : ∀ (H1 : Heap) (locs1 : List Loc), Wd E q al' s.heap I' R' n' H1 locs1 → W p l e Ro s m args below meth c H1 locs1 (cells + mc) (slots + ms) Q (F0 m (pc + 3) ls (v.toList ++ rest))) : W p l e Ro s m args below meth c H locs cells slots Q (F0 m pc ls st0) := by
  have hts := C.2.2.2.2.1
  refine r_back (va_runV (C := N) (b := b) (As := As) (bytes := bytes) (maxL := mL) (ret := rty) ⟨C.1, C.2.1, C.2.2.1, C.2.2.2.1, hts⟩ hM ⟨callB_of k hts (gG_callee M.1) rfl rfl rfl (hts _ M.2.1) (hts _ w1) M.2.2 hR, hts _ w2, hts _ w3⟩ ⟨Pre.blind, hrv, fun U hU hw => ⟨rfl, Pre.at C hW hU hw⟩⟩ rfl hn hl hst (lv_room (rest := st0) (pc := pc) (ls := ls) (m := m) hrm) hdg hcs) hW kk
theorem r_tret (C : CX p s m args meth c E cc own nL ret) {ty : FieldType} (hret : ret = some ty) (hW : Wd E q al s.heap I R n H locs) {v : Int32} (hv : narrow ty (.int v) = .int v) (hdg : decode cc pc = .ok (.ireturn, 1)) : W p l e Ro s m args below meth c H locs cells slots (MQ below (Pst E q (some (.int v)) al I R n) args s cells slots (Bs E)) (F0 m pc ls [.int v]) := by
  subst hret
  obtain ⟨hx, hb, hml, hown, hts, hK, hss, hbs, hr, hlk⟩ := C
  exact W.zret hx hb hr hv (fun t ht hw => ⟨rfl, by rw [ht]; exact hW.1, hW.2.F ht⟩) hW.2.2.2 hdg
end JDKR
theorem ml_J3 : MLx yJ3_checkIndex_8e157 cJ3_checkIndex_8e157 3 (some .int) 3 := ⟨gm_433, gm_12, by decide, by decide, by decide +kernel⟩
theorem ml_J0chk : MLx yJ0_checkIndex_df160 cJ0_checkIndex_df160 2 none 2 := ⟨gm_428, gm_10, by decide, by decide, by decide +kernel⟩
theorem ml_J0cod : MLx yJ0_coder_7d493 cJ0_coder_7d493 1 (some .byte) 0 := ⟨gm_412, gm_10, by decide, by decide, by decide +kernel⟩
theorem ml_J0lat : MLx yJ0_isLatin1_aae02 cJ0_isLatin1_aae02 1 (some .boolean) 0 := ⟨gm_422, gm_10, by decide, by decide, by decide +kernel⟩
theorem ml_J0len : MLx yJ0_length_8abf5 cJ0_length_8abf5 1 (some .int) 0 := ⟨gm_408, gm_10, by decide, by decide, by decide +kernel⟩
theorem ml_J0cha : MLx yJ0_charAt_5068e cJ0_charAt_5068e 2 (some .char) 1 := ⟨gm_418, gm_10, by decide, by decide, by decide +kernel⟩
theorem ml_J1c : MLx yJ1_charAt_3b067 cJ1_charAt_3b067 2 (some .char) 2 := ⟨gm_425, gm_11, by decide, by decide, by decide +kernel⟩
theorem c_chk3 {l : Launch} {E : EV} {q : Nat → Nat} {al : Nat → Bool} {n : Nat} {I : MI} {R : MR} {i k : Int32} {fv : Value} (hfv : fv = .null ∨ ∃ t, fv = .ref t) (h0 : ¬ i < 0) (h1 : i < k) : Ct l yJ3_checkIndex_8e157 cJ3_checkIndex_8e157 3 (some .int) 1 0 0 E q al I R n [.int i, .int k, fv] (some (.int i)) al I R n := by
  have key : ∀ fv : Value, (lg_sl [.int i, .int k, fv]).length ≤ 3 → Ct l yJ3_checkIndex_8e157 cJ3_checkIndex_8e157 3 (some .int) 1 0 0 E q al I R n [.int i, .int k, fv] (some (.int i)) al I R n := by
    intro fv hc
    refine Ct.of (own := RJ3) (mn := "checkIndex") (by decide) rfl rfl hc ?_
    intro p e s m args below meth c ls C hmn hargs hW hl
    have hx := C.1
    have hb := C.2.1
    have hl : lv_has ls 3 [(0, .int i), (1, .int k)] := lv_sub hl [0, 1] rfl
    refine lv_iload_n hx hb dJ3_checkIndex_8e157_0 rfl (lv_at hl 0 rfl) ?_
    refine lv_if_lt (tgt := 9) hx hb dJ3_checkIndex_8e157_1 (by decide) (fun c => absurd c h0) (fun c => ?_)
    refine lv_iload_n hx hb dJ3_checkIndex_8e157_4 rfl (lv_at hl 0 rfl) ?_
    refine lv_iload_n hx hb dJ3_checkIndex_8e157_5 rfl (lv_at hl 1 rfl) ?_
    refine lv_icmp_lt (tgt := 16) hx hb dJ3_checkIndex_8e157_6 (by decide) (fun c => ?_) (fun c => absurd h1 c)
    refine lv_iload_n hx hb dJ3_checkIndex_8e157_16 rfl (lv_at hl 0 rfl) ?_
    exact r_iret C hW dJ3_checkIndex_8e157_17
  rcases hfv with e | ⟨t, e⟩ <;> subst e
  · exact key _ (Nat.le_of_ble_eq_true rfl)
  · exact key _ (Nat.le_of_ble_eq_true rfl)
theorem c_chk2 {l : Launch} {E : EV} {q : Nat → Nat} {al : Nat → Bool} {n : Nat} {I : MI} {R : MR} {i k : Int32} (h0 : ¬ i < 0) (h1 : i < k) : Ct l yJ0_checkIndex_df160 cJ0_checkIndex_df160 2 none 2 0 0 E q al I R n [.int i, .int k] none al I R n := by
  refine Ct.of (own := RJ0) (mn := "checkIndex") (by decide) rfl rfl (Nat.le_of_ble_eq_true rfl) ?_
  intro p e s m args below meth c ls C hmn hargs hW hl
  have hx := C.1
  have hb := C.2.1
  have hl : lv_has ls 2 [(0, .int i), (1, .int k)] := hl
  refine lv_iload_n hx hb dJ0_checkIndex_df160_0 rfl (lv_at hl 0 rfl) ?_
  refine lv_iload_n hx hb dJ0_checkIndex_df160_1 rfl (lv_at hl 1 rfl) ?_
  have go : ∀ fv : Value, (fv = .null ∨ ∃ t, fv = .ref t) → va_Z "jdk/internal/util/Preconditions" "SIOOBE_FORMATTER" "Ljava/util/function/BiFunction;" fv (Bs E) s s.heap → W p l e (rmL 2 0 0) s m args below meth c s.heap [] 0 0 (MQ below (Pst E q none al I R n) args s 0 0 (Bs E)) (F0 m 2 ls [.int k, .int i]) := by
    intro fv hfv hZ
    refine va_gets hx hb hZ hW.2 C.2.2.2.1 (C.2.2.2.2.1 _ gm_429) (fun _ h => h) dJ0_checkIndex_df160_2 ?_
    refine r_callS (v := some (.int i)) (As := [.int i, .int k, fv]) (rest := []) C ml_J3 gm_431 gm_432 hW hl.1 (c_chk3 hfv h0 h1) rfl ⟨by decide, by decide⟩ ⟨by decide, by decide⟩ rfl (Nat.le_of_ble_eq_true rfl) dJ0_checkIndex_df160_5 (fun H locs hW => ?_)
    refine lv_pop hx hb dJ0_checkIndex_df160_8 rfl ?_
    exact r_vret C hW dJ0_checkIndex_df160_9
  rcases C.2.2.2.2.2.2.1.2.2.2 with hZ | ⟨t, hZ⟩
  · exact go _ (Or.inl rfl) hZ
  · exact go _ (Or.inr ⟨t, rfl⟩) hZ
theorem s_byte : ∀ w, w < 6 → ∀ j, j < lenS.getD w 0 → ((((bytS.getD w []).getD j 0) &&& 255).toUInt32 % 65536).toInt32 = (bytS.getD w []).getD j 0 ∧ narrow .char (.int ((bytS.getD w []).getD j 0)) = .int ((bytS.getD w []).getD j 0) := by decide +kernel
theorem s_len : ∀ w, w < 6 → lenS.getD w 0 < 7 := by decide +kernel
theorem c_chat1 {l : Launch} {E : EV} {q : Nat → Nat} {al : Nat → Bool} {n : Nat} {I : MI} {R : MR} {i : Int32} {w : Nat} (hw : w < 6) (hi : ix i (lenS.getD w 0)) : Ct l yJ1_charAt_3b067 cJ1_charAt_3b067 2 (some .char) 3 0 0 E q al I R n [.ref (E.2.2.2.1 w), .int i] (some (.int ((bytS.getD w []).getD i.toNatClampNeg 0))) al I R n := by
  refine Ct.of (own := RJ1) (mn := "charAt") (by decide) rfl rfl (Nat.le_of_ble_eq_true rfl) ?_
  intro p e s m args below meth c ls C hmn hargs hW hl
  have hx := C.1
  have hb := C.2.1
  have hl : lv_has ls 2 [(0, .ref (E.2.2.2.1 w)), (1, .int i)] := hl
  have hT := (C.2.2.2.2.2.2.1.1.1 w hw).2.2.2
  have hlen := s_len w hw
  have hik : i < nI (lenS.getD w 0) := by
    rw [Int32.lt_iff_toInt_lt, nI_toInt (by omega)]
    have h2 := hi.2
    have h1 := hi.1
    rw [Int32.lt_iff_toInt_lt] at h1
    have h3 : i.toNatClampNeg = i.toInt.toNat := rfl
    have h4 : (0 : Int32).toInt = 0 := by decide
    omega
  refine lv_iload_n hx hb dJ1_charAt_3b067_0 rfl (lv_at hl 1 rfl) ?_
  refine lv_aload_n hx hb dJ1_charAt_3b067_1 rfl (lv_at hl 0 rfl) ?_
  refine va_tlen (v := nI (lenS.getD w 0)) hx hb hT hW.2 rfl dJ1_charAt_3b067_2 ?_
  refine r_callS (v := none) (As := [.int i, .int (nI (lenS.getD w 0))]) (rest := []) C ml_J0chk gm_426 gm_427 hW hl.1 (c_chk2 hi.1 hik) rfl ⟨by decide, by decide⟩ ⟨by decide, by decide⟩ rfl (Nat.le_of_ble_eq_true rfl) dJ1_charAt_3b067_3 (fun H locs hW => ?_)
  refine lv_aload_n hx hb dJ1_charAt_3b067_6 rfl (lv_at hl 0 rfl) ?_
  refine lv_iload_n hx hb dJ1_charAt_3b067_7 rfl (lv_at hl 1 rfl) ?_
  refine va_tb hx hb hT hW.2 (ix_in hi) rfl dJ1_charAt_3b067_8 ?_
  refine lv_sipush (v := 255) hx hb dJ1_charAt_3b067_9 (by decide) ?_
  refine lv_iand hx hb dJ1_charAt_3b067_12 ?_
  refine lv_i2c hx hb dJ1_charAt_3b067_13 (s_byte w hw _ hi.2).1 ?_
  exact r_tret C rfl hW (s_byte w hw _ hi.2).2 dJ1_charAt_3b067_14
theorem c_lat {l : Launch} {E : EV} {q : Nat → Nat} {al : Nat → Bool} {n : Nat} {I : MI} {R : MR} {w : Nat} (hw : w < 6) : Ct l yJ0_isLatin1_aae02 cJ0_isLatin1_aae02 1 (some .boolean) 1 0 0 E q al I R n [.ref (E.2.2.1 w)] (some (.int 1)) al I R n := by
  refine Ct.of (own := RJ0) (mn := "isLatin1") (by decide) rfl rfl (Nat.le_of_ble_eq_true rfl) ?_
  intro p e s m args below meth c ls C hmn hargs hW hl
  have hx := C.1
  have hb := C.2.1
  have hl : lv_has ls 1 [(0, .ref (E.2.2.1 w))] := hl
  have hS := C.2.2.2.2.2.2.1
  refine va_gets hx hb hS.2.2.1 hW.2 C.2.2.2.1 (C.2.2.2.2.1 _ gm_413) (fun _ h => h) dJ0_isLatin1_aae02_0 ?_
  refine lv_if_eq (tgt := 17) hx hb dJ0_isLatin1_aae02_3 (by decide) (fun c => absurd c (by decide)) (fun c => ?_)
  refine lv_aload_n hx hb dJ0_isLatin1_aae02_6 rfl (lv_at hl 0 rfl) ?_
  refine vk_getf hx hb (hS.1.1 w hw).2.1 hW.2 C.2.2.2.1 (C.2.2.2.2.1 _ gm_1034) (fun _ h => h) dJ0_isLatin1_aae02_7 ?_
  refine lv_if_ne (tgt := 17) hx hb dJ0_isLatin1_aae02_10 (by decide) (fun c => absurd rfl c) (fun c => ?_)
  refine lv_iconst (v := 1) hx hb dJ0_isLatin1_aae02_13 (by decide) ?_
  refine lv_goto (tgt := 18) hx hb dJ0_isLatin1_aae02_14 (by decide) ?_
  exact r_zret C hW (Or.inr rfl) dJ0_isLatin1_aae02_18
theorem c_coder {l : Launch} {E : EV} {q : Nat → Nat} {al : Nat → Bool} {n : Nat} {I : MI} {R : MR} {w : Nat} (hw : w < 6) : Ct l yJ0_coder_7d493 cJ0_coder_7d493 1 (some .byte) 1 0 0 E q al I R n [.ref (E.2.2.1 w)] (some (.int 0)) al I R n := by
  refine Ct.of (own := RJ0) (mn := "coder") (by decide) rfl rfl (Nat.le_of_ble_eq_true rfl) ?_
  intro p e s m args below meth c ls C hmn hargs hW hl
  have hx := C.1
  have hb := C.2.1
  have hl : lv_has ls 1 [(0, .ref (E.2.2.1 w))] := hl
  have hS := C.2.2.2.2.2.2.1
  refine va_gets hx hb hS.2.2.1 hW.2 C.2.2.2.1 (C.2.2.2.2.1 _ gm_413) (fun _ h => h) dJ0_coder_7d493_0 ?_
  refine lv_if_eq (tgt := 13) hx hb dJ0_coder_7d493_3 (by decide) (fun c => absurd c (by decide)) (fun c => ?_)
  refine lv_aload_n hx hb dJ0_coder_7d493_6 rfl (lv_at hl 0 rfl) ?_
  refine vk_getf hx hb (hS.1.1 w hw).2.1 hW.2 C.2.2.2.1 (C.2.2.2.2.1 _ gm_1034) (fun _ h => h) dJ0_coder_7d493_7 ?_
  refine lv_goto (tgt := 14) hx hb dJ0_coder_7d493_10 (by decide) ?_
  exact r_tret C rfl hW rfl dJ0_coder_7d493_14
theorem c_slen {l : Launch} {E : EV} {q : Nat → Nat} {al : Nat → Bool} {n : Nat} {I : MI} {R : MR} {w : Nat} (hw : w < 6) : Ct l yJ0_length_8abf5 cJ0_length_8abf5 1 (some .int) 2 0 0 E q al I R n [.ref (E.2.2.1 w)] (some (.int (nI (lenS.getD w 0)))) al I R n := by
  refine Ct.of (own := RJ0) (mn := "length") (by decide) rfl rfl (Nat.le_of_ble_eq_true rfl) ?_
  intro p e s m args below meth c ls C hmn hargs hW hl
  have hx := C.1
  have hb := C.2.1
  have hl : lv_has ls 1 [(0, .ref (E.2.2.1 w))] := hl
  have hS := C.2.2.2.2.2.2.1
  refine lv_aload_n hx hb dJ0_length_8abf5_0 rfl (lv_at hl 0 rfl) ?_
  refine vk_getf hx hb (hS.1.1 w hw).2.2.1 hW.2 C.2.2.2.1 (C.2.2.2.2.1 _ gm_1033) (fun _ h => h) dJ0_length_8abf5_1 ?_
  refine va_tlen (v := nI (lenS.getD w 0)) hx hb (hS.1.1 w hw).2.2.2 hW.2 rfl dJ0_length_8abf5_4 ?_
  refine lv_aload_n hx hb dJ0_length_8abf5_5 rfl (lv_at hl 0 rfl) ?_
  refine r_callVX (v := some (.int 0)) (As := []) (rest := [.int (nI (lenS.getD w 0))]) C ml_J0cod gm_409 gm_410 gm_411 (vk_recv hS.1 hw hW.2) hW hl.1 (c_coder hw) rfl ⟨by decide, by decide⟩ ⟨by decide, by decide⟩ rfl (Nat.le_of_ble_eq_true rfl) dJ0_length_8abf5_6 (fun H locs hW => ?_)
  refine lv_ishr hx hb dJ0_length_8abf5_9 ?_
  rw [sb_shr0]
  exact r_iret C hW dJ0_length_8abf5_10
theorem c_schar {l : Launch} {E : EV} {q : Nat → Nat} {al : Nat → Bool} {n : Nat} {I : MI} {R : MR} {i : Int32} {w : Nat} (hw : w < 6) (hi : ix i (lenS.getD w 0)) : Ct l yJ0_charAt_5068e cJ0_charAt_5068e 2 (some .char) 4 0 0 E q al I R n [.ref (E.2.2.1 w), .int i] (some (.int ((bytS.getD w []).getD i.toNatClampNeg 0))) al I R n := by
  refine Ct.of (own := RJ0) (mn := "charAt") (by decide) rfl rfl (Nat.le_of_ble_eq_true rfl) ?_
  intro p e s m args below meth c ls C hmn hargs hW hl
  have hx := C.1
  have hb := C.2.1
  have hl : lv_has ls 2 [(0, .ref (E.2.2.1 w)), (1, .int i)] := hl
  have hS := C.2.2.2.2.2.2.1
  refine lv_aload_n hx hb dJ0_charAt_5068e_0 rfl (lv_at hl 0 rfl) ?_
  refine r_callVX (v := some (.int 1)) (As := []) (rest := []) C ml_J0lat gm_419 gm_420 gm_421 (vk_recv hS.1 hw hW.2) hW hl.1 (c_lat hw) rfl ⟨by decide, by decide⟩ ⟨by decide, by decide⟩ rfl (Nat.le_of_ble_eq_true rfl) dJ0_charAt_5068e_1 (fun H locs hW => ?_)
  refine lv_if_eq (tgt := 16) hx hb dJ0_charAt_5068e_4 (by decide) (fun c => absurd c (by decide)) (fun c => ?_)
  refine lv_aload_n hx hb dJ0_charAt_5068e_7 rfl (lv_at hl 0 rfl) ?_
  refine vk_getf hx hb (hS.1.1 w hw).2.2.1 hW.2 C.2.2.2.1 (C.2.2.2.2.1 _ gm_1033) (fun _ h => h) dJ0_charAt_5068e_8 ?_
  refine lv_iload_n hx hb dJ0_charAt_5068e_11 rfl (lv_at hl 1 rfl) ?_
  refine r_callS (v := some (.int ((bytS.getD w []).getD i.toNatClampNeg 0))) (As := [.ref (E.2.2.2.1 w), .int i]) (rest := []) C ml_J1c gm_423 gm_424 hW hl.1 (c_chat1 hw hi) rfl ⟨by decide, by decide⟩ ⟨by decide, by decide⟩ rfl (Nat.le_of_ble_eq_true rfl) dJ0_charAt_5068e_12 (fun H locs hW => ?_)
  exact r_tret C rfl hW (s_byte w hw _ hi.2).2 dJ0_charAt_5068e_15
section JDKC
variable {p : Program} {l : Launch} {e : Env} {Ro : Room} {s : State} {m : MethodId} {args : Array Value} {below : List Frame} {meth : Method} {c : Code} {H : Heap} {locs : List Loc} {cells slots : Nat} {Q : State → Prop}
variable {E : EV} {cc : ByteArray} {nL : Nat} {ret : Option FieldType} {q : Nat → Nat} {al : Nat → Bool} {I : MI} {R : MR} {n : Nat} {pc : Nat} {ls : Array Slot} {rest : List Value}
theorem r_slen (C : CX p s m args meth c E cc RX1 nL ret) (hW : Wd E q al s.heap I R n H locs) {w : Nat} (hw : w < 6) (hl : ls.size = nL) (hR : 3 ≤ Ro.frames ∧ 140 ≤ Ro.locals ∧ cells ≤ Ro.cells ∧ slots ≤ Ro.slots) (hrm : (rest.map fun v => v.category).sum ≤ 8) (hdg : decode cc pc = .ok (.invokevirtual 108, 3))
    (kk : ∀ (H1 : Heap) (locs1 : List Loc), Wd E q al s.heap I R n H1 locs1 → W p l e Ro s m args below meth c H1 locs1 cells slots Q (F0 m (pc + 3) ls (.int (nI (lenS.getD w 0)) :: rest))) : W p l e Ro s m args below meth c H locs cells slots Q (F0 m pc ls (.ref (E.2.2.1 w) :: rest)) :=
  r_callVX (v := some (.int (nI (lenS.getD w 0)))) (As := []) (rest := rest) C ml_J0len gm_405 gm_406 gm_407 (vk_recv C.2.2.2.2.2.2.1.1 hw hW.2) hW hl (c_slen hw) rfl ⟨hR.1, by omega⟩ ⟨hR.2.2.1, hR.2.2.2⟩ rfl hrm hdg kk
theorem r_schar (C : CX p s m args meth c E cc RX1 nL ret) (hW : Wd E q al s.heap I R n H locs) {w : Nat} (hw : w < 6) {i : Int32} (hi : ix i (lenS.getD w 0)) (hl : ls.size = nL) (hR : 5 ≤ Ro.frames ∧ 270 ≤ Ro.locals ∧ cells ≤ Ro.cells ∧ slots ≤ Ro.slots) (hrm : (rest.map fun v => v.category).sum ≤ 8) (hdg : decode cc pc = .ok (.invokevirtual 113, 3))
    (kk : ∀ (H1 : Heap) (locs1 : List Loc), Wd E q al s.heap I R n H1 locs1 → W p l e Ro s m args below meth c H1 locs1 cells slots Q (F0 m (pc + 3) ls (.int ((bytS.getD w []).getD i.toNatClampNeg 0) :: rest))) : W p l e Ro s m args below meth c H locs cells slots Q (F0 m pc ls (.int i :: .ref (E.2.2.1 w) :: rest)) :=
  r_callVX (v := some (.int ((bytS.getD w []).getD i.toNatClampNeg 0))) (As := [.int i]) (rest := rest) C ml_J0cha gm_415 gm_416 gm_417 (vk_recv C.2.2.2.2.2.2.1.1 hw hW.2) hW hl (c_schar hw hi) rfl ⟨hR.1, by omega⟩ ⟨hR.2.2.1, hR.2.2.2⟩ rfl hrm hdg kk
end JDKC
