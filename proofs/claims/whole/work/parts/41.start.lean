theorem sl_ex : ∀ i, i < 6 → Cond.exactly (Term.string "GasYard$BookReader" ([117, 119, 120, 121, 122, 123].getD i 0)) "java/lang/String" ∈ flatC (Jvm.Cond.and given_1 narrow_1) := by decide +kernel
theorem sl_co : ∀ i, i < 6 → Cond.eq (.field (Term.string "GasYard$BookReader" ([117, 119, 120, 121, 122, 123].getD i 0)) "java/lang/String" "coder" "B") (.int 0) ∈ flatC (Jvm.Cond.and given_1 narrow_1) := by decide +kernel
theorem sl_ar : ∀ i, i < 6 → Cond.arrayOf (.field (Term.string "GasYard$BookReader" ([117, 119, 120, 121, 122, 123].getD i 0)) "java/lang/String" "value" "[B") .byte ∈ flatC (Jvm.Cond.and given_1 narrow_1) := by decide +kernel
theorem sl_le : ∀ i, i < 6 → Cond.eq (.length (.field (Term.string "GasYard$BookReader" ([117, 119, 120, 121, 122, 123].getD i 0)) "java/lang/String" "value" "[B")) (.int (Int32.ofNat (lenS.getD i 0))) ∈ flatC (Jvm.Cond.and given_1 narrow_1) := by decide +kernel
theorem sl_el : ∀ i, i < 6 → ∀ j, j < lenS.getD i 0 → Cond.eq (.elem (.field (Term.string "GasYard$BookReader" ([117, 119, 120, 121, 122, 123].getD i 0)) "java/lang/String" "value" "[B") (.int (Int32.ofNat j))) (.int ((bytS.getD i []).getD j 0)) ∈ flatC (Jvm.Cond.and given_1 narrow_1) := by decide +kernel
theorem sl_ne : ∀ i, i < 6 → ∀ j, j < 6 → i ≠ j → Cond.not (Cond.eq (Term.string "GasYard$BookReader" ([117, 119, 120, 121, 122, 123].getD i 0)) (Term.string "GasYard$BookReader" ([117, 119, 120, 121, 122, 123].getD j 0))) ∈ flatC (Jvm.Cond.and given_1 narrow_1) ∨ Cond.not (Cond.eq (Term.string "GasYard$BookReader" ([117, 119, 120, 121, 122, 123].getD j 0)) (Term.string "GasYard$BookReader" ([117, 119, 120, 121, 122, 123].getD i 0))) ∈ flatC (Jvm.Cond.and given_1 narrow_1) := by decide +kernel
theorem nc_L_7 : NC RL 7 7 := ⟨RX7, TX7, 18, tyX7, rfl, rfl, by decide, ginX7, tyX7_ok, by decide +kernel, gm_15, gm_16, gm_1⟩
theorem nc_L_10 : NC RL 10 8 := ⟨RX8, TX8, 56, tyX8, rfl, rfl, by decide, ginX8, tyX8_ok, by decide +kernel, gm_699, gm_700, gm_9⟩
def LK_start (LI : LIt) : Prop := ∀ sz : Nat, ∃ (q : Nat → Nat) (z1 z2 : MI × MR), q 0 = sz ∧ f_X7_init q (zI (fun _ _ => 0) 0) (zR (fun _ _ => none) 0) (alu (fun _ => false) 0) (sz + 1) = some z1 ∧ q 100 = (((((((((((((((((((((((((((((sz + 1) + 1) + 1) + 1) + 1) + 1) + 1) + 1) + 1) + 1) + 1) + 1) + 1) + 1) + 1) + 1) + 1) + 1) + 1) + 1) + 1) + 1) + 1) + 1) + 1) + 1) + 1) + 1) + 1) ∧ f_X8_init q (zI z1.1 100) (zR z1.2 100) (alu (alu (alu (alu (alu (alu (alu (alu (alu (alu (alu (alu (alu (alu (alu (alu (alu (alu (alu (alu (alu (alu (alu (alu (alu (alu (alu (alu (alu (alu (fun _ => false) 0) 1) 2) 3) 4) 5) 6) 7) 8) 9) 10) 11) 12) 13) 18) 19) 20) 21) 22) 14) 15) 16) 17) 23) 24) 25) 26) 27) 28) 100) ((((((((((((((((((((((((((((((sz + 1) + 1) + 1) + 1) + 1) + 1) + 1) + 1) + 1) + 1) + 1) + 1) + 1) + 1) + 1) + 1) + 1) + 1) + 1) + 1) + 1) + 1) + 1) + 1) + 1) + 1) + 1) + 1) + 1) + 1) = some z2 ∧ LI q (alu (alu (alu (alu (alu (alu (alu (alu (alu (alu (alu (alu (alu (alu (alu (alu (alu (alu (alu (alu (alu (alu (alu (alu (alu (alu (alu (alu (alu (alu (alu (alu (alu (alu (alu (alu (alu (alu (alu (alu (alu (alu (alu (alu (alu (alu (alu (alu (alu (alu (alu (alu (alu (alu (alu (alu (alu (alu (alu (alu (alu (alu (alu (alu (fun _ => false) 0) 1) 2) 3) 4) 5) 6) 7) 8) 9) 10) 11) 12) 13) 18) 19) 20) 21) 22) 14) 15) 16) 17) 23) 24) 25) 26) 27) 28) 100) 104) 105) 106) 107) 108) 109) 111) 112) 113) 115) 116) 117) 118) 119) 120) 121) 122) 123) 124) 131) 138) 139) 141) 142) 143) 144) 145) 150) 151) 152) 153) 154) 155) 156) z2.1 z2.2 ((((((((((((((((((((((((((((((((((((((((((((((((((((((((((((((((sz + 1) + 1) + 1) + 1) + 1) + 1) + 1) + 1) + 1) + 1) + 1) + 1) + 1) + 1) + 1) + 1) + 1) + 1) + 1) + 1) + 1) + 1) + 1) + 1) + 1) + 1) + 1) + 1) + 1) + 1) + 1) + 1) + 1) + 1) + 1) + 1) + 1) + 1) + 1) + 1) + 1) + 1) + 1) + 1) + 1) + 1) + 1) + 1) + 1) + 1) + 1) + 1) + 1) + 1) + 1) + 1) + 1) + 1) + 1) + 1) + 1) + 1) + 1) + 1)
/-- the environment out of the law's entry -/
theorem law_env {p : Program} {s : State} {m : MethodId} {meth : Method} {c : Code} {b L : Nat} {xs : Nat → Int32} (C0 : lw_At p s m meth c b L xs) : ∃ E : EV, E.2.2.2.2 = s.heap.size ∧ CX p s m #[Value.ref b] meth c E code RL 4 ret := by
  obtain ⟨hx, hb, hr, hml, hown, hts, hX, hbl, hlocks, hgv⟩ := C0
  have hG : ∀ w ∈ gG, w.before #[Value.ref b] s = true := fun w hw => hts w (List.mem_filter.mp hw).1
  have hF := flat_of_before _ hgv
  obtain ⟨c0, iS0, hK0⟩ := u_known (C := RX0) (T := TX0) (N := 6) (n := 6) hG ginX0 (hG (.instantiable RX0 6) gm_145)
  obtain ⟨c1, iS1, hK1⟩ := u_known (C := RX1) (T := TX1) (N := 4) (n := 4) hG ginX1 (hG (.instantiable RX1 4) gm_45)
  obtain ⟨c2, iS2, hK2⟩ := u_known (C := RX2) (T := TX2) (N := 10) (n := 10) hG ginX2 (hG (.instantiable RX2 10) gm_97)
  obtain ⟨c3, iS3, hK3⟩ := u_known (C := RX3) (T := TX3) (N := 5) (n := 5) hG ginX3 (hG (.instantiable RX3 5) gm_64)
  obtain ⟨c4, iS4, hK4⟩ := u_known (C := RX4) (T := TX4) (N := 13) (n := 13) hG ginX4 (hG (.instantiable RX4 13) gm_91)
  obtain ⟨c5, iS5, hK5⟩ := u_known (C := RX5) (T := TX5) (N := 8) (n := 8) hG ginX5 (hG (.instantiable RX5 8) gm_221)
  obtain ⟨c6, iS6, hK6⟩ := u_known (C := RX6) (T := TX6) (N := 2) (n := 2) hG ginX6 (hG (.instantiable RX6 2) gm_28)
  obtain ⟨c7, iS7, hK7⟩ := u_known (C := RX7) (T := TX7) (N := 18) (n := 18) hG ginX7 (hG (.instantiable RX7 18) gm_16)
  obtain ⟨c8, iS8, hK8⟩ := u_known (C := RX8) (T := TX8) (N := 56) (n := 56) hG ginX8 (hG (.instantiable RX8 56) gm_700)
  obtain ⟨dC, dI, hKc⟩ : ∃ (dC : Nat → ClassId) (dI : Nat → Nat → Nat), ∀ (k : Nat) (x : vw_C), classes[k]? = some x → u_Kn s x.1 x.2.1 x.2.2 (dC k) (dI k) := by
    refine ⟨fun k => if k = 0 then c0 else if k = 1 then c1 else if k = 2 then c2 else if k = 3 then c3 else if k = 4 then c4 else if k = 5 then c5 else if k = 6 then c6 else if k = 7 then c7 else c8, fun k => if k = 0 then iS0 else if k = 1 then iS1 else if k = 2 then iS2 else if k = 3 then iS3 else if k = 4 then iS4 else if k = 5 then iS5 else if k = 6 then iS6 else if k = 7 then iS7 else iS8, ?_⟩
    intro k x hq
    match k, hq with
    | 0, hq => cases hq; exact hK0
    | 1, hq => cases hq; exact hK1
    | 2, hq => cases hq; exact hK2
    | 3, hq => cases hq; exact hK3
    | 4, hq => cases hq; exact hK4
    | 5, hq => cases hq; exact hK5
    | 6, hq => cases hq; exact hK6
    | 7, hq => cases hq; exact hK7
    | 8, hq => cases hq; exact hK8
    | k + 9, hq => simp [classes] at hq
  have arr : ∀ ty : FieldType, (Cond.arrayClass ty).before #[Value.ref b] s = true → (∀ C, ty ≠ .object C) → ∃ cA : ClassId, ArrOfT s cA ty ∧ va_RA s cA ty := by
    intro ty h hne
    obtain ⟨cA, k, comp, h1, h2, h3⟩ := Cond.arrayClass_spec h
    refine ⟨cA, fun n z => ⟨fun k h => (by cases h), k, h2, comp, h3⟩, ?_⟩
    cases ty <;> first | exact h1 | exact absurd rfl (hne _)
  obtain ⟨cyB, aB1, aB2⟩ := arr .byte (hG _ gm_43) (fun _ h => by cases h)
  obtain ⟨cyI, aI1, aI2⟩ := arr .int (hG _ gm_41) (fun _ h => by cases h)
  obtain ⟨cyZ, aZ1, aZ2⟩ := arr .boolean (hG _ gm_42) (fun _ h => by cases h)
  have arrO : ∀ N : String, (Cond.arrayOver (.object N)).before #[Value.ref b] s = true → ∃ cA : ClassId, ArrOfT s cA (.object N) ∧ va_RA s cA (.object N) := by
    intro N h
    obtain ⟨comp, cA, k, h1, h2, h3, h4, h5⟩ := Cond.arrayOver_spec h
    exact ⟨cA, fun n z => ⟨fun k h => (by cases h), k, h3, comp, h4⟩, k, comp, h3, h4, h1, h5⟩
  have wo1 := hts (.arrayOver (.object "GasYard$Bank")) (List.mem_append_right _ (List.mem_of_getElem? (i := 24) (by decide +kernel)))
  have wo2 := hts (.arrayOver (.object "GasYard$Car")) (List.mem_append_right _ (List.mem_of_getElem? (i := 26) (by decide +kernel)))
  obtain ⟨cyO, aO1, aO2⟩ := arrO _ wo1
  obtain ⟨cyQ, aQ1, aQ2⟩ := arrO _ wo2
  have hA : ∀ a : Nat, a < s.heap.size → ¬ (fun x : Nat => s.heap.size ≤ x) a := fun a h => Nat.not_le.mpr h
  obtain ⟨adK, adV, hS1, hS2⟩ := vk_Sof (args := #[Value.ref b]) (s := s) (N := 6) (tm := fun i => Term.string "GasYard$BookReader" ([117, 119, 120, 121, 122, 123].getD i 0)) (len := lenS) (byt := bytS) (A := fun x : Nat => s.heap.size ≤ x) (by decide +kernel)
    (fun i hi => hF _ (sl_ex i hi)) (fun i hi => hF _ (sl_co i hi)) (fun i hi => hF _ (sl_ar i hi)) (fun i hi => hF _ (sl_le i hi)) (fun i hi j hj => hF _ (sl_el i hi j hj)) (fun i j hi hj hij => (sl_ne i hi j hj hij).imp (hF _) (hF _)) hA
  refine ⟨((dC, dI), (fun k => if k = 9 then cyB else if k = 10 then cyI else if k = 11 then cyZ else if k = 12 then cyO else cyQ), adK, adV, s.heap.size), rfl, hx, hb, hml, hown, hG, ⟨⟨hKc, ?_⟩, ?_, va_AO.of wo1, va_AO.of wo2⟩, ⟨hS1, ?_, ?_, ?_⟩, Nat.le_refl _, hr, hlocks⟩
  · intro k x hq
    match k, hq with
    | 0, hq => cases hq; exact ⟨aB1, aB2⟩
    | 1, hq => cases hq; exact ⟨aI1, aI2⟩
    | 2, hq => cases hq; exact ⟨aZ1, aZ2⟩
    | 3, hq => cases hq; exact ⟨aO1, aO2⟩
    | 4, hq => cases hq; exact ⟨aQ1, aQ2⟩
    | k + 5, hq => simp [tysL] at hq
  · intro w hw
    simp only [nestL, List.mem_cons, List.not_mem_nil, or_false] at hw
    rcases hw with rfl | rfl | rfl | rfl | rfl | rfl | rfl | rfl
    · exact va_Nw.of rfl (hts _ (List.mem_append_right _ (List.mem_of_getElem? (i := 29) (by decide +kernel))))
    · exact va_Nw.of rfl (hts _ (List.mem_append_right _ (List.mem_of_getElem? (i := 65) (by decide +kernel))))
    · exact va_Nw.of rfl (hts _ (List.mem_append_right _ (List.mem_of_getElem? (i := 222) (by decide +kernel))))
    · exact va_Nw.of rfl (hts _ (List.mem_append_right _ (List.mem_of_getElem? (i := 324) (by decide +kernel))))
    · exact va_Nw.of rfl (hts _ (List.mem_append_right _ (List.mem_of_getElem? (i := 523) (by decide +kernel))))
    · exact va_Nw.of rfl (hts _ (List.mem_append_right _ (List.mem_of_getElem? (i := 469) (by decide +kernel))))
    · exact va_Nw.of rfl (hts _ (List.mem_append_right _ (List.mem_of_getElem? (i := 98) (by decide +kernel))))
    · exact va_Nw.of rfl (hts _ (List.mem_append_right _ (List.mem_of_getElem? (i := 146) (by decide +kernel))))
  · intro i x hq
    match i, hq with
    | 0, hq => cases hq; exact vk_R.of (hts _ (List.mem_append_right _ (List.mem_of_getElem? (i := 395) (by decide +kernel)))) (hS2 0 (by decide))
    | 1, hq => cases hq; exact vk_R.of (hts _ (List.mem_append_right _ (List.mem_of_getElem? (i := 396) (by decide +kernel)))) (hS2 1 (by decide))
    | 2, hq => cases hq; exact vk_R.of (hts _ (List.mem_append_right _ (List.mem_of_getElem? (i := 397) (by decide +kernel)))) (hS2 2 (by decide))
    | 3, hq => cases hq; exact vk_R.of (hts _ (List.mem_append_right _ (List.mem_of_getElem? (i := 398) (by decide +kernel)))) (hS2 3 (by decide))
    | 4, hq => cases hq; exact vk_R.of (hts _ (List.mem_append_right _ (List.mem_of_getElem? (i := 399) (by decide +kernel)))) (hS2 4 (by decide))
    | 5, hq => cases hq; exact vk_R.of (hts _ (List.mem_append_right _ (List.mem_of_getElem? (i := 400) (by decide +kernel)))) (hS2 5 (by decide))
    | i + 6, hq => simp [strL] at hq
  · exact va_Zof (hts _ (List.mem_append_right _ (List.mem_of_getElem? (i := 414) (by decide +kernel)))) (hG _ gm_10) (va_eqi (hF _ (by decide +kernel))) hA
  · exact va_Zqof (hts _ (List.mem_append_right _ (List.mem_of_getElem? (i := 430) (by decide +kernel)))) (hG _ gm_12) (hF _ (by decide +kernel)) hA
set_option maxHeartbeats 4000000 in
set_option maxRecDepth 100000 in
theorem law_start (LI : LIt) (Kin : LK_in LI) (Kst : LK_start LI) (Kbank : LK_bank LI) (Ktarget : LK_target LI) (Kair : LK_air LI) (Khoses : LK_hoses LI) (Kfeed : LK_feed LI) (Kend : LK_end LI) (Kbook : LK_book LI) (Kflow : LK_flow LI) (Kprice : LK_price LI) (Kclosed : LK_closed LI) (Ksensor : LK_sensor LI) (Kcar : LK_car LI) (Kpass : LK_pass LI) (Kreading : LK_reading LI) (Kslip : LK_slip LI) (Kbest : LK_best LI) (KbestOf : LK_bestOf LI) (Kbanks : LK_banks LI) (Kcars : LK_cars LI) (Kcount : LK_count LI) {p : Program} {e : Env} {s : State} {m : MethodId} {below : List Frame} {meth : Method} {c : Code} (l : Launch) {b L : Nat} {xs : Nat → Int32} (hL : L ≤ 3072) (C0 : lw_At p s m meth c b L xs) : W p l e room_1 s m #[Value.ref b] below meth c s.heap [] 0 0 (lw_Z below #[Value.ref b] s) (entryFrame m ([Value.ref b] : List Value).toArray 4) := by
  obtain ⟨E, hE, C⟩ := law_env C0
  obtain ⟨hx, hb, hr, hml, hown, hts, hX, hbl, hlocks, hgv⟩ := C0
  obtain ⟨q, z1, z2, q0, e1, q100, e2, hLI⟩ := Kst s.heap.size
  have hl := lv_entry ([.ref b]) (n := 4) (Nat.le_of_ble_eq_true rfl)
  rw [lg_entry_eq]
  generalize (lg_sl ([.ref b]) ++ List.replicate (4 - (lg_sl ([.ref b])).length) Slot.unset).toArray = ls at hl ⊢
  have hl : lv_has ls 4 [(0, .ref b)] := hl
  have hW : Wd E q (fun _ => false) s.heap (fun _ _ => 0) (fun _ _ => none) s.heap.size s.heap [] := ⟨⟨fun _ h => (by cases h), ⟨fun _ _ h => (by cases h), fun _ h => (by cases h), fun _ _ _ h => (by cases h)⟩, rfl⟩, va_S.rf⟩
  refine r_new C nc_L_7 hW (id := 0) rfl q0 rfl (by decide) (by decide) dL_law_0 (fun H hW => ?_)
  refine lv_dup hx hb dL_law_3 rfl ?_
  refine r_callI (v := none) (As := []) (rest := [.ref (q 0)]) C ml_X7_init gm_17 gm_18 rfl hW hl.1 (c_X7_init rfl e1) rfl ⟨by decide, by decide⟩ ⟨by decide, by decide⟩ rfl (Nat.le_of_ble_eq_true rfl) dL_law_4 (fun H locs hW => ?_)
  refine lv_astore_n (lv' := [(1, .ref (q 0)), (0, .ref b)]) hx hb dL_law_7 rfl hl (by decide) rfl (fun ls hl => ?_)
  refine r_new C nc_L_10 hW (id := 100) rfl q100 rfl (by decide) (by decide) dL_law_8 (fun H hW => ?_)
  refine lv_dup hx hb dL_law_11 rfl ?_
  refine r_callI (v := none) (As := []) (rest := [.ref (q 100)]) C ml_X8_init gm_701 gm_702 rfl hW hl.1 (c_X8_init rfl e2) rfl ⟨by decide, by decide⟩ ⟨by decide, by decide⟩ rfl (Nat.le_of_ble_eq_true rfl) dL_law_12 (fun H locs hW => ?_)
  refine lv_astore_n (lv' := [(2, .ref (q 100)), (1, .ref (q 0)), (0, .ref b)]) hx hb dL_law_15 rfl hl (by decide) rfl (fun ls hl => ?_)
  refine lv_iconst (v := 0) hx hb dL_law_16 (by decide) ?_
  refine lv_istore_n (lv' := [(3, .int (nI 0)), (2, .ref (q 100)), (1, .ref (q 0)), (0, .ref b)]) hx hb dL_law_17 rfl hl (by decide) rfl (fun ls hl => ?_)
  refine W.widen (k := 64) (n := 1520) (by decide) (by decide) ?_
  exact law_loop hL hX hbl hE C LI Kin Kbank Ktarget Kair Khoses Kfeed Kend Kbook Kflow Kprice Kclosed Ksensor Kcar Kpass Kreading Kslip Kbest KbestOf Kbanks Kcars Kcount 600 0 hLI (by omega) (by omega) (by decide) (by decide) hW (lv_sub hl [3, 2, 1, 0] rfl)
