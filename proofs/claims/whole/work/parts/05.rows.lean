/-! ===== rows over the memory ===== -/
/-- a field's link: in class own, entry idx, is slot k of class ci -/
def FR (own : String) (idx ci k : Nat) (fin : Bool) (ty : FieldType) : Prop :=
  ∃ (C : String) (T : u_T) (N : Nat) (ty0 : Nat → FieldType), classes[ci]? = some (C, T, N) ∧ nf ci = N ∧ ci < 9 ∧ k < N ∧ (∀ w ∈ u_ws C T N, w ∈ gG) ∧ (∀ k, k < N → parseFieldDescriptor (T k).2.2.1 = some (ty0 k)) ∧ (∀ a, a < N → ∀ b, b < N → a ≠ b → (T a).2.1 ≠ (T b).2.1) ∧ Cond.fieldLink own idx (T k).1 (T k).2.1 (T k).2.2.1 ∈ gG ∧ (T k).2.2.2 = fin ∧ ty0 k = ty ∧ (T k).1 = C
section ROWS
variable {p : Program} {l : Launch} {e : Env} {Ro : Room} {s : State} {m : MethodId} {args : Array Value} {below : List Frame} {meth : Method} {c : Code} {H : Heap} {locs : List Loc} {cells slots : Nat} {Q : State → Prop}
variable {E : EV} {cc : ByteArray} {own : String} {nL : Nat} {ret : Option FieldType} {q : Nat → Nat} {al : Nat → Bool} {I : MI} {R : MR} {n : Nat} {pc : Nat} {ls : Array Slot} {rest : List Value} {id : Nat}
theorem r_cell (hW : Wd E q al s.heap I R n H locs) (hal : al id = true) : cAt E q I R id H := hW.1.1 id hal
theorem r_getV (C : CX p s m args meth c E cc own nL ret) {idx ci k : Nat} {fin : Bool} {ty : FieldType} (F : FR own idx ci k fin ty) (hW : Wd E q al s.heap I R n H locs) (hal : al id = true) (hk : kd id = ci) {v : Value} (hv : cV q I R id k = v) (hdg : decode cc pc = .ok (.getfield idx, 3))
    (kk : W p l e Ro s m args below meth c H locs cells slots Q (F0 m (pc + 3) ls (v :: rest))) : W p l e Ro s m args below meth c H locs cells slots Q (F0 m pc ls (.ref (q id) :: rest)) := by
  obtain ⟨hx, hb, hml, hown, hts, hK, hss, hbs, hr, hlk⟩ := C
  obtain ⟨C, T, N, ty0, hc, hN, h9, hkN, hin, hty, hnm, hl, -⟩ := F
  subst hk
  obtain ⟨cell, q1, q2, q3, q4⟩ := (r_cell hW hal).1 h9
  obtain ⟨hS, hfc, kC, hkC, hkind⟩ := hK.1.1 (kd id) _ hc
  obtain ⟨cf, kf, fi, f, hi, hsl⟩ := hS k hkN
  refine W.getf hx hb hown (hts _ hl) hi (u_facts hfc hkC (u_lays hts hin hkN) hi).1 q1 (by rw [q3]; exact fun h => by cases h) (v := v) ?_ rfl rfl hdg kk
  rw [hsl, q4 k (by rw [hN]; exact hkN), hv]
theorem r_get (C : CX p s m args meth c E cc own nL ret) {idx ci k : Nat} {fin : Bool} {ty : FieldType} (F : FR own idx ci k fin ty) (hW : Wd E q al s.heap I R n H locs) (hal : al id = true) (hk : kd id = ci) (hr : rs ci k = false) (hdg : decode cc pc = .ok (.getfield idx, 3))
    (kk : W p l e Ro s m args below meth c H locs cells slots Q (F0 m (pc + 3) ls (.int (I id k) :: rest))) : W p l e Ro s m args below meth c H locs cells slots Q (F0 m pc ls (.ref (q id) :: rest)) := by
  refine r_getV C F hW hal hk (v := .int (I id k)) ?_ hdg kk
  unfold cV
  rw [hk, hr]
  rfl
theorem r_getq (C : CX p s m args meth c E cc own nL ret) {idx ci k : Nat} {fin : Bool} {ty : FieldType} (F : FR own idx ci k fin ty) (hW : Wd E q al s.heap I R n H locs) (hal : al id = true) (hk : kd id = ci) (hr : rs ci k = true) {t : Nat} (hv : R id k = some t) (hdg : decode cc pc = .ok (.getfield idx, 3))
    (kk : W p l e Ro s m args below meth c H locs cells slots Q (F0 m (pc + 3) ls (.ref (q t) :: rest))) : W p l e Ro s m args below meth c H locs cells slots Q (F0 m pc ls (.ref (q id) :: rest)) := by
  refine r_getV C F hW hal hk (v := .ref (q t)) ?_ hdg kk
  unfold cV
  rw [hk, hr, hv]
  rfl
theorem r_putV (C : CX p s m args meth c E cc own nL ret) {idx ci k : Nat} {fin : Bool} {ty : FieldType} (F : FR own idx ci k fin ty) (hfin : fin = false ∨ (fin = true ∧ meth.name = "<init>" ∧ (∃ x, classes[ci]? = some x ∧ x.1 = own))) (hW : Wd E q al s.heap I R n H locs) (hal : al id = true) (hk : kd id = ci) {v : Value} (hn : narrow ty v = v) (hf : fits ty v = true) {I' : MI} {R' : MR} (hV : ∀ j, cV q I' R' id j = updV (cV q I R id) k v j)
    (hI : ∀ b j, b ≠ id → I' b j = I b j) (hR : ∀ b j, b ≠ id → R' b j = R b j) (hT : ∀ j t, R' id j = some t → al t = true ∧ kd t = rt (kd id) j) (hdg : decode cc pc = .ok (.putfield idx, 3))
    (kk : ∀ (H1 : Heap) (locs1 : List Loc), Wd E q al s.heap I' R' n H1 locs1 → W p l e Ro s m args below meth c H1 locs1 cells slots Q (F0 m (pc + 3) ls rest)) : W p l e Ro s m args below meth c H locs cells slots Q (F0 m pc ls (v :: .ref (q id) :: rest)) := by
  obtain ⟨hx, hb, hml, hown, hts, hK, hss, hbs, hr, hlk⟩ := C
  obtain ⟨C, T, N, ty0, hc, hN, h9, hkN, hin, hty, hnm, hl, hfi, hte, hTC⟩ := F
  subst hk
  have hap := va_apart (own := own) (D := E.1) (tys := tysL E) hts hin ty0 hty hnm hK.1 hc
  have hcell := r_cell hW hal
  obtain ⟨cell, q1, q2, q3, q4⟩ := hcell.1 h9
  obtain ⟨hS, hfc, kC, hkC, hkind⟩ := hK.1.1 (kd id) _ hc
  obtain ⟨cf, kf, fi, f, hi, hsl⟩ := hS k hkN
  have hd : parseFieldDescriptor (T k).2.2.1 = some ty := by rw [hty k hkN, hte]
  have hst := (u_facts hfc hkC (u_lays hts hin hkN) hi).1
  have hN' : k < nf (kd id) := by rw [hN]; exact hkN
  have fin1 : ∀ (H' : Heap), H'[q id]? = some (cell.setSlot f.slot v) → H'.size = H.size → (∀ x, x ≠ q id → H'[x]? = H[x]?) → W p l e Ro s m args below meth c H' (locs ++ [⟨q id, f.slot⟩]) cells slots Q (F0 m (pc + 3) ls rest) := by
    intro H' e1 e2 e3
    refine kk H' _ (hW.step hal e2 e3 ⟨fun _ => ?_, fun z => absurd h9 z, fun z => absurd h9 z⟩ hI hR hT)
    rw [hsl] at e1
    have hap' : ∀ x y, x < nf (kd id) → y < nf (kd id) → x ≠ y → (E.1.2 (kd id)) x ≠ (E.1.2 (kd id)) y := by rw [hN]; exact hap
    exact t_OB.to (V := updV (cV q I R id) k v) ⟨_, e1, q2, q3, t_set q4 hap' hN' v⟩ (fun j _ => (hV j).symm)
  have hsz : f.slot < cell.slots.size := by rw [hsl]; exact k2_hasslot (q4 k hN')
  have hlay := hts _ (hin _ (u_in_lay hkN))
  unfold u_lay at hlay
  rcases hfin with hfin | ⟨hfin, hin2, x, hx1, hx2⟩
  · rw [if_neg (by rw [hfi, hfin]; decide)] at hlay
    have h6 := u_store hfc hkC hkind hlay hi hd hn hf
    exact W.putK hx hb (f := f) ⟨hown, hts _ hl, ⟨_, _, _, hi⟩, hst⟩ (by rw [q2]; exact h6) q1 q3 hsz rfl rfl hdg fin1
  · rw [if_pos (by rw [hfi, hfin])] at hlay
    have hCo : C = own := by rw [hc] at hx1; cases hx1; exact hx2
    have hcf : m.cls = cf := by
      obtain ⟨_, _, c', _, _, _, -, -, hf', -, -, -, hown2, -⟩ := Cond.laysFinal_spec hlay
      have e1 : c' = cf := by have := hi.symm.trans hf'; simp at this; exact this.1.symm
      rw [hTC, hCo] at hown2
      rw [← e1]; exact Option.some.inj (hown.symm.trans hown2)
    have h6 := u_fits hfc hkC hkind (Or.inr hlay) hi hd hn hf
    exact W.putFinK hx hb hown (hts _ hl) hi hst hcf hin2 (by rw [q2]; exact h6) q1 q3 hsz rfl rfl hdg fin1
theorem r_put (C : CX p s m args meth c E cc own nL ret) {idx ci k : Nat} {fin : Bool} {ty : FieldType} (F : FR own idx ci k fin ty) (hfin : fin = false ∨ (fin = true ∧ meth.name = "<init>" ∧ (∃ x, classes[ci]? = some x ∧ x.1 = own))) (hW : Wd E q al s.heap I R n H locs) (hal : al id = true) (hk : kd id = ci) (hr : rs ci k = false) {v : Int32} (hn : narrow ty (.int v) = .int v) (hf : fits ty (.int v) = true) (hdg : decode cc pc = .ok (.putfield idx, 3))
    (kk : ∀ (H1 : Heap) (locs1 : List Loc), Wd E q al s.heap (p2 I id k v) R n H1 locs1 → W p l e Ro s m args below meth c H1 locs1 cells slots Q (F0 m (pc + 3) ls rest)) : W p l e Ro s m args below meth c H locs cells slots Q (F0 m pc ls (.int v :: .ref (q id) :: rest)) := by
  refine r_putV C F hfin hW hal hk hn hf (I' := p2 I id k v) (R' := R) (fun j => ?_) (fun b j h => p2_ne h) (fun _ _ _ => rfl) (fun j t h => hW.1.2.1.2.2 id j t hal h) hdg kk
  unfold cV updV
  by_cases e : j = k
  · subst e
    rw [hk, hr, if_pos rfl, p2_at, if_pos rfl]
    rfl
  · rw [if_neg e, p2_at, if_neg e]
theorem r_putq (C : CX p s m args meth c E cc own nL ret) {idx ci k : Nat} {fin : Bool} {ty : FieldType} (F : FR own idx ci k fin ty) (hfin : fin = false ∨ (fin = true ∧ meth.name = "<init>" ∧ (∃ x, classes[ci]? = some x ∧ x.1 = own))) (hW : Wd E q al s.heap I R n H locs) (hal : al id = true) (hk : kd id = ci) (hr : rs ci k = true) {t : Nat} (hat : al t = true) (hkt : kd t = rt ci k) (hn : narrow ty (.ref (q t)) = .ref (q t)) (hf : fits ty (.ref (q t)) = true) (hdg : decode cc pc = .ok (.putfield idx, 3))
    (kk : ∀ (H1 : Heap) (locs1 : List Loc), Wd E q al s.heap I (pq R id k (some t)) n H1 locs1 → W p l e Ro s m args below meth c H1 locs1 cells slots Q (F0 m (pc + 3) ls rest)) : W p l e Ro s m args below meth c H locs cells slots Q (F0 m pc ls (.ref (q t) :: .ref (q id) :: rest)) := by
  refine r_putV C F hfin hW hal hk hn hf (I' := I) (R' := pq R id k (some t)) (fun j => ?_) (fun _ _ _ => rfl) (fun b j h => pq_ne h) (fun j u h => ?_) hdg kk
  · unfold cV updV
    by_cases e : j = k
    · subst e
      rw [hk, hr, if_pos rfl, pq_at, if_pos rfl, if_pos rfl]
      rfl
    · rw [if_neg e, pq_at, if_neg e]
  · rw [pq_at] at h
    by_cases e : j = k
    · subst e
      rw [if_pos rfl] at h
      cases h
      rw [hk]
      exact ⟨hat, hkt⟩
    · rw [if_neg e] at h
      exact hW.1.2.1.2.2 id j u hal h
/-! arrays -/
theorem r_arrT (hK : KK E s) {k : Nat} (hk : k = 9 ∨ k = 10 ∨ k = 11 ∨ k = 12 ∨ k = 13) : ArrOfT s (E.2.1 k) (if k = 9 then .byte else if k = 10 then .int else if k = 11 then .boolean else if k = 12 then .object "GasYard$Bank" else .object "GasYard$Car") := by
  rcases hk with rfl | rfl | rfl | rfl | rfl
  · exact (hK.1.2 0 _ rfl).1
  · exact (hK.1.2 1 _ rfl).1
  · exact (hK.1.2 2 _ rfl).1
  · exact (hK.1.2 3 _ rfl).1
  · exact (hK.1.2 4 _ rfl).1
theorem r_iald (C : CX p s m args meth c E cc own nL ret) (hW : Wd E q al s.heap I R n H locs) (hal : al id = true) (hk : kd id = 10) {i : Int32} (hin : vp_in i (ln id)) (hdg : decode cc pc = .ok (.iaload, 1))
    (kk : W p l e Ro s m args below meth c H locs cells slots Q (F0 m (pc + 1) ls (.int (I id i.toNatClampNeg) :: rest))) : W p l e Ro s m args below meth c H locs cells slots Q (F0 m pc ls (.int i :: .ref (q id) :: rest)) := by
  have hc := (r_cell hW hal).2.1 (by rw [hk]; decide) (by rw [hk]; decide)
  have hlt : i.toNatClampNeg < ln id := Nat.not_le.mp fun q => hin (Or.inr q)
  rw [hk] at hc
  exact W.iald (v := .int (I id i.toNatClampNeg)) C.1 C.2.1 hc (r_arrT C.2.2.2.2.2.1 (k := 10) (by decide) _ _) (fun q => by cases q) (by show ¬ (i < 0 ∨ (arrV _ _ _).slots.size ≤ _); rw [arrV_size]; exact hin) (by show (arrV _ _ _).slots[_]? = _; rw [arrV_read _ _ hlt]) rfl rfl hdg kk
theorem r_bald (C : CX p s m args meth c E cc own nL ret) (hW : Wd E q al s.heap I R n H locs) (hal : al id = true) (hk : kd id = 9) {i : Int32} (hin : vp_in i (ln id)) (hdg : decode cc pc = .ok (.baload, 1))
    (kk : W p l e Ro s m args below meth c H locs cells slots Q (F0 m (pc + 1) ls (.int (I id i.toNatClampNeg) :: rest))) : W p l e Ro s m args below meth c H locs cells slots Q (F0 m pc ls (.int i :: .ref (q id) :: rest)) := by
  have hc := (r_cell hW hal).2.1 (by rw [hk]; decide) (by rw [hk]; decide)
  have hlt : i.toNatClampNeg < ln id := Nat.not_le.mp fun q => hin (Or.inr q)
  rw [hk] at hc
  exact W.bald (v := .int (I id i.toNatClampNeg)) C.1 C.2.1 hc (r_arrT C.2.2.2.2.2.1 (k := 9) (by decide) _ _) (fun q => by cases q) (by show ¬ (i < 0 ∨ (arrV _ _ _).slots.size ≤ _); rw [arrV_size]; exact hin) (by show (arrV _ _ _).slots[_]? = _; rw [arrV_read _ _ hlt]) rfl rfl hdg kk
theorem r_zald (C : CX p s m args meth c E cc own nL ret) (hW : Wd E q al s.heap I R n H locs) (hal : al id = true) (hk : kd id = 11) {i : Int32} (hin : vp_in i (ln id)) (hdg : decode cc pc = .ok (.baload, 1))
    (kk : W p l e Ro s m args below meth c H locs cells slots Q (F0 m (pc + 1) ls (.int (I id i.toNatClampNeg) :: rest))) : W p l e Ro s m args below meth c H locs cells slots Q (F0 m pc ls (.int i :: .ref (q id) :: rest)) := by
  have hc := (r_cell hW hal).2.1 (by rw [hk]; decide) (by rw [hk]; decide)
  have hlt : i.toNatClampNeg < ln id := Nat.not_le.mp fun q => hin (Or.inr q)
  rw [hk] at hc
  exact W.zald (v := .int (I id i.toNatClampNeg)) C.1 C.2.1 hc (r_arrT C.2.2.2.2.2.1 (k := 11) (by decide) _ _) (fun q => by cases q) (by show ¬ (i < 0 ∨ (arrV _ _ _).slots.size ≤ _); rw [arrV_size]; exact hin) (by show (arrV _ _ _).slots[_]? = _; rw [arrV_read _ _ hlt]) rfl rfl hdg kk
theorem r_aald (C : CX p s m args meth c E cc own nL ret) (hW : Wd E q al s.heap I R n H locs) (hal : al id = true) {k : Nat} (hk : kd id = k) (hk2 : k = 12 ∨ k = 13) {i : Int32} (hin : vp_in i (ln id)) (hdg : decode cc pc = .ok (.aaload, 1))
    (kk : W p l e Ro s m args below meth c H locs cells slots Q (F0 m (pc + 1) ls (va_rf ((R id i.toNatClampNeg).map q) :: rest))) : W p l e Ro s m args below meth c H locs cells slots Q (F0 m pc ls (.int i :: .ref (q id) :: rest)) := by
  subst hk
  have hc := (r_cell hW hal).2.2 (by omega) (by omega)
  have hlt : i.toNatClampNeg < ln id := Nat.not_le.mp fun q => hin (Or.inr q)
  exact W.aald (v := va_rf ((R id i.toNatClampNeg).map q)) C.1 C.2.1 hc (r_arrT C.2.2.2.2.2.1 (k := kd id) (by omega) _ _) (by rcases hk2 with e | e <;> rw [e] <;> rfl) (fun q => by cases q) (by show ¬ (i < 0 ∨ (arrV _ _ _).slots.size ≤ _); rw [arrV_size]; exact hin) (by show (arrV _ _ _).slots[_]? = _; rw [arrV_read _ _ hlt]) rfl rfl hdg kk
theorem r_ast0 (hW : Wd E q al s.heap I R n H locs) (hal : al id = true) (h9 : ¬ kd id < 9) (h12 : kd id < 12) {H1 : Heap} {j : Nat} {v : Int32} (e1 : H1[q id]? = some ((arrV (E.2.1 (kd id)) (ln id) (fun j => .int (I id j))).setSlot j (.int v))) (e2 : H1.size = H.size) (e3 : ∀ x, x ≠ q id → H1[x]? = H[x]?) : Wd E q al s.heap (p2 I id j v) R n H1 (locs ++ [⟨q id, j⟩]) := by
  refine hW.step hal e2 e3 ⟨fun z => absurd z h9, fun _ _ => ?_, fun _ z => absurd h12 z⟩ (fun b j h => p2_ne h) (fun _ _ _ => rfl) (fun j t h => hW.1.2.1.2.2 id j t hal h)
  rw [e1, arrV_store]
  congr 2
  funext x
  unfold updV
  rw [p2_at]
  by_cases hq : x = j
  · rw [if_pos hq, if_pos hq]
  · rw [if_neg hq, if_neg hq]
theorem r_iast (C : CX p s m args meth c E cc own nL ret) (hW : Wd E q al s.heap I R n H locs) (hal : al id = true) (hk : kd id = 10) {i v : Int32} (hin : vp_in i (ln id)) (hdg : decode cc pc = .ok (.iastore, 1))
    (kk : ∀ (H1 : Heap) (locs1 : List Loc), Wd E q al s.heap (p2 I id i.toNatClampNeg v) R n H1 locs1 → W p l e Ro s m args below meth c H1 locs1 cells slots Q (F0 m (pc + 1) ls rest)) : W p l e Ro s m args below meth c H locs cells slots Q (F0 m pc ls (.int v :: .int i :: .ref (q id) :: rest)) := by
  have h9 : ¬ kd id < 9 := by omega
  have h12 : kd id < 12 := by omega
  have hc := (r_cell hW hal).2.1 h9 h12
  refine W.iast C.1 C.2.1 hc (by rw [hk]; exact r_arrT C.2.2.2.2.2.1 (k := 10) (by decide) _ _) (fun q => by cases q) (by show ¬ (i < 0 ∨ (arrV _ _ _).slots.size ≤ _); rw [arrV_size]; exact hin) rfl rfl hdg fun H1 e1 e2 e3 => ?_
  exact kk H1 _ (r_ast0 hW hal h9 h12 e1 e2 e3)
theorem r_bast (C : CX p s m args meth c E cc own nL ret) (hW : Wd E q al s.heap I R n H locs) (hal : al id = true) (hk : kd id = 9) {i v : Int32} (hin : vp_in i (ln id)) (hdg : decode cc pc = .ok (.bastore, 1))
    (kk : ∀ (H1 : Heap) (locs1 : List Loc), Wd E q al s.heap (p2 I id i.toNatClampNeg (vp_nar .byte v)) R n H1 locs1 → W p l e Ro s m args below meth c H1 locs1 cells slots Q (F0 m (pc + 1) ls rest)) : W p l e Ro s m args below meth c H locs cells slots Q (F0 m pc ls (.int v :: .int i :: .ref (q id) :: rest)) := by
  have h9 : ¬ kd id < 9 := by omega
  have h12 : kd id < 12 := by omega
  have hc := (r_cell hW hal).2.1 h9 h12
  refine W.bast C.1 C.2.1 hc (by rw [hk]; exact r_arrT C.2.2.2.2.2.1 (k := 9) (by decide) _ _) (fun q => by cases q) (by show ¬ (i < 0 ∨ (arrV _ _ _).slots.size ≤ _); rw [arrV_size]; exact hin) rfl rfl hdg fun H1 e1 e2 e3 => ?_
  exact kk H1 _ (r_ast0 hW hal h9 h12 e1 e2 e3)
theorem r_zast (C : CX p s m args meth c E cc own nL ret) (hW : Wd E q al s.heap I R n H locs) (hal : al id = true) (hk : kd id = 11) {i v : Int32} (hin : vp_in i (ln id)) (hdg : decode cc pc = .ok (.bastore, 1))
    (kk : ∀ (H1 : Heap) (locs1 : List Loc), Wd E q al s.heap (p2 I id i.toNatClampNeg (vp_nar .boolean v)) R n H1 locs1 → W p l e Ro s m args below meth c H1 locs1 cells slots Q (F0 m (pc + 1) ls rest)) : W p l e Ro s m args below meth c H locs cells slots Q (F0 m pc ls (.int v :: .int i :: .ref (q id) :: rest)) := by
  have h9 : ¬ kd id < 9 := by omega
  have h12 : kd id < 12 := by omega
  have hc := (r_cell hW hal).2.1 h9 h12
  refine W.zast C.1 C.2.1 hc (by rw [hk]; exact r_arrT C.2.2.2.2.2.1 (k := 11) (by decide) _ _) (fun q => by cases q) (by show ¬ (i < 0 ∨ (arrV _ _ _).slots.size ≤ _); rw [arrV_size]; exact hin) rfl rfl hdg fun H1 e1 e2 e3 => ?_
  exact kk H1 _ (r_ast0 hW hal h9 h12 e1 e2 e3)
theorem r_aast0 (hW : Wd E q al s.heap I R n H locs) (hal : al id = true) (h9 : ¬ kd id < 9) (h12 : ¬ kd id < 12) {H1 : Heap} {j : Nat} {v : Option Nat} (hT : ∀ t, v = some t → al t = true ∧ kd t = rt (kd id) j) (e1 : H1[q id]? = some ((arrV (E.2.1 (kd id)) (ln id) (fun j => va_rf ((R id j).map q))).setSlot j (va_rf (v.map q)))) (e2 : H1.size = H.size) (e3 : ∀ x, x ≠ q id → H1[x]? = H[x]?) : Wd E q al s.heap I (pq R id j v) n H1 (locs ++ [⟨q id, j⟩]) := by
  refine hW.step hal e2 e3 ⟨fun z => absurd z h9, fun _ z => absurd z h12, fun _ _ => ?_⟩ (fun _ _ _ => rfl) (fun b j h => pq_ne h) (fun k t h => ?_)
  · rw [e1, arrV_store]
    congr 2
    funext x
    unfold updV
    rw [pq_at]
    by_cases hq : x = j
    · rw [if_pos hq, if_pos hq]
    · rw [if_neg hq, if_neg hq]
  · rw [pq_at] at h
    by_cases e : k = j
    · subst e
      rw [if_pos rfl] at h
      exact hT t h
    · rw [if_neg e] at h
      exact hW.1.2.1.2.2 id k t hal h
theorem r_aast (C : CX p s m args meth c E cc own nL ret) (hW : Wd E q al s.heap I R n H locs) (hal : al id = true) {k : Nat} (hk : kd id = k) (hk2 : k = 12 ∨ k = 13) {t : Nat} (hat : al t = true) (hkt : kd t = if k = 12 then 0 else 2) {i : Int32} (hin : vp_in i (ln id)) (hdg : decode cc pc = .ok (.aastore, 1))
    (kk : ∀ (H1 : Heap) (locs1 : List Loc), Wd E q al s.heap I (pq R id i.toNatClampNeg (some t)) n H1 locs1 → W p l e Ro s m args below meth c H1 locs1 cells slots Q (F0 m (pc + 1) ls rest)) : W p l e Ro s m args below meth c H locs cells slots Q (F0 m pc ls (.ref (q t) :: .int i :: .ref (q id) :: rest)) := by
  subst hk
  have h9 : ¬ kd id < 9 := by omega
  have h12 : ¬ kd id < 12 := by omega
  have hc := (r_cell hW hal).2.2 h9 h12
  have hlt : i.toNatClampNeg < ln id := Nat.not_le.mp fun q => hin (Or.inr q)
  have h0 : ¬ i < 0 := fun q => hin (Or.inl q)
  have key : ∀ (ci : Nat) (r : vw_C) (hc1 : classes[ci]? = some r) (hci : ci < 9) (h2 : ∃ (kA : Class) (comp : ClassId), s.vm.classes[E.2.1 (kd id)]? = some kA ∧ kA.kind = .array comp (.object r.1) ∧ s.vm.findClass r.1 = some comp) (h3 : kd t = ci), W p l e Ro s m args below meth c H locs cells slots Q (F0 m pc ls (.ref (q t) :: .int i :: .ref (q id) :: rest)) := by
    intro ci r hc1 hci h2 h3
    obtain ⟨kA, comp, k1, k2, k3⟩ := h2
    obtain ⟨cellV, g1, g2, g3, -⟩ := (r_cell hW hat).1 (by omega)
    have hcls := (C.2.2.2.2.2.1.1.1 ci r hc1).2
    have hcomp : comp = E.1.1 ci := Option.some.inj (k3.symm.trans hcls.1)
    subst hcomp
    obtain ⟨kC, hkC, -⟩ := hcls.2
    rw [h3] at g2
    refine W.aast C.1 C.2.1 hc (fun q h => by cases h) (fun h => by cases h) k1 k2 rfl hkC ⟨h0, by show _ < (arrV _ _ _).slots.size; rw [arrV_size]; exact hlt⟩ g1 (fun q h => by rw [g3] at h; cases h) (by rw [g2]; exact hkC) (by rw [g2]; exact va_assign hcls) rfl rfl hdg fun H1 e1 e2 e3 => ?_
    exact kk H1 _ (r_aast0 hW hal h9 h12 (v := some t) (fun t' ht' => by cases ht'; refine ⟨hat, ?_⟩; rcases hk2 with e | e <;> rw [hkt, e] <;> rfl) e1 e2 e3)
  rcases hk2 with e | e
  · obtain ⟨kA, comp, a1, a2, a3, -⟩ := (C.2.2.2.2.2.1.1.2 3 _ rfl).2
    exact key 0 _ rfl (by decide) ⟨kA, comp, by rw [e]; exact a1, a2, a3⟩ (by rw [hkt, e]; rfl)
  · obtain ⟨kA, comp, a1, a2, a3, -⟩ := (C.2.2.2.2.2.1.1.2 4 _ rfl).2
    exact key 2 _ rfl (by decide) ⟨kA, comp, by rw [e]; exact a1, a2, a3⟩ (by rw [hkt, e]; rfl)
theorem r_aastN (C : CX p s m args meth c E cc own nL ret) (hW : Wd E q al s.heap I R n H locs) (hal : al id = true) {k : Nat} (hk : kd id = k) (hk2 : k = 12 ∨ k = 13) {i : Int32} (hin : vp_in i (ln id)) (hdg : decode cc pc = .ok (.aastore, 1))
    (kk : ∀ (H1 : Heap) (locs1 : List Loc), Wd E q al s.heap I (pq R id i.toNatClampNeg none) n H1 locs1 → W p l e Ro s m args below meth c H1 locs1 cells slots Q (F0 m (pc + 1) ls rest)) : W p l e Ro s m args below meth c H locs cells slots Q (F0 m pc ls (.null :: .int i :: .ref (q id) :: rest)) := by
  subst hk
  have h9 : ¬ kd id < 9 := by omega
  have h12 : ¬ kd id < 12 := by omega
  have hc := (r_cell hW hal).2.2 h9 h12
  have key : ∀ (N : String), s.isArrayOf (arrV (E.2.1 (kd id)) (ln id) (fun j => va_rf ((R id j).map q))) (.object N) → W p l e Ro s m args below meth c H locs cells slots Q (F0 m pc ls (.null :: .int i :: .ref (q id) :: rest)) := by
    intro N hN
    refine va_WaastN (C := N) C.1 C.2.1 hc hN (fun h => by cases h) (by show ¬ (i < 0 ∨ (arrV _ _ _).slots.size ≤ _); rw [arrV_size]; exact hin) rfl rfl hdg fun H1 e1 e2 e3 => ?_
    exact kk H1 _ (r_aast0 hW hal h9 h12 (v := none) (fun _ h => by cases h) e1 e2 e3)
  rcases hk2 with e | e
  · exact key "GasYard$Bank" (by rw [e]; exact (C.2.2.2.2.2.1.1.2 3 _ rfl).1 _ _)
  · exact key "GasYard$Car" (by rw [e]; exact (C.2.2.2.2.2.1.1.2 4 _ rfl).1 _ _)
theorem r_alen (C : CX p s m args meth c E cc own nL ret) (hW : Wd E q al s.heap I R n H locs) (hal : al id = true) {k : Nat} (hk : kd id = k) (hk2 : k = 12 ∨ k = 13) (hdg : decode cc pc = .ok (.arraylength, 1))
    (kk : W p l e Ro s m args below meth c H locs cells slots Q (F0 m (pc + 1) ls (.int (nI (ln id)) :: rest))) : W p l e Ro s m args below meth c H locs cells slots Q (F0 m pc ls (.ref (q id) :: rest)) := by
  subst hk
  have hc := (r_cell hW hal).2.2 (by omega) (by omega)
  exact W.alen (n := nI (ln id)) C.1 C.2.1 hc (r_arrT C.2.2.2.2.2.1 (k := kd id) (by omega) _ _) (by rw [arrV_size] <;> rfl) rfl rfl hdg kk
end ROWS
