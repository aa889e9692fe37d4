/-! ===== making cells, calls, ends ===== -/
section MAKE
variable {p : Program} {l : Launch} {e : Env} {Ro : Room} {s : State} {m : MethodId} {args : Array Value} {below : List Frame} {meth : Method} {c : Code} {H : Heap} {locs : List Loc} {cells slots : Nat} {Q : State → Prop}
variable {E : EV} {cc : ByteArray} {own : String} {nL : Nat} {ret : Option FieldType} {q : Nat → Nat} {al : Nat → Bool} {I : MI} {R : MR} {n : Nat} {pc : Nat} {ls : Array Slot} {rest : List Value} {id : Nat}
/-- a new cell -/
theorem Wd.push {H0 H1 : Heap} (h : Wd E q al H0 I R n H locs) (hbs : E.2.2.2.2 ≤ H0.size) (hal : al id = false) (hq : q id = n) (hs : H1.size = H.size + 1) (ho : ∀ x, x < H.size → H1[x]? = H[x]?) {I' : MI} {R' : MR} (hc : cAt E q I' R' id H1)
    (hI : ∀ b j, b ≠ id → I' b j = I b j) (hR : ∀ b j, b ≠ id → R' b j = R b j) (hT : ∀ j t, R' id j = some t → False) : Wd E q (alu al id) H0 I' R' (n + 1) H1 locs := by
  obtain ⟨⟨h1, ⟨o1, o2, o3⟩, h3⟩, h4⟩ := h
  have old : ∀ b, alu al id b = true → b ≠ id → al b = true := by
    intro b hb hne
    unfold alu at hb
    rw [if_neg hne] at hb
    exact hb
  refine ⟨⟨fun b hb => ?_, ⟨fun i j hi hj hij => ?_, fun i hi => ?_, fun i j t hi hr => ?_⟩, by omega⟩, ⟨by have := h4.1; omega, fun x hx1 hx2 => (ho x (Nat.lt_of_lt_of_le hx1 h4.1)).trans (h4.2.1 x hx1 hx2), h4.2.2⟩⟩
  · by_cases e : b = id
    · subst e; exact hc
    · have hb' := old b hb e
      exact ((h1 b hb').kept (ho _ (h1 b hb').lt)).cong rfl (fun j => hI b j e) (fun j => by rw [hR b j e])
  · by_cases e1 : i = id <;> by_cases e2 : j = id
    · rw [e1, e2]
    · subst e1
      have := (h1 j (old j hj e2)).lt
      omega
    · subst e2
      have := (h1 i (old i hi e1)).lt
      omega
    · exact o1 i j (old i hi e1) (old j hj e2) hij
  · by_cases e : i = id
    · subst e
      show E.2.2.2.2 ≤ q i
      have := h4.1
      omega
    · exact o2 i (old i hi e)
  · by_cases e : i = id
    · subst e; exact (hT j t hr).elim
    · rw [hR i j e] at hr
      have h6 := o3 i j t (old i hi e) hr
      refine ⟨?_, h6.2⟩
      unfold alu
      by_cases e3 : t = id
      · rw [if_pos e3]
      · rw [if_neg e3]; exact h6.1
theorem r_newa (C : CX p s m args meth c E cc own nL ret) {at_ : ArrayType} {k : Nat} (harr : Cond.arrayClass (newarray.typeOf at_) ∈ gG) (hat : (k = 9 ∧ newarray.typeOf at_ = .byte) ∨ (k = 10 ∧ newarray.typeOf at_ = .int) ∨ (k = 11 ∧ newarray.typeOf at_ = .boolean)) (hW : Wd E q al s.heap I R n H locs) (hal : al id = false) (hq : q id = n) (hk : kd id = k) {x : Int32} (hx0 : ¬ x < 0) (hxn : x.toNatClampNeg = ln id) (hln : ln id ≤ 1000) (hcells : cells + 1 ≤ Ro.cells) (hslots : slots + ln id ≤ Ro.slots) (hdg : decode cc pc = .ok (.newarray at_, 2))
    (kk : ∀ H1 : Heap, Wd E q (alu al id) s.heap (zI I id) (zR R id) (n + 1) H1 locs → W p l e Ro s m args below meth c H1 locs (cells + 1) (slots + ln id) Q (F0 m (pc + 2) ls (.ref (q id) :: rest))) : W p l e Ro s m args below meth c H locs cells slots Q (F0 m pc ls (.int x :: rest)) := by
  obtain ⟨hx, hb, hml, hown, hts, hK, hss, hbs, hr, hlk⟩ := C
  refine va_newaK (h := H.size) hx hb (hts _ harr) rfl hdg rfl hx0 hxn (by rcases hat with ⟨-, e⟩ | ⟨-, e⟩ | ⟨-, e⟩ <;> rw [e] <;> simp only [componentBytes] <;> omega) hcells hslots rfl fun H1 cA e1 e2 e3 hA hN => ?_
  have hcA : cA = E.2.1 k := by
    rcases hat with ⟨e, e'⟩ | ⟨e, e'⟩ | ⟨e, e'⟩
    · subst e; rw [e'] at hN; exact Option.some.inj (hN.symm.trans (hK.1.2 0 _ rfl).2)
    · subst e; rw [e'] at hN; exact Option.some.inj (hN.symm.trans (hK.1.2 1 _ rfl).2)
    · subst e; rw [e'] at hN; exact Option.some.inj (hN.symm.trans (hK.1.2 2 _ rfl).2)
  have hn : H.size = n := hW.1.2.2
  have hqs : q id = H.size := by rw [hn]; exact hq
  have key : Wd E q (alu al id) s.heap (zI I id) (zR R id) (n + 1) H1 locs := by
    refine hW.push hbs hal hq e2 e3 ⟨fun z => absurd z (by omega), fun _ _ => ?_, fun _ z => absurd z (by omega)⟩ (fun b j h => if_neg h) (fun b j h => if_neg h) (fun j t h => by unfold zR at h; rw [if_pos rfl] at h; cases h)
    rw [hqs, e1, hcA, hk]
    congr 2
    funext j
    unfold zI
    rw [if_pos rfl]
    rcases hat with ⟨-, e⟩ | ⟨-, e⟩ | ⟨-, e⟩ <;> rw [e] <;> rfl
  have := kk H1 key
  rw [hqs] at this
  exact this
theorem r_anew (C : CX p s m args meth c E cc own nL ret) {idx k : Nat} {N : String} (hcl : Cond.classLink own idx N ∈ gG) (hat : (k = 12 ∧ N = "GasYard$Bank") ∨ (k = 13 ∧ N = "GasYard$Car")) (hW : Wd E q al s.heap I R n H locs) (hal : al id = false) (hq : q id = n) (hk : kd id = k) {x : Int32} (hx0 : ¬ x < 0) (hxn : x.toNatClampNeg = ln id) (hln : ln id ≤ 1000) (hcells : cells + 1 ≤ Ro.cells) (hslots : slots + ln id ≤ Ro.slots) (hdg : decode cc pc = .ok (.anewarray idx, 3))
    (kk : ∀ H1 : Heap, Wd E q (alu al id) s.heap (zI I id) (zR R id) (n + 1) H1 locs → W p l e Ro s m args below meth c H1 locs (cells + 1) (slots + ln id) Q (F0 m (pc + 3) ls (.ref (q id) :: rest))) : W p l e Ro s m args below meth c H locs cells slots Q (F0 m pc ls (.int x :: rest)) := by
  obtain ⟨hx, hb, hml, hown, hts, hK, hss, hbs, hr, hlk⟩ := C
  have hov : va_AO N s := by
    rcases hat with ⟨-, e⟩ | ⟨-, e⟩ <;> subst e
    · exact hK.2.2.1
    · exact hK.2.2.2
  refine W.anew hx hb hown (hts _ hcl) (va_AO.use hov) rfl hdg rfl hx0 (by omega) hcells (by rw [hxn]; exact hslots) fun cA kA comp f1 f2 f3 f4 => ?_
  have hcA : cA = E.2.1 k := by
    rcases hat with ⟨e, e'⟩ | ⟨e, e'⟩
    · subst e; subst e'
      obtain ⟨_, _, -, -, -, a4⟩ := (hK.1.2 3 _ rfl).2
      exact Option.some.inj (f1.symm.trans a4)
    · subst e; subst e'
      obtain ⟨_, _, -, -, -, a4⟩ := (hK.1.2 4 _ rfl).2
      exact Option.some.inj (f1.symm.trans a4)
  have hn : H.size = n := hW.1.2.2
  have hqs : q id = H.size := by rw [hn]; exact hq
  generalize hH1 : H.push ({ cls := cA, slots := Array.replicate x.toNatClampNeg .null, vm := .none } : Cell) = H1
  have e2 : H1.size = H.size + 1 := by rw [← hH1, Array.size_push]
  have e1 : H1[H.size]? = some (arrV cA x.toNatClampNeg (fun _ => .null)) := by rw [← hH1, Array.getElem?_push_size, ← arrV_new]
  have e3 : ∀ z : Nat, z < H.size → H1[z]? = H[z]? := fun z hz => by rw [← hH1, Array.getElem?_push, if_neg (Nat.ne_of_lt hz)]
  have key : Wd E q (alu al id) s.heap (zI I id) (zR R id) (n + 1) H1 locs := by
    refine hW.push hbs hal hq e2 e3 ⟨fun z => absurd z (by omega), fun _ z => absurd z (by omega), fun _ _ => ?_⟩ (fun b j h => if_neg h) (fun b j h => if_neg h) (fun j t h => by unfold zR at h; rw [if_pos rfl] at h; cases h)
    rw [hqs, e1, hcA, hk, hxn]
    congr 2
    funext j
    unfold zR
    rw [if_pos rfl]
    rfl
  have := kk H1 key
  rw [hqs] at this
  rw [hxn]
  exact this
/-- a class as it can be made -/
def NC (own : String) (idx ci : Nat) : Prop := ∃ (C : String) (T : u_T) (N : Nat) (ty0 : Nat → FieldType), classes[ci]? = some (C, T, N) ∧ nf ci = N ∧ ci < 9 ∧ (∀ w ∈ u_ws C T N, w ∈ gG) ∧ (∀ k, k < N → parseFieldDescriptor (T k).2.2.1 = some (ty0 k)) ∧ (∀ k, k < N → defaultValue (ty0 k) = if rs ci k = true then .null else .int 0) ∧ Cond.classLink own idx C ∈ gG ∧ Cond.instantiable C N ∈ gG ∧ Cond.initialized C ∈ gG
theorem r_new (C : CX p s m args meth c E cc own nL ret) {idx ci : Nat} (K : NC own idx ci) (hW : Wd E q al s.heap I R n H locs) (hal : al id = false) (hq : q id = n) (hk : kd id = ci) (hcells : cells + 1 ≤ Ro.cells) (hslots : slots + nf ci ≤ Ro.slots) (hdg : decode cc pc = .ok (.new idx, 3))
    (kk : ∀ H1 : Heap, Wd E q (alu al id) s.heap (zI I id) (zR R id) (n + 1) H1 locs → W p l e Ro s m args below meth c H1 locs (cells + 1) (slots + nf ci) Q (F0 m (pc + 3) ls (.ref (q id) :: rest))) : W p l e Ro s m args below meth c H locs cells slots Q (F0 m pc ls rest) := by
  obtain ⟨hx, hb, hml, hown, hts, hK, hss, hbs, hr, hlk⟩ := C
  obtain ⟨C, T, N, ty0, hc, hN, h9, hin, hty, hdf, w1, w2, w3⟩ := K
  have hKn := hK.1.1 ci _ hc
  subst hN
  refine W.newcK (h := H.size) hx hb hown (hts _ w1) (hts _ w2) (hts _ w3) rfl hdg hcells hslots hKn.2.1 rfl fun H1 kC hkC e1 e2 e3 => ?_
  have hn : H.size = n := hW.1.2.2
  have hqs : q id = H.size := by rw [hn]; exact hq
  have key : Wd E q (alu al id) s.heap (zI I id) (zR R id) (n + 1) H1 locs := by
    refine hW.push hbs hal hq e2 e3 ⟨fun _ => ?_, fun z => absurd (by omega) z, fun z => absurd (by omega) z⟩ (fun b j h => if_neg h) (fun b j h => if_neg h) (fun j t h => by unfold zR at h; rw [if_pos rfl] at h; cases h)
    rw [hqs, hk]
    refine (u_born ty0 hts hin hKn hkC e1 hty).to (fun j hj => ?_)
    rw [hdf j hj]
    unfold cV zI zR
    rw [hk, if_pos rfl, if_pos rfl]
    rfl
  have := kk H1 key
  rw [hqs] at this
  exact this
/-! calls -/
def MLx (y : MethodName) (bytes : ByteArray) (mL : Nat) (rt : Option FieldType) (k : Nat) : Prop :=
  Cond.code y bytes mL rt ∈ gG ∧ Cond.initialized y.cls ∈ gG ∧ y.cls ≠ "java/lang/invoke/MethodHandle" ∧ y.cls ≠ "java/lang/invoke/VarHandle" ∧ (parseMethodDescriptor y.desc).map (fun d => d.parameters.length) = some k
theorem gG_callee {y : MethodName} {bytes : ByteArray} {mL : Nat} {rt : Option FieldType} (h : Cond.code y bytes mL rt ∈ gG) : GoodIn gG (Cond.code y bytes mL rt :: gG) := by
  intro w hw
  rcases List.mem_cons.mp hw with e | e
  · subst e; exact ⟨h, gG_good h⟩
  · exact ⟨e, gG_good e⟩
variable {y : MethodName} {bytes : ByteArray} {mL : Nat} {rty : Option FieldType} {L mc ms : Nat} {al' : Nat → Bool} {I' : MI} {R' : MR} {n' : Nat} {As : List Value} {v : Option Value}
theorem Pre.blind {av : List Value} : FrameBlind (va_Pc av (Pre E q al I R n)) := fun a U g mk h => ⟨h.1, h.2.1, h.2.2.1, h.2.2.2.1.same rfl, h.2.2.2.2.same rfl⟩
theorem Pre.at (C : CX p s m args meth c E cc own nL ret) (hW : Wd E q al s.heap I R n H locs) {U : State} (hU : U.heap = H) (hw : s.WarmedH U.vm) : Pre E q al I R n U := by
  obtain ⟨hx, hb, hml, hown, hts, hK, hss, hbs, hr, hlk⟩ := C
  refine ⟨by rw [hU]; exact hW.1, by rw [hU]; exact Nat.le_trans hbs hW.2.1, hK.warm hw, ?_⟩
  rw [hU]
  exact (hss.kept (fun a h1 h2 => hW.2.2.1 a h1 h2)).warm hw
/-- behind a call -/
theorem r_back {st0 : List Value} {a : Array Value} (hr : va_Run p l e Ro s m args below meth c H locs cells slots mc ms (F0 m pc ls st0) rest (Pst E q v al' I' R' n' a) (Bs E)) (hW : Wd E q al s.heap I R n H locs)
    (kk : ∀ (H1 : Heap) (locs1 : List Loc), Wd E q al' s.heap I' R' n' H1 locs1 → W p l e Ro s m args below meth c H1 locs1 (cells + mc) (slots + ms) Q (F0 m (pc + 3) ls (v.toList ++ rest))) : W p l e Ro s m args below meth c H locs cells slots Q (F0 m pc ls st0) := by
  intro T hT X
  obtain ⟨v', st₀, t, T', L', h0, X', hL, e1, e2, ⟨hv, hst, hz, hk⟩, st⟩ := hr T hT X
  cases hv
  rw [h0] at hz hk
  have hS := hW.2
  obtain ⟨t2, a1, b1⟩ := kk T'.heap (locs ++ L') ⟨by rw [e1]; exact hst, Nat.le_trans hS.1 (by rw [e1]; exact hz), fun x h1 h2 => by rw [e1, hk x (Nat.lt_of_lt_of_le h1 hS.1) h2]; exact hS.2.1 x h1 h2, fun x hx => by
      rcases List.mem_append.mp hx with h | h
      · exact hS.2.2 x h
      · exact hL x h⟩ T' rfl X'
  exact ⟨t2, st t2 a1, b1⟩
theorem r_recv (C : CX p s m args meth c E cc own nL ret) (hW : Wd E q al s.heap I R n H locs) (hal : al id = true) {ci : Nat} (hk : kd id = ci) {r : vw_C} (hc : classes[ci]? = some r) : ∃ cellB : Cell, H[q id]? = some cellB ∧ cellB.vm.isStatics = false ∧ s.vm.findClass r.1 = some cellB.cls := by
  have h9 : ci < 9 := by have := (List.getElem?_eq_some_iff.mp hc).1; simpa [classes] using this
  obtain ⟨cell, g1, g2, g3, -⟩ := (r_cell hW hal).1 (by omega)
  exact ⟨cell, g1, by rw [g3]; rfl, by rw [g2, hk]; exact (C.2.2.2.2.2.1.1.1 ci r hc).2.1⟩
theorem r_callV (C : CX p s m args meth c E cc own nL ret) {idx k ci : Nat} {r : vw_C} (M : MLx y bytes mL rty k) (w1 : Cond.methodLink own idx y ∈ gG) (w2 : Cond.instanceMethod y ∈ gG) (w3 : Cond.selects r.1 y y ∈ gG) (hc : classes[ci]? = some r) (hW : Wd E q al s.heap I R n H locs) (hal : al id = true) (hk : kd id = ci) (hl : ls.size = nL) (hM : Ct l y bytes mL rty L mc ms E q al I R n (.ref (q id) :: As) v al' I' R' n') (hn : As.length = k) (hR : L + 1 ≤ Ro.frames ∧ 8 + (mL + 11) + 60 * L ≤ Ro.locals) (hcs : cells + mc ≤ Ro.cells ∧ slots + ms ≤ Ro.slots) {st0 : List Value} (hst : st0 = As.reverse ++ .ref (q id) :: rest) (hrm : (rest.map fun v => v.category).sum ≤ 8) (hdg : decode cc pc = .ok (.invokevirtual idx, 3))
    (kk : ∀ (H1 : Heap) (locs1 : List Loc), Wd E q al' s.heap I' R' n' H1 locs1 → W p l e Ro s m args below meth c H1 locs1 (cells + mc) (slots + ms) Q (F0 m (pc + 3) ls (v.toList ++ rest))) : W p l e Ro s m args below meth c H locs cells slots Q (F0 m pc ls st0) := by
  have hts := C.2.2.2.2.1
  refine r_back (va_runV (C := r.1) (b := q id) (As := As) (bytes := bytes) (maxL := mL) (ret := rty) ⟨C.1, C.2.1, C.2.2.1, C.2.2.2.1, hts⟩ hM ⟨callB_of k hts (gG_callee M.1) rfl rfl rfl (hts _ M.2.1) (hts _ w1) M.2.2 hR, hts _ w2, hts _ w3⟩ ⟨Pre.blind, r_recv C hW hal hk hc, fun U hU hw => ⟨rfl, Pre.at C hW hU hw⟩⟩ rfl hn hl hst (lv_room (rest := st0) (pc := pc) (ls := ls) (m := m) hrm) hdg hcs) hW kk
theorem r_callS (C : CX p s m args meth c E cc own nL ret) {idx k : Nat} (M : MLx y bytes mL rty k) (w1 : Cond.methodLink own idx y ∈ gG) (w2 : Cond.static y ∈ gG) (hW : Wd E q al s.heap I R n H locs) (hl : ls.size = nL) (hM : Ct l y bytes mL rty L mc ms E q al I R n As v al' I' R' n') (hn : As.length = k) (hR : L + 1 ≤ Ro.frames ∧ 8 + (mL + 11) + 60 * L ≤ Ro.locals) (hcs : cells + mc ≤ Ro.cells ∧ slots + ms ≤ Ro.slots) {st0 : List Value} (hst : st0 = As.reverse ++ rest) (hrm : (rest.map fun v => v.category).sum ≤ 8) (hdg : decode cc pc = .ok (.invokestatic idx, 3))
    (kk : ∀ (H1 : Heap) (locs1 : List Loc), Wd E q al' s.heap I' R' n' H1 locs1 → W p l e Ro s m args below meth c H1 locs1 (cells + mc) (slots + ms) Q (F0 m (pc + 3) ls (v.toList ++ rest))) : W p l e Ro s m args below meth c H locs cells slots Q (F0 m pc ls st0) := by
  have hts := C.2.2.2.2.1
  refine r_back (va_runS (As := As) (bytes := bytes) (maxL := mL) (ret := rty) ⟨C.1, C.2.1, C.2.2.1, C.2.2.2.1, hts⟩ hM ⟨callB_of k hts (gG_callee M.1) rfl rfl rfl (hts _ M.2.1) (hts _ w1) M.2.2 hR, hts _ w2⟩ ⟨Pre.blind, fun U hU hw => ⟨rfl, Pre.at C hW hU hw⟩⟩ rfl hn hl hst (lv_room (rest := st0) (pc := pc) (ls := ls) (m := m) hrm) hdg hcs) hW kk
theorem r_callI (C : CX p s m args meth c E cc own nL ret) {idx k : Nat} (M : MLx y bytes mL none k) (w1 : Cond.methodLink own idx y ∈ gG) (w2 : Cond.instanceMethod y ∈ gG) (hy1 : y.name = "<init>") (hW : Wd E q al s.heap I R n H locs) (hl : ls.size = nL) (hM : Ct l y bytes mL none L mc ms E q al I R n (.ref (q id) :: As) v al' I' R' n') (hn : As.length = k) (hR : L + 1 ≤ Ro.frames ∧ 8 + (mL + 11) + 60 * L ≤ Ro.locals) (hcs : cells + mc ≤ Ro.cells ∧ slots + ms ≤ Ro.slots) {st0 : List Value} (hst : st0 = As.reverse ++ .ref (q id) :: rest) (hrm : (rest.map fun v => v.category).sum ≤ 8) (hdg : decode cc pc = .ok (.invokespecial idx, 3))
    (kk : ∀ (H1 : Heap) (locs1 : List Loc), Wd E q al' s.heap I' R' n' H1 locs1 → W p l e Ro s m args below meth c H1 locs1 (cells + mc) (slots + ms) Q (F0 m (pc + 3) ls (v.toList ++ rest))) : W p l e Ro s m args below meth c H locs cells slots Q (F0 m pc ls st0) := by
  have hts := C.2.2.2.2.1
  refine r_back (va_runI (b := q id) (As := As) (bytes := bytes) (maxL := mL) ⟨C.1, C.2.1, C.2.2.1, C.2.2.2.1, hts⟩ hM ⟨callB_of k hts (gG_callee M.1) rfl rfl rfl (hts _ M.2.1) (hts _ w1) M.2.2 hR, hy1, hts _ w2⟩ ⟨Pre.blind, fun U hU hw => ⟨rfl, Pre.at C hW hU hw⟩⟩ rfl hn hl hst (lv_room (rest := st0) (pc := pc) (ls := ls) (m := m) hrm) hdg hcs) hW kk
theorem r_callIN (C : CX p s m args meth c E cc own nL ret) {idx k : Nat} {host : String} (M : MLx y bytes mL none k) (w1 : (own, idx, y, host) ∈ nestL) (w2 : Cond.instanceMethod y ∈ gG) (hy1 : y.name = "<init>") (hW : Wd E q al s.heap I R n H locs) (hl : ls.size = nL) (hM : Ct l y bytes mL none L mc ms E q al I R n (.ref (q id) :: As) v al' I' R' n') (hn : As.length = k) (hR : L + 1 ≤ Ro.frames ∧ 8 + (mL + 11) + 60 * L ≤ Ro.locals) (hcs : cells + mc ≤ Ro.cells ∧ slots + ms ≤ Ro.slots) {st0 : List Value} (hst : st0 = As.reverse ++ .ref (q id) :: rest) (hrm : (rest.map fun v => v.category).sum ≤ 8) (hdg : decode cc pc = .ok (.invokespecial idx, 3))
    (kk : ∀ (H1 : Heap) (locs1 : List Loc), Wd E q al' s.heap I' R' n' H1 locs1 → W p l e Ro s m args below meth c H1 locs1 (cells + mc) (slots + ms) Q (F0 m (pc + 3) ls (v.toList ++ rest))) : W p l e Ro s m args below meth c H locs cells slots Q (F0 m pc ls st0) := by
  have hts := C.2.2.2.2.1
  refine r_back (va_runIN (b := q id) (As := As) (bytes := bytes) (maxL := mL) ⟨C.1, C.2.1, C.2.2.1, C.2.2.2.1, hts⟩ hM ⟨va_cnB k hts (gG_callee M.1) rfl rfl rfl (C.2.2.2.2.2.1.2.1 _ w1) (hts _ M.2.1) M.2.2 hR, hy1, hts _ w2⟩ ⟨Pre.blind, fun U hU hw => ⟨rfl, Pre.at C hW hU hw⟩⟩ rfl hn hl hst (lv_room (rest := st0) (pc := pc) (ls := ls) (m := m) hrm) hdg hcs) hW kk
theorem r_callSN (C : CX p s m args meth c E cc own nL ret) {idx k : Nat} {host : String} (M : MLx y bytes mL rty k) (w1 : (own, idx, y, host) ∈ nestL) (w2 : Cond.static y ∈ gG) (hW : Wd E q al s.heap I R n H locs) (hl : ls.size = nL) (hM : Ct l y bytes mL rty L mc ms E q al I R n As v al' I' R' n') (hn : As.length = k) (hR : L + 1 ≤ Ro.frames ∧ 8 + (mL + 11) + 60 * L ≤ Ro.locals) (hcs : cells + mc ≤ Ro.cells ∧ slots + ms ≤ Ro.slots) {st0 : List Value} (hst : st0 = As.reverse ++ rest) (hrm : (rest.map fun v => v.category).sum ≤ 8) (hdg : decode cc pc = .ok (.invokestatic idx, 3))
    (kk : ∀ (H1 : Heap) (locs1 : List Loc), Wd E q al' s.heap I' R' n' H1 locs1 → W p l e Ro s m args below meth c H1 locs1 (cells + mc) (slots + ms) Q (F0 m (pc + 3) ls (v.toList ++ rest))) : W p l e Ro s m args below meth c H locs cells slots Q (F0 m pc ls st0) := by
  have hts := C.2.2.2.2.1
  refine r_back (va_runSN (As := As) (bytes := bytes) (maxL := mL) (ret := rty) ⟨C.1, C.2.1, C.2.2.1, C.2.2.2.1, hts⟩ hM ⟨va_cnB k hts (gG_callee M.1) rfl rfl rfl (C.2.2.2.2.2.1.2.1 _ w1) (hts _ M.2.1) M.2.2 hR, hts _ w2, trivial⟩ ⟨Pre.blind, fun U hU hw => ⟨rfl, Pre.at C hW hU hw⟩⟩ rfl hn hl hst (lv_room (rest := st0) (pc := pc) (ls := ls) (m := m) hrm) hdg hcs) hW kk
/-! ends -/
theorem r_iret (C : CX p s m args meth c E cc own nL (some .int)) (hW : Wd E q al s.heap I R n H locs) {v : Int32} (hdg : decode cc pc = .ok (.ireturn, 1)) : W p l e Ro s m args below meth c H locs cells slots (MQ below (Pst E q (some (.int v)) al I R n) args s cells slots (Bs E)) (F0 m pc ls [.int v]) := by
  obtain ⟨hx, hb, hml, hown, hts, hK, hss, hbs, hr, hlk⟩ := C
  exact W.iret hx hb hr (fun t ht hw => ⟨rfl, by rw [ht]; exact hW.1, hW.2.F ht⟩) hW.2.2.2 hdg
theorem r_zret (C : CX p s m args meth c E cc own nL (some .boolean)) (hW : Wd E q al s.heap I R n H locs) {v : Int32} (hv : v = 0 ∨ v = 1) (hdg : decode cc pc = .ok (.ireturn, 1)) : W p l e Ro s m args below meth c H locs cells slots (MQ below (Pst E q (some (.int v)) al I R n) args s cells slots (Bs E)) (F0 m pc ls [.int v]) := by
  obtain ⟨hx, hb, hml, hown, hts, hK, hss, hbs, hr, hlk⟩ := C
  exact W.zret hx hb hr (by rcases hv with e | e <;> subst e <;> rfl) (fun t ht hw => ⟨rfl, by rw [ht]; exact hW.1, hW.2.F ht⟩) hW.2.2.2 hdg
theorem r_vret (C : CX p s m args meth c E cc own nL none) (hW : Wd E q al s.heap I R n H locs) (hdg : decode cc pc = .ok (.return_, 1)) : W p l e Ro s m args below meth c H locs cells slots (MQ below (Pst E q none al I R n) args s cells slots (Bs E)) (F0 m pc ls []) := by
  obtain ⟨hx, hb, hml, hown, hts, hK, hss, hbs, hr, hlk⟩ := C
  exact W.vret hx hb hr (fun t ht hw => ⟨rfl, by rw [ht]; exact hW.1, hW.2.F ht⟩) hW.2.2.2 hdg
theorem r_aret (C : CX p s m args meth c E cc own nL ret) {N : String} (hret : ret = some (.object N)) (hW : Wd E q al s.heap I R n H locs) {v : Value} (hv : v = .null ∨ ∃ a, v = .ref a) (hdg : decode cc pc = .ok (.areturn, 1)) : W p l e Ro s m args below meth c H locs cells slots (MQ below (Pst E q (some v) al I R n) args s cells slots (Bs E)) (F0 m pc ls [v]) := by
  subst hret
  obtain ⟨hx, hb, hml, hown, hts, hK, hss, hbs, hr, hlk⟩ := C
  exact W.aret hx hb hr (Or.inl ⟨_, rfl⟩) hv (fun t ht hw => ⟨rfl, by rw [ht]; exact hW.1, hW.2.F ht⟩) hW.2.2.2 hdg
/-! Math -/
theorem r_max (C : CX p s m args meth c E cc own nL ret) {idx : Nat} (w1 : Cond.methodLink own idx Lib.Math.max.name ∈ gG) (w2 : Cond.static Lib.Math.max.name ∈ gG) (w3 : Cond.initialized "java/lang/Math" ∈ gG) (w4 : Cond.code Lib.Math.max.name Lib.Math.max.code 2 (some .int) ∈ gG) (hl : ls.size = nL) (hR : 1 ≤ Ro.frames ∧ (rest.map fun v => v.category).sum + 13 ≤ Ro.locals ∧ cells ≤ Ro.cells ∧ slots ≤ Ro.slots) {x y : Int32} (hdg : decode cc pc = .ok (.invokestatic idx, 3))
    (kk : W p l e Ro s m args below meth c H locs cells slots Q (F0 m (pc + 3) ls (.int (if x < y then y else x) :: rest))) : W p l e Ro s m args below meth c H locs cells slots Q (F0 m pc ls (.int y :: .int x :: rest)) :=
  va_mmax C.1 C.2.1 (C.2.2.1.trans hl.symm) C.2.2.2.1 (C.2.2.2.2.1 _ w1) (C.2.2.2.2.1 _ w2) (C.2.2.2.2.1 _ w3) (C.2.2.2.2.1 _ w4) hR.1 hR.2.1 hR.2.2.1 hR.2.2.2 hdg kk
theorem r_min (C : CX p s m args meth c E cc own nL ret) {idx : Nat} (w1 : Cond.methodLink own idx Lib.Math.min.name ∈ gG) (w2 : Cond.static Lib.Math.min.name ∈ gG) (w3 : Cond.initialized "java/lang/Math" ∈ gG) (w4 : Cond.code Lib.Math.min.name Lib.Math.min.code 2 (some .int) ∈ gG) (hl : ls.size = nL) (hR : 1 ≤ Ro.frames ∧ (rest.map fun v => v.category).sum + 13 ≤ Ro.locals ∧ cells ≤ Ro.cells ∧ slots ≤ Ro.slots) {x y : Int32} (hdg : decode cc pc = .ok (.invokestatic idx, 3))
    (kk : W p l e Ro s m args below meth c H locs cells slots Q (F0 m (pc + 3) ls (.int (if y < x then y else x) :: rest))) : W p l e Ro s m args below meth c H locs cells slots Q (F0 m pc ls (.int y :: .int x :: rest)) :=
  va_mmin C.1 C.2.1 (C.2.2.1.trans hl.symm) C.2.2.2.1 (C.2.2.2.2.1 _ w1) (C.2.2.2.2.1 _ w2) (C.2.2.2.2.1 _ w3) (C.2.2.2.2.1 _ w4) hR.1 hR.2.1 hR.2.2.1 hR.2.2.2 hdg kk
theorem r_abs (C : CX p s m args meth c E cc own nL ret) {idx : Nat} (w1 : Cond.methodLink own idx Lib.Math.abs.name ∈ gG) (w2 : Cond.static Lib.Math.abs.name ∈ gG) (w3 : Cond.initialized "java/lang/Math" ∈ gG) (w4 : Cond.code Lib.Math.abs.name Lib.Math.abs.code 1 (some .int) ∈ gG) (hl : ls.size = nL) (hR : 1 ≤ Ro.frames ∧ (rest.map fun v => v.category).sum + 13 ≤ Ro.locals ∧ cells ≤ Ro.cells ∧ slots ≤ Ro.slots) {x : Int32} (hdg : decode cc pc = .ok (.invokestatic idx, 3))
    (kk : W p l e Ro s m args below meth c H locs cells slots Q (F0 m (pc + 3) ls (.int (if 0 ≤ x then x else 0 - x) :: rest))) : W p l e Ro s m args below meth c H locs cells slots Q (F0 m pc ls (.int x :: rest)) :=
  va_mabs C.1 C.2.1 (C.2.2.1.trans hl.symm) C.2.2.2.1 (C.2.2.2.2.1 _ w1) (C.2.2.2.2.1 _ w2) (C.2.2.2.2.1 _ w3) (C.2.2.2.2.1 _ w4) hR.1 hR.2.1 hR.2.2.1 hR.2.2.2 hdg kk
theorem r_obj (C : CX p s m args meth c E cc own nL ret) {idx : Nat} (w1 : Cond.methodLink own idx objectInit ∈ gG) (w2 : Cond.instanceMethod objectInit ∈ gG) (w3 : Cond.code objectInit ⟨#[0xb1]⟩ 1 none ∈ gG) (hl : ls.size = nL) (hR : 1 ≤ Ro.frames ∧ (rest.map fun v => v.category).sum + 12 ≤ Ro.locals) {a : Nat} (hdg : decode cc pc = .ok (.invokespecial idx, 3))
    (kk : W p l e Ro s m args below meth c H locs cells slots Q (F0 m (pc + 3) ls rest)) : W p l e Ro s m args below meth c H locs cells slots Q (F0 m pc ls (.ref a :: rest)) := by
  refine W.objInit C.1 C.2.1 C.2.2.2.1 (C.2.2.2.2.1 _ w1) (C.2.2.2.2.1 _ w2) (C.2.2.2.2.1 _ w3) rfl (by rw [C.2.2.1]; exact hl) rfl hdg hR.1 ?_ kk
  show 2 * 0 + _ + 12 ≤ _
  omega
/-! what a run says of its parts -/
end MAKE
def gd (P : Prop) [Decidable P] {β : Type} (x : Option β) : Option β := if P then x else none
theorem gd_some {P : Prop} [Decidable P] {β : Type} {x : Option β} {r : β} (h : gd P x = some r) : P ∧ x = some r := by
  unfold gd at h
  by_cases hP : P
  · rw [if_pos hP] at h; exact ⟨hP, h⟩
  · rw [if_neg hP] at h; cases h
def lt {α β : Type} (x : α) (f : α → Option β) : Option β := f x
theorem lt_some {α β : Type} {x : α} {f : α → Option β} {r : β} (h : lt x f = some r) : ∃ z, z = x ∧ f z = some r := ⟨x, rfl, h⟩
def bd {α β : Type} (x : Option α) (f : α → Option β) : Option β := match x with
  | none => none
  | some a => f a
theorem bd_some {α β : Type} {x : Option α} {f : α → Option β} {r : β} (h : bd x f = some r) : ∃ z, x = some z ∧ f z = some r := by
  cases x with
  | none => cases h
  | some a => exact ⟨a, rfl, h⟩
def mt {β : Type} (o : Option Nat) (x : Option β) (f : Nat → Option β) : Option β := match o with
  | none => x
  | some a => f a
theorem mt_cases {β : Type} {o : Option Nat} {x : Option β} {f : Nat → Option β} {r : β} (h : mt o x f = some r) : (o = none ∧ x = some r) ∨ ∃ a, o = some a ∧ f a = some r := by
  cases o with
  | none => exact Or.inl ⟨rfl, h⟩
  | some a => exact Or.inr ⟨a, rfl, h⟩
theorem vpD_iff (i : Int32) (k : Nat) : vp_in i k ↔ (¬ i < 0 ∧ i.toNatClampNeg < k) := by
  unfold vp_in
  constructor
  · intro h
    exact ⟨fun z => h (Or.inl z), Nat.not_le.mp fun z => h (Or.inr z)⟩
  · rintro ⟨h1, h2⟩ (z | z)
    · exact h1 z
    · omega
/-- an index that is in -/
abbrev ix (i : Int32) (k : Nat) : Prop := ¬ i < 0 ∧ i.toNatClampNeg < k
theorem ix_in {i : Int32} {k : Nat} (h : ix i k) : vp_in i k := (vpD_iff i k).mpr h
theorem kd5 {r : Nat} (h : kd r = 5) : r = 23 ∨ r = 26 := by
  have key : ∀ r, r < 157 → kd r = 5 → r = 23 ∨ r = 26 := by decide +kernel
  by_cases hr : r < 157
  · exact key r hr h
  · have : kd r = 99 := by
      unfold kd
      rw [List.getD_eq_getElem?_getD, List.getElem?_eq_none (by show 157 ≤ r; omega)]
      rfl
    omega
theorem fx5a {r : Nat} (h : kd r = 5) : fxt r 5 = some (r + 1) := by rcases kd5 h with e | e <;> subst e <;> rfl
theorem fx5b {r : Nat} (h : kd r = 5) : fxt r 6 = some (r + 2) := by rcases kd5 h with e | e <;> subst e <;> rfl
theorem ln5 {r : Nat} (h : kd r = 5) : ln (r + 1) = 8 ∧ ln (r + 2) = 8 := by rcases kd5 h with e | e <;> subst e <;> exact ⟨rfl, rfl⟩
theorem fxt_pool : ∀ id, id < 100 → 30 ≤ id → fxL.getD id [] = [] := by decide +kernel
theorem Fx.new {al : Nat → Bool} {R : MR} (h : Fx al R) {a : Nat} (h1 : a < 100) (h2 : 30 ≤ a) : Fx (alu al a) (zR R a) := by
  intro id k t h3 h4
  unfold alu at h3
  show (if id = a then none else R id k) = some t
  by_cases e : id = a
  · subst e
    unfold fxt at h4
    rw [fxt_pool id h1 h2] at h4
    cases h4
  · rw [if_neg e] at h3 ⊢
    exact h id k t h3 h4
