/-! ===== the memory: cells by their logical numbers ===== -/
abbrev EV : Type := va_G × (Nat → ClassId) × (Nat → Nat) × (Nat → Nat) × Nat
def Bs (E : EV) : Nat → Prop := fun x => E.2.2.2.2 ≤ x
abbrev MI : Type := Nat → Nat → Int32
abbrev MR : Type := Nat → Nat → Option Nat
def p2 (I : MI) (a j : Nat) (v : Int32) : MI := fun b k => if b = a then (if k = j then v else I b k) else I b k
def pq (R : MR) (a j : Nat) (v : Option Nat) : MR := fun b k => if b = a then (if k = j then v else R b k) else R b k
def zI (I : MI) (a : Nat) : MI := fun b k => if b = a then 0 else I b k
def zR (R : MR) (a : Nat) : MR := fun b k => if b = a then none else R b k
def alu (al : Nat → Bool) (a : Nat) : Nat → Bool := fun b => if b = a then true else al b
abbrev classes : List vw_C := [(RX0, TX0, 6), (RX1, TX1, 4), (RX2, TX2, 10), (RX3, TX3, 5), (RX4, TX4, 13), (RX5, TX5, 8), (RX6, TX6, 2), (RX7, TX7, 18), (RX8, TX8, 56)]
def nfL : List Nat := [6, 4, 10, 5, 13, 8, 2, 18, 56]
def nf (k : Nat) : Nat := nfL.getD k 0
def kdL : List Nat := [7, 12, 13, 13, 10, 11, 6, 9, 1, 11, 3, 4, 2, 12, 0, 0, 0, 0, 10, 10, 10, 10, 10, 5, 10, 10, 5, 10, 10, 99, 0, 0, 0, 0, 99, 99, 99, 99, 99, 99, 2, 2, 2, 2, 2, 2, 2, 2, 2, 2, 2, 2, 2, 2, 2, 2, 2, 2, 2, 2, 2, 2, 2, 2, 2, 2, 2, 2, 2, 2, 2, 2, 2, 2, 2, 2, 2, 2, 2, 2, 2, 2, 2, 2, 2, 2, 2, 2, 2, 2, 2, 2, 2, 2, 2, 2, 2, 2, 2, 2, 8, 99, 99, 99, 10, 10, 10, 10, 10, 11, 99, 10, 10, 11, 99, 10, 10, 10, 10, 10, 10, 10, 10, 10, 11, 99, 99, 99, 99, 99, 99, 9, 99, 99, 99, 99, 99, 99, 10, 10, 99, 10, 10, 10, 10, 9, 99, 99, 99, 99, 10, 10, 10, 10, 10, 10, 10]
def lnL : List Nat := [0, 4, 60, 2, 24, 24, 0, 200, 0, 6, 0, 0, 0, 4, 0, 0, 0, 0, 6, 6, 6, 6, 4, 0, 8, 8, 0, 8, 8, 0, 0, 0, 0, 0, 0, 0, 0, 0, 0, 0, 0, 0, 0, 0, 0, 0, 0, 0, 0, 0, 0, 0, 0, 0, 0, 0, 0, 0, 0, 0, 0, 0, 0, 0, 0, 0, 0, 0, 0, 0, 0, 0, 0, 0, 0, 0, 0, 0, 0, 0, 0, 0, 0, 0, 0, 0, 0, 0, 0, 0, 0, 0, 0, 0, 0, 0, 0, 0, 0, 0, 0, 0, 0, 0, 4, 4, 4, 4, 4, 4, 0, 2, 24, 24, 0, 60, 60, 60, 60, 60, 60, 60, 60, 60, 60, 0, 0, 0, 0, 0, 0, 200, 0, 0, 0, 0, 0, 0, 8, 8, 0, 8, 8, 5, 5, 36, 0, 0, 0, 0, 6, 6, 4, 6, 6, 4, 4]
def rsL : List (List Bool) := [[false, false, false, false, false, false], [true, false, false, true], [false, false, false, false, false, false, false, false, false, false], [false, false, false, false, false], [true, true, false, false, false, false, true, true, true, true, true, false, false], [false, false, false, false, false, true, true, false], [true, false], [true, false, true, false, false, true, false, false, false, false, true, true, true, true, true, true, true, true], [false, false, false, true, true, true, true, true, true, false, true, true, true, false, true, true, true, true, true, true, true, true, true, true, false, false, false, false, false, false, true, false, false, false, false, false, false, true, true, false, true, true, true, true, true, false, false, false, false, true, true, true, true, true, true, true]]
def rtL : List (List Nat) := [[99, 99, 99, 99, 99, 99], [6, 99, 99, 11], [99, 99, 99, 99, 99, 99, 99, 99, 99, 99], [99, 99, 99, 99, 99], [2, 12, 99, 99, 99, 99, 10, 10, 10, 10, 10, 99, 99], [99, 99, 99, 99, 99, 10, 10, 99], [9, 99], [12, 99, 13, 99, 99, 13, 99, 99, 99, 99, 10, 11, 6, 1, 3, 4, 5, 5], [99, 99, 99, 10, 10, 10, 10, 10, 11, 99, 10, 10, 11, 99, 10, 10, 10, 10, 10, 10, 10, 10, 10, 11, 99, 99, 99, 99, 99, 99, 9, 99, 99, 99, 99, 99, 99, 10, 10, 99, 10, 10, 10, 10, 9, 99, 99, 99, 99, 10, 10, 10, 10, 10, 10, 10]]
def fxL : List (List (Option Nat)) := [[some 1, none, some 2, none, none, some 3, none, none, none, none, some 4, some 5, some 6, some 8, some 10, some 11], [], [], [], [], [], [some 7], [], [some 6, none, none, some 9], [], [], [some 12, some 13, none, none, none, none, some 18, some 19, some 20, some 21, some 22], [], [some 14, some 15, some 16, some 17], [], [], [], [], [], [], [], [], [], [none, none, none, none, none, some 24, some 25], [], [], [none, none, none, none, none, some 27, some 28], [], [], [], [], [], [], [], [], [], [], [], [], [], [], [], [], [], [], [], [], [], [], [], [], [], [], [], [], [], [], [], [], [], [], [], [], [], [], [], [], [], [], [], [], [], [], [], [], [], [], [], [], [], [], [], [], [], [], [], [], [], [], [], [], [], [], [], [], [], [], [], [], [], [none, none, none, some 104, some 105, some 106, some 107, some 108, some 109, none, some 111, some 112, some 113, none, some 115, some 116, some 117, some 118, some 119, some 120, some 121, some 122, some 123, some 124, none, none, none, none, none, none, some 131, none, none, none, none, none, none, some 138, some 139, none, some 141, some 142, some 143, some 144, some 145, none, none, none, none, some 150, some 151, some 152, some 153, some 154, some 155, some 156], [], [], [], [], [], [], [], [], [], [], [], [], [], [], [], [], [], [], [], [], [], [], [], [], [], [], [], [], [], [], [], [], [], [], [], [], [], [], [], [], [], [], [], [], [], [], [], [], [], [], [], [], [], [], [], []]
def kd (id : Nat) : Nat := kdL.getD id 99
def ln (id : Nat) : Nat := lnL.getD id 0
def rs (k j : Nat) : Bool := (rsL.getD k []).getD j false
/-- the kind of what a slot refers to -/
def rt (k j : Nat) : Nat := if k = 12 then 0 else if k = 13 then 2 else (rtL.getD k []).getD j 99
/-- links that never change once the object is made -/
def fxt (id j : Nat) : Option Nat := (fxL.getD id []).getD j none
/-- what a cell holds -/
def cV (q : Nat → Nat) (I : MI) (R : MR) (id : Nat) : Nat → Value := fun j => if rs (kd id) j = true then va_rf ((R id j).map q) else .int (I id j)
def cAt (E : EV) (q : Nat → Nat) (I : MI) (R : MR) (id : Nat) (H : Heap) : Prop :=
  (kd id < 9 → t_OB (q id) (E.1.1 (kd id)) (nf (kd id)) (E.1.2 (kd id)) H (cV q I R id)) ∧
  (¬ kd id < 9 → kd id < 12 → H[q id]? = some (arrV (E.2.1 (kd id)) (ln id) (fun j => .int (I id j)))) ∧
  (¬ kd id < 9 → ¬ kd id < 12 → H[q id]? = some (arrV (E.2.1 (kd id)) (ln id) (fun j => va_rf ((R id j).map q))))
theorem cAt.kept {E : EV} {q : Nat → Nat} {I : MI} {R : MR} {id : Nat} {H H1 : Heap} (h : cAt E q I R id H) (hq : H1[q id]? = H[q id]?) : cAt E q I R id H1 :=
  ⟨fun a => (h.1 a).kept hq, fun a b => hq.trans (h.2.1 a b), fun a b => hq.trans (h.2.2 a b)⟩
theorem cAt.lt {E : EV} {q : Nat → Nat} {I : MI} {R : MR} {id : Nat} {H : Heap} (h : cAt E q I R id H) : q id < H.size := by
  by_cases h9 : kd id < 9
  · obtain ⟨cell, h2, -⟩ := h.1 h9
    exact (Array.getElem?_eq_some_iff.mp h2).1
  · by_cases h12 : kd id < 12
    · exact (Array.getElem?_eq_some_iff.mp (h.2.1 h9 h12)).1
    · exact (Array.getElem?_eq_some_iff.mp (h.2.2 h9 h12)).1
theorem cAt.cong {E : EV} {q q' : Nat → Nat} {I I' : MI} {R R' : MR} {id : Nat} {H : Heap} (h : cAt E q I R id H) (hq : q' id = q id) (hI : ∀ j, I' id j = I id j) (hR : ∀ j, (R' id j).map q' = (R id j).map q) : cAt E q' I' R' id H := by
  have e1 : cV q' I' R' id = cV q I R id := by
    funext j
    simp only [cV, hI, hR]
  have e2 : (fun j => Value.int (I' id j)) = (fun j => Value.int (I id j)) := by funext j; rw [hI]
  have e3 : (fun j => va_rf ((R' id j).map q')) = (fun j => va_rf ((R id j).map q)) := by funext j; rw [hR]
  refine ⟨fun a => ?_, fun a b => ?_, fun a b => ?_⟩
  · rw [e1, hq]; exact h.1 a
  · rw [e2, hq]; exact h.2.1 a b
  · rw [e3, hq]; exact h.2.2 a b
/-- the cells are apart, new enough, and refer to cells that are there, of the right kind -/
def Oq (E : EV) (q : Nat → Nat) (al : Nat → Bool) (R : MR) : Prop :=
  (∀ i j, al i = true → al j = true → q i = q j → i = j) ∧ (∀ i, al i = true → Bs E (q i)) ∧ (∀ i j t, al i = true → R i j = some t → al t = true ∧ kd t = rt (kd i) j)
def St (E : EV) (q : Nat → Nat) (al : Nat → Bool) (I : MI) (R : MR) (n : Nat) (H : Heap) : Prop :=
  (∀ id, al id = true → cAt E q I R id H) ∧ Oq E q al R ∧ H.size = n
def Wd (E : EV) (q : Nat → Nat) (al : Nat → Bool) (H0 : Heap) (I : MI) (R : MR) (n : Nat) (H : Heap) (locs : List Loc) : Prop :=
  St E q al I R n H ∧ va_S (Bs E) H0 H locs
/-- the links that never change -/
def Fx (al : Nat → Bool) (R : MR) : Prop := ∀ id j t, al id = true → fxt id j = some t → R id j = some t
theorem Fx.pq {al : Nat → Bool} {R : MR} (h : Fx al R) {a j : Nat} {v : Option Nat} (ha : fxt a j = none) : Fx al (pq R a j v) := by
  intro id k t h1 h2
  show (if id = a then (if k = j then v else R id k) else R id k) = some t
  by_cases e1 : id = a
  · by_cases e2 : k = j
    · subst e1; subst e2; rw [ha] at h2; cases h2
    · rw [if_pos e1, if_neg e2]; exact h id k t h1 h2
  · rw [if_neg e1]; exact h id k t h1 h2
theorem Wd.cl {E : EV} {q : Nat → Nat} {al : Nat → Bool} {H0 : Heap} {I : MI} {R : MR} {n : Nat} {H : Heap} {locs : List Loc} (h : Wd E q al H0 I R n H locs) {i j t : Nat} (hi : al i = true) (hr : R i j = some t) : al t = true := (h.1.2.1.2.2 i j t hi hr).1
theorem Wd.kn {E : EV} {q : Nat → Nat} {al : Nat → Bool} {H0 : Heap} {I : MI} {R : MR} {n : Nat} {H : Heap} {locs : List Loc} (h : Wd E q al H0 I R n H locs) {i j t c : Nat} (hi : al i = true) (hr : R i j = some t) (hc : rt (kd i) j = c) : kd t = c := (h.1.2.1.2.2 i j t hi hr).2.trans hc
/-- one cell has changed -/
theorem Wd.step {E : EV} {q : Nat → Nat} {al : Nat → Bool} {H0 : Heap} {I I' : MI} {R R' : MR} {n : Nat} {H H1 : Heap} {locs : List Loc} {id k : Nat} (h : Wd E q al H0 I R n H locs) (hal : al id = true) (hs : H1.size = H.size) (ho : ∀ x, x ≠ q id → H1[x]? = H[x]?) (hc : cAt E q I' R' id H1)
    (hI : ∀ b j, b ≠ id → I' b j = I b j) (hR : ∀ b j, b ≠ id → R' b j = R b j) (hT : ∀ j t, R' id j = some t → al t = true ∧ kd t = rt (kd id) j) : Wd E q al H0 I' R' n H1 (locs ++ [⟨q id, k⟩]) := by
  obtain ⟨⟨h1, ⟨o1, o2, o3⟩, h3⟩, h4⟩ := h
  refine ⟨⟨fun b hb => ?_, ⟨o1, o2, fun i j t hi hr => ?_⟩, hs.trans h3⟩, h4.put hs ho (o2 id hal)⟩
  · by_cases e : b = id
    · subst e; exact hc
    · have e2 : q b ≠ q id := fun z => e (o1 b id hb hal z)
      exact ((h1 b hb).kept (ho _ e2)).cong rfl (fun j => hI b j e) (fun j => by rw [hR b j e])
  · by_cases e : i = id
    · subst e; exact hT j t hr
    · rw [hR i j e] at hr; exact o3 i j t hi hr
theorem p2_ne {I : MI} {a j : Nat} {v : Int32} {b k : Nat} (h : b ≠ a) : p2 I a j v b k = I b k := if_neg h
theorem pq_ne {R : MR} {a j : Nat} {v : Option Nat} {b k : Nat} (h : b ≠ a) : pq R a j v b k = R b k := if_neg h
theorem p2_at {I : MI} {a j : Nat} {v : Int32} {k : Nat} : p2 I a j v a k = if k = j then v else I a k := if_pos rfl
theorem pq_at {R : MR} {a j : Nat} {v : Option Nat} {k : Nat} : pq R a j v a k = if k = j then v else R a k := if_pos rfl
/-! ===== what a state knows besides its heap ===== -/
def tysL (E : EV) : List (ClassId × FieldType) := [(E.2.1 9, .byte), (E.2.1 10, .int), (E.2.1 11, .boolean), (E.2.1 12, .object "GasYard$Bank"), (E.2.1 13, .object "GasYard$Car")]
def nestL : List (String × Nat × MethodName × String) := [(RX7, 56, yX6_init, "GasYard"), (RX7, 72, yX3_init, "GasYard"), (RX7, 86, yX5_init, "GasYard"), (RX7, 98, yX0_init, "GasYard"), (RX7, 145, yX2_init, "GasYard"), (RX1, 125, yX7_within, "GasYard"), (RX4, 11, yX2_init, "GasYard"), (RX4, 59, yX0_init, "GasYard")]
def KK (E : EV) (U : State) : Prop := va_K E.1 classes (tysL E) U ∧ (∀ w ∈ nestL, va_Nw (.methodLinkNest w.1 w.2.1 w.2.2.1 w.2.2.2) U) ∧ va_AO "GasYard$Bank" U ∧ va_AO "GasYard$Car" U
theorem KK.warm {E : EV} {s U : State} (hW : s.WarmedH U.vm) (h : KK E s) : KK E U := ⟨va_K.moved hW.alike h.1, fun w hw => va_Nw.warmM hW (h.2.1 w hw), h.2.2.1.moved hW.alike, h.2.2.2.moved hW.alike⟩
theorem KK.same {E : EV} {s U : State} (hv : s.vm = U.vm) (h : KK E s) : KK E U := by
  have ha : s.vm.Alike U.vm := by rw [hv]; exact Vm.Alike.refl _
  exact ⟨va_K.moved ha h.1, fun w hw => va_Nw.same rfl hv (h.2.1 w hw), h.2.2.1.moved ha, h.2.2.2.moved ha⟩
def lenS : List Nat := [4, 4, 4, 5, 5, 6]
def bytS : List (List Int32) := [[102, 108, 111, 119], [119, 97, 114, 109], [99, 111, 111, 108], [108, 105, 109, 105, 116], [112, 114, 101, 115, 115], [115, 119, 105, 116, 99, 104]]
def strL : List (Nat × String) := [(117, "flow"), (119, "warm"), (120, "cool"), (121, "limit"), (122, "press"), (123, "switch")]
def ST (E : EV) (U : State) (H : Heap) : Prop := vk_S 6 lenS bytS E.2.2.1 E.2.2.2.1 (Bs E) U H ∧ (∀ i x, strL[i]? = some x → vk_R "GasYard$BookReader" x.1 x.2 (E.2.2.1 i) U) ∧ va_Z "java/lang/String" "COMPACT_STRINGS" "Z" (.int 1) (Bs E) U H ∧ va_Zq "jdk/internal/util/Preconditions" "SIOOBE_FORMATTER" "Ljava/util/function/BiFunction;" (Bs E) U H
theorem ST.warm {E : EV} {s U : State} {H : Heap} (hW : s.WarmedH U.vm) (h : ST E s H) : ST E U H := ⟨h.1.moved hW.alike, fun i x hx => (h.2.1 i x hx).warm hW, h.2.2.1.moved hW.alike, h.2.2.2.moved hW.alike⟩
theorem ST.same {E : EV} {s U : State} {H : Heap} (hv : s.vm = U.vm) (h : ST E s H) : ST E U H := by
  have ha : s.vm.Alike U.vm := by rw [hv]; exact Vm.Alike.refl _
  exact ⟨h.1.moved ha, fun i x hx => (h.2.1 i x hx).same hv.symm, h.2.2.1.moved ha, h.2.2.2.moved ha⟩
theorem ST.kept {E : EV} {s : State} {H H1 : Heap} (h : ST E s H) (hq : ∀ a : Nat, a < H.size → ¬ Bs E a → H1[a]? = H[a]?) : ST E s H1 := ⟨h.1.kept hq, h.2.1, h.2.2.1.kept hq, h.2.2.2.kept hq⟩
/-- a method's start -/
def Pre (E : EV) (q : Nat → Nat) (al : Nat → Bool) (I : MI) (R : MR) (n : Nat) (U : State) : Prop := St E q al I R n U.heap ∧ E.2.2.2.2 ≤ U.heap.size ∧ KK E U ∧ ST E U U.heap
/-- a method's end -/
def Pst (E : EV) (q : Nat → Nat) (v : Option Value) (al : Nat → Bool) (I : MI) (R : MR) (n : Nat) : Array Value → State → Outcome → State → Prop := fun _ st oc t => oc = .returned v ∧ St E q al I R n t.heap ∧ va_F (Bs E) st t
def rmL (L mc ms : Nat) : Room := { frames := L, cells := mc, slots := ms, locals := 60 * L }
/-- a method's contract: y in room level L, from (al, I, R, n) with arguments av to the answer v and (al', I', R', n') -/
def Ct (l : Launch) (y : MethodName) (cc : ByteArray) (mL : Nat) (ret : Option FieldType) (L mc ms : Nat) (E : EV) (q : Nat → Nat) (al : Nat → Bool) (I : MI) (R : MR) (n : Nat) (av : List Value) (v : Option Value) (al' : Nat → Bool) (I' : MI) (R' : MR) (n' : Nat) : Prop :=
  Met l y (Cond.code y cc mL ret :: gG) (rmL L mc ms) (va_Pc av (Pre E q al I R n)) (Pst E q v al' I' R' n') mc ms (Bs E)
/-- what holds all along a method -/
def CX (p : Program) (s : State) (m : MethodId) (args : Array Value) (meth : Method) (c : Code) (E : EV) (cc : ByteArray) (own : String) (nL : Nat) (ret : Option FieldType) : Prop :=
  p.tables.exec = Jvm.exec ∧ c.code = cc ∧ c.maxLocals = nL ∧ s.vm.findClass own = some m.cls ∧ (∀ w ∈ gG, w.before args s = true) ∧ KK E s ∧ ST E s s.heap ∧ E.2.2.2.2 ≤ s.heap.size ∧ meth.sig.returnType = ret ∧ meth.locks = false
/-- from a method's entry -/
theorem Ct.of {l : Launch} {y : MethodName} {cc : ByteArray} {mL : Nat} {ret : Option FieldType} {L mc ms : Nat} {E : EV} {q : Nat → Nat} {al : Nat → Bool} {I : MI} {R : MR} {n : Nat} {av : List Value} {v : Option Value} {al' : Nat → Bool} {I' : MI} {R' : MR} {n' : Nat} {own : String} {mn : String} (hy : plainName y.cls = true) (ho : y.cls = own) (hmn : y.name = mn) (hle : (lg_sl av).length ≤ mL)
    (body : ∀ (p : Program) (e : Env) (s : State) (m : MethodId) (args : Array Value) (below : List Frame) (meth : Method) (c : Code) (ls : Array Slot), CX p s m args meth c E cc own mL ret → meth.name = mn → args = av.toArray → Wd E q al s.heap I R n s.heap [] → lv_has ls mL (lv_args 0 av) → W p l e (rmL L mc ms) s m args below meth c s.heap [] 0 0 (MQ below (Pst E q v al' I' R' n') args s mc ms (Bs E)) (F0 m 0 ls [])) :
    Ct l y cc mL ret L mc ms E q al I R n av v al' I' R' n' := by
  refine Met.ofW (cc := cc) (maxL := mL) (ret := ret) hy rfl ?_
  intro p e s m args below meth c s₁ B hml hv
  obtain ⟨ha, hst, hbs, hkk, hss⟩ := hv
  have hts := atoms_spec (ws := (Cond.code y cc mL ret :: gG)) B.pre
  have hown : s.vm.findClass y.cls = some m.cls := findClass_of_methodNamed B.named
  rw [ho] at hown
  have hl := lv_entry av (n := mL) hle
  have hnm : meth.name = mn := (name_of_methodNamed B.named B.method).1.trans hmn
  have key := body p e s m args below meth c _ ⟨B.exec, B.bytes, hml, hown, fun w hw => hts w (List.mem_cons_of_mem _ hw), hkk, hss, hbs, B.returns, B.notSynchronized⟩ hnm ha ⟨hst, va_S.rf⟩ hl
  subst ha
  rw [lg_entry_eq]
  exact key
