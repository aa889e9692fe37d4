/-! ===== which cells a part of the relation reads ===== -/
theorem p2_off {I : MI} {a k : Nat} {v : Int32} {b j : Nat} (h : b ≠ a ∨ j ≠ k) : p2 I a k v b j = I b j := by
  unfold p2
  by_cases e : b = a
  · rw [if_pos e, if_neg (by omega)]
  · rw [if_neg e]
theorem p2_hit {I : MI} {a k : Nat} {v : Int32} {b j : Nat} (h1 : b = a) (h2 : j = k) : p2 I a k v b j = v := by
  unfold p2
  rw [if_pos h1, if_pos h2]
section FRAME
variable {C M : MI} {R : MR} {nb nc lh r a k : Nat} {v : Int32}
theorem gS.pC (h : gS C M nb nc lh) (d : a ≠ 0 ∨ (k ≠ 1 ∧ k ≠ 3 ∧ k ≠ 4)) : gS (p2 C a k v) M nb nc lh := by
  unfold gS at h ⊢; simp (disch := omega) only [p2_off]; exact h
theorem gS.pM (h : gS C M nb nc lh) (d : a ≠ 100 ∨ (k ≠ 2 ∧ k ≠ 13)) : gS C (p2 M a k v) nb nc lh := by
  unfold gS at h ⊢; simp (disch := omega) only [p2_off]; exact h
theorem gM.pC (h : gM C M) (d : a ≠ 0 ∨ (k ≠ 6 ∧ k ≠ 7 ∧ k ≠ 8 ∧ k ≠ 9)) : gM (p2 C a k v) M := by
  unfold gM at h ⊢; simp (disch := omega) only [p2_off]; exact h
theorem gM.pM (h : gM C M) (d : a ≠ 100 ∨ (k ≠ 9 ∧ k ≠ 1 ∧ k ≠ 0 ∧ k ≠ 29)) : gM C (p2 M a k v) := by
  unfold gM at h ⊢; simp (disch := omega) only [p2_off]; exact h
theorem gP.pC (h : gP C M) (d : a ≠ 4 ∧ a ≠ 5) : gP (p2 C a k v) M := by
  unfold gP at h ⊢; simp (disch := omega) only [p2_off]; exact h
theorem gP.pM (h : gP C M) (d : a ≠ 112 ∧ a ≠ 113) : gP C (p2 M a k v) := by
  unfold gP at h ⊢; simp (disch := omega) only [p2_off]; exact h
theorem gT.pC (h : gT C M) (d : a ≠ 7 ∧ (a ≠ 6 ∨ k ≠ 1)) : gT (p2 C a k v) M := by
  unfold gT at h ⊢; simp (disch := omega) only [p2_off]; exact h
theorem gT.pM (h : gT C M) (d : a ≠ 131 ∧ (a ≠ 100 ∨ k ≠ 31)) : gT C (p2 M a k v) := by
  unfold gT at h ⊢; simp (disch := omega) only [p2_off]; exact h
theorem gL.pC (h : gL C M) (d : a ≠ 10) : gL (p2 C a k v) M := by
  unfold gL at h ⊢; simp (disch := omega) only [p2_off]; exact h
theorem gL.pM (h : gL C M) (d : a ≠ 100 ∨ k < 24 ∨ 28 < k) : gL C (p2 M a k v) := by
  unfold gL at h ⊢; simp (disch := omega) only [p2_off]; exact h
theorem bR.pC {i : Nat} (h : bR C M i) (d : a ≠ 30 + i) : bR (p2 C a k v) M i := by
  unfold bR at h ⊢; simp (disch := omega) only [p2_off]; exact h
theorem bR.pM {i : Nat} (h : bR C M i) (d : (a < 104 ∨ 109 < a) ∨ k ≠ i) : bR C (p2 M a k v) i := by
  unfold bR at h ⊢; simp (disch := omega) only [p2_off]; exact h
theorem gB.pC (h : gB C M nb) (hb : nb ≤ 4) (d : a < 30 ∨ 34 ≤ a) : gB (p2 C a k v) M nb := ⟨fun i hi => (h.1 i hi).pC (by omega), h.2⟩
theorem gB.pM (h : gB C M nb) (d : a < 104 ∨ 109 < a) : gB C (p2 M a k v) nb := by
  refine ⟨fun i hi => (h.1 i hi).pM (Or.inl d), ?_⟩
  have := h.2
  simp (disch := omega) only [p2_off]; exact this
theorem cR.pC {j : Nat} (h : cR C M j) (d : a ≠ 40 + j) : cR (p2 C a k v) M j := by
  unfold cR at h ⊢; simp (disch := omega) only [p2_off]; exact h
theorem cR.pM {j : Nat} (h : cR C M j) (d : (a < 115 ∨ 124 < a) ∨ k ≠ j) : cR C (p2 M a k v) j := by
  unfold cR at h ⊢; simp (disch := omega) only [p2_off]; exact h
theorem gC.pC (h : gC C M nc lh) (hb : nc ≤ 60) (d : a < 40 ∨ 100 ≤ a) : gC (p2 C a k v) M nc lh := ⟨fun j hj => (h.1 j hj).pC (by omega), h.2⟩
theorem gC.pM (h : gC C M nc lh) (d : a < 115 ∨ 124 < a) : gC C (p2 M a k v) nc lh := by
  refine ⟨fun i hi => (h.1 i hi).pM (Or.inl d), ?_⟩
  have := h.2
  simp (disch := omega) only [p2_off]; exact this
theorem gH.pC (h : gH C M R lh) : gH (p2 C a k v) M R lh := h
theorem gH.pM (h : gH C M R lh) (d : a ≠ 111 ∧ a ≠ 118 ∧ (a ≠ 100 ∨ k ≠ 9)) : gH C (p2 M a k v) R lh := by
  unfold gH at h ⊢; simp (disch := omega) only [p2_off]; exact h
theorem rR.pC (h : rR C M r) (d : a ≠ r ∧ a ≠ r + 1 ∧ a ≠ r + 2) : rR (p2 C a k v) M r := by
  unfold rR fR at h ⊢; simp (disch := omega) only [p2_off]; exact h
theorem gR.r2 (h : gR C M R r) : r = 23 ∨ r = 26 := by rcases h.2.1 with q | q <;> omega
theorem gR.pC (h : gR C M R r) (d : a < 23 ∨ 28 < a) : gR (p2 C a k v) M R r := ⟨h.1, h.2.1, h.2.2.pC (by rcases h.r2 with e | e <;> subst e <;> omega)⟩
theorem rR.pM (h : rR C M r) (d : a ≠ 143 ∧ a ≠ 138 ∧ a ≠ 139 ∧ (a ≠ 100 ∨ k ≠ 36)) : rR C (p2 M a k v) r := by
  unfold rR fR at h ⊢; simp (disch := omega) only [p2_off]; exact h
theorem gR.pM (h : gR C M R r) (d : a ≠ 143 ∧ a ≠ 138 ∧ a ≠ 139 ∧ (a ≠ 100 ∨ k ≠ 36)) : gR C (p2 M a k v) R r := ⟨h.1, h.2.1, h.2.2.pM d⟩
theorem gN.pC (h : gN C M) (d : a ≠ 20 ∧ a ≠ 21 ∧ (a ≠ 11 ∨ k ≠ 11)) : gN (p2 C a k v) M := by
  unfold gN at h ⊢; simp (disch := omega) only [p2_off]; exact h
theorem gN.pM (h : gN C M) (d : a ≠ 150 ∧ a ≠ 151 ∧ (a ≠ 100 ∨ (k ≠ 46 ∧ k ≠ 47))) : gN C (p2 M a k v) := by
  unfold gN at h ⊢; simp (disch := omega) only [p2_off]; exact h
theorem gW.pM (h : gW M) (d : a ≠ 145) : gW (p2 M a k v) := by
  unfold gW at h ⊢; simp (disch := omega) only [p2_off]; exact h
end FRAME
/-! ===== calls that set one number ===== -/
theorem K_air : LK_air LI := by
  intro q al I R n y0 h
  refine LK_of (f7 := fun C R => f_X7_air C R y0) (f8 := fun M R => f_X8_air M R y0) ?_ q al I R n h
  intro C M R al nb nc lh r hR hA
  rcases wi_cases y0 (-30) 50 with ⟨e, hn⟩ | ⟨e, h1, h2⟩
  · exact ⟨-100, C, M, nb, nc, lh, by simp only [f_X7_air, f7_in, bd_def, e, if_pos], by simp only [f_X8_air, f8_in, bd_def, e, if_pos], hR, hA, fc.rf, fm.rf⟩
  · obtain ⟨hS, hM, hP, hT, hLg, hB, hC, hH, hG, hN, hw⟩ := hR
    have hb := hS.2.2.2.2.2.1
    have hc := hS.2.2.2.2.2.2.1
    refine ⟨C 0 7, p2 C 0 7 y0, p2 M 100 1 y0, nb, nc, lh, by simp only [f_X7_air, f7_in, bd_def, lt_def, e, if_neg i10], by simp only [f_X8_air, f8_in, bd_def, lt_def, e, if_neg i10, hM.2.2.1], ⟨(hS.pC (by omega)).pM (by omega), ?_, (hP.pC (by omega)).pM (by omega), (hT.pC (by omega)).pM (by omega), (hLg.pC (by omega)).pM (by omega), (hB.pC hb (by omega)).pM (by omega), (hC.pC hc (by omega)).pM (by omega), hH.pC.pM (by omega), (hG.pC (by omega)).pM (by omega), (hN.pC (by omega)).pM (by omega), hw.pM (by omega)⟩, hA, fc.rf.p2 (by omega), fm.rf.p2 (by omega)⟩
    unfold gM at hM ⊢
    simp (disch := omega) only [p2_off, p2_hit]
    exact ⟨hM.1, hM.2.1, trivial, ⟨h1, h2⟩, hM.2.2.2.2⟩
