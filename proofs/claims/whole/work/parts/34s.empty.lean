/-! Part II: stepsToEmpty. -/
theorem cA_37 (a1 a2 a3 a4 a5 : Int32) {X : Nat → OS} {z : OS} (o : Nat → Int64) {fu : Nat} (hf : 5000 ≤ fu) (h : Inv X z) : OKS (cL_37 fu a1 a2 a3 a4 a5 X z o) := by
  obtain ⟨w, c, q⟩ := h.1
  have h6 := q.c60
  have h12 := q.w12
  have h1 := q.w1
  have i0 := h.z0 0
  have q0 : QR w c (X 1) ((sI z 0 0).2 1) := q
  have p12 := pw12 h12
  have t0 : (sI z 0 0).1 0 = 0 := sI_s _ _ _
  have nf := i1_ne0
  obtain ⟨yy, ec, sx⟩ := q_copy fu q.xc h6 (X 2)
  obtain ⟨y, ey, y1, _⟩ := m_copy (m1 := 917) (m2 := 917) (a := 0) (b := 0) (fu := fu) ((sI z 0 0).2 1) ((sI z 0 0).2 3) (by omega) (by omega) (by omega) (by omega) hf
  have ey' : fX9_copies_two fu 917 ((sI z 0 0).2 1) 917 ((sI z 0 0).2 3) 0 0 = some y := ey
  have fr1 : FR (sI z 0 0) (sA (sI z 0 0) 3 y) := ⟨⟨rfl, rfl, rfl, rfl, rfl⟩, rfl, rfl, rfl, rfl, rfl⟩
  have qk : QR w c yy ((sA (sI z 0 0) 3 y).2 1) := by
    rw [sA_o _ _ (by decide)]; exact q0.sx sx
  obtain ⟨r, c', x', sat', za, ea, ez, sf, qa⟩ := q_make (P := 60) (sat := X 21) (fu := fu) qk hf (by omega)
  have ea' : fX5_makeSteps fu (X 21) yy 60 = some (nI r, sat', x') := ea
  have ez' : fX9_steps fu (sA (sI z 0 0) 3 y) 60 = some (nI r, za) := ez
  have me := m_empty qa hf
  have qi := q_indexOf (x := x') qa.xc qa.c60 hf 0 0
  generalize hF : ff (fun i => decide (x'.2 0 i = 0) && decide (x'.2 1 i = 0)) c' 0 = F at me qi
  obtain ⟨y2, ey2, y3, _⟩ := m_copy (m1 := 917) (m2 := 917) (a := 0) (b := 0) (fu := fu) (za.2 3) (za.2 1) (by omega) (by omega) (by omega) (by omega) hf
  have ey2' : fX9_copies_two fu 917 (za.2 3) 917 (za.2 1) 0 0 = some y2 := ey2
  have e3 : za.2 3 = y := by rw [sf.a 3, sA_s]
  have fr2 : FR za (sA za 1 y2) := ⟨⟨rfl, rfl, rfl, rfl, rfl⟩, rfl, rfl, rfl, rfl, rfl⟩
  have qz : QR w c (X 1) ((sA za 1 y2).2 1) := by
    rw [sA_s]
    refine q0.cong (fun i hi => ?_)
    have a := y3 i (reg_lt h6 hi)
    have b := y1 i (reg_lt h6 hi)
    rw [Nat.zero_mul, Nat.zero_add] at a b
    rw [a, e3, b]
  have inv := i0.fr ((fr1.tr sf.fq.fr).tr fr2) qz
  have inv2 := (inv.up 2 x' (by omega)).up 21 sat' (by omega)
  by_cases g : F = -1
  · have e1 : fX8_stepsToEmpty fu (X 1) (X 2) (X 21) = some (-1, x', sat') := by
      unfold fX8_stepsToEmpty
      simp only [ec, bd_s, nm_d, ea', qi, g, not_true_eq_false, if_false]
    have e2 : fX9_stepsToEmpty fu z = some (-1, sA za 1 y2) := by
      unfold fX9_stepsToEmpty
      simp only [nm_d, ey', bd_s, ez', me, jn_d, g, if_true, ey2']
    unfold cL_37
    rw [e1, bd_s, e2, bd_s, if_pos rfl]
    exact ⟨_, _, o, rfl, inv2⟩
  · have e1 : fX8_stepsToEmpty fu (X 1) (X 2) (X 21) = some (nI r, x', sat') := by
      unfold fX8_stepsToEmpty
      simp only [ec, bd_s, nm_d, ea', qi, g, not_false_eq_true, if_true]
    have e2 : fX9_stepsToEmpty fu z = some (nI r, sA za 1 y2) := by
      unfold fX9_stepsToEmpty
      simp only [nm_d, ey', bd_s, ez', me, jn_d, g, if_false, i1_ne0, ey2']
    unfold cL_37
    rw [e1, bd_s, e2, bd_s, if_pos rfl]
    exact ⟨_, _, o, rfl, inv2⟩
