/-! Part II: what holds between two calls, and the cases that only read. -/
def SL (X : Nat → OS) (z : OS) (k : Nat) : Prop := (X 20).2 0 k = z.2 6 k ∧ (¬ z.2 6 k = 0 → ∃ w c, QR w c (X (18 + k)) (fun i => z.2 5 (k * 917 + i)))
/-- between two calls -/
def Inv (X : Nat → OS) (z : OS) : Prop := (∃ w c, QR w c (X 1) (z.2 1)) ∧ (∃ L, TB L (X 4) z) ∧ ((X 3).1 4 = z.1 18 ∧ (X 3).1 5 = z.1 17) ∧ HI (X 8) (fun k => X (9 + k)) z ∧ (∀ k, k < 2 → SL X z k) ∧ ∃ n, OB n (X 23) z
/-- what a call changes only there -/
def FR (z z' : OS) : Prop := (z'.1 7 = z.1 7 ∧ z'.1 16 = z.1 16 ∧ z'.1 17 = z.1 17 ∧ z'.1 18 = z.1 18 ∧ z'.1 26 = z.1 26) ∧ z'.2 4 = z.2 4 ∧ z'.2 5 = z.2 5 ∧ z'.2 6 = z.2 6 ∧ z'.2 15 = z.2 15 ∧ z'.2 25 = z.2 25
theorem FQ.fr {z z' : OS} (a : FQ z z') : FR z z' := ⟨⟨a.i 7, a.i 16, a.i 17, a.i 18, a.i 26⟩, a.a 4, a.a 5, a.a 6, a.a 15, a.a 25⟩
theorem TB.fr {n : Nat} {y z z' : OS} (h : TB n y z) (a : FR z z') : TB n y z' := ⟨h.1, a.1.2.1.trans h.2.1, h.2.2.1, fun i hi => by rw [a.2.2.2.2.1]; exact h.2.2.2 i hi⟩
theorem OB.fr {n : Nat} {y z z' : OS} (h : OB n y z) (a : FR z z') : OB n y z' := ⟨h.1, a.1.2.2.2.2.trans h.2.1, h.2.2.1, fun i hi => by rw [a.2.2.2.2.2]; exact h.2.2.2 i hi⟩
theorem SL.fr {X : Nat → OS} {z z' : OS} {k : Nat} (h : SL X z k) (a : FR z z') : SL X z' k := by
  unfold SL; rw [a.2.2.2.1, a.2.2.1]; exact h
theorem Inv.fr {X : Nat → OS} {z z' : OS} (h : Inv X z) (a : FR z z') {w c : Nat} (q : QR w c (X 1) (z'.2 1)) : Inv X z' := by
  obtain ⟨_, ⟨L, hT⟩, hE, hH, hS, ⟨n, hO⟩⟩ := h
  exact ⟨⟨w, c, q⟩, ⟨L, hT.fr a⟩, ⟨hE.1.trans a.1.2.2.2.1.symm, hE.2.trans a.1.2.2.1.symm⟩, hH.fr a.1.1 a.2.1, fun k hk => (hS k hk).fr a, ⟨n, hO.fr a⟩⟩
theorem Inv.up {X : Nat → OS} {z : OS} (h : Inv X z) (k : Nat) (y : OS) (hk : k = 2 ∨ k = 5 ∨ k = 6 ∨ k = 7 ∨ k = 21 ∨ k = 22) : Inv (upX X k y) z := by
  have e : ∀ j, (j = 1 ∨ j = 3 ∨ j = 4 ∨ (8 ≤ j ∧ j ≤ 16) ∨ (18 ≤ j ∧ j ≤ 20) ∨ j = 23) → upX X k y j = X j := fun j hj => upX_o X y (by omega)
  obtain ⟨hQ, hT, hE, ⟨d, nx, hd, hn, r1, r2, r3, hr⟩, hS, hO⟩ := h
  refine ⟨?_, ?_, ?_, ⟨d, nx, hd, hn, ?_, ?_, r3, fun j hj => ?_⟩, fun j hj => ?_, ?_⟩
  · rw [e 1 (by omega)]; exact hQ
  · rw [e 4 (by omega)]; exact hT
  · rw [e 3 (by omega)]; exact hE
  · rw [e 8 (by omega)]; exact r1
  · rw [e 8 (by omega)]; exact r2
  · have := hr j hj
    show ∃ w c, QR w c (upX X k y (9 + (nx + 8 - d + j) % 8)) _
    rw [e _ (by omega)]; exact this
  · unfold SL
    rw [e 20 (by omega), e (18 + j) (by omega)]; exact hS j hj
  · rw [e 23 (by omega)]; exact hO
theorem frI (z : OS) (v : Int32) : FR z (sI z 0 v) := ⟨⟨rfl, rfl, rfl, rfl, rfl⟩, rfl, rfl, rfl, rfl, rfl⟩
theorem FR.tr {z z' z'' : OS} (a : FR z z') (b : FR z' z'') : FR z z'' := ⟨⟨b.1.1.trans a.1.1, b.1.2.1.trans a.1.2.1, b.1.2.2.1.trans a.1.2.2.1, b.1.2.2.2.1.trans a.1.2.2.2.1, b.1.2.2.2.2.trans a.1.2.2.2.2⟩, b.2.1.trans a.2.1, b.2.2.1.trans a.2.2.1, b.2.2.2.1.trans a.2.2.2.1, b.2.2.2.2.1.trans a.2.2.2.2.1, b.2.2.2.2.2.trans a.2.2.2.2.2⟩
theorem Inv.z0 {X : Nat → OS} {z : OS} (h : Inv X z) (v : Int32) : Inv X (sI z 0 v) := by
  obtain ⟨w, c, q⟩ := h.1
  exact h.fr (frI z v) q
def OKS (r : Option ((Nat → OS) × OS × (Nat → Int64))) : Prop := ∃ X' z' o', r = some (X', z', o') ∧ Inv X' z'
theorem cA_4 (a1 a2 a3 a4 a5 : Int32) {X : Nat → OS} {z : OS} (o : Nat → Int64) {fu : Nat} (hf : 5000 ≤ fu) (h : Inv X z) : OKS (cL_4 fu a1 a2 a3 a4 a5 X z o) := by
  obtain ⟨w, c, q⟩ := h.1
  have h6 := q.c60
  have h12 := q.w12
  have h1 := q.w1
  have i0 := h.z0 0
  have q0 : QR w c (X 1) ((sI z 0 0).2 1) := q
  have p12 := pw12 h12
  have e1 : fX8_parseError fu (X 3) = some (z.1 18) := by
    unfold fX8_parseError
    rw [h.2.2.1.1]
  have e2 : fX9_parseError fu z  = some (z.1 18, sI z 0 0) := by
    unfold fX9_parseError
    rw [nm_d]
    rfl
  unfold cL_4
  rw [e1, bd_s, e2, bd_s, if_pos rfl]
  exact ⟨_, _, _, rfl, i0⟩
theorem cA_5 (a1 a2 a3 a4 a5 : Int32) {X : Nat → OS} {z : OS} (o : Nat → Int64) {fu : Nat} (hf : 5000 ≤ fu) (h : Inv X z) : OKS (cL_5 fu a1 a2 a3 a4 a5 X z o) := by
  obtain ⟨w, c, q⟩ := h.1
  have h6 := q.c60
  have h12 := q.w12
  have h1 := q.w1
  have i0 := h.z0 0
  have q0 : QR w c (X 1) ((sI z 0 0).2 1) := q
  have p12 := pw12 h12
  have e1 : fX8_parseErrorPosition fu (X 3) = some (z.1 17) := by
    unfold fX8_parseErrorPosition
    rw [h.2.2.1.2]
  have e2 : fX9_parseErrorPosition fu z  = some (z.1 17, sI z 0 0) := by
    unfold fX9_parseErrorPosition
    rw [nm_d]
    rfl
  unfold cL_5
  rw [e1, bd_s, e2, bd_s, if_pos rfl]
  exact ⟨_, _, _, rfl, i0⟩
theorem cA_6 (a1 a2 a3 a4 a5 : Int32) {X : Nat → OS} {z : OS} (o : Nat → Int64) {fu : Nat} (hf : 5000 ≤ fu) (h : Inv X z) : OKS (cL_6 fu a1 a2 a3 a4 a5 X z o) := by
  obtain ⟨w, c, q⟩ := h.1
  have h6 := q.c60
  have h12 := q.w12
  have h1 := q.w1
  have i0 := h.z0 0
  have q0 : QR w c (X 1) ((sI z 0 0).2 1) := q
  have p12 := pw12 h12
  have e1 : fX8_variableCount fu (X 1) = some (nI w) := by
    unfold fX8_variableCount
    rw [q.xw]
  have e2 : fX9_variableCount fu z  = some (nI w, sI z 0 0) := by
    unfold fX9_variableCount
    rw [nm_d]
    rw [wide_e q0.mw, bd_s]
  unfold cL_6
  rw [e1, bd_s, e2, bd_s, if_pos rfl]
  exact ⟨_, _, _, rfl, i0⟩
theorem cA_7 (a1 a2 a3 a4 a5 : Int32) {X : Nat → OS} {z : OS} (o : Nat → Int64) {fu : Nat} (hf : 5000 ≤ fu) (h : Inv X z) : OKS (cL_7 fu a1 a2 a3 a4 a5 X z o) := by
  obtain ⟨w, c, q⟩ := h.1
  have h6 := q.c60
  have h12 := q.w12
  have h1 := q.w1
  have i0 := h.z0 0
  have q0 : QR w c (X 1) ((sI z 0 0).2 1) := q
  have p12 := pw12 h12
  have e1 : fX8_clauseCount fu (X 1) = some (nI c) := by
    unfold fX8_clauseCount
    rw [q.xc]
  have e2 : fX9_clauseCount fu z  = some (nI c, sI z 0 0) := by
    unfold fX9_clauseCount
    rw [nm_d]
    rw [many_e q0.mc, bd_s]
  unfold cL_7
  rw [e1, bd_s, e2, bd_s, if_pos rfl]
  exact ⟨_, _, _, rfl, i0⟩
theorem cA_20 (a1 a2 a3 a4 a5 : Int32) {X : Nat → OS} {z : OS} (o : Nat → Int64) {fu : Nat} (hf : 5000 ≤ fu) (h : Inv X z) : OKS (cL_20 fu a1 a2 a3 a4 a5 X z o) := by
  obtain ⟨w, c, q⟩ := h.1
  have h6 := q.c60
  have h12 := q.w12
  have h1 := q.w1
  have i0 := h.z0 0
  have q0 : QR w c (X 1) ((sI z 0 0).2 1) := q
  have p12 := pw12 h12
  have e1 : fX8_emptyClause fu (X 1) = some (ff (fun i => decide ((X 1).2 0 i = 0) && decide ((X 1).2 1 i = 0)) c 0) := by
    unfold fX8_emptyClause
    rw [q_indexOf q.xc h6 hf, bd_s]
  have e2 : fX9_emptyClause fu z  = some (ff (fun i => decide ((X 1).2 0 i = 0) && decide ((X 1).2 1 i = 0)) c 0, sI z 0 0) := by
    unfold fX9_emptyClause
    rw [nm_d]
    rw [m_empty q0 hf, bd_s]
  unfold cL_20
  rw [e1, bd_s, e2, bd_s, if_pos rfl]
  exact ⟨_, _, _, rfl, i0⟩
theorem cA_17 (a1 a2 a3 a4 a5 : Int32) {X : Nat → OS} {z : OS} (o : Nat → Int64) {fu : Nat} (hf : 5000 ≤ fu) (h : Inv X z) : OKS (cL_17 fu a1 a2 a3 a4 a5 X z o) := by
  obtain ⟨w, c, q⟩ := h.1
  have h6 := q.c60
  have h12 := q.w12
  have h1 := q.w1
  have i0 := h.z0 0
  have q0 : QR w c (X 1) ((sI z 0 0).2 1) := q
  have p12 := pw12 h12
  obtain ⟨z', e, s⟩ := m_deepest_l q0 hf c 0 fu (-1) (-1) (sI z 0 0) (by omega) (by omega) SK.rf
  have e1 : fX8_deepestClause fu (X 1) = some (mf ((X 1).2 5) c 0 (-1) (-1)) := by
    unfold fX8_deepestClause
    rw [q_deep q.xc h6 hf, bd_s]
  have e2 : fX9_deepestClause fu z = some (mf ((X 1).2 5) c 0 (-1) (-1), z') := by
    unfold fX9_deepestClause
    rw [nm_d, jn_d]
    exact e
  have sf := s.sf (c := c) (by omega)
  unfold cL_17
  rw [e1, bd_s, e2, bd_s, if_pos rfl]
  exact ⟨_, _, _, rfl, i0.fr sf.1.fq.fr (sf.rl q0)⟩
theorem cA_21 (a1 a2 a3 a4 a5 : Int32) {X : Nat → OS} {z : OS} (o : Nat → Int64) {fu : Nat} (hf : 5000 ≤ fu) (h : Inv X z) : OKS (cL_21 fu a1 a2 a3 a4 a5 X z o) := by
  obtain ⟨w, c, q⟩ := h.1
  have h6 := q.c60
  have h12 := q.w12
  have h1 := q.w1
  have i0 := h.z0 0
  have q0 : QR w c (X 1) ((sI z 0 0).2 1) := q
  have p12 := pw12 h12
  have e1 : fX8_clausesOfSize fu (X 1) a1 = some (cn (fun i => decide (pc ((X 1).2 0 i) + pc ((X 1).2 1 i) = a1)) c 0) := by
    unfold fX8_clausesOfSize
    rw [q_cwl q.xc h6 hf, bd_s]
  have e2 : fX9_clausesOfSize fu z a1 = some (cn (fun i => decide (pc ((X 1).2 0 i) + pc ((X 1).2 1 i) = a1)) c 0, sI z 0 0) := by
    unfold fX9_clausesOfSize
    rw [nm_d]
    rw [jn_d]
    exact m_cos q0 hf a1
  unfold cL_21
  rw [e1, bd_s, e2, bd_s, if_pos rfl]
  exact ⟨_, _, _, rfl, i0⟩
theorem cA_22 (a1 a2 a3 a4 a5 : Int32) {X : Nat → OS} {z : OS} (o : Nat → Int64) {fu : Nat} (hf : 5000 ≤ fu) (h : Inv X z) : OKS (cL_22 fu a1 a2 a3 a4 a5 X z o) := by
  obtain ⟨w, c, q⟩ := h.1
  have h6 := q.c60
  have h12 := q.w12
  have h1 := q.w1
  have i0 := h.z0 0
  have q0 : QR w c (X 1) ((sI z 0 0).2 1) := q
  have p12 := pw12 h12
  have e1 : fX8_hornClauses fu (X 1) = some (cn (fun i => !decide (1 < pc ((X 1).2 0 i))) c 0) := by
    unfold fX8_hornClauses
    rw [q_horn q.xc h6 hf, bd_s]
  have e2 : fX9_hornClauses fu z  = some (cn (fun i => !decide (1 < pc ((X 1).2 0 i))) c 0, sI z 0 0) := by
    unfold fX9_hornClauses
    rw [nm_d]
    rw [jn_d]
    exact m_horn q0 hf
  unfold cL_22
  rw [e1, bd_s, e2, bd_s, if_pos rfl]
  exact ⟨_, _, _, rfl, i0⟩
theorem cA_24 (a1 a2 a3 a4 a5 : Int32) {X : Nat → OS} {z : OS} (o : Nat → Int64) {fu : Nat} (hf : 5000 ≤ fu) (h : Inv X z) : OKS (cL_24 fu a1 a2 a3 a4 a5 X z o) := by
  obtain ⟨w, c, q⟩ := h.1
  have h6 := q.c60
  have h12 := q.w12
  have h1 := q.w1
  have i0 := h.z0 0
  have q0 : QR w c (X 1) ((sI z 0 0).2 1) := q
  have p12 := pw12 h12
  have e1 : fX8_mostFrequentVariable fu (X 1) = some (mf (fun v => cn (fun i => bt ((X 1).2 0 i) v) c 0 + cn (fun i => bt ((X 1).2 1 i) v) c 0) w 0 0 0) := by
    unfold fX8_mostFrequentVariable
    rw [q_most q.xc h6 hf q.xw h12, bd_s]
    exact congrArg some (mf_c (fun v _ hv => touch_b q (by omega)))
  have e2 : fX9_mostFrequentVariable fu z  = some (mf (fun v => cn (fun i => bt ((X 1).2 0 i) v) c 0 + cn (fun i => bt ((X 1).2 1 i) v) c 0) w 0 0 0, sI z 0 0) := by
    unfold fX9_mostFrequentVariable
    rw [nm_d]
    rw [jn_d]
    exact m_most_l q0 hf (fun v => some (v, sI z 0 0)) w 0 fu 0 0 (by omega) (by omega)
  unfold cL_24
  rw [e1, bd_s, e2, bd_s, if_pos rfl]
  exact ⟨_, _, _, rfl, i0⟩
theorem cA_25 (a1 a2 a3 a4 a5 : Int32) {X : Nat → OS} {z : OS} (o : Nat → Int64) {fu : Nat} (hf : 5000 ≤ fu) (h : Inv X z) : OKS (cL_25 fu a1 a2 a3 a4 a5 X z o) := by
  obtain ⟨w, c, q⟩ := h.1
  have h6 := q.c60
  have h12 := q.w12
  have h1 := q.w1
  have i0 := h.z0 0
  have q0 : QR w c (X 1) ((sI z 0 0).2 1) := q
  have p12 := pw12 h12
  have e1 : fX8_purePositive fu (X 1) = some (om ((X 1).2 0) c 0 &&& (om ((X 1).2 1) c 0 ^^^ (-1))) := by
    unfold fX8_purePositive
    rw [q_allP q.xc h6 hf, bd_s, q_allN q.xc h6 hf, bd_s]
  have e2 : fX9_purePositive fu z  = some (om ((X 1).2 0) c 0 &&& (om ((X 1).2 1) c 0 ^^^ (-1)), sI z 0 0) := by
    unfold fX9_purePositive
    rw [nm_d]
    have e : fX9_pure fu (sI z 0 0) 1 = some (om ((X 1).2 0) c 0 &&& (om ((X 1).2 1) c 0 ^^^ (-1))) := by
      unfold fX9_pure
      rw [jn_d]
      have := m_pure1_l q0 hf (fun v => some v) w 0 fu 0 (by omega) (by omega)
      rw [z_or, pure_eq h12 h6 (fun k hk => (q.ok hk).1)] at this
      exact this
    rw [e, bd_s]
  unfold cL_25
  rw [e1, bd_s, e2, bd_s, if_pos rfl]
  exact ⟨_, _, _, rfl, i0⟩
theorem cA_26 (a1 a2 a3 a4 a5 : Int32) {X : Nat → OS} {z : OS} (o : Nat → Int64) {fu : Nat} (hf : 5000 ≤ fu) (h : Inv X z) : OKS (cL_26 fu a1 a2 a3 a4 a5 X z o) := by
  obtain ⟨w, c, q⟩ := h.1
  have h6 := q.c60
  have h12 := q.w12
  have h1 := q.w1
  have i0 := h.z0 0
  have q0 : QR w c (X 1) ((sI z 0 0).2 1) := q
  have p12 := pw12 h12
  have e1 : fX8_pureNegative fu (X 1) = some (om ((X 1).2 1) c 0 &&& (om ((X 1).2 0) c 0 ^^^ (-1))) := by
    unfold fX8_pureNegative
    rw [q_allN q.xc h6 hf, bd_s, q_allP q.xc h6 hf, bd_s]
  have e2 : fX9_pureNegative fu z  = some (om ((X 1).2 1) c 0 &&& (om ((X 1).2 0) c 0 ^^^ (-1)), sI z 0 0) := by
    unfold fX9_pureNegative
    rw [nm_d]
    have e : fX9_pure fu (sI z 0 0) 2 = some (om ((X 1).2 1) c 0 &&& (om ((X 1).2 0) c 0 ^^^ (-1))) := by
      unfold fX9_pure
      rw [jn_d]
      have := m_pure2_l q0 hf (fun v => some v) w 0 fu 0 (by omega) (by omega)
      rw [z_or, pure_eq h12 h6 (fun k hk => (q.ok hk).2.1)] at this
      exact this
    rw [e, bd_s]
  unfold cL_26
  rw [e1, bd_s, e2, bd_s, if_pos rfl]
  exact ⟨_, _, _, rfl, i0⟩
theorem cA_31 (a1 a2 a3 a4 a5 : Int32) {X : Nat → OS} {z : OS} (o : Nat → Int64) {fu : Nat} (hf : 5000 ≤ fu) (h : Inv X z) : OKS (cL_31 fu a1 a2 a3 a4 a5 X z o) := by
  obtain ⟨w, c, q⟩ := h.1
  have h6 := q.c60
  have h12 := q.w12
  have h1 := q.w1
  have i0 := h.z0 0
  have q0 : QR w c (X 1) ((sI z 0 0).2 1) := q
  have p12 := pw12 h12
  have e1 : fX8_resolvablePairs fu (X 1) = some (cn2 (fun b => cn (fun i => decide (pc (cm ((X 1).2 0 i) ((X 1).2 1 i) ((X 1).2 0 b) ((X 1).2 1 b)) = 1)) b 0) c 0) := by
    unfold fX8_resolvablePairs
    rw [q_pairs q.xc h6 hf, bd_s]
  have e2 : fX9_resolvablePairs fu z  = some (cn2 (fun b => cn (fun i => decide (pc (cm ((X 1).2 0 i) ((X 1).2 1 i) ((X 1).2 0 b) ((X 1).2 1 b)) = 1)) b 0) c 0, sI z 0 0) := by
    unfold fX9_resolvablePairs
    rw [nm_d]
    rw [jn_d]
    exact m_pairs q0 hf
  unfold cL_31
  rw [e1, bd_s, e2, bd_s, if_pos rfl]
  exact ⟨_, _, _, rfl, i0⟩
theorem cA_34 (a1 a2 a3 a4 a5 : Int32) {X : Nat → OS} {z : OS} (o : Nat → Int64) {fu : Nat} (hf : 5000 ≤ fu) (h : Inv X z) : OKS (cL_34 fu a1 a2 a3 a4 a5 X z o) := by
  obtain ⟨w, c, q⟩ := h.1
  have h6 := q.c60
  have h12 := q.w12
  have h1 := q.w1
  have i0 := h.z0 0
  have q0 : QR w c (X 1) ((sI z 0 0).2 1) := q
  have p12 := pw12 h12
  have e1 : fX8_subsumedClauses fu (X 1) = some (cn (sb (X 1) c) c 0) := by
    unfold fX8_subsumedClauses
    rw [q_subsumed q.xc h6 hf, bd_s]
  have e2 : fX9_subsumedClauses fu z  = some (cn (sb (X 1) c) c 0, sI z 0 0) := by
    unfold fX9_subsumedClauses
    rw [nm_d]
    rw [m_subsumed q0 hf, bd_s]
  unfold cL_34
  rw [e1, bd_s, e2, bd_s, if_pos rfl]
  exact ⟨_, _, _, rfl, i0⟩
theorem cA_38 (a1 a2 a3 a4 a5 : Int32) {X : Nat → OS} {z : OS} (o : Nat → Int64) {fu : Nat} (hf : 5000 ≤ fu) (h : Inv X z) : OKS (cL_38 fu a1 a2 a3 a4 a5 X z o) := by
  obtain ⟨w, c, q⟩ := h.1
  have h6 := q.c60
  have h12 := q.w12
  have h1 := q.w1
  have i0 := h.z0 0
  have q0 : QR w c (X 1) ((sI z 0 0).2 1) := q
  have p12 := pw12 h12
  have e1 : fX8_modelCount fu (X 1) = some (cn (fun a => mo (X 1) c (-1) (nI a)) (2 ^ w) 0) := by
    unfold fX8_modelCount
    rw [q_count q.xc h6 hf q.av p12.1 p12.2, bd_s]
  have e2 : fX9_modelCount fu z  = some (cn (fun a => mo (X 1) c (-1) (nI a)) (2 ^ w) 0, sI z 0 0) := by
    unfold fX9_modelCount
    rw [nm_d]
    rw [m_models q0 hf, bd_s]
  unfold cL_38
  rw [e1, bd_s, e2, bd_s, if_pos rfl]
  exact ⟨_, _, _, rfl, i0⟩
theorem cA_39 (a1 a2 a3 a4 a5 : Int32) {X : Nat → OS} {z : OS} (o : Nat → Int64) {fu : Nat} (hf : 5000 ≤ fu) (h : Inv X z) : OKS (cL_39 fu a1 a2 a3 a4 a5 X z o) := by
  obtain ⟨w, c, q⟩ := h.1
  have h6 := q.c60
  have h12 := q.w12
  have h1 := q.w1
  have i0 := h.z0 0
  have q0 : QR w c (X 1) ((sI z 0 0).2 1) := q
  have p12 := pw12 h12
  have e1 : fX8_firstModel fu (X 1) = some (fa (fun a => mo (X 1) c (-1) (nI a)) 0 (2 ^ w) 0 0) := by
    unfold fX8_firstModel
    rw [q_at q.xc h6 hf q.av p12.1 p12.2, bd_s]
  have e2 : fX9_firstModel fu z  = some (fa (fun a => mo (X 1) c (-1) (nI a)) 0 (2 ^ w) 0 0, sI z 0 0) := by
    unfold fX9_firstModel
    rw [nm_d]
    rw [jn_d]
    exact m_first q0 hf
  unfold cL_39
  rw [e1, bd_s, e2, bd_s, if_pos rfl]
  exact ⟨_, _, _, rfl, i0⟩
theorem cA_40 (a1 a2 a3 a4 a5 : Int32) {X : Nat → OS} {z : OS} (o : Nat → Int64) {fu : Nat} (hf : 5000 ≤ fu) (h : Inv X z) : OKS (cL_40 fu a1 a2 a3 a4 a5 X z o) := by
  obtain ⟨w, c, q⟩ := h.1
  have h6 := q.c60
  have h12 := q.w12
  have h1 := q.w1
  have i0 := h.z0 0
  have q0 : QR w c (X 1) ((sI z 0 0).2 1) := q
  have p12 := pw12 h12
  have e1 : fX8_modelAt fu (X 1) a1 = some (fa (fun a => mo (X 1) c (-1) (nI a)) a1 (2 ^ w) 0 0) := by
    unfold fX8_modelAt
    rw [q_at q.xc h6 hf q.av p12.1 p12.2, bd_s]
  have e2 : fX9_modelAt fu z a1 = some (fa (fun a => mo (X 1) c (-1) (nI a)) a1 (2 ^ w) 0 0, sI z 0 0) := by
    unfold fX9_modelAt
    rw [nm_d]
    rw [jn_d]
    exact m_at q0 hf a1
  unfold cL_40
  rw [e1, bd_s, e2, bd_s, if_pos rfl]
  exact ⟨_, _, _, rfl, i0⟩
theorem cA_44 (a1 a2 a3 a4 a5 : Int32) {X : Nat → OS} {z : OS} (o : Nat → Int64) {fu : Nat} (hf : 5000 ≤ fu) (h : Inv X z) : OKS (cL_44 fu a1 a2 a3 a4 a5 X z o) := by
  obtain ⟨w, c, q⟩ := h.1
  have h6 := q.c60
  have h12 := q.w12
  have h1 := q.w1
  have i0 := h.z0 0
  have q0 : QR w c (X 1) ((sI z 0 0).2 1) := q
  have p12 := pw12 h12
  have e1 : fX8_alwaysTrue fu (X 1) = some (am (fun a => mo (X 1) c (-1) (nI a)) (fun a => nI a) (2 ^ w) 0 (nI (2 ^ w - 1))) := by
    unfold fX8_alwaysTrue
    rw [q_tia q.xc h6 hf q.av p12.1 p12.2, bd_s]
  have e2 : fX9_alwaysTrue fu z  = some (am (fun a => mo (X 1) c (-1) (nI a)) (fun a => nI a) (2 ^ w) 0 (nI (2 ^ w - 1)), sI z 0 0) := by
    unfold fX9_alwaysTrue
    rw [nm_d]
    rw [m_alw1 q0 hf, bd_s]
  unfold cL_44
  rw [e1, bd_s, e2, bd_s, if_pos rfl]
  exact ⟨_, _, _, rfl, i0⟩
theorem cA_45 (a1 a2 a3 a4 a5 : Int32) {X : Nat → OS} {z : OS} (o : Nat → Int64) {fu : Nat} (hf : 5000 ≤ fu) (h : Inv X z) : OKS (cL_45 fu a1 a2 a3 a4 a5 X z o) := by
  obtain ⟨w, c, q⟩ := h.1
  have h6 := q.c60
  have h12 := q.w12
  have h1 := q.w1
  have i0 := h.z0 0
  have q0 : QR w c (X 1) ((sI z 0 0).2 1) := q
  have p12 := pw12 h12
  have e1 : fX8_alwaysFalse fu (X 1) = some (am (fun a => mo (X 1) c (-1) (nI a)) (fun a => nI a ^^^ (-1)) (2 ^ w) 0 (nI (2 ^ w - 1))) := by
    unfold fX8_alwaysFalse
    rw [q_fia q.xc h6 hf q.av p12.1 p12.2, bd_s]
  have e2 : fX9_alwaysFalse fu z  = some (am (fun a => mo (X 1) c (-1) (nI a)) (fun a => nI a ^^^ (-1)) (2 ^ w) 0 (nI (2 ^ w - 1)), sI z 0 0) := by
    unfold fX9_alwaysFalse
    rw [nm_d]
    rw [m_alw0 q0 hf, bd_s]
  unfold cL_45
  rw [e1, bd_s, e2, bd_s, if_pos rfl]
  exact ⟨_, _, _, rfl, i0⟩
