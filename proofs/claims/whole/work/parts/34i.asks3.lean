/-! Part II: the other calls that read and may refuse: pairs, masks, variables; the next step; what propagation fixes; the share; bytes. -/
theorem cA_27 (a1 a2 a3 a4 a5 : Int32) {X : Nat → OS} {z : OS} (o : Nat → Int64) {fu : Nat} (hf : 5000 ≤ fu) (h : Inv X z) : OKS (cL_27 fu a1 a2 a3 a4 a5 X z o) := by
  obtain ⟨w, c, q⟩ := h.1
  have h6 := q.c60
  have h12 := q.w12
  have h1 := q.w1
  have i0 := h.z0 0
  have q0 : QR w c (X 1) ((sI z 0 0).2 1) := q
  have p12 := pw12 h12
  have t0 : (sI z 0 0).1 0 = 0 := sI_s _ _ _
  have nf := i1_ne0
  unfold cL_27
  have sp := pk_ix a1 (n := c) (by omega)
  have sp2 := pk_ix a2 (n := c) (by omega)
  by_cases hb : a1 < 0 ∨ nI c ≤ a1
  · skip
    have e1 : fX8_clashes fu (X 1) a1 a2 = some (1, 0) := by
      unfold fX8_clashes
      rw [ck_bad q hb, bd_s, if_neg (by decide)]
    have e2 : fX9_clashes fu z a1 a2 = some (0, sI (sI z 0 0) 0 1) := by
      unfold fX9_clashes
      simp only [noPair_bad1 (z := sI z 0 0) (fu := fu) (q := a2) t0 q0.mc h6 hb, nm_d, bd_s, jn_d, i1_ne0, if_false, if_true, not_false_eq_true, not_true_eq_false, isZ_0, isZ_1, gd_t]
    exact tN_bad (by unfold fL_clashes; rw [e1]; rfl) (by decide) e2 (sI_s _ _ _) (i0.z0 1)
  · obtain ⟨j, hj, rfl⟩ := (sp.resolve_left (fun t => hb (Or.inl t))).resolve_left (fun t => hb (Or.inr t))
    by_cases hb2 : a2 < 0 ∨ nI c ≤ a2
    · skip
      have e1 : fX8_clashes fu (X 1) (nI j) a2 = some (1, 0) := by
        unfold fX8_clashes
        rw [ck_ok q hj, bd_s, if_pos rfl, ck_bad q hb2, bd_s, if_neg (by decide)]
      have e2 : fX9_clashes fu z (nI j) a2 = some (0, sI (sI z 0 0) 0 1) := by
        unfold fX9_clashes
        simp only [noPair_bad2 (z := sI z 0 0) (fu := fu) t0 q0.mc h6 hj hb2, nm_d, bd_s, jn_d, i1_ne0, if_false, if_true, not_false_eq_true, not_true_eq_false, isZ_0, isZ_1, gd_t]
      exact tN_bad (by unfold fL_clashes; rw [e1]; rfl) (by decide) e2 (sI_s _ _ _) (i0.z0 1)
    · obtain ⟨l, hl, rfl⟩ := (sp2.resolve_left (fun t => hb2 (Or.inl t))).resolve_left (fun t => hb2 (Or.inr t))
      have mc := m_clash (fu := fu) q0.mw h12 (q0.row hj) (by omega) (q0.ok hj) (q0.row hl) (by omega) (q0.ok hl) hf
      have e1 : fX8_clashes fu (X 1) (nI j) (nI l) = some (0, pc (cm ((X 1).2 0 j) ((X 1).2 1 j) ((X 1).2 0 l) ((X 1).2 1 l))) := by
        unfold fX8_clashes
        rw [ck_ok q hj, bd_s, if_pos rfl, ck_ok q hl, bd_s, if_pos rfl, q_clashMask (X 1) fu (by omega) (by omega), bd_s, pc_e, bd_s]
      have e2 : fX9_clashes fu z (nI j) (nI l) = some (pc (cm ((X 1).2 0 j) ((X 1).2 1 j) ((X 1).2 0 l) ((X 1).2 1 l)), sI z 0 0) := by
        unfold fX9_clashes
        simp only [noPair_ok (z := sI z 0 0) (fu := fu) t0 q0.mc h6 hj hl, nm_d, bd_s, jn_d, i1_ne0, if_false, if_true, not_false_eq_true, not_true_eq_false, isZ_0, isZ_1, gd_t, mc]
      exact tN_ok (by unfold fL_clashes; rw [e1]; rfl) e2 t0 i0
theorem cA_28 (a1 a2 a3 a4 a5 : Int32) {X : Nat → OS} {z : OS} (o : Nat → Int64) {fu : Nat} (hf : 5000 ≤ fu) (h : Inv X z) : OKS (cL_28 fu a1 a2 a3 a4 a5 X z o) := by
  obtain ⟨w, c, q⟩ := h.1
  have h6 := q.c60
  have h12 := q.w12
  have h1 := q.w1
  have i0 := h.z0 0
  have q0 : QR w c (X 1) ((sI z 0 0).2 1) := q
  have p12 := pw12 h12
  have t0 : (sI z 0 0).1 0 = 0 := sI_s _ _ _
  have nf := i1_ne0
  unfold cL_28
  have sp := pk_ix a1 (n := c) (by omega)
  have sp2 := pk_ix a2 (n := c) (by omega)
  by_cases hb : a1 < 0 ∨ nI c ≤ a1
  · skip
    have e1 : fX8_areResolvable fu (X 1) a1 a2 = some (1, 0) := by
      unfold fX8_areResolvable
      rw [ck_bad q hb, bd_s, if_neg (by decide)]
    have e2 : fX9_areResolvable fu z a1 a2 = some (0, sI (sI z 0 0) 0 1) := by
      unfold fX9_areResolvable
      simp only [noPair_bad1 (z := sI z 0 0) (fu := fu) (q := a2) t0 q0.mc h6 hb, nm_d, bd_s, jn_d, i1_ne0, if_false, if_true, not_false_eq_true, not_true_eq_false, isZ_0, isZ_1, gd_t]
    exact tB_bad (by unfold fL_areResolvable; rw [e1]; rfl) (by decide) e2 (sI_s _ _ _) (i0.z0 1)
  · obtain ⟨j, hj, rfl⟩ := (sp.resolve_left (fun t => hb (Or.inl t))).resolve_left (fun t => hb (Or.inr t))
    by_cases hb2 : a2 < 0 ∨ nI c ≤ a2
    · skip
      have e1 : fX8_areResolvable fu (X 1) (nI j) a2 = some (1, 0) := by
        unfold fX8_areResolvable
        rw [ck_ok q hj, bd_s, if_pos rfl, ck_bad q hb2, bd_s, if_neg (by decide)]
      have e2 : fX9_areResolvable fu z (nI j) a2 = some (0, sI (sI z 0 0) 0 1) := by
        unfold fX9_areResolvable
        simp only [noPair_bad2 (z := sI z 0 0) (fu := fu) t0 q0.mc h6 hj hb2, nm_d, bd_s, jn_d, i1_ne0, if_false, if_true, not_false_eq_true, not_true_eq_false, isZ_0, isZ_1, gd_t]
      exact tB_bad (by unfold fL_areResolvable; rw [e1]; rfl) (by decide) e2 (sI_s _ _ _) (i0.z0 1)
    · obtain ⟨l, hl, rfl⟩ := (sp2.resolve_left (fun t => hb2 (Or.inl t))).resolve_left (fun t => hb2 (Or.inr t))
      have mc := m_clash (fu := fu) q0.mw h12 (q0.row hj) (by omega) (q0.ok hj) (q0.row hl) (by omega) (q0.ok hl) hf
      have e1 : fX8_areResolvable fu (X 1) (nI j) (nI l) = some (0, b2 (decide (pc (cm ((X 1).2 0 j) ((X 1).2 1 j) ((X 1).2 0 l) ((X 1).2 1 l)) = 1))) := by
        unfold fX8_areResolvable
        rw [ck_ok q hj, bd_s, if_pos rfl, ck_ok q hl, bd_s, if_pos rfl, q_clashOnce (X 1) fu (by omega) (by omega), bd_s, isZ_b, gd_t]
      have e2 : fX9_areResolvable fu z (nI j) (nI l) = some (b2 (decide (pc (cm ((X 1).2 0 j) ((X 1).2 1 j) ((X 1).2 0 l) ((X 1).2 1 l)) = 1)), sI z 0 0) := by
        unfold fX9_areResolvable
        simp only [noPair_ok (z := sI z 0 0) (fu := fu) t0 q0.mc h6 hj hl, nm_d, bd_s, jn_d, i1_ne0, if_false, if_true, not_false_eq_true, not_true_eq_false, isZ_0, isZ_1, gd_t, mc]
        by_cases g : pc (cm ((X 1).2 0 j) ((X 1).2 1 j) ((X 1).2 0 l) ((X 1).2 1 l)) = 1
        · simp only [g, nm_d, bd_s, jn_d, i1_ne0, if_false, if_true, not_false_eq_true, not_true_eq_false, isZ_0, isZ_1, gd_t, decide_true]; rfl
        · simp only [g, nm_d, bd_s, jn_d, i1_ne0, if_false, if_true, not_false_eq_true, not_true_eq_false, isZ_0, isZ_1, gd_t, decide_false]; rfl
      exact tB_ok (by unfold fL_areResolvable; rw [e1]; rfl) e2 t0 i0
theorem cA_32 (a1 a2 a3 a4 a5 : Int32) {X : Nat → OS} {z : OS} (o : Nat → Int64) {fu : Nat} (hf : 5000 ≤ fu) (h : Inv X z) : OKS (cL_32 fu a1 a2 a3 a4 a5 X z o) := by
  obtain ⟨w, c, q⟩ := h.1
  have h6 := q.c60
  have h12 := q.w12
  have h1 := q.w1
  have i0 := h.z0 0
  have q0 : QR w c (X 1) ((sI z 0 0).2 1) := q
  have p12 := pw12 h12
  have t0 : (sI z 0 0).1 0 = 0 := sI_s _ _ _
  have nf := i1_ne0
  unfold cL_32
  have sp := pk_ix a1 (n := c) (by omega)
  have sp2 := pk_ix a2 (n := c) (by omega)
  by_cases hb : a1 < 0 ∨ nI c ≤ a1
  · skip
    have e1 : fX8_subsumes fu (X 1) a1 a2 = some (1, 0) := by
      unfold fX8_subsumes
      rw [ck_bad q hb, bd_s, if_neg (by decide)]
    have e2 : fX9_subsumes fu z a1 a2 = some (0, sI (sI z 0 0) 0 1) := by
      unfold fX9_subsumes
      simp only [noPair_bad1 (z := sI z 0 0) (fu := fu) (q := a2) t0 q0.mc h6 hb, nm_d, bd_s, jn_d, i1_ne0, if_false, if_true, not_false_eq_true, not_true_eq_false, isZ_0, isZ_1, gd_t]
    exact tB_bad (by unfold fL_subsumes; rw [e1]; rfl) (by decide) e2 (sI_s _ _ _) (i0.z0 1)
  · obtain ⟨j, hj, rfl⟩ := (sp.resolve_left (fun t => hb (Or.inl t))).resolve_left (fun t => hb (Or.inr t))
    by_cases hb2 : a2 < 0 ∨ nI c ≤ a2
    · skip
      have e1 : fX8_subsumes fu (X 1) (nI j) a2 = some (1, 0) := by
        unfold fX8_subsumes
        rw [ck_ok q hj, bd_s, if_pos rfl, ck_bad q hb2, bd_s, if_neg (by decide)]
      have e2 : fX9_subsumes fu z (nI j) a2 = some (0, sI (sI z 0 0) 0 1) := by
        unfold fX9_subsumes
        simp only [noPair_bad2 (z := sI z 0 0) (fu := fu) t0 q0.mc h6 hj hb2, nm_d, bd_s, jn_d, i1_ne0, if_false, if_true, not_false_eq_true, not_true_eq_false, isZ_0, isZ_1, gd_t]
      exact tB_bad (by unfold fL_subsumes; rw [e1]; rfl) (by decide) e2 (sI_s _ _ _) (i0.z0 1)
    · obtain ⟨l, hl, rfl⟩ := (sp2.resolve_left (fun t => hb2 (Or.inl t))).resolve_left (fun t => hb2 (Or.inr t))
      have mc := m_clash (fu := fu) q0.mw h12 (q0.row hj) (by omega) (q0.ok hj) (q0.row hl) (by omega) (q0.ok hl) hf
      have e1 : fX8_subsumes fu (X 1) (nI j) (nI l) = some (0, b2 (wi ((X 1).2 0 j) ((X 1).2 1 j) ((X 1).2 0 l) ((X 1).2 1 l))) := by
        unfold fX8_subsumes
        rw [ck_ok q hj, bd_s, if_pos rfl, ck_ok q hl, bd_s, if_pos rfl, inB_I (show l < 60 by omega) (by omega), gd_t, gd_t, nI_clamp (by omega), q_isWithin (X 1) fu (by omega), bd_s, isZ_b, gd_t]
      have e2 : fX9_subsumes fu z (nI j) (nI l) = some (b2 (wi ((X 1).2 0 j) ((X 1).2 1 j) ((X 1).2 0 l) ((X 1).2 1 l)), sI z 0 0) := by
        unfold fX9_subsumes
        have mw := m_within (fu := fu) q0.mw h12 (q0.row hj) (by omega) (q0.ok hj) (q0.row hl) (by omega) (q0.ok hl) hf
        simp only [noPair_ok (z := sI z 0 0) (fu := fu) t0 q0.mc h6 hj hl, nm_d, bd_s, jn_d, i1_ne0, if_false, if_true, not_false_eq_true, not_true_eq_false, isZ_0, isZ_1, gd_t, mw]
        cases wi ((X 1).2 0 j) ((X 1).2 1 j) ((X 1).2 0 l) ((X 1).2 1 l) <;> rfl
      exact tB_ok (by unfold fL_subsumes; rw [e1]; rfl) e2 t0 i0
theorem cA_29 (a1 a2 a3 a4 a5 : Int32) {X : Nat → OS} {z : OS} (o : Nat → Int64) {fu : Nat} (hf : 5000 ≤ fu) (h : Inv X z) : OKS (cL_29 fu a1 a2 a3 a4 a5 X z o) := by
  obtain ⟨w, c, q⟩ := h.1
  have h6 := q.c60
  have h12 := q.w12
  have h1 := q.w1
  have i0 := h.z0 0
  have q0 : QR w c (X 1) ((sI z 0 0).2 1) := q
  have p12 := pw12 h12
  have t0 : (sI z 0 0).1 0 = 0 := sI_s _ _ _
  have nf := i1_ne0
  unfold cL_29
  have sp := pk_ix a1 (n := c) (by omega)
  have sp2 := pk_ix a2 (n := c) (by omega)
  by_cases hb : a1 < 0 ∨ nI c ≤ a1
  · skip
    have e1 : fX8_resolventPositive fu (X 1) a1 a2 = some (1, 0) := by
      unfold fX8_resolventPositive
      rw [ck_bad q hb, bd_s, if_neg (by decide)]
    have e2 : fX9_resolventPositive fu z a1 a2 = some (0, sI (sI z 0 0) 0 1) := by
      unfold fX9_resolventPositive fX9_resolventOf
      simp only [noPair_bad1 (z := sI z 0 0) (fu := fu) (q := a2) t0 q0.mc h6 hb, nm_d, bd_s, jn_d, i1_ne0, if_false, if_true, not_false_eq_true, not_true_eq_false, isZ_0, isZ_1, gd_t]
    exact tN_bad (by unfold fL_resolventPositive; rw [e1]; rfl) (by decide) e2 (sI_s _ _ _) (i0.z0 1)
  · obtain ⟨j, hj, rfl⟩ := (sp.resolve_left (fun t => hb (Or.inl t))).resolve_left (fun t => hb (Or.inr t))
    by_cases hb2 : a2 < 0 ∨ nI c ≤ a2
    · skip
      have e1 : fX8_resolventPositive fu (X 1) (nI j) a2 = some (1, 0) := by
        unfold fX8_resolventPositive
        rw [ck_ok q hj, bd_s, if_pos rfl, ck_bad q hb2, bd_s, if_neg (by decide)]
      have e2 : fX9_resolventPositive fu z (nI j) a2 = some (0, sI (sI z 0 0) 0 1) := by
        unfold fX9_resolventPositive fX9_resolventOf
        simp only [noPair_bad2 (z := sI z 0 0) (fu := fu) t0 q0.mc h6 hj hb2, nm_d, bd_s, jn_d, i1_ne0, if_false, if_true, not_false_eq_true, not_true_eq_false, isZ_0, isZ_1, gd_t]
      exact tN_bad (by unfold fL_resolventPositive; rw [e1]; rfl) (by decide) e2 (sI_s _ _ _) (i0.z0 1)
    · obtain ⟨l, hl, rfl⟩ := (sp2.resolve_left (fun t => hb2 (Or.inl t))).resolve_left (fun t => hb2 (Or.inr t))
      have mc := m_clash (fu := fu) q0.mw h12 (q0.row hj) (by omega) (q0.ok hj) (q0.row hl) (by omega) (q0.ok hl) hf
      by_cases g : pc (cm ((X 1).2 0 j) ((X 1).2 1 j) ((X 1).2 0 l) ((X 1).2 1 l)) = 1
      · obtain ⟨t, ht, hc, hn⟩ := pc_one ((q.ok hj).cm) h12 g
        obtain ⟨z', e3, s, r⟩ := m_resolves (fu := fu) q0 hf hj hl ht hc hn
        have mk := m_maskP (fu := fu) (s.rl q0).mw h12 r h6 (mg_ok (q.ok hj) (q.ok hl)) hf
        have e1 : fX8_resolventPositive fu (X 1) (nI j) (nI l) = some (0, mgP ((X 1).2 0 j) ((X 1).2 1 j) ((X 1).2 0 l) ((X 1).2 1 l)) := by
          unfold fX8_resolventPositive
          rw [ck_ok q hj, bd_s, if_pos rfl, ck_ok q hl, bd_s, if_pos rfl, q_clashOnce (X 1) fu (by omega) (by omega), bd_s, if_neg (by rw [decide_eq_true g]; decide), q_mergedP (X 1) fu (by omega) (by omega), bd_s]
        have e2 : fX9_resolventPositive fu z (nI j) (nI l) = some (mgP ((X 1).2 0 j) ((X 1).2 1 j) ((X 1).2 0 l) ((X 1).2 1 l), z') := by
          unfold fX9_resolventPositive fX9_resolventOf
          simp only [noPair_ok (z := sI z 0 0) (fu := fu) t0 q0.mc h6 hj hl, nm_d, bd_s, jn_d, i1_ne0, if_false, if_true, not_false_eq_true, not_true_eq_false, isZ_0, isZ_1, gd_t, mc, g, e3, many_e (s.rl q0).mc, mk]
        exact tN_ok (by unfold fL_resolventPositive; rw [e1]; rfl) e2 (by rw [s.1]; exact t0) (i0.fr s.sf.1.fq.fr (s.rl q0))
      · skip
        have e1 : fX8_resolventPositive fu (X 1) (nI j) (nI l) = some (0, -1) := by
          unfold fX8_resolventPositive
          rw [ck_ok q hj, bd_s, if_pos rfl, ck_ok q hl, bd_s, if_pos rfl, q_clashOnce (X 1) fu (by omega) (by omega), bd_s, if_pos (by rw [decide_eq_false g]; rfl)]
        have e2 : fX9_resolventPositive fu z (nI j) (nI l) = some (-1, sI z 0 0) := by
          unfold fX9_resolventPositive fX9_resolventOf
          simp only [noPair_ok (z := sI z 0 0) (fu := fu) t0 q0.mc h6 hj hl, nm_d, bd_s, jn_d, i1_ne0, if_false, if_true, not_false_eq_true, not_true_eq_false, isZ_0, isZ_1, gd_t, mc, g]
        exact tN_ok (by unfold fL_resolventPositive; rw [e1]; rfl) e2 t0 i0
theorem cA_30 (a1 a2 a3 a4 a5 : Int32) {X : Nat → OS} {z : OS} (o : Nat → Int64) {fu : Nat} (hf : 5000 ≤ fu) (h : Inv X z) : OKS (cL_30 fu a1 a2 a3 a4 a5 X z o) := by
  obtain ⟨w, c, q⟩ := h.1
  have h6 := q.c60
  have h12 := q.w12
  have h1 := q.w1
  have i0 := h.z0 0
  have q0 : QR w c (X 1) ((sI z 0 0).2 1) := q
  have p12 := pw12 h12
  have t0 : (sI z 0 0).1 0 = 0 := sI_s _ _ _
  have nf := i1_ne0
  unfold cL_30
  have sp := pk_ix a1 (n := c) (by omega)
  have sp2 := pk_ix a2 (n := c) (by omega)
  by_cases hb : a1 < 0 ∨ nI c ≤ a1
  · skip
    have e1 : fX8_resolventNegative fu (X 1) a1 a2 = some (1, 0) := by
      unfold fX8_resolventNegative
      rw [ck_bad q hb, bd_s, if_neg (by decide)]
    have e2 : fX9_resolventNegative fu z a1 a2 = some (0, sI (sI z 0 0) 0 1) := by
      unfold fX9_resolventNegative fX9_resolventOf
      simp only [noPair_bad1 (z := sI z 0 0) (fu := fu) (q := a2) t0 q0.mc h6 hb, nm_d, bd_s, jn_d, i1_ne0, if_false, if_true, not_false_eq_true, not_true_eq_false, isZ_0, isZ_1, gd_t]
    exact tN_bad (by unfold fL_resolventNegative; rw [e1]; rfl) (by decide) e2 (sI_s _ _ _) (i0.z0 1)
  · obtain ⟨j, hj, rfl⟩ := (sp.resolve_left (fun t => hb (Or.inl t))).resolve_left (fun t => hb (Or.inr t))
    by_cases hb2 : a2 < 0 ∨ nI c ≤ a2
    · skip
      have e1 : fX8_resolventNegative fu (X 1) (nI j) a2 = some (1, 0) := by
        unfold fX8_resolventNegative
        rw [ck_ok q hj, bd_s, if_pos rfl, ck_bad q hb2, bd_s, if_neg (by decide)]
      have e2 : fX9_resolventNegative fu z (nI j) a2 = some (0, sI (sI z 0 0) 0 1) := by
        unfold fX9_resolventNegative fX9_resolventOf
        simp only [noPair_bad2 (z := sI z 0 0) (fu := fu) t0 q0.mc h6 hj hb2, nm_d, bd_s, jn_d, i1_ne0, if_false, if_true, not_false_eq_true, not_true_eq_false, isZ_0, isZ_1, gd_t]
      exact tN_bad (by unfold fL_resolventNegative; rw [e1]; rfl) (by decide) e2 (sI_s _ _ _) (i0.z0 1)
    · obtain ⟨l, hl, rfl⟩ := (sp2.resolve_left (fun t => hb2 (Or.inl t))).resolve_left (fun t => hb2 (Or.inr t))
      have mc := m_clash (fu := fu) q0.mw h12 (q0.row hj) (by omega) (q0.ok hj) (q0.row hl) (by omega) (q0.ok hl) hf
      by_cases g : pc (cm ((X 1).2 0 j) ((X 1).2 1 j) ((X 1).2 0 l) ((X 1).2 1 l)) = 1
      · obtain ⟨t, ht, hc, hn⟩ := pc_one ((q.ok hj).cm) h12 g
        obtain ⟨z', e3, s, r⟩ := m_resolves (fu := fu) q0 hf hj hl ht hc hn
        have mk := m_maskN (fu := fu) (s.rl q0).mw h12 r h6 (mg_ok (q.ok hj) (q.ok hl)) hf
        have e1 : fX8_resolventNegative fu (X 1) (nI j) (nI l) = some (0, mgN ((X 1).2 0 j) ((X 1).2 1 j) ((X 1).2 0 l) ((X 1).2 1 l)) := by
          unfold fX8_resolventNegative
          rw [ck_ok q hj, bd_s, if_pos rfl, ck_ok q hl, bd_s, if_pos rfl, q_clashOnce (X 1) fu (by omega) (by omega), bd_s, if_neg (by rw [decide_eq_true g]; decide), q_mergedN (X 1) fu (by omega) (by omega), bd_s]
        have e2 : fX9_resolventNegative fu z (nI j) (nI l) = some (mgN ((X 1).2 0 j) ((X 1).2 1 j) ((X 1).2 0 l) ((X 1).2 1 l), z') := by
          unfold fX9_resolventNegative fX9_resolventOf
          simp only [noPair_ok (z := sI z 0 0) (fu := fu) t0 q0.mc h6 hj hl, nm_d, bd_s, jn_d, i1_ne0, if_false, if_true, not_false_eq_true, not_true_eq_false, isZ_0, isZ_1, gd_t, mc, g, e3, many_e (s.rl q0).mc, mk]
        exact tN_ok (by unfold fL_resolventNegative; rw [e1]; rfl) e2 (by rw [s.1]; exact t0) (i0.fr s.sf.1.fq.fr (s.rl q0))
      · skip
        have e1 : fX8_resolventNegative fu (X 1) (nI j) (nI l) = some (0, -1) := by
          unfold fX8_resolventNegative
          rw [ck_ok q hj, bd_s, if_pos rfl, ck_ok q hl, bd_s, if_pos rfl, q_clashOnce (X 1) fu (by omega) (by omega), bd_s, if_pos (by rw [decide_eq_false g]; rfl)]
        have e2 : fX9_resolventNegative fu z (nI j) (nI l) = some (-1, sI z 0 0) := by
          unfold fX9_resolventNegative fX9_resolventOf
          simp only [noPair_ok (z := sI z 0 0) (fu := fu) t0 q0.mc h6 hj hl, nm_d, bd_s, jn_d, i1_ne0, if_false, if_true, not_false_eq_true, not_true_eq_false, isZ_0, isZ_1, gd_t, mc, g]
        exact tN_ok (by unfold fL_resolventNegative; rw [e1]; rfl) e2 t0 i0
theorem cA_41 (a1 a2 a3 a4 a5 : Int32) {X : Nat → OS} {z : OS} (o : Nat → Int64) {fu : Nat} (hf : 5000 ≤ fu) (h : Inv X z) : OKS (cL_41 fu a1 a2 a3 a4 a5 X z o) := by
  obtain ⟨w, c, q⟩ := h.1
  have h6 := q.c60
  have h12 := q.w12
  have h1 := q.w1
  have i0 := h.z0 0
  have q0 : QR w c (X 1) ((sI z 0 0).2 1) := q
  have p12 := pw12 h12
  have t0 : (sI z 0 0).1 0 = 0 := sI_s _ _ _
  have nf := i1_ne0
  unfold cL_41
  have sp := pk_ix a1 (n := c) (by omega)
  by_cases hb : a1 < 0 ∨ nI c ≤ a1
  · skip
    have e1 : fX8_isTrue fu (X 1) a1 a2 = some (1, 0) := by
      unfold fX8_isTrue
      rw [ck_bad q hb, bd_s, if_neg (by decide)]
    have e2 : fX9_isTrue fu z a1 a2 = some (0, sI (sI z 0 0) 0 1) := by
      unfold fX9_isTrue
      simp only [noClause_bad (z := sI z 0 0) (fu := fu) t0 q0.mc h6 hb, nm_d, bd_s, jn_d, i1_ne0, if_false, if_true, not_false_eq_true, not_true_eq_false, isZ_0, isZ_1, gd_t]
    exact tB_bad (by unfold fL_isTrue; rw [e1]; rfl) (by decide) e2 (sI_s _ _ _) (i0.z0 1)
  · obtain ⟨j, hj, rfl⟩ := (sp.resolve_left (fun t => hb (Or.inl t))).resolve_left (fun t => hb (Or.inr t))
    rcases vm_dec w a2 with hv | hv
    · have mh := m_holds (fu := fu) q0.mw h12 (q0.row hj) (by omega) (q0.ok hj) hf a2
      have e1 : fX8_isTrue fu (X 1) (nI j) a2 = some (0, b2 (tu ((X 1).2 0 j) ((X 1).2 1 j) a2)) := by
        unfold fX8_isTrue
        rw [ck_ok q hj, bd_s, if_pos rfl, cm_ok q hv, bd_s, if_pos rfl, q_isTrue (X 1) fu (by omega), bd_s, isZ_b, gd_t]
      have e2 : fX9_isTrue fu z (nI j) a2 = some (b2 (tu ((X 1).2 0 j) ((X 1).2 1 j) a2), sI z 0 0) := by
        unfold fX9_isTrue
        simp only [noClause_ok (z := sI z 0 0) (fu := fu) t0 q0.mc h6 hj, nm_d, bd_s, jn_d, i1_ne0, if_false, if_true, not_false_eq_true, not_true_eq_false, isZ_0, isZ_1, gd_t, (m_isMask (fu := fu) q0.mw h12).1 hv, ti_0 t0, mh]
        cases tu ((X 1).2 0 j) ((X 1).2 1 j) a2 <;> rfl
      exact tB_ok (by unfold fL_isTrue; rw [e1]; rfl) e2 t0 i0
    · skip
      have e1 : fX8_isTrue fu (X 1) (nI j) a2 = some (2, 0) := by
        unfold fX8_isTrue
        rw [ck_ok q hj, bd_s, if_pos rfl, cm_bad q hv, bd_s, if_neg (by decide)]
      have e2 : fX9_isTrue fu z (nI j) a2 = some (0, sI (sI z 0 0) 0 2) := by
        unfold fX9_isTrue
        simp only [noClause_ok (z := sI z 0 0) (fu := fu) t0 q0.mc h6 hj, (m_isMask (fu := fu) q0.mw h12).2 hv, ti_1 t0 fu (show (2 : Int32) ≠ 0 by decide), nm_d, bd_s, jn_d, i1_ne0, if_false, if_true, not_false_eq_true, not_true_eq_false, isZ_0, isZ_1, gd_t]
      exact tB_bad (by unfold fL_isTrue; rw [e1]; rfl) (by decide) e2 (sI_s _ _ _) (i0.z0 2)
theorem cA_42 (a1 a2 a3 a4 a5 : Int32) {X : Nat → OS} {z : OS} (o : Nat → Int64) {fu : Nat} (hf : 5000 ≤ fu) (h : Inv X z) : OKS (cL_42 fu a1 a2 a3 a4 a5 X z o) := by
  obtain ⟨w, c, q⟩ := h.1
  have h6 := q.c60
  have h12 := q.w12
  have h1 := q.w1
  have i0 := h.z0 0
  have q0 : QR w c (X 1) ((sI z 0 0).2 1) := q
  have p12 := pw12 h12
  have t0 : (sI z 0 0).1 0 = 0 := sI_s _ _ _
  have nf := i1_ne0
  unfold cL_42
  rcases vm_dec w a1 with hv | hv
  · skip
    have e1 : fX8_falseClauses fu (X 1) a1 = some (0, cn (fun i => !tu ((X 1).2 0 i) ((X 1).2 1 i) a1) c 0) := by
      unfold fX8_falseClauses
      rw [cm_ok q hv, bd_s, if_pos rfl, q_cf q.xc h6 hf a1, bd_s]
    have e2 : fX9_falseClauses fu z a1 = some (cn (fun i => !tu ((X 1).2 0 i) ((X 1).2 1 i) a1) c 0, sI z 0 0) := by
      unfold fX9_falseClauses
      simp only [nm_d, bd_s, jn_d, i1_ne0, if_false, if_true, not_false_eq_true, not_true_eq_false, isZ_0, isZ_1, gd_t, (m_isMask (fu := fu) q0.mw h12).1 hv, ti_0 t0, m_false q0 hf a1]
    exact tN_ok (by unfold fL_falseClauses; rw [e1]; rfl) e2 t0 i0
  · skip
    have e1 : fX8_falseClauses fu (X 1) a1 = some (2, 0) := by
      unfold fX8_falseClauses
      rw [cm_bad q hv, bd_s, if_neg (by decide)]
    have e2 : fX9_falseClauses fu z a1 = some (0, sI (sI z 0 0) 0 1) := by
      unfold fX9_falseClauses
      simp only [(m_isMask (fu := fu) q0.mw h12).2 hv, ti_1 t0 fu (show (1 : Int32) ≠ 0 by decide), nm_d, bd_s, jn_d, i1_ne0, if_false, if_true, not_false_eq_true, not_true_eq_false, isZ_0, isZ_1, gd_t]
    exact tN_bad (by unfold fL_falseClauses; rw [e1]; rfl) (by decide) e2 (sI_s _ _ _) (i0.z0 1)
theorem cA_43 (a1 a2 a3 a4 a5 : Int32) {X : Nat → OS} {z : OS} (o : Nat → Int64) {fu : Nat} (hf : 5000 ≤ fu) (h : Inv X z) : OKS (cL_43 fu a1 a2 a3 a4 a5 X z o) := by
  obtain ⟨w, c, q⟩ := h.1
  have h6 := q.c60
  have h12 := q.w12
  have h1 := q.w1
  have i0 := h.z0 0
  have q0 : QR w c (X 1) ((sI z 0 0).2 1) := q
  have p12 := pw12 h12
  have t0 : (sI z 0 0).1 0 = 0 := sI_s _ _ _
  have nf := i1_ne0
  unfold cL_43
  rcases vm_dec w a1 with hv | hv
  · skip
    have e1 : fX8_bestFlip fu (X 1) a1 = some (0, ml (fun v => cn (fun i => !tu ((X 1).2 0 i) ((X 1).2 1 i) (a1 ^^^ ((1 : Int32) <<< (nI v &&& 31)))) c 0) w 0 0 61) := by
      unfold fX8_bestFlip
      rw [cm_ok q hv, bd_s, if_pos rfl, q_flip q.xc h6 hf q.xw h12 a1, bd_s]
    have e2 : fX9_bestFlip fu z a1 = some (ml (fun v => cn (fun i => !tu ((X 1).2 0 i) ((X 1).2 1 i) (a1 ^^^ ((1 : Int32) <<< (nI v &&& 31)))) c 0) w 0 0 61, sI z 0 0) := by
      unfold fX9_bestFlip
      simp only [nm_d, bd_s, jn_d, i1_ne0, if_false, if_true, not_false_eq_true, not_true_eq_false, isZ_0, isZ_1, gd_t, (m_isMask (fu := fu) q0.mw h12).1 hv, ti_0 t0, m_flip q0 hf a1]
    exact tN_ok (by unfold fL_bestFlip; rw [e1]; rfl) e2 t0 i0
  · skip
    have e1 : fX8_bestFlip fu (X 1) a1 = some (2, 0) := by
      unfold fX8_bestFlip
      rw [cm_bad q hv, bd_s, if_neg (by decide)]
    have e2 : fX9_bestFlip fu z a1 = some (0, sI (sI z 0 0) 0 1) := by
      unfold fX9_bestFlip
      simp only [(m_isMask (fu := fu) q0.mw h12).2 hv, ti_1 t0 fu (show (1 : Int32) ≠ 0 by decide), nm_d, bd_s, jn_d, i1_ne0, if_false, if_true, not_false_eq_true, not_true_eq_false, isZ_0, isZ_1, gd_t]
    exact tN_bad (by unfold fL_bestFlip; rw [e1]; rfl) (by decide) e2 (sI_s _ _ _) (i0.z0 1)
theorem cA_11 (a1 a2 a3 a4 a5 : Int32) {X : Nat → OS} {z : OS} (o : Nat → Int64) {fu : Nat} (hf : 5000 ≤ fu) (h : Inv X z) : OKS (cL_11 fu a1 a2 a3 a4 a5 X z o) := by
  obtain ⟨w, c, q⟩ := h.1
  have h6 := q.c60
  have h12 := q.w12
  have h1 := q.w1
  have i0 := h.z0 0
  have q0 : QR w c (X 1) ((sI z 0 0).2 1) := q
  have p12 := pw12 h12
  have t0 : (sI z 0 0).1 0 = 0 := sI_s _ _ _
  have nf := i1_ne0
  unfold cL_11
  by_cases hb : Vm w a1 ∧ Vm w a2 ∧ (a1 &&& a2) = 0
  · obtain ⟨v1, v2, v3⟩ := hb
    obtain ⟨z', e3, s, r, ok⟩ := noMasks_ok (fu := fu) q0 hf t0 v1 v2 v3
    have e1 : fX8_find fu (X 1) a1 a2 = some (0, ff (fun i => decide ((X 1).2 0 i = a1) && decide ((X 1).2 1 i = a2)) c 0) := by
      unfold fX8_find
      rw [cl_ok q v1 v2 v3, bd_s, if_pos rfl, q_indexOf q.xc h6 hf, bd_s]
    have e2 : fX9_find fu z a1 a2 = some (ff (fun i => decide ((X 1).2 0 i = a1) && decide ((X 1).2 1 i = a2)) c 0, z') := by
      unfold fX9_find
      simp only [e3, nm_d, bd_s, jn_d, i1_ne0, if_false, if_true, not_false_eq_true, not_true_eq_false, isZ_0, isZ_1, gd_t, m_same (s.rl q0) hf r ok]
    exact tN_ok (by unfold fL_find; rw [e1]; rfl) e2 (by rw [s.1]; exact t0) (i0.fr s.sf.1.fq.fr (s.rl q0))
  · skip
    have e1 : fX8_find fu (X 1) a1 a2 = some (2, 0) := by
      unfold fX8_find
      rw [cl_bad q hb, bd_s, if_neg (by decide)]
    have e2 : fX9_find fu z a1 a2 = some (0, sI (sI z 0 0) 0 1) := by
      unfold fX9_find
      simp only [noMasks_bad (fu := fu) q0 t0 hb, nm_d, bd_s, jn_d, i1_ne0, if_false, if_true, not_false_eq_true, not_true_eq_false, isZ_0, isZ_1, gd_t]
    exact tN_bad (by unfold fL_find; rw [e1]; rfl) (by decide) e2 (sI_s _ _ _) (i0.z0 1)
theorem cA_46 (a1 a2 a3 a4 a5 : Int32) {X : Nat → OS} {z : OS} (o : Nat → Int64) {fu : Nat} (hf : 5000 ≤ fu) (h : Inv X z) : OKS (cL_46 fu a1 a2 a3 a4 a5 X z o) := by
  obtain ⟨w, c, q⟩ := h.1
  have h6 := q.c60
  have h12 := q.w12
  have h1 := q.w1
  have i0 := h.z0 0
  have q0 : QR w c (X 1) ((sI z 0 0).2 1) := q
  have p12 := pw12 h12
  have t0 : (sI z 0 0).1 0 = 0 := sI_s _ _ _
  have nf := i1_ne0
  unfold cL_46
  by_cases hb : Vm w a1 ∧ Vm w a2 ∧ (a1 &&& a2) = 0
  · obtain ⟨v1, v2, v3⟩ := hb
    obtain ⟨z', e3, s, r, ok⟩ := noMasks_ok (fu := fu) q0 hf t0 v1 v2 v3
    have e1 : fX8_isImplied fu (X 1) a1 a2 = some (0, b2 (al (fun a => !(!tu a1 a2 (nI a) && mo (X 1) c (-1) (nI a))) (2 ^ w) 0)) := by
      unfold fX8_isImplied
      rw [cl_ok q v1 v2 v3, bd_s, if_pos rfl, q_imply q.xc h6 hf q.av p12.1 p12.2, bd_s, isZ_b, gd_t]
    have e2 : fX9_isImplied fu z a1 a2 = some (b2 (al (fun a => !(!tu a1 a2 (nI a) && mo (X 1) c (-1) (nI a))) (2 ^ w) 0), z') := by
      unfold fX9_isImplied
      simp only [e3, nm_d, bd_s, jn_d, i1_ne0, if_false, if_true, not_false_eq_true, not_true_eq_false, isZ_0, isZ_1, gd_t, many_e (s.rl q0).mc, m_follows (s.rl q0) hf r h6 ok]
      generalize al _ _ _ = B
      cases B <;> rfl
    exact tB_ok (by unfold fL_isImplied; rw [e1]; rfl) e2 (by rw [s.1]; exact t0) (i0.fr s.sf.1.fq.fr (s.rl q0))
  · skip
    have e1 : fX8_isImplied fu (X 1) a1 a2 = some (2, 0) := by
      unfold fX8_isImplied
      rw [cl_bad q hb, bd_s, if_neg (by decide)]
    have e2 : fX9_isImplied fu z a1 a2 = some (0, sI (sI z 0 0) 0 1) := by
      unfold fX9_isImplied
      simp only [noMasks_bad (fu := fu) q0 t0 hb, nm_d, bd_s, jn_d, i1_ne0, if_false, if_true, not_false_eq_true, not_true_eq_false, isZ_0, isZ_1, gd_t]
    exact tB_bad (by unfold fL_isImplied; rw [e1]; rfl) (by decide) e2 (sI_s _ _ _) (i0.z0 1)
theorem cA_23 (a1 a2 a3 a4 a5 : Int32) {X : Nat → OS} {z : OS} (o : Nat → Int64) {fu : Nat} (hf : 5000 ≤ fu) (h : Inv X z) : OKS (cL_23 fu a1 a2 a3 a4 a5 X z o) := by
  obtain ⟨w, c, q⟩ := h.1
  have h6 := q.c60
  have h12 := q.w12
  have h1 := q.w1
  have i0 := h.z0 0
  have q0 : QR w c (X 1) ((sI z 0 0).2 1) := q
  have p12 := pw12 h12
  have t0 : (sI z 0 0).1 0 = 0 := sI_s _ _ _
  have nf := i1_ne0
  unfold cL_23
  have sp := pk_ix a1 (n := w) (by omega)
  by_cases g : a2 = 0
  · simp only [g, if_true]
    by_cases hb : a1 < 0 ∨ nI w ≤ a1
    · skip
      have e1 : fX8_occurrences fu (X 1) a1 0 = some (1, 0) := by
        unfold fX8_occurrences
        rw [cv_bad q hb, bd_s, if_neg (by decide)]
      have e2 : fX9_occurrences fu z a1 0 = some (0, sI (sI z 0 0) 0 1) := by
        unfold fX9_occurrences
        simp only [noVar_bad (z := sI z 0 0) (fu := fu) t0 q0.mw h12 hb, nm_d, bd_s, jn_d, i1_ne0, if_false, if_true, not_false_eq_true, not_true_eq_false, isZ_0, isZ_1, gd_t]
      exact tN_bad (by unfold fL_occurrences; rw [e1]; rfl) (by decide) e2 (sI_s _ _ _) (i0.z0 1)
    · obtain ⟨j, hj, rfl⟩ := (sp.resolve_left (fun t => hb (Or.inl t))).resolve_left (fun t => hb (Or.inr t))
      have nv := noVar_ok (z := sI z 0 0) (fu := fu) t0 q0.mw h12 hj
      have e1 : fX8_occurrences fu (X 1) (nI j) 0 = some (0, cn (fun i => bt ((X 1).2 1 i) j) c 0) := by
        unfold fX8_occurrences
        rw [cv_ok q hj, bd_s, if_pos rfl, nm_d, if_pos rfl, q_touch q.xc h6 hf, bd_s, touch_n q hj]
      have e2 : fX9_occurrences fu z (nI j) 0 = some (cn (fun i => bt ((X 1).2 1 i) j) c 0, sI z 0 0) := by
        unfold fX9_occurrences
        simp only [nv, nm_d, bd_s, jn_d, i1_ne0, if_false, if_true, not_false_eq_true, not_true_eq_false, isZ_0, isZ_1, gd_t, m_often2 q0 hf hj]
      exact tN_ok (by unfold fL_occurrences; rw [e1]; rfl) e2 t0 i0
  · simp only [g, if_false]
    by_cases hb : a1 < 0 ∨ nI w ≤ a1
    · skip
      have e1 : fX8_occurrences fu (X 1) a1 1 = some (1, 0) := by
        unfold fX8_occurrences
        rw [cv_bad q hb, bd_s, if_neg (by decide)]
      have e2 : fX9_occurrences fu z a1 1 = some (0, sI (sI z 0 0) 0 1) := by
        unfold fX9_occurrences
        simp only [noVar_bad (z := sI z 0 0) (fu := fu) t0 q0.mw h12 hb, nm_d, bd_s, jn_d, i1_ne0, if_false, if_true, not_false_eq_true, not_true_eq_false, isZ_0, isZ_1, gd_t]
      exact tN_bad (by unfold fL_occurrences; rw [e1]; rfl) (by decide) e2 (sI_s _ _ _) (i0.z0 1)
    · obtain ⟨j, hj, rfl⟩ := (sp.resolve_left (fun t => hb (Or.inl t))).resolve_left (fun t => hb (Or.inr t))
      have nv := noVar_ok (z := sI z 0 0) (fu := fu) t0 q0.mw h12 hj
      have e1 : fX8_occurrences fu (X 1) (nI j) 1 = some (0, cn (fun i => bt ((X 1).2 0 i) j) c 0) := by
        unfold fX8_occurrences
        rw [cv_ok q hj, bd_s, if_pos rfl, nm_d, if_neg (by decide), q_touch q.xc h6 hf, bd_s, touch_p q hj]
      have e2 : fX9_occurrences fu z (nI j) 1 = some (cn (fun i => bt ((X 1).2 0 i) j) c 0, sI z 0 0) := by
        unfold fX9_occurrences
        simp only [nv, nm_d, bd_s, jn_d, i1_ne0, if_false, if_true, not_false_eq_true, not_true_eq_false, isZ_0, isZ_1, gd_t, m_often1 q0 hf hj]
      exact tN_ok (by unfold fL_occurrences; rw [e1]; rfl) e2 t0 i0
