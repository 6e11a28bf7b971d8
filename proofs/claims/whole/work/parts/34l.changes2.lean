/-! Part II: drop, negate, reduce, saturate, undo. -/
theorem cA_55 (a1 a2 a3 a4 a5 : Int32) {X : Nat → OS} {z : OS} (o : Nat → Int64) {fu : Nat} (hf : 5000 ≤ fu) (h : Inv X z) : OKS (cL_55 fu a1 a2 a3 a4 a5 X z o) := by
  obtain ⟨w, c, q⟩ := h.1
  have h6 := q.c60
  have h12 := q.w12
  have h1 := q.w1
  have i0 := h.z0 0
  have q0 : QR w c (X 1) ((sI z 0 0).2 1) := q
  have p12 := pw12 h12
  have t0 : (sI z 0 0).1 0 = 0 := sI_s _ _ _
  have nf := i1_ne0
  unfold cL_55
  obtain ⟨x8, H, ep, cl⟩ := close h hf q
  have sp := pk_ix a1 (n := c) (by omega)
  by_cases hb : a1 < 0 ∨ nI c ≤ a1
  · skip
    have e1 : fX8_dropClause fu (X 1) (X 8) (X 9) (X 10) (X 11) (X 12) (X 13) (X 14) (X 15) (X 16) a1 = some (1, 0, X 1, X 8, X 9, X 10, X 11, X 12, X 13, X 14, X 15, X 16) := by
      unfold fX8_dropClause
      rw [ck_bad q hb, bd_s, if_neg (by decide)]
    have e2 : fX9_dropClause fu z a1 = some (0, sI (sI z 0 0) 0 1) := by
      unfold fX9_dropClause
      simp only [noClause_bad (z := sI z 0 0) (fu := fu) t0 q0.mc h6 hb, nm_d, bd_s, jn_d, i1_ne0, if_false, if_true, not_false_eq_true, not_true_eq_false, isZ_0, isZ_1, gd_t]
    exact tW_bad (by unfold fL_dropClause; rw [e1]; rfl) (by decide) e2 (sI_s _ _ _) (i0.z0 1)
  · obtain ⟨j, hj, rfl⟩ := (sp.resolve_left (fun t => hb (Or.inl t))).resolve_left (fun t => hb (Or.inr t))
    have qp := q_isParent (x := X 1) (fu := fu) q.xc h6 hf (nI j)
    have mp := m_isParent q0 hf (a := j) (by omega)
    rcases Bool.eq_false_or_eq_true (ex (fun i => decide ((X 1).2 2 i = nI j) || decide ((X 1).2 3 i = nI j)) c 0) with E | E
    · rw [E] at qp mp
      have e1 : fX8_dropClause fu (X 1) (X 8) (X 9) (X 10) (X 11) (X 12) (X 13) (X 14) (X 15) (X 16) (nI j) = some (3, 0, X 1, X 8, X 9, X 10, X 11, X 12, X 13, X 14, X 15, X 16) := by
        unfold fX8_dropClause
        rw [ck_ok q hj, bd_s, if_pos rfl, qp, bd_s, if_neg (by decide)]
      have e2 : fX9_dropClause fu z (nI j) = some (0, sI (sI z 0 0) 0 2) := by
        unfold fX9_dropClause
        simp only [noClause_ok (z := sI z 0 0) (fu := fu) t0 q0.mc h6 hj, mp, b2_t, ti_1 t0 fu (show (2 : Int32) ≠ 0 by decide), nm_d, bd_s, jn_d, i1_ne0, if_false, if_true, not_false_eq_true, not_true_eq_false, isZ_0, isZ_1, gd_t]
      exact tW_bad (by unfold fL_dropClause; rw [e1]; rfl) (by decide) e2 (sI_s _ _ _) (i0.z0 2)
    · have np : par (X 1) c j = false := E
      rw [E] at qp mp
      obtain ⟨zk, ek, sk, kk⟩ := m_keeps (fu := fu) hf (sI z 0 0)
      have qk : QR w c (X 1) (zk.2 1) := by rw [sk.2 1 (by decide)]; exact q0
      obtain ⟨x', za, ea, ez, ja, qa⟩ := RL_drop (fu := fu) qk hf hj np
      have q2 : QR w c (X 1) (za.2 2) := by
        rw [ja.2 2 (by decide)]
        exact q0.cong (fun i hi => kk i (reg_lt h6 hi))
      obtain ⟨zr, er, hr0, inv⟩ := cl za (cn (fun a => mo x' (c - 1) (-1) (nI a)) (2 ^ w) 0) w (c - 1) w x' (((frI z 0).tr (SK2.fr sk)).tr ja.sf.fq.fr) q2 qa
      have qn := q_count (fu := fu) qa.xc qa.c60 hf qa.av p12.1 p12.2
      have mn := m_models qa hf
      have e1 : fX8_dropClause fu (X 1) (X 8) (X 9) (X 10) (X 11) (X 12) (X 13) (X 14) (X 15) (X 16) (nI j) = some (0, cn (fun a => mo x' (c - 1) (-1) (nI a)) (2 ^ w) 0, x', x8, H 0, H 1, H 2, H 3, H 4, H 5, H 6, H 7) := by
        unfold fX8_dropClause
        rw [ck_ok q hj, bd_s, if_pos rfl, qp, bd_s, if_pos (show b2 false = 0 by decide), ep]
        simp only [bd_s, nm_d, ea, qn]
      have e2 : fX9_dropClause fu z (nI j) = some (cn (fun a => mo x' (c - 1) (-1) (nI a)) (2 ^ w) 0, zr) := by
        unfold fX9_dropClause
        simp only [noClause_ok (z := sI z 0 0) (fu := fu) t0 q0.mc h6 hj, mp, b2_f, ti_0 t0, nm_d, bd_s, jn_d, i1_ne0, if_false, if_true, not_false_eq_true, not_true_eq_false, isZ_0, isZ_1, gd_t, ek, ez, mn, er]
      exact tW_ok (by unfold fL_dropClause; rw [e1]; rfl) e2 (by rw [hr0, ja.1, sk.1, t0]) inv
theorem cA_56 (a1 a2 a3 a4 a5 : Int32) {X : Nat → OS} {z : OS} (o : Nat → Int64) {fu : Nat} (hf : 5000 ≤ fu) (h : Inv X z) : OKS (cL_56 fu a1 a2 a3 a4 a5 X z o) := by
  obtain ⟨w, c, q⟩ := h.1
  have h6 := q.c60
  have h12 := q.w12
  have h1 := q.w1
  have i0 := h.z0 0
  have q0 : QR w c (X 1) ((sI z 0 0).2 1) := q
  have p12 := pw12 h12
  have t0 : (sI z 0 0).1 0 = 0 := sI_s _ _ _
  have nf := i1_ne0
  unfold cL_56
  obtain ⟨x8, H, ep, cl⟩ := close h hf q
  have sp := pk_ix a1 (n := w) (by omega)
  by_cases hb : a1 < 0 ∨ nI w ≤ a1
  · skip
    have e1 : fX8_negateVariable fu (X 1) (X 8) (X 9) (X 10) (X 11) (X 12) (X 13) (X 14) (X 15) (X 16) a1 = some (1, 0, X 1, X 8, X 9, X 10, X 11, X 12, X 13, X 14, X 15, X 16) := by
      unfold fX8_negateVariable
      rw [cv_bad q hb, bd_s, if_neg (by decide)]
    have e2 : fX9_negateVariable fu z a1 = some (0, sI (sI z 0 0) 0 1) := by
      unfold fX9_negateVariable
      simp only [noVar_bad (z := sI z 0 0) (fu := fu) t0 q0.mw h12 hb, nm_d, bd_s, jn_d, i1_ne0, if_false, if_true, not_false_eq_true, not_true_eq_false, isZ_0, isZ_1, gd_t]
    exact tW_bad (by unfold fL_negateVariable; rw [e1]; rfl) (by decide) e2 (sI_s _ _ _) (i0.z0 1)
  · obtain ⟨j, hj, rfl⟩ := (sp.resolve_left (fun t => hb (Or.inl t))).resolve_left (fun t => hb (Or.inr t))
    have nv := noVar_ok (z := sI z 0 0) (fu := fu) t0 q0.mw h12 hj
    obtain ⟨zk, ek, sk, kk⟩ := m_keeps (fu := fu) hf (sI z 0 0)
    have qk : QR w c (X 1) (zk.2 1) := by rw [sk.2 1 (by decide)]; exact q0
    obtain ⟨x', za, ea, ez, ja, qa, xn⟩ := RL_negate (fu := fu) qk hf hj
    have q2 : QR w c (X 1) (za.2 2) := by
      rw [ja.2 2 (by decide)]
      exact q0.cong (fun i hi => kk i (reg_lt h6 hi))
    obtain ⟨zr, er, hr0, inv⟩ := cl za (cn (fun i => bt ((X 1).2 0 i) j || bt ((X 1).2 1 i) j) c 0) w c w x' (((frI z 0).tr (SK2.fr sk)).tr ja.sf.fq.fr) q2 qa
    have qt := q_touch (x := x') (fu := fu) qa.xc h6 hf ((1 : Int32) <<< (nI j &&& 31)) ((1 : Int32) <<< (nI j &&& 31))
    have qn : fX0_countTouching fu x' ((1 : Int32) <<< (nI j &&& 31)) ((1 : Int32) <<< (nI j &&& 31)) = some (cn (fun i => bt ((X 1).2 0 i) j || bt ((X 1).2 1 i) j) c 0) := qt.trans (congrArg some (q_negCount q hj xn))
    have e1 : fX8_negateVariable fu (X 1) (X 8) (X 9) (X 10) (X 11) (X 12) (X 13) (X 14) (X 15) (X 16) (nI j) = some (0, cn (fun i => bt ((X 1).2 0 i) j || bt ((X 1).2 1 i) j) c 0, x', x8, H 0, H 1, H 2, H 3, H 4, H 5, H 6, H 7) := by
      unfold fX8_negateVariable
      rw [cv_ok q hj, bd_s, if_pos rfl, ep]
      simp only [bd_s, nm_d, ea, qn]
    have e2 : fX9_negateVariable fu z (nI j) = some (cn (fun i => bt ((X 1).2 0 i) j || bt ((X 1).2 1 i) j) c 0, zr) := by
      unfold fX9_negateVariable
      simp only [nv, nm_d, bd_s, jn_d, i1_ne0, if_false, if_true, not_false_eq_true, not_true_eq_false, isZ_0, isZ_1, gd_t, ek, ez, er]
    exact tW_ok (by unfold fL_negateVariable; rw [e1]; rfl) e2 (by rw [hr0, ja.1, sk.1, t0]) inv
theorem cA_57 (a1 a2 a3 a4 a5 : Int32) {X : Nat → OS} {z : OS} (o : Nat → Int64) {fu : Nat} (hf : 5000 ≤ fu) (h : Inv X z) : OKS (cL_57 fu a1 a2 a3 a4 a5 X z o) := by
  obtain ⟨w, c, q⟩ := h.1
  have h6 := q.c60
  have h12 := q.w12
  have h1 := q.w1
  have i0 := h.z0 0
  have q0 : QR w c (X 1) ((sI z 0 0).2 1) := q
  have p12 := pw12 h12
  have t0 : (sI z 0 0).1 0 = 0 := sI_s _ _ _
  have nf := i1_ne0
  obtain ⟨x8, H, ep, cl⟩ := close h hf q
  obtain ⟨zk, ek, sk, kk⟩ := m_keeps (fu := fu) hf (sI z 0 0)
  have qk : QR w c (X 1) (zk.2 1) := by rw [sk.2 1 (by decide)]; exact q0
  obtain ⟨r, c', x', za, ea, ez, ja, qa⟩ := q_reduce (fu := fu) qk hf
  have q2 : QR w c (X 1) (za.2 2) := by
    rw [ja.2 2 (by decide)]
    exact q0.cong (fun i hi => kk i (reg_lt h6 hi))
  obtain ⟨zr, er, hr0, inv⟩ := cl za (nI r) w c' w x' (((frI z 0).tr (SK2.fr sk)).tr ja.sf.fq.fr) q2 qa
  have e1 : fX8_reduce fu (X 1) (X 8) (X 9) (X 10) (X 11) (X 12) (X 13) (X 14) (X 15) (X 16) = some (nI r, x', x8, H 0, H 1, H 2, H 3, H 4, H 5, H 6, H 7) := by
    unfold fX8_reduce
    rw [ep]
    simp only [bd_s, nm_d, ea]
  have e2 : fX9_reduce fu z = some (nI r, zr) := by
    unfold fX9_reduce
    simp only [nm_d, bd_s, jn_d, i1_ne0, if_false, if_true, not_false_eq_true, not_true_eq_false, isZ_0, isZ_1, gd_t, ek, ez, er]
  unfold cL_57
  rw [e1, bd_s, e2, bd_s, if_pos rfl]
  exact ⟨W10 X x' x8 H, zr, o, rfl, inv⟩
theorem tS_ok {L : Option (Int32 × (Nat → Int64) × OS × OS × OS × OS × OS × OS × OS × OS × OS × OS × OS)} {M : Option (Int32 × OS)} {X H : Nat → OS} {x1 x8 x21 z' : OS} {o : Nat → Int64} {fu : Nat} {r : Int32} (e1 : L = some (0, vp_updL o (0 : Int32).toNatClampNeg r.toInt64, x1, x8, H 0, H 1, H 2, H 3, H 4, H 5, H 6, H 7, x21)) (e2 : M = some (r, z')) (ht : z'.1 0 = 0) (i : Inv (W10 X x1 x8 H) z') : OKS (bd L (fun (w1 : Int32 × (Nat → Int64) × OS × OS × OS × OS × OS × OS × OS × OS × OS × OS × OS) => bd M (fun (w2 : Int32 × OS) => bd (fX9_thrown fu w2.2) (fun (w3 : Int32) => (if w3 = w1.1 then (if w1.1 = 0 then (if (lg_cmp ((w1.2.1 (0 : Int32).toNatClampNeg)) ((w2.1).toInt64)) = 0 then some ((upX (upX (upX (upX (upX (upX (upX (upX (upX (upX (upX X 1 w1.2.2.1) 8 w1.2.2.2.1) 9 w1.2.2.2.2.1) 10 w1.2.2.2.2.2.1) 11 w1.2.2.2.2.2.2.1) 12 w1.2.2.2.2.2.2.2.1) 13 w1.2.2.2.2.2.2.2.2.1) 14 w1.2.2.2.2.2.2.2.2.2.1) 15 w1.2.2.2.2.2.2.2.2.2.2.1) 16 w1.2.2.2.2.2.2.2.2.2.2.2.1) 21 w1.2.2.2.2.2.2.2.2.2.2.2.2), w2.2, w1.2.1) else none) else some ((upX (upX (upX (upX (upX (upX (upX (upX (upX (upX (upX X 1 w1.2.2.1) 8 w1.2.2.2.1) 9 w1.2.2.2.2.1) 10 w1.2.2.2.2.2.1) 11 w1.2.2.2.2.2.2.1) 12 w1.2.2.2.2.2.2.2.1) 13 w1.2.2.2.2.2.2.2.2.1) 14 w1.2.2.2.2.2.2.2.2.2.1) 15 w1.2.2.2.2.2.2.2.2.2.2.1) 16 w1.2.2.2.2.2.2.2.2.2.2.2.1) 21 w1.2.2.2.2.2.2.2.2.2.2.2.2), w2.2, w1.2.1)) else none))))) := by
  subst e1 e2
  have e : lg_cmp ((vp_updL o (0 : Int32).toNatClampNeg r.toInt64) (0 : Int32).toNatClampNeg) r.toInt64 = 0 := by rw [pk_uLs]; exact lg_self _
  rw [bd_s, bd_s, th_e, bd_s, if_pos ht, if_pos rfl]
  exact ⟨upX (W10 X x1 x8 H) 21 x21, z', _, if_pos e, i.up 21 x21 (by omega)⟩
theorem tS_bad {L : Option (Int32 × (Nat → Int64) × OS × OS × OS × OS × OS × OS × OS × OS × OS × OS × OS)} {M : Option (Int32 × OS)} {X : Nat → OS} {x21 z' : OS} {o : Nat → Int64} {fu : Nat} {r k : Int32} (e1 : L = some (k, o, X 1, X 8, X 9, X 10, X 11, X 12, X 13, X 14, X 15, X 16, x21)) (hk : k ≠ 0) (e2 : M = some (r, z')) (ht : z'.1 0 = k) (i : Inv X z') : OKS (bd L (fun (w1 : Int32 × (Nat → Int64) × OS × OS × OS × OS × OS × OS × OS × OS × OS × OS × OS) => bd M (fun (w2 : Int32 × OS) => bd (fX9_thrown fu w2.2) (fun (w3 : Int32) => (if w3 = w1.1 then (if w1.1 = 0 then (if (lg_cmp ((w1.2.1 (0 : Int32).toNatClampNeg)) ((w2.1).toInt64)) = 0 then some ((upX (upX (upX (upX (upX (upX (upX (upX (upX (upX (upX X 1 w1.2.2.1) 8 w1.2.2.2.1) 9 w1.2.2.2.2.1) 10 w1.2.2.2.2.2.1) 11 w1.2.2.2.2.2.2.1) 12 w1.2.2.2.2.2.2.2.1) 13 w1.2.2.2.2.2.2.2.2.1) 14 w1.2.2.2.2.2.2.2.2.2.1) 15 w1.2.2.2.2.2.2.2.2.2.2.1) 16 w1.2.2.2.2.2.2.2.2.2.2.2.1) 21 w1.2.2.2.2.2.2.2.2.2.2.2.2), w2.2, w1.2.1) else none) else some ((upX (upX (upX (upX (upX (upX (upX (upX (upX (upX (upX X 1 w1.2.2.1) 8 w1.2.2.2.1) 9 w1.2.2.2.2.1) 10 w1.2.2.2.2.2.1) 11 w1.2.2.2.2.2.2.1) 12 w1.2.2.2.2.2.2.2.1) 13 w1.2.2.2.2.2.2.2.2.1) 14 w1.2.2.2.2.2.2.2.2.2.1) 15 w1.2.2.2.2.2.2.2.2.2.2.1) 16 w1.2.2.2.2.2.2.2.2.2.2.2.1) 21 w1.2.2.2.2.2.2.2.2.2.2.2.2), w2.2, w1.2.1)) else none))))) := by
  subst e1 e2
  rw [bd_s, bd_s, th_e, bd_s, if_pos ht, if_neg hk]
  exact ⟨upX (W10 X (X 1) (X 8) (fun k => X (9 + k))) 21 x21, z', _, rfl, by rw [W10_id]; exact i.up 21 x21 (by omega)⟩
theorem cA_54 (a1 a2 a3 a4 a5 : Int32) {X : Nat → OS} {z : OS} (o : Nat → Int64) {fu : Nat} (hf : 5000 ≤ fu) (h : Inv X z) : OKS (cL_54 fu a1 a2 a3 a4 a5 X z o) := by
  obtain ⟨w, c, q⟩ := h.1
  have h6 := q.c60
  have h12 := q.w12
  have h1 := q.w1
  have i0 := h.z0 0
  have q0 : QR w c (X 1) ((sI z 0 0).2 1) := q
  have p12 := pw12 h12
  have t0 : (sI z 0 0).1 0 = 0 := sI_s _ _ _
  have nf := i1_ne0
  unfold cL_54
  obtain ⟨x8, H, ep, cl⟩ := close h hf q
  have ni : fX9_in fu a1.toInt64 1 99 = some (b2 (!decide (a1 < 1) && !decide (99 < a1))) := by
    have e := in_e fu a1 1 99
    rw [← c1L, ← c99L] at e
    exact e
  have bad : (¬ (¬ a1 < 1 ∧ ¬ 99 < a1)) → OKS (bd (fL_saturate fu o (X 1) (X 8) (X 9) (X 10) (X 11) (X 12) (X 13) (X 14) (X 15) (X 16) (X 21) a1) (fun (w1 : Int32 × (Nat → Int64) × OS × OS × OS × OS × OS × OS × OS × OS × OS × OS × OS) => bd (fX9_saturate fu z a1) (fun (w2 : Int32 × OS) => bd (fX9_thrown fu w2.2) (fun (w3 : Int32) => (if w3 = w1.1 then (if w1.1 = 0 then (if (lg_cmp ((w1.2.1 (0 : Int32).toNatClampNeg)) ((w2.1).toInt64)) = 0 then some ((upX (upX (upX (upX (upX (upX (upX (upX (upX (upX (upX X 1 w1.2.2.1) 8 w1.2.2.2.1) 9 w1.2.2.2.2.1) 10 w1.2.2.2.2.2.1) 11 w1.2.2.2.2.2.2.1) 12 w1.2.2.2.2.2.2.2.1) 13 w1.2.2.2.2.2.2.2.2.1) 14 w1.2.2.2.2.2.2.2.2.2.1) 15 w1.2.2.2.2.2.2.2.2.2.2.1) 16 w1.2.2.2.2.2.2.2.2.2.2.2.1) 21 w1.2.2.2.2.2.2.2.2.2.2.2.2), w2.2, w1.2.1) else none) else some ((upX (upX (upX (upX (upX (upX (upX (upX (upX (upX (upX X 1 w1.2.2.1) 8 w1.2.2.2.1) 9 w1.2.2.2.2.1) 10 w1.2.2.2.2.2.1) 11 w1.2.2.2.2.2.2.1) 12 w1.2.2.2.2.2.2.2.1) 13 w1.2.2.2.2.2.2.2.2.1) 14 w1.2.2.2.2.2.2.2.2.2.1) 15 w1.2.2.2.2.2.2.2.2.2.2.1) 16 w1.2.2.2.2.2.2.2.2.2.2.2.1) 21 w1.2.2.2.2.2.2.2.2.2.2.2.2), w2.2, w1.2.1)) else none))))) := by
    intro nb
    have e1 : fX8_saturate fu (X 1) (X 8) (X 9) (X 10) (X 11) (X 12) (X 13) (X 14) (X 15) (X 16) (X 21) a1 = some (2, 0, X 1, X 8, X 9, X 10, X 11, X 12, X 13, X 14, X 15, X 16, X 21) := by
      unfold fX8_saturate
      rw [jn_d]
      by_cases g : a1 < 1
      · rw [if_pos g]
      · have g2 : 99 < a1 := Classical.byContradiction (fun t => nb ⟨g, t⟩)
        rw [if_neg g, if_neg (fun t => by
          rw [Int32.le_iff_toInt_le] at t
          rw [Int32.lt_iff_toInt_lt] at g2
          omega)]
    have e2 : fX9_saturate fu z a1 = some (0, sI (sI z 0 0) 0 1) := by
      have n0 : (!decide (a1 < 1) && !decide (99 < a1)) = false := by
        by_cases g : a1 < 1
        · rw [decide_eq_true g]; rfl
        · have g2 : 99 < a1 := Classical.byContradiction (fun t => nb ⟨g, t⟩)
          rw [decide_eq_true g2, decide_eq_false g]; rfl
      rw [n0] at ni
      unfold fX9_saturate
      simp only [ni, b2_f, ti_1 t0 fu (show (1 : Int32) ≠ 0 by decide), nm_d, bd_s, jn_d, i1_ne0, if_false, if_true, not_false_eq_true, not_true_eq_false, isZ_0, isZ_1, gd_t]
    exact tS_bad (by unfold fL_saturate; rw [e1]; rfl) (by decide) e2 (sI_s _ _ _) (i0.z0 1)
  by_cases nb : ¬ a1 < 1 ∧ ¬ 99 < a1
  · obtain ⟨g1, g2⟩ := nb
    have n1 : (!decide (a1 < 1) && !decide (99 < a1)) = true := by
      rw [decide_eq_false g1, decide_eq_false g2]; rfl
    rw [n1] at ni
    have g3 : a1 ≤ 99 := by
      rw [Int32.le_iff_toInt_le]
      rw [Int32.lt_iff_toInt_lt] at g2
      omega
    obtain ⟨P, hP, rfl⟩ : ∃ P : Nat, P < 100 ∧ a1 = nI P := by
      rcases pk_ix a1 (n := 100) (by omega) with t | t | t
      · exfalso
        apply g1
        rw [Int32.lt_iff_toInt_lt] at t ⊢
        have : (0 : Int32).toInt = 0 := by decide
        have : (1 : Int32).toInt = 1 := by decide
        omega
      · exfalso
        rw [Int32.le_iff_toInt_le] at t g3
        rw [nI_toInt (by omega)] at t
        have : (99 : Int32).toInt = 99 := by decide
        omega
      · exact t
    obtain ⟨s1, s', z3, b, i, j, f1, f2, f3, sf, z8, z9, ht, hn⟩ := p_next (fu := fu) q0 hf (X 21)
    have q3 := sf.rl q0
    have t3 : z3.1 0 = 0 := by rw [sf.1.i 0]; exact t0
    cases b
    · have e1 : fX8_saturate fu (X 1) (X 8) (X 9) (X 10) (X 11) (X 12) (X 13) (X 14) (X 15) (X 16) (X 21) (nI P) = some (3, 0, X 1, X 8, X 9, X 10, X 11, X 12, X 13, X 14, X 15, X 16, s') := by
        unfold fX8_saturate
        rw [jn_d, if_neg g1, if_pos g3, f1, bd_s, f2, bd_s, nm_d, nm_d, if_neg (fun t => t (show b2 false = 0 by decide))]
      have e2 : fX9_saturate fu z (nI P) = some (0, sI z3 0 2) := by
        unfold fX9_saturate
        simp only [ni, b2_t, b2_f, ti_0 t0, f3, ti_1 t3 fu (show (2 : Int32) ≠ 0 by decide), nm_d, bd_s, jn_d, i1_ne0, if_false, if_true, not_false_eq_true, not_true_eq_false, isZ_0, isZ_1, gd_t]
      exact tS_bad (by unfold fL_saturate; rw [e1]; rfl) (by decide) e2 (sI_s _ _ _) ((i0.fr sf.1.fq.fr q3).z0 2)
    · obtain ⟨zk, ek, sk, kk⟩ := m_keeps (fu := fu) hf z3
      have qk : QR w c (X 1) (zk.2 1) := by rw [sk.2 1 (by decide)]; exact q3
      obtain ⟨r, c', x', sat', za, ea, ez, sf2, qa⟩ := q_make (P := P) (sat := s') (fu := fu) qk hf (by omega)
      have q2 : QR w c (X 1) (za.2 2) := by
        rw [sf2.a 2]
        exact q3.cong (fun i hi => kk i (reg_lt h6 hi))
      obtain ⟨zr, er, hr0, inv⟩ := cl za (nI r) w c' w x' ((((frI z 0).tr sf.1.fq.fr).tr (SK2.fr sk)).tr sf2.fq.fr) q2 qa
      have e1 : fX8_saturate fu (X 1) (X 8) (X 9) (X 10) (X 11) (X 12) (X 13) (X 14) (X 15) (X 16) (X 21) (nI P) = some (0, nI r, x', x8, H 0, H 1, H 2, H 3, H 4, H 5, H 6, H 7, sat') := by
        unfold fX8_saturate
        rw [jn_d, if_neg g1, if_pos g3, f1, bd_s, f2, bd_s, nm_d, nm_d, if_pos (show ¬ b2 true = 0 by decide), ep]
        simp only [bd_s, nm_d, ea]
      have e2 : fX9_saturate fu z (nI P) = some (nI r, zr) := by
        unfold fX9_saturate
        simp only [ni, b2_t, ti_0 t0, f3, ti_0 t3, ek, ez, er, nm_d, bd_s, jn_d, i1_ne0, if_false, if_true, not_false_eq_true, not_true_eq_false, isZ_0, isZ_1, gd_t]
      exact tS_ok (by unfold fL_saturate; rw [e1]; rfl) e2 (by rw [hr0, sf2.i 0, sk.1, t3]) inv
  · exact bad nb
