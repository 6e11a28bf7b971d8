/-! Part II: reading calls that may refuse their arguments. -/
theorem lg_self (x : Int64) : lg_cmp x x = 0 := (lg_cmp_eq x x).mpr rfl
theorem th_e (fu : Nat) (z : OS) : fX9_thrown fu z = some (z.1 0) := rfl
theorem tN_ok {L : Option (Int32 × (Nat → Int64))} {M : Option (Int32 × OS)} {X : Nat → OS} {z' : OS} {o : Nat → Int64} {fu : Nat} {r : Int32} (e1 : L = some (0, vp_updL o (0 : Int32).toNatClampNeg r.toInt64)) (e2 : M = some (r, z')) (ht : z'.1 0 = 0) (i : Inv X z') : OKS (bd L (fun (w1 : Int32 × (Nat → Int64)) => bd M (fun (w2 : Int32 × OS) => bd (fX9_thrown fu w2.2) (fun (w3 : Int32) => (if w3 = w1.1 then (if w1.1 = 0 then (if (lg_cmp ((w1.2 (0 : Int32).toNatClampNeg)) ((w2.1).toInt64)) = 0 then some (X, w2.2, w1.2) else none) else some (X, w2.2, w1.2)) else none))))) := by
  subst e1 e2
  have e : lg_cmp ((vp_updL o (0 : Int32).toNatClampNeg r.toInt64) (0 : Int32).toNatClampNeg) r.toInt64 = 0 := by rw [pk_uLs]; exact lg_self _
  rw [bd_s, bd_s, th_e, bd_s, if_pos ht, if_pos rfl]
  exact ⟨_, _, _, if_pos e, i⟩
theorem tB_ok {L : Option (Int32 × (Nat → Int64))} {M : Option (Int32 × OS)} {X : Nat → OS} {z' : OS} {o : Nat → Int64} {fu : Nat} {b : Bool} (e1 : L = some (0, vp_updL o (0 : Int32).toNatClampNeg (if b2 b = 0 then 0 else 1))) (e2 : M = some (b2 b, z')) (ht : z'.1 0 = 0) (i : Inv X z') : OKS (bd L (fun (w1 : Int32 × (Nat → Int64)) => bd M (fun (w2 : Int32 × OS) => bd (fX9_thrown fu w2.2) (fun (w3 : Int32) => (if w3 = w1.1 then (if w1.1 = 0 then (if w2.1 = 0 then (if (lg_cmp ((w1.2 (0 : Int32).toNatClampNeg)) ((0 : Int64))) = 0 then some (X, w2.2, w1.2) else none) else (if (lg_cmp ((w1.2 (0 : Int32).toNatClampNeg)) ((1 : Int64))) = 0 then some (X, w2.2, w1.2) else none)) else some (X, w2.2, w1.2)) else none))))) := by
  subst e1 e2
  have e : lg_cmp ((vp_updL o (0 : Int32).toNatClampNeg (if b2 b = 0 then 0 else 1)) (0 : Int32).toNatClampNeg) (if b2 b = 0 then 0 else 1) = 0 := by rw [pk_uLs]; exact lg_self _
  rw [bd_s, bd_s, th_e, bd_s, if_pos ht, if_pos rfl]
  cases b
  · exact ⟨_, _, _, (if_pos (show b2 false = 0 by decide)).trans (if_pos e), i⟩
  · exact ⟨_, _, _, (if_neg (show ¬ b2 true = 0 by decide)).trans (if_pos e), i⟩
theorem tN_bad {L : Option (Int32 × (Nat → Int64))} {M : Option (Int32 × OS)} {X : Nat → OS} {z' : OS} {o : Nat → Int64} {fu : Nat} {r k : Int32} (e1 : L = some (k, o)) (hk : k ≠ 0) (e2 : M = some (r, z')) (ht : z'.1 0 = k) (i : Inv X z') : OKS (bd L (fun (w1 : Int32 × (Nat → Int64)) => bd M (fun (w2 : Int32 × OS) => bd (fX9_thrown fu w2.2) (fun (w3 : Int32) => (if w3 = w1.1 then (if w1.1 = 0 then (if (lg_cmp ((w1.2 (0 : Int32).toNatClampNeg)) ((w2.1).toInt64)) = 0 then some (X, w2.2, w1.2) else none) else some (X, w2.2, w1.2)) else none))))) := by
  subst e1 e2
  rw [bd_s, bd_s, th_e, bd_s, if_pos ht, if_neg hk]
  exact ⟨_, _, _, rfl, i⟩
theorem tB_bad {L : Option (Int32 × (Nat → Int64))} {M : Option (Int32 × OS)} {X : Nat → OS} {z' : OS} {o : Nat → Int64} {fu : Nat} {r k : Int32} (e1 : L = some (k, o)) (hk : k ≠ 0) (e2 : M = some (r, z')) (ht : z'.1 0 = k) (i : Inv X z') : OKS (bd L (fun (w1 : Int32 × (Nat → Int64)) => bd M (fun (w2 : Int32 × OS) => bd (fX9_thrown fu w2.2) (fun (w3 : Int32) => (if w3 = w1.1 then (if w1.1 = 0 then (if w2.1 = 0 then (if (lg_cmp ((w1.2 (0 : Int32).toNatClampNeg)) ((0 : Int64))) = 0 then some (X, w2.2, w1.2) else none) else (if (lg_cmp ((w1.2 (0 : Int32).toNatClampNeg)) ((1 : Int64))) = 0 then some (X, w2.2, w1.2) else none)) else some (X, w2.2, w1.2)) else none))))) := by
  subst e1 e2
  rw [bd_s, bd_s, th_e, bd_s, if_pos ht, if_neg hk]
  exact ⟨_, _, _, rfl, i⟩
theorem ck_ok {w c j fu : Nat} {x : OS} {m : Nat → Int32} (q : QR w c x m) (hj : j < c) : fX8_checkClause fu x (nI j) = some 0 := by
  unfold fX8_checkClause
  rw [q_hasClause q.xc q.c60 hj, bd_s, if_pos (by decide)]
theorem ck_bad {w c fu : Nat} {x : OS} {m : Nat → Int32} (q : QR w c x m) {p : Int32} (hb : p < 0 ∨ nI c ≤ p) : fX8_checkClause fu x p = some 1 := by
  unfold fX8_checkClause
  rw [q_hasClauseN q.xc hb, bd_s, if_neg (by decide)]
theorem cv_ok {w c j fu : Nat} {x : OS} {m : Nat → Int32} (q : QR w c x m) (hj : j < w) : fX8_checkVariable fu x (nI j) = some 0 := by
  have h12 := q.w12
  unfold fX8_checkVariable
  rw [jn_d, if_neg (nI_pos (by omega)), q.xw, if_pos ((nI_ltI (by omega) (by omega)).mpr hj)]
theorem cv_bad {w c fu : Nat} {x : OS} {m : Nat → Int32} (q : QR w c x m) {p : Int32} (hb : p < 0 ∨ nI w ≤ p) : fX8_checkVariable fu x p = some 1 := by
  unfold fX8_checkVariable
  rw [jn_d]
  by_cases g : p < 0
  · rw [if_pos g]
  · rw [if_neg g, if_neg]
    have := hb.resolve_left g
    rw [q.xw]
    intro t
    rw [Int32.le_iff_toInt_le] at this
    rw [Int32.lt_iff_toInt_lt] at t
    omega
theorem cm_ok {w c fu : Nat} {x : OS} {m : Nat → Int32} (q : QR w c x m) {p : Int32} (hp : Vm w p) : fX8_checkMask fu x p = some 0 := by
  unfold fX8_checkMask
  rw [(q_isMask (fu := fu) q.av q.w12).1 hp, bd_s, if_pos (by decide)]
theorem cm_bad {w c fu : Nat} {x : OS} {m : Nat → Int32} (q : QR w c x m) {p : Int32} (hp : ¬ Vm w p) : fX8_checkMask fu x p = some 2 := by
  unfold fX8_checkMask
  rw [(q_isMask (fu := fu) q.av q.w12).2 hp, bd_s, if_neg (by decide)]
theorem cl_ok {w c fu : Nat} {x : OS} {m : Nat → Int32} (q : QR w c x m) {p r : Int32} (hp : Vm w p) (hr : Vm w r) (hpr : (p &&& r) = 0) : fX8_checkLiterals fu x p r = some 0 := by
  unfold fX8_checkLiterals
  rw [cm_ok q hp, bd_s, if_pos rfl, cm_ok q hr, bd_s, if_pos rfl, if_pos hpr]
theorem cl_bad {w c fu : Nat} {x : OS} {m : Nat → Int32} (q : QR w c x m) {p r : Int32} (hb : ¬ (Vm w p ∧ Vm w r ∧ (p &&& r) = 0)) : fX8_checkLiterals fu x p r = some 2 := by
  unfold fX8_checkLiterals
  rcases vm_dec w p with hp | hp
  · rw [cm_ok q hp, bd_s, if_pos rfl]
    rcases vm_dec w r with hr | hr
    · rw [cm_ok q hr, bd_s, if_pos rfl, if_neg (fun t => hb ⟨hp, hr, t⟩)]
    · rw [cm_bad q hr, bd_s, if_neg (by decide)]
  · rw [cm_bad q hp, bd_s, if_neg (by decide)]
theorem cA_8 (a1 a2 a3 a4 a5 : Int32) {X : Nat → OS} {z : OS} (o : Nat → Int64) {fu : Nat} (hf : 5000 ≤ fu) (h : Inv X z) : OKS (cL_8 fu a1 a2 a3 a4 a5 X z o) := by
  obtain ⟨w, c, q⟩ := h.1
  have h6 := q.c60
  have h12 := q.w12
  have h1 := q.w1
  have i0 := h.z0 0
  have q0 : QR w c (X 1) ((sI z 0 0).2 1) := q
  have p12 := pw12 h12
  have t0 : (sI z 0 0).1 0 = 0 := sI_s _ _ _
  have nf := i1_ne0
  unfold cL_8
  have sp := pk_ix a1 (n := c) (by omega)
  by_cases hb : a1 < 0 ∨ nI c ≤ a1
  · skip
    have e1 : fX8_positiveOf fu (X 1) a1 = some (1, 0) := by
      unfold fX8_positiveOf
      rw [ck_bad q hb, bd_s, if_neg (by decide)]
    have e2 : fX9_positiveOf fu z a1 = some (0, sI (sI z 0 0) 0 1) := by
      unfold fX9_positiveOf
      simp only [noClause_bad (z := sI z 0 0) (fu := fu) t0 q0.mc h6 hb, nm_d, bd_s, jn_d, i1_ne0, if_false, if_true, not_false_eq_true, not_true_eq_false, isZ_0, isZ_1, gd_t]
    exact tN_bad (by unfold fL_positiveOf; rw [e1]; rfl) (by decide) e2 (sI_s _ _ _) (i0.z0 1)
  · obtain ⟨j, hj, rfl⟩ := (sp.resolve_left (fun t => hb (Or.inl t))).resolve_left (fun t => hb (Or.inr t))
    have e1 : fX8_positiveOf fu (X 1) (nI j) = some (0, (X 1).2 0 j) := by
      unfold fX8_positiveOf
      rw [ck_ok q hj, bd_s, if_pos rfl, inB_I (show j < 60 by omega) (by omega), gd_t, nI_clamp (by omega)]
    have e2 : fX9_positiveOf fu z (nI j) = some ((X 1).2 0 j, sI z 0 0) := by
      unfold fX9_positiveOf
      simp only [noClause_ok (z := sI z 0 0) (fu := fu) t0 q0.mc h6 hj, nm_d, bd_s, jn_d, i1_ne0, if_false, if_true, not_false_eq_true, not_true_eq_false, isZ_0, isZ_1, gd_t, m_maskP (fu := fu) q0.mw h12 (q0.row hj) (by omega) (q0.ok hj) hf]
    exact tN_ok (by unfold fL_positiveOf; rw [e1]; rfl) e2 t0 i0
theorem cA_9 (a1 a2 a3 a4 a5 : Int32) {X : Nat → OS} {z : OS} (o : Nat → Int64) {fu : Nat} (hf : 5000 ≤ fu) (h : Inv X z) : OKS (cL_9 fu a1 a2 a3 a4 a5 X z o) := by
  obtain ⟨w, c, q⟩ := h.1
  have h6 := q.c60
  have h12 := q.w12
  have h1 := q.w1
  have i0 := h.z0 0
  have q0 : QR w c (X 1) ((sI z 0 0).2 1) := q
  have p12 := pw12 h12
  have t0 : (sI z 0 0).1 0 = 0 := sI_s _ _ _
  have nf := i1_ne0
  unfold cL_9
  have sp := pk_ix a1 (n := c) (by omega)
  by_cases hb : a1 < 0 ∨ nI c ≤ a1
  · skip
    have e1 : fX8_negativeOf fu (X 1) a1 = some (1, 0) := by
      unfold fX8_negativeOf
      rw [ck_bad q hb, bd_s, if_neg (by decide)]
    have e2 : fX9_negativeOf fu z a1 = some (0, sI (sI z 0 0) 0 1) := by
      unfold fX9_negativeOf
      simp only [noClause_bad (z := sI z 0 0) (fu := fu) t0 q0.mc h6 hb, nm_d, bd_s, jn_d, i1_ne0, if_false, if_true, not_false_eq_true, not_true_eq_false, isZ_0, isZ_1, gd_t]
    exact tN_bad (by unfold fL_negativeOf; rw [e1]; rfl) (by decide) e2 (sI_s _ _ _) (i0.z0 1)
  · obtain ⟨j, hj, rfl⟩ := (sp.resolve_left (fun t => hb (Or.inl t))).resolve_left (fun t => hb (Or.inr t))
    have e1 : fX8_negativeOf fu (X 1) (nI j) = some (0, (X 1).2 1 j) := by
      unfold fX8_negativeOf
      rw [ck_ok q hj, bd_s, if_pos rfl, inB_I (show j < 60 by omega) (by omega), gd_t, nI_clamp (by omega)]
    have e2 : fX9_negativeOf fu z (nI j) = some ((X 1).2 1 j, sI z 0 0) := by
      unfold fX9_negativeOf
      simp only [noClause_ok (z := sI z 0 0) (fu := fu) t0 q0.mc h6 hj, nm_d, bd_s, jn_d, i1_ne0, if_false, if_true, not_false_eq_true, not_true_eq_false, isZ_0, isZ_1, gd_t, m_maskN (fu := fu) q0.mw h12 (q0.row hj) (by omega) (q0.ok hj) hf]
    exact tN_ok (by unfold fL_negativeOf; rw [e1]; rfl) e2 t0 i0
theorem cA_10 (a1 a2 a3 a4 a5 : Int32) {X : Nat → OS} {z : OS} (o : Nat → Int64) {fu : Nat} (hf : 5000 ≤ fu) (h : Inv X z) : OKS (cL_10 fu a1 a2 a3 a4 a5 X z o) := by
  obtain ⟨w, c, q⟩ := h.1
  have h6 := q.c60
  have h12 := q.w12
  have h1 := q.w1
  have i0 := h.z0 0
  have q0 : QR w c (X 1) ((sI z 0 0).2 1) := q
  have p12 := pw12 h12
  have t0 : (sI z 0 0).1 0 = 0 := sI_s _ _ _
  have nf := i1_ne0
  unfold cL_10
  have sp := pk_ix a1 (n := c) (by omega)
  by_cases hb : a1 < 0 ∨ nI c ≤ a1
  · skip
    have e1 : fX8_sizeOf fu (X 1) a1 = some (1, 0) := by
      unfold fX8_sizeOf
      rw [ck_bad q hb, bd_s, if_neg (by decide)]
    have e2 : fX9_sizeOf fu z a1 = some (0, sI (sI z 0 0) 0 1) := by
      unfold fX9_sizeOf
      simp only [noClause_bad (z := sI z 0 0) (fu := fu) t0 q0.mc h6 hb, nm_d, bd_s, jn_d, i1_ne0, if_false, if_true, not_false_eq_true, not_true_eq_false, isZ_0, isZ_1, gd_t]
    exact tN_bad (by unfold fL_sizeOf; rw [e1]; rfl) (by decide) e2 (sI_s _ _ _) (i0.z0 1)
  · obtain ⟨j, hj, rfl⟩ := (sp.resolve_left (fun t => hb (Or.inl t))).resolve_left (fun t => hb (Or.inr t))
    have e1 : fX8_sizeOf fu (X 1) (nI j) = some (0, pc ((X 1).2 0 j) + pc ((X 1).2 1 j)) := by
      unfold fX8_sizeOf
      rw [ck_ok q hj, bd_s, if_pos rfl, q_literalsIn (X 1) fu (by omega), bd_s]
    have e2 : fX9_sizeOf fu z (nI j) = some (pc ((X 1).2 0 j) + pc ((X 1).2 1 j), sI z 0 0) := by
      unfold fX9_sizeOf
      simp only [noClause_ok (z := sI z 0 0) (fu := fu) t0 q0.mc h6 hj, nm_d, bd_s, jn_d, i1_ne0, if_false, if_true, not_false_eq_true, not_true_eq_false, isZ_0, isZ_1, gd_t, m_lit (fu := fu) q0.mw h12 (q0.row hj) (by omega) (q0.ok hj) hf]
    exact tN_ok (by unfold fL_sizeOf; rw [e1]; rfl) e2 t0 i0
theorem cA_13 (a1 a2 a3 a4 a5 : Int32) {X : Nat → OS} {z : OS} (o : Nat → Int64) {fu : Nat} (hf : 5000 ≤ fu) (h : Inv X z) : OKS (cL_13 fu a1 a2 a3 a4 a5 X z o) := by
  obtain ⟨w, c, q⟩ := h.1
  have h6 := q.c60
  have h12 := q.w12
  have h1 := q.w1
  have i0 := h.z0 0
  have q0 : QR w c (X 1) ((sI z 0 0).2 1) := q
  have p12 := pw12 h12
  have t0 : (sI z 0 0).1 0 = 0 := sI_s _ _ _
  have nf := i1_ne0
  unfold cL_13
  have sp := pk_ix a1 (n := c) (by omega)
  by_cases hb : a1 < 0 ∨ nI c ≤ a1
  · skip
    have e1 : fX8_positiveParent fu (X 1) a1 = some (1, 0) := by
      unfold fX8_positiveParent
      rw [ck_bad q hb, bd_s, if_neg (by decide)]
    have e2 : fX9_positiveParent fu z a1 = some (0, sI (sI z 0 0) 0 1) := by
      unfold fX9_positiveParent
      simp only [noClause_bad (z := sI z 0 0) (fu := fu) t0 q0.mc h6 hb, nm_d, bd_s, jn_d, i1_ne0, if_false, if_true, not_false_eq_true, not_true_eq_false, isZ_0, isZ_1, gd_t]
    exact tN_bad (by unfold fL_positiveParent; rw [e1]; rfl) (by decide) e2 (sI_s _ _ _) (i0.z0 1)
  · obtain ⟨j, hj, rfl⟩ := (sp.resolve_left (fun t => hb (Or.inl t))).resolve_left (fun t => hb (Or.inr t))
    have c1 : (734 : Int32) + nI j = nI (734 + j) := nI_add 734 j
    have fa : (sI z 0 0).2 1 (734 + j) = (X 1).2 2 j := q0.fst hj
    have e1 : fX8_positiveParent fu (X 1) (nI j) = some (0, (X 1).2 2 j) := by
      unfold fX8_positiveParent
      rw [ck_ok q hj, bd_s, if_pos rfl, inB_I (show j < 60 by omega) (by omega), gd_t, nI_clamp (by omega)]
    have e2 : fX9_positiveParent fu z (nI j) = some ((X 1).2 2 j, sI z 0 0) := by
      unfold fX9_positiveParent
      simp only [noClause_ok (z := sI z 0 0) (fu := fu) t0 q0.mc h6 hj, nm_d, bd_s, jn_d, i1_ne0, if_false, if_true, not_false_eq_true, not_true_eq_false, isZ_0, isZ_1, gd_t, c1, inB_I (show 734 + j < 917 by omega) (by omega), nI_clamp (show 734 + j < 2 ^ 31 by omega), fa]
    exact tN_ok (by unfold fL_positiveParent; rw [e1]; rfl) e2 t0 i0
theorem cA_14 (a1 a2 a3 a4 a5 : Int32) {X : Nat → OS} {z : OS} (o : Nat → Int64) {fu : Nat} (hf : 5000 ≤ fu) (h : Inv X z) : OKS (cL_14 fu a1 a2 a3 a4 a5 X z o) := by
  obtain ⟨w, c, q⟩ := h.1
  have h6 := q.c60
  have h12 := q.w12
  have h1 := q.w1
  have i0 := h.z0 0
  have q0 : QR w c (X 1) ((sI z 0 0).2 1) := q
  have p12 := pw12 h12
  have t0 : (sI z 0 0).1 0 = 0 := sI_s _ _ _
  have nf := i1_ne0
  unfold cL_14
  have sp := pk_ix a1 (n := c) (by omega)
  by_cases hb : a1 < 0 ∨ nI c ≤ a1
  · skip
    have e1 : fX8_negativeParent fu (X 1) a1 = some (1, 0) := by
      unfold fX8_negativeParent
      rw [ck_bad q hb, bd_s, if_neg (by decide)]
    have e2 : fX9_negativeParent fu z a1 = some (0, sI (sI z 0 0) 0 1) := by
      unfold fX9_negativeParent
      simp only [noClause_bad (z := sI z 0 0) (fu := fu) t0 q0.mc h6 hb, nm_d, bd_s, jn_d, i1_ne0, if_false, if_true, not_false_eq_true, not_true_eq_false, isZ_0, isZ_1, gd_t]
    exact tN_bad (by unfold fL_negativeParent; rw [e1]; rfl) (by decide) e2 (sI_s _ _ _) (i0.z0 1)
  · obtain ⟨j, hj, rfl⟩ := (sp.resolve_left (fun t => hb (Or.inl t))).resolve_left (fun t => hb (Or.inr t))
    have c1 : (795 : Int32) + nI j = nI (795 + j) := nI_add 795 j
    have fa : (sI z 0 0).2 1 (795 + j) = (X 1).2 3 j := q0.snd hj
    have e1 : fX8_negativeParent fu (X 1) (nI j) = some (0, (X 1).2 3 j) := by
      unfold fX8_negativeParent
      rw [ck_ok q hj, bd_s, if_pos rfl, inB_I (show j < 60 by omega) (by omega), gd_t, nI_clamp (by omega)]
    have e2 : fX9_negativeParent fu z (nI j) = some ((X 1).2 3 j, sI z 0 0) := by
      unfold fX9_negativeParent
      simp only [noClause_ok (z := sI z 0 0) (fu := fu) t0 q0.mc h6 hj, nm_d, bd_s, jn_d, i1_ne0, if_false, if_true, not_false_eq_true, not_true_eq_false, isZ_0, isZ_1, gd_t, c1, inB_I (show 795 + j < 917 by omega) (by omega), nI_clamp (show 795 + j < 2 ^ 31 by omega), fa]
    exact tN_ok (by unfold fL_negativeParent; rw [e1]; rfl) e2 t0 i0
theorem cA_15 (a1 a2 a3 a4 a5 : Int32) {X : Nat → OS} {z : OS} (o : Nat → Int64) {fu : Nat} (hf : 5000 ≤ fu) (h : Inv X z) : OKS (cL_15 fu a1 a2 a3 a4 a5 X z o) := by
  obtain ⟨w, c, q⟩ := h.1
  have h6 := q.c60
  have h12 := q.w12
  have h1 := q.w1
  have i0 := h.z0 0
  have q0 : QR w c (X 1) ((sI z 0 0).2 1) := q
  have p12 := pw12 h12
  have t0 : (sI z 0 0).1 0 = 0 := sI_s _ _ _
  have nf := i1_ne0
  unfold cL_15
  have sp := pk_ix a1 (n := c) (by omega)
  by_cases hb : a1 < 0 ∨ nI c ≤ a1
  · skip
    have e1 : fX8_variableOf fu (X 1) a1 = some (1, 0) := by
      unfold fX8_variableOf
      rw [ck_bad q hb, bd_s, if_neg (by decide)]
    have e2 : fX9_variableOf fu z a1 = some (0, sI (sI z 0 0) 0 1) := by
      unfold fX9_variableOf
      simp only [noClause_bad (z := sI z 0 0) (fu := fu) t0 q0.mc h6 hb, nm_d, bd_s, jn_d, i1_ne0, if_false, if_true, not_false_eq_true, not_true_eq_false, isZ_0, isZ_1, gd_t]
    exact tN_bad (by unfold fL_variableOf; rw [e1]; rfl) (by decide) e2 (sI_s _ _ _) (i0.z0 1)
  · obtain ⟨j, hj, rfl⟩ := (sp.resolve_left (fun t => hb (Or.inl t))).resolve_left (fun t => hb (Or.inr t))
    have c1 : (856 : Int32) + nI j = nI (856 + j) := nI_add 856 j
    have fa : (sI z 0 0).2 1 (856 + j) = (X 1).2 4 j := q0.by hj
    have e1 : fX8_variableOf fu (X 1) (nI j) = some (0, (X 1).2 4 j) := by
      unfold fX8_variableOf
      rw [ck_ok q hj, bd_s, if_pos rfl, inB_I (show j < 60 by omega) (by omega), gd_t, nI_clamp (by omega)]
    have e2 : fX9_variableOf fu z (nI j) = some ((X 1).2 4 j, sI z 0 0) := by
      unfold fX9_variableOf
      simp only [noClause_ok (z := sI z 0 0) (fu := fu) t0 q0.mc h6 hj, nm_d, bd_s, jn_d, i1_ne0, if_false, if_true, not_false_eq_true, not_true_eq_false, isZ_0, isZ_1, gd_t, c1, inB_I (show 856 + j < 917 by omega) (by omega), nI_clamp (show 856 + j < 2 ^ 31 by omega), fa]
    exact tN_ok (by unfold fL_variableOf; rw [e1]; rfl) e2 t0 i0
theorem cA_12 (a1 a2 a3 a4 a5 : Int32) {X : Nat → OS} {z : OS} (o : Nat → Int64) {fu : Nat} (hf : 5000 ≤ fu) (h : Inv X z) : OKS (cL_12 fu a1 a2 a3 a4 a5 X z o) := by
  obtain ⟨w, c, q⟩ := h.1
  have h6 := q.c60
  have h12 := q.w12
  have h1 := q.w1
  have i0 := h.z0 0
  have q0 : QR w c (X 1) ((sI z 0 0).2 1) := q
  have p12 := pw12 h12
  have t0 : (sI z 0 0).1 0 = 0 := sI_s _ _ _
  have nf := i1_ne0
  unfold cL_12
  have sp := pk_ix a1 (n := c) (by omega)
  by_cases hb : a1 < 0 ∨ nI c ≤ a1
  · skip
    have e1 : fX8_isGiven fu (X 1) a1 = some (1, 0) := by
      unfold fX8_isGiven
      rw [ck_bad q hb, bd_s, if_neg (by decide)]
    have e2 : fX9_isGiven fu z a1 = some (0, sI (sI z 0 0) 0 1) := by
      unfold fX9_isGiven
      simp only [noClause_bad (z := sI z 0 0) (fu := fu) t0 q0.mc h6 hb, nm_d, bd_s, jn_d, i1_ne0, if_false, if_true, not_false_eq_true, not_true_eq_false, isZ_0, isZ_1, gd_t]
    exact tB_bad (by unfold fL_isGiven; rw [e1]; rfl) (by decide) e2 (sI_s _ _ _) (i0.z0 1)
  · obtain ⟨j, hj, rfl⟩ := (sp.resolve_left (fun t => hb (Or.inl t))).resolve_left (fun t => hb (Or.inr t))
    have c1 : (856 : Int32) + nI j = nI (856 + j) := nI_add 856 j
    have fa : (sI z 0 0).2 1 (856 + j) = (X 1).2 4 j := q0.by hj
    by_cases g : (X 1).2 4 j = -1
    · skip
      have e1 : fX8_isGiven fu (X 1) (nI j) = some (0, b2 true) := by
        unfold fX8_isGiven
        rw [ck_ok q hj, bd_s, if_pos rfl, inB_I (show j < 60 by omega) (by omega), gd_t, nI_clamp (by omega), if_neg (by exact fun t => t g), isZ_1, gd_t]
        rfl
      have e2 : fX9_isGiven fu z (nI j) = some (b2 true, sI z 0 0) := by
        unfold fX9_isGiven
        simp only [noClause_ok (z := sI z 0 0) (fu := fu) t0 q0.mc h6 hj, nm_d, bd_s, jn_d, i1_ne0, if_false, if_true, not_false_eq_true, not_true_eq_false, isZ_0, isZ_1, gd_t, c1, inB_I (show 856 + j < 917 by omega) (by omega), nI_clamp (show 856 + j < 2 ^ 31 by omega), fa, g]
        rfl
      exact tB_ok (by unfold fL_isGiven; rw [e1]; rfl) e2 t0 i0
    · skip
      have e1 : fX8_isGiven fu (X 1) (nI j) = some (0, b2 false) := by
        unfold fX8_isGiven
        rw [ck_ok q hj, bd_s, if_pos rfl, inB_I (show j < 60 by omega) (by omega), gd_t, nI_clamp (by omega), if_pos (by exact g), isZ_0, gd_t]
        rfl
      have e2 : fX9_isGiven fu z (nI j) = some (b2 false, sI z 0 0) := by
        unfold fX9_isGiven
        simp only [noClause_ok (z := sI z 0 0) (fu := fu) t0 q0.mc h6 hj, nm_d, bd_s, jn_d, i1_ne0, if_false, if_true, not_false_eq_true, not_true_eq_false, isZ_0, isZ_1, gd_t, c1, inB_I (show 856 + j < 917 by omega) (by omega), nI_clamp (show 856 + j < 2 ^ 31 by omega), fa, g]
        rfl
      exact tB_ok (by unfold fL_isGiven; rw [e1]; rfl) e2 t0 i0
theorem cA_16 (a1 a2 a3 a4 a5 : Int32) {X : Nat → OS} {z : OS} (o : Nat → Int64) {fu : Nat} (hf : 5000 ≤ fu) (h : Inv X z) : OKS (cL_16 fu a1 a2 a3 a4 a5 X z o) := by
  obtain ⟨w, c, q⟩ := h.1
  have h6 := q.c60
  have h12 := q.w12
  have h1 := q.w1
  have i0 := h.z0 0
  have q0 : QR w c (X 1) ((sI z 0 0).2 1) := q
  have p12 := pw12 h12
  have t0 : (sI z 0 0).1 0 = 0 := sI_s _ _ _
  have nf := i1_ne0
  unfold cL_16
  have sp := pk_ix a1 (n := c) (by omega)
  by_cases hb : a1 < 0 ∨ nI c ≤ a1
  · skip
    have e1 : fX8_depthOf fu (X 1) a1 = some (1, 0) := by
      unfold fX8_depthOf
      rw [ck_bad q hb, bd_s, if_neg (by decide)]
    have e2 : fX9_depthOf fu z a1 = some (0, sI (sI z 0 0) 0 1) := by
      unfold fX9_depthOf
      simp only [noClause_bad (z := sI z 0 0) (fu := fu) t0 q0.mc h6 hb, nm_d, bd_s, jn_d, i1_ne0, if_false, if_true, not_false_eq_true, not_true_eq_false, isZ_0, isZ_1, gd_t]
    exact tN_bad (by unfold fL_depthOf; rw [e1]; rfl) (by decide) e2 (sI_s _ _ _) (i0.z0 1)
  · obtain ⟨j, hj, rfl⟩ := (sp.resolve_left (fun t => hb (Or.inl t))).resolve_left (fun t => hb (Or.inr t))
    obtain ⟨z', e3, s⟩ := m_depthAt q0 hf hj
    have e1 : fX8_depthOf fu (X 1) (nI j) = some (0, (X 1).2 5 j) := by
      unfold fX8_depthOf
      rw [ck_ok q hj, bd_s, if_pos rfl, inB_I (show j < 60 by omega) (by omega), gd_t, nI_clamp (by omega)]
    have e2 : fX9_depthOf fu z (nI j) = some ((X 1).2 5 j, z') := by
      unfold fX9_depthOf
      simp only [noClause_ok (z := sI z 0 0) (fu := fu) t0 q0.mc h6 hj, nm_d, bd_s, jn_d, i1_ne0, if_false, if_true, not_false_eq_true, not_true_eq_false, isZ_0, isZ_1, gd_t, e3]
    exact tN_ok (by unfold fL_depthOf; rw [e1]; rfl) e2 (by rw [s.1]; exact t0) (i0.fr (s.sf (c := c) (by omega)).1.fq.fr ((s.sf (c := c) (by omega)).rl q0))
theorem cA_33 (a1 a2 a3 a4 a5 : Int32) {X : Nat → OS} {z : OS} (o : Nat → Int64) {fu : Nat} (hf : 5000 ≤ fu) (h : Inv X z) : OKS (cL_33 fu a1 a2 a3 a4 a5 X z o) := by
  obtain ⟨w, c, q⟩ := h.1
  have h6 := q.c60
  have h12 := q.w12
  have h1 := q.w1
  have i0 := h.z0 0
  have q0 : QR w c (X 1) ((sI z 0 0).2 1) := q
  have p12 := pw12 h12
  have t0 : (sI z 0 0).1 0 = 0 := sI_s _ _ _
  have nf := i1_ne0
  unfold cL_33
  have sp := pk_ix a1 (n := c) (by omega)
  by_cases hb : a1 < 0 ∨ nI c ≤ a1
  · skip
    have e1 : fX8_subsumerOf fu (X 1) a1 = some (1, 0) := by
      unfold fX8_subsumerOf
      rw [ck_bad q hb, bd_s, if_neg (by decide)]
    have e2 : fX9_subsumerOf fu z a1 = some (0, sI (sI z 0 0) 0 1) := by
      unfold fX9_subsumerOf
      simp only [noClause_bad (z := sI z 0 0) (fu := fu) t0 q0.mc h6 hb, nm_d, bd_s, jn_d, i1_ne0, if_false, if_true, not_false_eq_true, not_true_eq_false, isZ_0, isZ_1, gd_t]
    exact tN_bad (by unfold fL_subsumerOf; rw [e1]; rfl) (by decide) e2 (sI_s _ _ _) (i0.z0 1)
  · obtain ⟨j, hj, rfl⟩ := (sp.resolve_left (fun t => hb (Or.inl t))).resolve_left (fun t => hb (Or.inr t))
    have e1 : fX8_subsumerOf fu (X 1) (nI j) = some (0, ff (fun i => !decide (i = j) && wi ((X 1).2 0 i) ((X 1).2 1 i) ((X 1).2 0 j) ((X 1).2 1 j)) c 0) := by
      unfold fX8_subsumerOf
      rw [ck_ok q hj, bd_s, if_pos rfl, q_subsumer q.xc h6 hf hj, bd_s]
    have e2 : fX9_subsumerOf fu z (nI j) = some (ff (fun i => !decide (i = j) && wi ((X 1).2 0 i) ((X 1).2 1 i) ((X 1).2 0 j) ((X 1).2 1 j)) c 0, sI z 0 0) := by
      unfold fX9_subsumerOf
      simp only [noClause_ok (z := sI z 0 0) (fu := fu) t0 q0.mc h6 hj, nm_d, bd_s, jn_d, i1_ne0, if_false, if_true, not_false_eq_true, not_true_eq_false, isZ_0, isZ_1, gd_t, m_subsumer q0 hf hj]
    exact tN_ok (by unfold fL_subsumerOf; rw [e1]; rfl) e2 t0 i0
theorem cA_18 (a1 a2 a3 a4 a5 : Int32) {X : Nat → OS} {z : OS} (o : Nat → Int64) {fu : Nat} (hf : 5000 ≤ fu) (h : Inv X z) : OKS (cL_18 fu a1 a2 a3 a4 a5 X z o) := by
  obtain ⟨w, c, q⟩ := h.1
  have h6 := q.c60
  have h12 := q.w12
  have h1 := q.w1
  have i0 := h.z0 0
  have q0 : QR w c (X 1) ((sI z 0 0).2 1) := q
  have p12 := pw12 h12
  have t0 : (sI z 0 0).1 0 = 0 := sI_s _ _ _
  have nf := i1_ne0
  unfold cL_18
  have sp := pk_ix a1 (n := c) (by omega)
  by_cases hb : a1 < 0 ∨ nI c ≤ a1
  · skip
    have e1 : fX8_derivationSize fu (X 1) a1 = some (1, 0) := by
      unfold fX8_derivationSize
      rw [ck_bad q hb, bd_s, if_neg (by decide)]
    have e2 : fX9_derivationSize fu z a1 = some (0, sI (sI z 0 0) 0 1) := by
      unfold fX9_derivationSize
      simp only [noClause_bad (z := sI z 0 0) (fu := fu) t0 q0.mc h6 hb, nm_d, bd_s, jn_d, i1_ne0, if_false, if_true, not_false_eq_true, not_true_eq_false, isZ_0, isZ_1, gd_t]
    exact tN_bad (by unfold fL_derivationSize; rw [e1]; rfl) (by decide) e2 (sI_s _ _ _) (i0.z0 1)
  · obtain ⟨j, hj, rfl⟩ := (sp.resolve_left (fun t => hb (Or.inl t))).resolve_left (fun t => hb (Or.inr t))
    obtain ⟨M, eM, hM⟩ := q_deriv (fu := fu) q hf hj
    obtain ⟨z', e3, s, hs⟩ := m_derives q0 hf hj
    have e1 : fX8_derivationSize fu (X 1) (nI j) = some (0, cn (dS (X 1) j) 60 0) := by
      unfold fX8_derivationSize
      rw [ck_ok q hj, bd_s, if_pos rfl, eM, bd_s, show fJ13_bitCount_95d88 fu M = pL M from rfl, size_eq q hj hM, bd_s]
    have e2 : fX9_derivationSize fu z (nI j) = some (cn (dS (X 1) j) 60 0, z') := by
      unfold fX9_derivationSize
      simp only [noClause_ok (z := sI z 0 0) (fu := fu) t0 q0.mc h6 hj, nm_d, bd_s, jn_d, i1_ne0, if_false, if_true, not_false_eq_true, not_true_eq_false, isZ_0, isZ_1, gd_t, e3]
      have := m_dsz_l hs (fun v => some (v, z')) 60 0 fu 0 (by omega) (by omega)
      rw [z_add] at this
      exact this
    exact tN_ok (by unfold fL_derivationSize; rw [e1]; rfl) e2 (by rw [s.1]; exact t0) (i0.fr (s.sf (c := c) (by omega)).1.fq.fr ((s.sf (c := c) (by omega)).rl q0))
theorem cA_47 (a1 a2 a3 a4 a5 : Int32) {X : Nat → OS} {z : OS} (o : Nat → Int64) {fu : Nat} (hf : 5000 ≤ fu) (h : Inv X z) : OKS (cL_47 fu a1 a2 a3 a4 a5 X z o) := by
  obtain ⟨w, c, q⟩ := h.1
  have h6 := q.c60
  have h12 := q.w12
  have h1 := q.w1
  have i0 := h.z0 0
  have q0 : QR w c (X 1) ((sI z 0 0).2 1) := q
  have p12 := pw12 h12
  have t0 : (sI z 0 0).1 0 = 0 := sI_s _ _ _
  have nf := i1_ne0
  unfold cL_47
  have sp := pk_ix a1 (n := c) (by omega)
  by_cases hb : a1 < 0 ∨ nI c ≤ a1
  · skip
    have e1 : fX8_isRedundant fu (X 1) a1 = some (1, 0) := by
      unfold fX8_isRedundant
      rw [ck_bad q hb, bd_s, if_neg (by decide)]
    have e2 : fX9_isRedundant fu z a1 = some (0, sI (sI z 0 0) 0 1) := by
      unfold fX9_isRedundant
      simp only [noClause_bad (z := sI z 0 0) (fu := fu) t0 q0.mc h6 hb, nm_d, bd_s, jn_d, i1_ne0, if_false, if_true, not_false_eq_true, not_true_eq_false, isZ_0, isZ_1, gd_t]
    exact tB_bad (by unfold fL_isRedundant; rw [e1]; rfl) (by decide) e2 (sI_s _ _ _) (i0.z0 1)
  · obtain ⟨j, hj, rfl⟩ := (sp.resolve_left (fun t => hb (Or.inl t))).resolve_left (fun t => hb (Or.inr t))
    have e1 : fX8_isRedundant fu (X 1) (nI j) = some (0, b2 (al (fun a => !(!tu ((X 1).2 0 j) ((X 1).2 1 j) (nI a) && mo (X 1) c (nI j) (nI a))) (2 ^ w) 0)) := by
      unfold fX8_isRedundant
      rw [ck_ok q hj, bd_s, if_pos rfl, inB_I (show j < 60 by omega) (by omega), gd_t, gd_t, nI_clamp (by omega), q_imply q.xc h6 hf q.av p12.1 p12.2, bd_s, isZ_b, gd_t]
    have e2 : fX9_isRedundant fu z (nI j) = some (b2 (al (fun a => !(!tu ((X 1).2 0 j) ((X 1).2 1 j) (nI a) && mo (X 1) c (nI j) (nI a))) (2 ^ w) 0), sI z 0 0) := by
      unfold fX9_isRedundant
      simp only [noClause_ok (z := sI z 0 0) (fu := fu) t0 q0.mc h6 hj, nm_d, bd_s, jn_d, i1_ne0, if_false, if_true, not_false_eq_true, not_true_eq_false, isZ_0, isZ_1, gd_t, m_follows q0 hf (q0.row hj) (by omega) (q0.ok hj)]
      generalize al _ _ _ = B
      cases B <;> rfl
    exact tB_ok (by unfold fL_isRedundant; rw [e1]; rfl) e2 t0 i0
