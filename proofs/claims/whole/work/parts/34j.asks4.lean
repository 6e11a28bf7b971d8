/-! Part II: premises, the next step, what propagation fixes, the share of models, bytes. -/
theorem tL_ok {L : Option (Int32 × (Nat → Int64))} {M : Option (Int64 × OS)} {X : Nat → OS} {z' : OS} {o : Nat → Int64} {fu : Nat} {r : Int64} (e1 : L = some (0, vp_updL o (0 : Int32).toNatClampNeg r)) (e2 : M = some (r, z')) (ht : z'.1 0 = 0) (i : Inv X z') : OKS (bd L (fun (w1 : Int32 × (Nat → Int64)) => bd M (fun (w2 : Int64 × OS) => bd (fX9_thrown fu w2.2) (fun (w3 : Int32) => (if w3 = w1.1 then (if w1.1 = 0 then (if (lg_cmp ((w1.2 (0 : Int32).toNatClampNeg)) (w2.1)) = 0 then some (X, w2.2, w1.2) else none) else some (X, w2.2, w1.2)) else none))))) := by
  subst e1 e2
  have e : lg_cmp ((vp_updL o (0 : Int32).toNatClampNeg r) (0 : Int32).toNatClampNeg) r = 0 := by rw [pk_uLs]; exact lg_self _
  rw [bd_s, bd_s, th_e, bd_s, if_pos ht, if_pos rfl]
  exact ⟨_, _, _, if_pos e, i⟩
theorem tL_bad {L : Option (Int32 × (Nat → Int64))} {M : Option (Int64 × OS)} {X : Nat → OS} {z' : OS} {o : Nat → Int64} {fu : Nat} {r : Int64} {k : Int32} (e1 : L = some (k, o)) (hk : k ≠ 0) (e2 : M = some (r, z')) (ht : z'.1 0 = k) (i : Inv X z') : OKS (bd L (fun (w1 : Int32 × (Nat → Int64)) => bd M (fun (w2 : Int64 × OS) => bd (fX9_thrown fu w2.2) (fun (w3 : Int32) => (if w3 = w1.1 then (if w1.1 = 0 then (if (lg_cmp ((w1.2 (0 : Int32).toNatClampNeg)) (w2.1)) = 0 then some (X, w2.2, w1.2) else none) else some (X, w2.2, w1.2)) else none))))) := by
  subst e1 e2
  rw [bd_s, bd_s, th_e, bd_s, if_pos ht, if_neg hk]
  exact ⟨_, _, _, rfl, i⟩
theorem cA_19 (a1 a2 a3 a4 a5 : Int32) {X : Nat → OS} {z : OS} (o : Nat → Int64) {fu : Nat} (hf : 5000 ≤ fu) (h : Inv X z) : OKS (cL_19 fu a1 a2 a3 a4 a5 X z o) := by
  obtain ⟨w, c, q⟩ := h.1
  have h6 := q.c60
  have h12 := q.w12
  have h1 := q.w1
  have i0 := h.z0 0
  have q0 : QR w c (X 1) ((sI z 0 0).2 1) := q
  have p12 := pw12 h12
  have t0 : (sI z 0 0).1 0 = 0 := sI_s _ _ _
  have nf := i1_ne0
  unfold cL_19
  have sp := pk_ix a1 (n := c) (by omega)
  by_cases hb : a1 < 0 ∨ nI c ≤ a1
  · skip
    have e1 : fX8_premises fu (X 1) a1 = some (1, 0) := by
      unfold fX8_premises
      rw [ck_bad q hb, bd_s, if_neg (by decide)]
    have e2 : fX9_premises fu z a1 = some (0, sI (sI z 0 0) 0 1) := by
      unfold fX9_premises
      simp only [noClause_bad (z := sI z 0 0) (fu := fu) t0 q0.mc h6 hb, nm_d, bd_s, jn_d, i1_ne0, if_false, if_true, not_false_eq_true, not_true_eq_false, isZ_0, isZ_1, gd_t]
    exact tL_bad (by unfold fL_premises; rw [e1]; rfl) (by decide) e2 (sI_s _ _ _) (i0.z0 1)
  · obtain ⟨j, hj, rfl⟩ := (sp.resolve_left (fun t => hb (Or.inl t))).resolve_left (fun t => hb (Or.inr t))
    obtain ⟨M, eM, hM⟩ := q_deriv (fu := fu) q hf hj
    obtain ⟨z', e3, s, hs⟩ := m_derives (fu := fu) q0 hf hj
    have e1 : fX8_premises fu (X 1) (nI j) = some (0, 0 ||| oL (fun i => dS (X 1) j i && decide ((X 1).2 4 i = -1)) c 0) := by
      unfold fX8_premises
      rw [ck_ok q hj, bd_s, if_pos rfl, eM, bd_s, q_given q.xc h6 hf, bd_s, prem_eq q hj hM]
    have e2 : fX9_premises fu z (nI j) = some (0 ||| oL (fun i => dS (X 1) j i && decide ((X 1).2 4 i = -1)) c 0, z') := by
      unfold fX9_premises
      simp only [noClause_ok (z := sI z 0 0) (fu := fu) t0 q0.mc h6 hj, nm_d, bd_s, jn_d, i1_ne0, if_false, if_true, not_false_eq_true, not_true_eq_false, isZ_0, isZ_1, gd_t, e3]
      exact m_prem_l ((s.sf (c := c) (by omega)).rl q0) hs (fun v => some (v, z')) c 0 fu 0 (by omega) (by omega)
    exact tL_ok (by unfold fL_premises; rw [e1]; rfl) e2 (by rw [s.1]; exact t0) (i0.fr (s.sf (c := c) (by omega)).1.fq.fr ((s.sf (c := c) (by omega)).rl q0))
theorem p_next {w c fu : Nat} {x z : OS} (h : QR w c x (z.2 1)) (hf : 5000 ≤ fu) (sat : OS) : ∃ s1 s' z' b i j, fX5_begin fu sat = some s1 ∧ fX5_findStep fu s1 x = some (b2 b, s') ∧ fX9_hasStep fu z = some (b2 b, z') ∧ SF c z z' ∧ z'.1 8 = i ∧ z'.1 9 = j ∧ (b = true → s'.1 0 = i ∧ s'.1 1 = j ∧ ∃ i' j', ST x c i' j') ∧ (b = false → i = -1 ∧ j = -1 ∧ ∀ i' j', ¬ ST x c i' j') := by
  have e0 : (sI (sI sat 0 0) 1 1).1 0 = nI 0 := by rw [sI_o _ _ (by decide), sI_s]; rfl
  have e1 : (sI (sI sat 0 0) 1 1).1 1 = nI 1 := by rw [sI_s]; rfl
  have nb : NB x c 0 1 := fun i' j' a b d => by omega
  have k := q_findStep (fu := fu) h.xc h.c60 hf (i := 0) (j := 1) (by omega) e0 e1 (by omega) nb
  rcases m_hasStep (fu := fu) h hf with ⟨i, j, st, z', ez, sf, z8, z9⟩ | ⟨ns, z', ez, sf, z8, z9⟩
  · rcases k with ⟨i', j', st', s', es, a0, a1⟩ | ⟨ns, _⟩
    · obtain ⟨ei, ej⟩ := st.2.2.one st'.2.2
      subst ei ej
      exact ⟨_, s', z', true, nI i, nI j, rfl, es, ez, sf, z8, z9, fun _ => ⟨a0, a1, i, j, st⟩, (fun q => by cases q)⟩
    · exact absurd st (ns i j)
  · rcases k with ⟨i', j', st', _⟩ | ⟨_, s', es⟩
    · exact absurd st' (ns i' j')
    · exact ⟨_, s', z', false, -1, -1, rfl, es, ez, sf, z8, z9, (fun q => by cases q), fun _ => ⟨rfl, rfl, ns⟩⟩
theorem cA_35 (a1 a2 a3 a4 a5 : Int32) {X : Nat → OS} {z : OS} (o : Nat → Int64) {fu : Nat} (hf : 5000 ≤ fu) (h : Inv X z) : OKS (cL_35 fu a1 a2 a3 a4 a5 X z o) := by
  obtain ⟨w, c, q⟩ := h.1
  have h6 := q.c60
  have h12 := q.w12
  have h1 := q.w1
  have i0 := h.z0 0
  have q0 : QR w c (X 1) ((sI z 0 0).2 1) := q
  have p12 := pw12 h12
  have t0 : (sI z 0 0).1 0 = 0 := sI_s _ _ _
  have nf := i1_ne0
  obtain ⟨s1, s', z', b, i, j, e1, e2, e3, sf, z8, z9, ht, hn⟩ := p_next (fu := fu) q0 hf (X 21)
  have e4 : fX8_nextFirst fu (X 1) (X 21) = some (i, s') := by
    unfold fX8_nextFirst
    rw [e1, bd_s, e2, bd_s, nm_d, nm_d]
    cases b
    · rw [if_pos (show b2 false = 0 by decide), (hn rfl).1]
    · rw [if_neg (show ¬ b2 true = 0 by decide), (ht rfl).1]
  have e5 : fX9_nextFirst fu z = some (i, z') := by
    unfold fX9_nextFirst
    rw [nm_d, e3, bd_s, nm_d, nm_d]
    exact congrArg (fun t => some (t, z')) z8
  unfold cL_35
  rw [e4, bd_s, e5, bd_s, if_pos rfl]
  exact ⟨_, _, _, rfl, (i0.fr sf.1.fq.fr (sf.rl q0)).up 21 s' (by omega)⟩
theorem cA_36 (a1 a2 a3 a4 a5 : Int32) {X : Nat → OS} {z : OS} (o : Nat → Int64) {fu : Nat} (hf : 5000 ≤ fu) (h : Inv X z) : OKS (cL_36 fu a1 a2 a3 a4 a5 X z o) := by
  obtain ⟨w, c, q⟩ := h.1
  have h6 := q.c60
  have h12 := q.w12
  have h1 := q.w1
  have i0 := h.z0 0
  have q0 : QR w c (X 1) ((sI z 0 0).2 1) := q
  have p12 := pw12 h12
  have t0 : (sI z 0 0).1 0 = 0 := sI_s _ _ _
  have nf := i1_ne0
  obtain ⟨s1, s', z', b, i, j, e1, e2, e3, sf, z8, z9, ht, hn⟩ := p_next (fu := fu) q0 hf (X 21)
  have e4 : fX8_nextSecond fu (X 1) (X 21) = some (j, s') := by
    unfold fX8_nextSecond
    rw [e1, bd_s, e2, bd_s, nm_d, nm_d]
    cases b
    · rw [if_pos (show b2 false = 0 by decide), (hn rfl).2.1]
    · rw [if_neg (show ¬ b2 true = 0 by decide), (ht rfl).2.1]
  have e5 : fX9_nextSecond fu z = some (j, z') := by
    unfold fX9_nextSecond
    rw [nm_d, e3, bd_s, nm_d, nm_d]
    exact congrArg (fun t => some (t, z')) z9
  unfold cL_36
  rw [e4, bd_s, e5, bd_s, if_pos rfl]
  exact ⟨_, _, _, rfl, (i0.fr sf.1.fq.fr (sf.rl q0)).up 21 s' (by omega)⟩
theorem PI.fr {z z' : OS} {T F : Int32} {K : Bool} (a : PI z z' T F K) : FR z z' := by
  obtain ⟨e, i, _⟩ := a
  have g : ∀ k, ¬ (k = 12 ∨ k = 13 ∨ k = 14) → z'.1 k = z.1 k := fun k h => (i k).resolve_left h
  exact ⟨⟨g 7 (by decide), g 16 (by decide), g 17 (by decide), g 18 (by decide), g 26 (by decide)⟩, by rw [e], by rw [e], by rw [e], by rw [e], by rw [e]⟩
theorem cA_49 (a1 a2 a3 a4 a5 : Int32) {X : Nat → OS} {z : OS} (o : Nat → Int64) {fu : Nat} (hf : 5000 ≤ fu) (h : Inv X z) : OKS (cL_49 fu a1 a2 a3 a4 a5 X z o) := by
  obtain ⟨w, c, q⟩ := h.1
  have h6 := q.c60
  have h12 := q.w12
  have h1 := q.w1
  have i0 := h.z0 0
  have q0 : QR w c (X 1) ((sI z 0 0).2 1) := q
  have p12 := pw12 h12
  have t0 : (sI z 0 0).1 0 = 0 := sI_s _ _ _
  have nf := i1_ne0
  obtain ⟨T, F, K, zc, z', e1, eT, eF, e2, pi, eK⟩ := q_prop (fu := fu) q0 hf (X 22)
  have pi2 := pi
  obtain ⟨p1, p2, p3, p4, p5⟩ := pi2
  have e4 : fX8_fixedTrue fu (X 1) (X 22) = some (T, zc) := by
    unfold fX8_fixedTrue
    rw [e1, bd_s, eT]
  have e5 : fX9_fixedTrue fu z = some (T, z') := by
    unfold fX9_fixedTrue
    rw [nm_d, e2, bd_s, p3]
  unfold cL_49
  rw [e4, bd_s, e5, bd_s, if_pos rfl]
  exact ⟨_, _, _, rfl, (i0.fr pi.fr (by rw [p1]; exact q0)).up 22 zc (by omega)⟩
theorem cA_50 (a1 a2 a3 a4 a5 : Int32) {X : Nat → OS} {z : OS} (o : Nat → Int64) {fu : Nat} (hf : 5000 ≤ fu) (h : Inv X z) : OKS (cL_50 fu a1 a2 a3 a4 a5 X z o) := by
  obtain ⟨w, c, q⟩ := h.1
  have h6 := q.c60
  have h12 := q.w12
  have h1 := q.w1
  have i0 := h.z0 0
  have q0 : QR w c (X 1) ((sI z 0 0).2 1) := q
  have p12 := pw12 h12
  have t0 : (sI z 0 0).1 0 = 0 := sI_s _ _ _
  have nf := i1_ne0
  obtain ⟨T, F, K, zc, z', e1, eT, eF, e2, pi, eK⟩ := q_prop (fu := fu) q0 hf (X 22)
  have pi2 := pi
  obtain ⟨p1, p2, p3, p4, p5⟩ := pi2
  have e4 : fX8_fixedFalse fu (X 1) (X 22) = some (F, zc) := by
    unfold fX8_fixedFalse
    rw [e1, bd_s, eF]
  have e5 : fX9_fixedFalse fu z = some (F, z') := by
    unfold fX9_fixedFalse
    rw [nm_d, e2, bd_s, p4]
  unfold cL_50
  rw [e4, bd_s, e5, bd_s, if_pos rfl]
  exact ⟨_, _, _, rfl, (i0.fr pi.fr (by rw [p1]; exact q0)).up 22 zc (by omega)⟩
theorem cA_51 (a1 a2 a3 a4 a5 : Int32) {X : Nat → OS} {z : OS} (o : Nat → Int64) {fu : Nat} (hf : 5000 ≤ fu) (h : Inv X z) : OKS (cL_51 fu a1 a2 a3 a4 a5 X z o) := by
  obtain ⟨w, c, q⟩ := h.1
  have h6 := q.c60
  have h12 := q.w12
  have h1 := q.w1
  have i0 := h.z0 0
  have q0 : QR w c (X 1) ((sI z 0 0).2 1) := q
  have p12 := pw12 h12
  have t0 : (sI z 0 0).1 0 = 0 := sI_s _ _ _
  have nf := i1_ne0
  obtain ⟨T, F, K, zc, z', e1, eT, eF, e2, pi, eK⟩ := q_prop (fu := fu) q0 hf (X 22)
  have pi2 := pi
  obtain ⟨p1, p2, p3, p4, p5⟩ := pi2
  have e4 : fX8_hasConflict fu (X 1) (X 22) = some (b2 K, zc) := by
    unfold fX8_hasConflict
    rw [e1, bd_s, eK, bd_s, isZ_b, gd_t]
  have e5 : fX9_hasConflict fu z = some (b2 K, z') := by
    unfold fX9_hasConflict
    rw [nm_d, e2, bd_s, p5, isZ_b, gd_t]
  unfold cL_51
  rw [e4, bd_s, e5, bd_s, if_pos rfl]
  exact ⟨_, _, _, rfl, (i0.fr pi.fr (by rw [p1]; exact q0)).up 22 zc (by omega)⟩
theorem dd_ok : ∀ w, w < 13 → ∀ i, i < 65 → ∀ j, j < 64 → 64 * i + j ≤ 2 ^ w → ddOk (FP.i2d (nI (64 * i + j))) (FP.i2d (nI (2 ^ w))) = true := by decide +kernel
theorem dd_w {w t : Nat} (h12 : w ≤ 12) (ht : t ≤ 2 ^ w) : ddOk (FP.i2d (nI t)) (FP.i2d (nI (2 ^ w))) = true := by
  have p12 := (pw12 h12).2
  have := dd_ok w (by omega) (t / 64) (by omega) (t % 64) (by omega) (by omega)
  rw [show 64 * (t / 64) + t % 64 = t by omega] at this
  exact this
theorem cA_48 (a1 a2 a3 a4 a5 : Int32) {X : Nat → OS} {z : OS} (o : Nat → Int64) {fu : Nat} (hf : 5000 ≤ fu) (h : Inv X z) : OKS (cL_48 fu a1 a2 a3 a4 a5 X z o) := by
  obtain ⟨w, c, q⟩ := h.1
  have h6 := q.c60
  have h12 := q.w12
  have h1 := q.w1
  have i0 := h.z0 0
  have q0 : QR w c (X 1) ((sI z 0 0).2 1) := q
  have p12 := pw12 h12
  have t0 : (sI z 0 0).1 0 = 0 := sI_s _ _ _
  have nf := i1_ne0
  obtain ⟨t, ht, et⟩ := (cn_0 (p := fun a => mo (X 1) c (-1) (nI a)) (d := 2 ^ w) (k := 0) (by omega)).2
  have e4 : fX8_modelShare fu (X 1) = some (FP.ddiv (FP.i2d (nI t)) (FP.i2d (nI (2 ^ w)))) := by
    unfold fX8_modelShare
    rw [q_count q.xc h6 hf q.av p12.1 p12.2, bd_s, et, q.xw, sh_w w (by omega), dd_w h12 ht, gd_t]
  have e5 : fX9_modelShare fu z = some (FP.ddiv (FP.i2d (nI t)) (FP.i2d (nI (2 ^ w))), sI z 0 0) := by
    unfold fX9_modelShare
    rw [nm_d, m_models q0 hf, bd_s, m_asg q0.mw h12, bd_s, et, dd_w h12 ht, gd_t]
  unfold cL_48
  rw [e4, bd_s, e5, bd_s]
  by_cases g : (Op.cmpValue (FP.dcmp (FP.ddiv (FP.i2d (nI t)) (FP.i2d (nI (2 ^ w)))) (FP.ddiv (FP.i2d (nI t)) (FP.i2d (nI (2 ^ w))))) .l) = 0
  · rw [if_pos g]; exact ⟨_, _, _, rfl, i0⟩
  · rw [if_neg g, if_neg g, if_neg g]; exact ⟨_, _, _, rfl, i0⟩
theorem cA_59 (a1 a2 a3 a4 a5 : Int32) {X : Nat → OS} {z : OS} (o : Nat → Int64) {fu : Nat} (hf : 5000 ≤ fu) (h : Inv X z) : OKS (cL_59 fu a1 a2 a3 a4 a5 X z o) := by
  obtain ⟨w, c, q⟩ := h.1
  have h6 := q.c60
  have h12 := q.w12
  have h1 := q.w1
  have i0 := h.z0 0
  have q0 : QR w c (X 1) ((sI z 0 0).2 1) := q
  have p12 := pw12 h12
  have t0 : (sI z 0 0).1 0 = 0 := sI_s _ _ _
  have nf := i1_ne0
  obtain ⟨d, nx, _, _, _, r2, r3, _⟩ := h.2.2.2.1
  unfold cL_59 fX8_undoDepth fX9_undoDepth
  rw [bd_s, nm_d, bd_s, if_pos (show (X 8).1 2 = (sI z 0 0).1 7 by rw [sI_o _ _ (by decide), r2, r3])]
  exact ⟨_, _, _, rfl, i0⟩
theorem cA_63 (a1 a2 a3 a4 a5 : Int32) {X : Nat → OS} {z : OS} (o : Nat → Int64) {fu : Nat} (hf : 5000 ≤ fu) (h : Inv X z) : OKS (cL_63 fu a1 a2 a3 a4 a5 X z o) := by
  obtain ⟨w, c, q⟩ := h.1
  have h6 := q.c60
  have h12 := q.w12
  have h1 := q.w1
  have i0 := h.z0 0
  have q0 : QR w c (X 1) ((sI z 0 0).2 1) := q
  have p12 := pw12 h12
  have t0 : (sI z 0 0).1 0 = 0 := sI_s _ _ _
  have nf := i1_ne0
  obtain ⟨n, o1, o2, o3, o4⟩ := i0.2.2.2.2.2
  have sp := pk_ix a1 (n := n) (by omega)
  by_cases hb : a1 < 0 ∨ nI n ≤ a1
  · have e4 : fX8_outputByte fu (X 23) a1 = some (-1) := by
      unfold fX8_outputByte
      rw [o1]
      by_cases g : a1 < 0
      · rw [if_pos g]
      · rw [if_neg g, if_neg]
        have := hb.resolve_left g
        intro t
        rw [Int32.le_iff_toInt_le] at this
        rw [Int32.lt_iff_toInt_lt] at t
        omega
    have e5 : fX9_outputByte fu z a1 = some (-1, sI z 0 0) := by
      unfold fX9_outputByte
      rw [nm_d, o2, in_bad hb (by omega), bd_s, if_pos rfl]
    unfold cL_63
    rw [e4, bd_s, e5, bd_s, if_pos rfl]
    exact ⟨_, _, _, rfl, i0⟩
  · obtain ⟨j, hj, rfl⟩ := (sp.resolve_left (fun t => hb (Or.inl t))).resolve_left (fun t => hb (Or.inr t))
    have e4 : fX8_outputByte fu (X 23) (nI j) = some ((X 23).2 0 j) := by
      unfold fX8_outputByte
      rw [o1, if_neg (nI_pos (by omega)), if_pos ((nI_ltI (by omega) (by omega)).mpr hj), inB_I (by omega) (by omega), gd_t, nI_clamp (by omega)]
    have e5 : fX9_outputByte fu z (nI j) = some ((X 23).2 0 j, sI z 0 0) := by
      unfold fX9_outputByte
      rw [nm_d, o2, in_ok hj (by omega), bd_s, if_neg (by decide), inB_I (by omega) (by omega), gd_t, nI_clamp (by omega), o4 j hj]
    unfold cL_63
    rw [e4, bd_s, e5, bd_s, if_pos rfl]
    exact ⟨_, _, _, rfl, i0⟩
