/-! Part II: the calls that change the clauses and record it. -/
def W10 (X : Nat → OS) (x1 x8 : OS) (H : Nat → OS) : Nat → OS := upX (upX (upX (upX (upX (upX (upX (upX (upX (upX X 1 x1) 8 x8) 9 (H 0)) 10 (H 1)) 11 (H 2)) 12 (H 3)) 13 (H 4)) 14 (H 5)) 15 (H 6)) 16 (H 7)
theorem W10_H (X : Nat → OS) (x1 x8 : OS) (H : Nat → OS) {k : Nat} (hk : k < 8) : W10 X x1 x8 H (9 + k) = H k := by
  have cs : k = 0 ∨ k = 1 ∨ k = 2 ∨ k = 3 ∨ k = 4 ∨ k = 5 ∨ k = 6 ∨ k = 7 := by omega
  rcases cs with rfl | rfl | rfl | rfl | rfl | rfl | rfl | rfl <;> rfl
theorem W10_o (X : Nat → OS) (x1 x8 : OS) (H : Nat → OS) {j : Nat} (h1 : j ≠ 1) (h : j < 8 ∨ 16 < j) : W10 X x1 x8 H j = X j := by
  unfold W10
  rw [upX_o _ _ (by omega), upX_o _ _ (by omega), upX_o _ _ (by omega), upX_o _ _ (by omega), upX_o _ _ (by omega), upX_o _ _ (by omega), upX_o _ _ (by omega), upX_o _ _ (by omega), upX_o _ _ (by omega), upX_o _ _ (by omega)]
theorem W10_id (X : Nat → OS) : W10 X (X 1) (X 8) (fun k => X (9 + k)) = X := by
  funext j
  by_cases h : j ≠ 1 ∧ (j < 8 ∨ 16 < j)
  · exact W10_o _ _ _ _ h.1 h.2
  · have cs : j = 1 ∨ j = 8 ∨ ∃ k, k < 8 ∧ j = 9 + k := by
      by_cases a : j = 1
      · exact Or.inl a
      · by_cases b : j = 8
        · exact Or.inr (Or.inl b)
        · exact Or.inr (Or.inr ⟨j - 9, by omega, by omega⟩)
    rcases cs with rfl | rfl | ⟨k, hk, rfl⟩
    · rfl
    · rfl
    · exact W10_H _ _ _ _ hk
/-- what a recorded change keeps -/
def FW (z z' : OS) : Prop := (z'.1 16 = z.1 16 ∧ z'.1 17 = z.1 17 ∧ z'.1 18 = z.1 18 ∧ z'.1 26 = z.1 26) ∧ z'.2 5 = z.2 5 ∧ z'.2 6 = z.2 6 ∧ z'.2 15 = z.2 15 ∧ z'.2 25 = z.2 25
theorem Inv.w10 {X : Nat → OS} {z z' : OS} (h : Inv X z) (a : FW z z') {w c : Nat} {x1 x8 : OS} {H : Nat → OS} (q : QR w c x1 (z'.2 1)) (hi : HI x8 H z') : Inv (W10 X x1 x8 H) z' := by
  obtain ⟨_, ⟨L, hT⟩, hE, _, hS, ⟨n, hO⟩⟩ := h
  obtain ⟨⟨a1, a2, a3, a4⟩, a5, a6, a7, a8⟩ := a
  obtain ⟨d, nx, hd, hn, r1, r2, r3, hr⟩ := hi
  have o := fun j (h1 : j ≠ 1) (h : j < 8 ∨ 16 < j) => W10_o X x1 x8 H h1 h
  refine ⟨⟨w, c, q⟩, ⟨L, ?_⟩, ?_, ⟨d, nx, hd, hn, r1, r2, r3, fun j hj => ?_⟩, fun k hk => ?_, ⟨n, ?_⟩⟩
  · rw [o 4 (by omega) (by omega)]
    exact ⟨hT.1, a1.trans hT.2.1, hT.2.2.1, fun i hi => by rw [a7]; exact hT.2.2.2 i hi⟩
  · rw [o 3 (by omega) (by omega)]
    exact ⟨hE.1.trans a3.symm, hE.2.trans a2.symm⟩
  · have := hr j hj
    show ∃ w c, QR w c (W10 X x1 x8 H (9 + (nx + 8 - d + j) % 8)) _
    rw [W10_H _ _ _ _ (Nat.mod_lt _ (by omega))]; exact this
  · unfold SL
    rw [o 20 (by omega) (by omega), o (18 + k) (by omega) (by omega), a5, a6]; exact hS k hk
  · rw [o 23 (by omega) (by omega)]
    exact ⟨hO.1, a4.trans hO.2.1, hO.2.2.1, fun i hi => by rw [a8]; exact hO.2.2.2 i hi⟩
theorem m_keeps {fu : Nat} (hf : 5000 ≤ fu) (z : OS) : ∃ z', fX9_keeps fu z = some z' ∧ SK 2 z z' ∧ ∀ i, i < 917 → z'.2 2 i = z.2 1 i := by
  obtain ⟨y, e, y1, y2⟩ := m_copy (m1 := 917) (m2 := 917) (a := 0) (b := 0) (fu := fu) (z.2 1) (z.2 2) (by omega) (by omega) (by omega) (by omega) hf
  have e' : fX9_copies_two fu 917 (z.2 1) 917 (z.2 2) 0 0 = some y := e
  refine ⟨sA z 2 y, ?_, SK.sa 2 z y, fun i hi => ?_⟩
  · unfold fX9_keeps
    rw [e', bd_s, nm_d]
  · rw [sA_s]
    have := y1 i hi
    rw [Nat.zero_mul, Nat.zero_add] at this
    exact this
theorem SK2.fr {z z' : OS} (s : SK 2 z z') : FR z z' := ⟨⟨by rw [s.1], by rw [s.1], by rw [s.1], by rw [s.1], by rw [s.1]⟩, s.2 4 (by decide), s.2 5 (by decide), s.2 6 (by decide), s.2 15 (by decide), s.2 25 (by decide)⟩
theorem close {X : Nat → OS} {z : OS} (h : Inv X z) {fu w c : Nat} {m : Nat → Int32} (hf : 5000 ≤ fu) (q : QR w c (X 1) m) : ∃ x8 H, fX1_push fu (X 8) (X 9) (X 10) (X 11) (X 12) (X 13) (X 14) (X 15) (X 16) (X 1) = some (x8, H 0, H 1, H 2, H 3, H 4, H 5, H 6, H 7) ∧ ∀ (z1 : OS) (r : Int32) (w1 c1 w2 : Nat) (x1 : OS), FR z z1 → QR w2 c (X 1) (z1.2 2) → QR w1 c1 x1 (z1.2 1) → ∃ z', fX9_records fu z1 r = some (r, z') ∧ z'.1 0 = z1.1 0 ∧ Inv (W10 X x1 x8 H) z' := by
  obtain ⟨n, x8', y', hn, e, f⟩ := HI_push (fu := fu) (y := X 1) hf h.2.2.2.1 q.xc q.c60
  refine ⟨x8', upX (fun k => X (9 + k)) n y', e, fun z1 r w1 c1 w2 x1 fr q2 q1 => ?_⟩
  obtain ⟨z', ez, sr, hi⟩ := f z1 r w2 fr.1.1 fr.2.1 q2
  refine ⟨z', ez, sr.1 0 (by decide), h.w10 ⟨⟨?_, ?_, ?_, ?_⟩, ?_, ?_, ?_, ?_⟩ (by rw [sr.2 1 (by decide)]; exact q1) hi⟩
  · rw [sr.1 16 (by decide)]; exact fr.1.2.1
  · rw [sr.1 17 (by decide)]; exact fr.1.2.2.1
  · rw [sr.1 18 (by decide)]; exact fr.1.2.2.2.1
  · rw [sr.1 26 (by decide)]; exact fr.1.2.2.2.2
  · rw [sr.2 5 (by decide)]; exact fr.2.2.1
  · rw [sr.2 6 (by decide)]; exact fr.2.2.2.1
  · rw [sr.2 15 (by decide)]; exact fr.2.2.2.2.1
  · rw [sr.2 25 (by decide)]; exact fr.2.2.2.2.2
theorem tW_ok {L : Option (Int32 × (Nat → Int64) × OS × OS × OS × OS × OS × OS × OS × OS × OS × OS)} {M : Option (Int32 × OS)} {X H : Nat → OS} {x1 x8 z' : OS} {o : Nat → Int64} {fu : Nat} {r : Int32} (e1 : L = some (0, vp_updL o (0 : Int32).toNatClampNeg r.toInt64, x1, x8, H 0, H 1, H 2, H 3, H 4, H 5, H 6, H 7)) (e2 : M = some (r, z')) (ht : z'.1 0 = 0) (i : Inv (W10 X x1 x8 H) z') : OKS (bd L (fun (w1 : Int32 × (Nat → Int64) × OS × OS × OS × OS × OS × OS × OS × OS × OS × OS) => bd M (fun (w2 : Int32 × OS) => bd (fX9_thrown fu w2.2) (fun (w3 : Int32) => (if w3 = w1.1 then (if w1.1 = 0 then (if (lg_cmp ((w1.2.1 (0 : Int32).toNatClampNeg)) ((w2.1).toInt64)) = 0 then some ((upX (upX (upX (upX (upX (upX (upX (upX (upX (upX X 1 w1.2.2.1) 8 w1.2.2.2.1) 9 w1.2.2.2.2.1) 10 w1.2.2.2.2.2.1) 11 w1.2.2.2.2.2.2.1) 12 w1.2.2.2.2.2.2.2.1) 13 w1.2.2.2.2.2.2.2.2.1) 14 w1.2.2.2.2.2.2.2.2.2.1) 15 w1.2.2.2.2.2.2.2.2.2.2.1) 16 w1.2.2.2.2.2.2.2.2.2.2.2), w2.2, w1.2.1) else none) else some ((upX (upX (upX (upX (upX (upX (upX (upX (upX (upX X 1 w1.2.2.1) 8 w1.2.2.2.1) 9 w1.2.2.2.2.1) 10 w1.2.2.2.2.2.1) 11 w1.2.2.2.2.2.2.1) 12 w1.2.2.2.2.2.2.2.1) 13 w1.2.2.2.2.2.2.2.2.1) 14 w1.2.2.2.2.2.2.2.2.2.1) 15 w1.2.2.2.2.2.2.2.2.2.2.1) 16 w1.2.2.2.2.2.2.2.2.2.2.2), w2.2, w1.2.1)) else none))))) := by
  subst e1 e2
  have e : lg_cmp ((vp_updL o (0 : Int32).toNatClampNeg r.toInt64) (0 : Int32).toNatClampNeg) r.toInt64 = 0 := by rw [pk_uLs]; exact lg_self _
  rw [bd_s, bd_s, th_e, bd_s, if_pos ht, if_pos rfl]
  exact ⟨W10 X x1 x8 H, z', _, if_pos e, i⟩
theorem tW_bad {L : Option (Int32 × (Nat → Int64) × OS × OS × OS × OS × OS × OS × OS × OS × OS × OS)} {M : Option (Int32 × OS)} {X : Nat → OS} {z' : OS} {o : Nat → Int64} {fu : Nat} {r k : Int32} (e1 : L = some (k, o, X 1, X 8, X 9, X 10, X 11, X 12, X 13, X 14, X 15, X 16)) (hk : k ≠ 0) (e2 : M = some (r, z')) (ht : z'.1 0 = k) (i : Inv X z') : OKS (bd L (fun (w1 : Int32 × (Nat → Int64) × OS × OS × OS × OS × OS × OS × OS × OS × OS × OS) => bd M (fun (w2 : Int32 × OS) => bd (fX9_thrown fu w2.2) (fun (w3 : Int32) => (if w3 = w1.1 then (if w1.1 = 0 then (if (lg_cmp ((w1.2.1 (0 : Int32).toNatClampNeg)) ((w2.1).toInt64)) = 0 then some ((upX (upX (upX (upX (upX (upX (upX (upX (upX (upX X 1 w1.2.2.1) 8 w1.2.2.2.1) 9 w1.2.2.2.2.1) 10 w1.2.2.2.2.2.1) 11 w1.2.2.2.2.2.2.1) 12 w1.2.2.2.2.2.2.2.1) 13 w1.2.2.2.2.2.2.2.2.1) 14 w1.2.2.2.2.2.2.2.2.2.1) 15 w1.2.2.2.2.2.2.2.2.2.2.1) 16 w1.2.2.2.2.2.2.2.2.2.2.2), w2.2, w1.2.1) else none) else some ((upX (upX (upX (upX (upX (upX (upX (upX (upX (upX X 1 w1.2.2.1) 8 w1.2.2.2.1) 9 w1.2.2.2.2.1) 10 w1.2.2.2.2.2.1) 11 w1.2.2.2.2.2.2.1) 12 w1.2.2.2.2.2.2.2.1) 13 w1.2.2.2.2.2.2.2.2.1) 14 w1.2.2.2.2.2.2.2.2.2.1) 15 w1.2.2.2.2.2.2.2.2.2.2.1) 16 w1.2.2.2.2.2.2.2.2.2.2.2), w2.2, w1.2.1)) else none))))) := by
  subst e1 e2
  rw [bd_s, bd_s, th_e, bd_s, if_pos ht, if_neg hk]
  exact ⟨W10 X (X 1) (X 8) (fun k => X (9 + k)), z', _, rfl, by rw [W10_id]; exact i⟩
theorem cA_52 (a1 a2 a3 a4 a5 : Int32) {X : Nat → OS} {z : OS} (o : Nat → Int64) {fu : Nat} (hf : 5000 ≤ fu) (h : Inv X z) : OKS (cL_52 fu a1 a2 a3 a4 a5 X z o) := by
  obtain ⟨w, c, q⟩ := h.1
  have h6 := q.c60
  have h12 := q.w12
  have h1 := q.w1
  have i0 := h.z0 0
  have q0 : QR w c (X 1) ((sI z 0 0).2 1) := q
  have p12 := pw12 h12
  have t0 : (sI z 0 0).1 0 = 0 := sI_s _ _ _
  have nf := i1_ne0
  unfold cL_52
  obtain ⟨x8, H, ep, cl⟩ := close h hf q
  by_cases hb : Vm w a1 ∧ Vm w a2 ∧ (a1 &&& a2) = 0
  · obtain ⟨v1, v2, v3⟩ := hb
    obtain ⟨z3, e3, s, r, ok⟩ := noMasks_ok (fu := fu) q0 hf t0 v1 v2 v3
    have q3 := s.rl q0
    have t3 : z3.1 0 = 0 := by rw [s.1]; exact t0
    have ms := m_same q3 hf r ok
    have qf := q_isFull (x := X 1) fu q.xc h6
    have qi := q_indexOf (x := X 1) q.xc h6 hf a1 a2
    by_cases full : c = 60
    · have n60 : (nI c = 60) = True := eq_true (by rw [full]; rfl)
      have e1 : fX8_addClause fu (X 1) (X 8) (X 9) (X 10) (X 11) (X 12) (X 13) (X 14) (X 15) (X 16) a1 a2 = some (3, 0, X 1, X 8, X 9, X 10, X 11, X 12, X 13, X 14, X 15, X 16) := by
        unfold fX8_addClause
        rw [cl_ok q v1 v2 v3, bd_s, if_pos rfl, qf, bd_s, if_neg (by rw [decide_eq_true full]; decide)]
      have e2 : fX9_addClause fu z a1 a2 = some (0, sI z3 0 2) := by
        unfold fX9_addClause
        simp only [e3, ms, many_e q3.mc, n60, nm_d, bd_s, jn_d, i1_ne0, if_false, if_true, not_false_eq_true, not_true_eq_false, isZ_0, isZ_1, gd_t, ti_1 t3 fu (show (2 : Int32) ≠ 0 by decide), ite_self]
      exact tW_bad (by unfold fL_addClause; rw [e1]; rfl) (by decide) e2 (sI_s _ _ _) ((i0.fr s.sf.1.fq.fr q3).z0 2)
    · have n60 : (nI c = 60) = False := eq_false (fun t => full ((nI_eq (b := 60) (by omega) (by omega)).mp t))
      generalize hF : ff (fun i => decide ((X 1).2 0 i = a1) && decide ((X 1).2 1 i = a2)) c 0 = F at ms qi
      by_cases fd : F = -1
      · obtain ⟨zk, ek, sk, kk⟩ := m_keeps (fu := fu) hf z3
        have qk : QR w c (X 1) (zk.2 1) := by rw [sk.2 1 (by decide)]; exact q3
        have rk : Row (zk.2 1) c a1 a2 := by rw [sk.2 1 (by decide)]; exact r
        obtain ⟨x', za, ea, ez, sf, qa, _⟩ := RL_given (fu := fu) qk (by omega) rk ok
        have q2 : QR w c (X 1) (za.2 2) := by
          rw [sf.a 2]
          exact q3.cong (fun i hi => kk i (reg_lt h6 hi))
        obtain ⟨zr, er, hr0, inv⟩ := cl za (nI c) w (c + 1) w x' ((((frI z 0).tr s.sf.1.fq.fr).tr (SK2.fr sk)).tr sf.fq.fr) q2 qa
        have e1 : fX8_addClause fu (X 1) (X 8) (X 9) (X 10) (X 11) (X 12) (X 13) (X 14) (X 15) (X 16) a1 a2 = some (0, nI c, x', x8, H 0, H 1, H 2, H 3, H 4, H 5, H 6, H 7) := by
          unfold fX8_addClause
          rw [cl_ok q v1 v2 v3, bd_s, if_pos rfl, qf, bd_s, if_pos (by rw [decide_eq_false full]; rfl), qi, bd_s, if_pos fd, ep]
          simp only [bd_s, nm_d, ea]
        have e2 : fX9_addClause fu z a1 a2 = some (nI c, zr) := by
          unfold fX9_addClause
          simp only [e3, ms, fd, many_e q3.mc, n60, nm_d, bd_s, jn_d, i1_ne0, if_false, if_true, not_false_eq_true, not_true_eq_false, isZ_0, isZ_1, gd_t, ti_0 t3, ek, ez, er]
        exact tW_ok (by unfold fL_addClause; rw [e1]; rfl) e2 (by rw [hr0, sf.i 0, sk.1, s.1, t0]) inv
      · skip
        have e1 : fX8_addClause fu (X 1) (X 8) (X 9) (X 10) (X 11) (X 12) (X 13) (X 14) (X 15) (X 16) a1 a2 = some (3, 0, X 1, X 8, X 9, X 10, X 11, X 12, X 13, X 14, X 15, X 16) := by
          unfold fX8_addClause
          rw [cl_ok q v1 v2 v3, bd_s, if_pos rfl, qf, bd_s, if_pos (by rw [decide_eq_false full]; rfl), qi, bd_s, if_neg fd]
        have e2 : fX9_addClause fu z a1 a2 = some (0, sI z3 0 2) := by
          unfold fX9_addClause
          simp only [e3, ms, fd, many_e q3.mc, n60, nm_d, bd_s, jn_d, i1_ne0, if_false, if_true, not_false_eq_true, not_true_eq_false, isZ_0, isZ_1, gd_t, ti_1 t3 fu (show (2 : Int32) ≠ 0 by decide)]
        exact tW_bad (by unfold fL_addClause; rw [e1]; rfl) (by decide) e2 (sI_s _ _ _) ((i0.fr s.sf.1.fq.fr q3).z0 2)
  · skip
    have e1 : fX8_addClause fu (X 1) (X 8) (X 9) (X 10) (X 11) (X 12) (X 13) (X 14) (X 15) (X 16) a1 a2 = some (2, 0, X 1, X 8, X 9, X 10, X 11, X 12, X 13, X 14, X 15, X 16) := by
      unfold fX8_addClause
      rw [cl_bad q hb, bd_s, if_neg (by decide)]
    have e2 : fX9_addClause fu z a1 a2 = some (0, sI (sI z 0 0) 0 1) := by
      unfold fX9_addClause
      simp only [noMasks_bad (fu := fu) q0 t0 hb, nm_d, bd_s, jn_d, i1_ne0, if_false, if_true, not_false_eq_true, not_true_eq_false, isZ_0, isZ_1, gd_t]
    exact tW_bad (by unfold fL_addClause; rw [e1]; rfl) (by decide) e2 (sI_s _ _ _) (i0.z0 1)
theorem cA_53 (a1 a2 a3 a4 a5 : Int32) {X : Nat → OS} {z : OS} (o : Nat → Int64) {fu : Nat} (hf : 5000 ≤ fu) (h : Inv X z) : OKS (cL_53 fu a1 a2 a3 a4 a5 X z o) := by
  obtain ⟨w, c, q⟩ := h.1
  have h6 := q.c60
  have h12 := q.w12
  have h1 := q.w1
  have i0 := h.z0 0
  have q0 : QR w c (X 1) ((sI z 0 0).2 1) := q
  have p12 := pw12 h12
  have t0 : (sI z 0 0).1 0 = 0 := sI_s _ _ _
  have nf := i1_ne0
  unfold cL_53
  obtain ⟨x8, H, ep, cl⟩ := close h hf q
  have sp := pk_ix a1 (n := c) (by omega)
  have sp2 := pk_ix a2 (n := c) (by omega)
  by_cases hb : a1 < 0 ∨ nI c ≤ a1
  · skip
    have e1 : fX8_resolve fu (X 1) (X 8) (X 9) (X 10) (X 11) (X 12) (X 13) (X 14) (X 15) (X 16) a1 a2 = some (1, 0, X 1, X 8, X 9, X 10, X 11, X 12, X 13, X 14, X 15, X 16) := by
      unfold fX8_resolve
      rw [ck_bad q hb, bd_s, if_neg (by decide)]
    have e2 : fX9_resolve fu z a1 a2 = some (0, sI (sI z 0 0) 0 1) := by
      unfold fX9_resolve
      simp only [noPair_bad1 (z := sI z 0 0) (fu := fu) (q := a2) t0 q0.mc h6 hb, nm_d, bd_s, jn_d, i1_ne0, if_false, if_true, not_false_eq_true, not_true_eq_false, isZ_0, isZ_1, gd_t]
    exact tW_bad (by unfold fL_resolve; rw [e1]; rfl) (by decide) e2 (sI_s _ _ _) (i0.z0 1)
  · obtain ⟨j, hj, rfl⟩ := (sp.resolve_left (fun t => hb (Or.inl t))).resolve_left (fun t => hb (Or.inr t))
    by_cases hb2 : a2 < 0 ∨ nI c ≤ a2
    · skip
      have e1 : fX8_resolve fu (X 1) (X 8) (X 9) (X 10) (X 11) (X 12) (X 13) (X 14) (X 15) (X 16) (nI j) a2 = some (1, 0, X 1, X 8, X 9, X 10, X 11, X 12, X 13, X 14, X 15, X 16) := by
        unfold fX8_resolve
        rw [ck_ok q hj, bd_s, if_pos rfl, ck_bad q hb2, bd_s, if_neg (by decide)]
      have e2 : fX9_resolve fu z (nI j) a2 = some (0, sI (sI z 0 0) 0 1) := by
        unfold fX9_resolve
        simp only [noPair_bad2 (z := sI z 0 0) (fu := fu) t0 q0.mc h6 hj hb2, nm_d, bd_s, jn_d, i1_ne0, if_false, if_true, not_false_eq_true, not_true_eq_false, isZ_0, isZ_1, gd_t]
      exact tW_bad (by unfold fL_resolve; rw [e1]; rfl) (by decide) e2 (sI_s _ _ _) (i0.z0 1)
    · obtain ⟨l, hl, rfl⟩ := (sp2.resolve_left (fun t => hb2 (Or.inl t))).resolve_left (fun t => hb2 (Or.inr t))
      have mc := m_clash (fu := fu) q0.mw h12 (q0.row hj) (by omega) (q0.ok hj) (q0.row hl) (by omega) (q0.ok hl) hf
      have np := noPair_ok (z := sI z 0 0) (fu := fu) t0 q0.mc h6 hj hl
      have qc := q_clashOnce (X 1) fu (i := j) (j := l) (by omega) (by omega)
      by_cases g : pc (cm ((X 1).2 0 j) ((X 1).2 1 j) ((X 1).2 0 l) ((X 1).2 1 l)) = 1
      · obtain ⟨t, ht, hc, hn⟩ := pc_one ((q.ok hj).cm) h12 g
        obtain ⟨z3, e3, s, r⟩ := m_resolves (fu := fu) q0 hf hj hl ht hc hn
        have q3 := s.rl q0
        have t3 : z3.1 0 = 0 := by rw [s.1]; exact t0
        have ms := m_same q3 hf r (mg_ok (q.ok hj) (q.ok hl))
        have qh := q_hasRoom (x := X 1) (fu := fu) q.xc h6 hf (i := j) (j := l) (by omega) (by omega)
        rw [decide_eq_true g] at qc
        have fm := ff_m1 (p := fun k => decide ((X 1).2 0 k = (mgP ((X 1).2 0 j) ((X 1).2 1 j) ((X 1).2 0 l) ((X 1).2 1 l))) && decide ((X 1).2 1 k = (mgN ((X 1).2 0 j) ((X 1).2 1 j) ((X 1).2 0 l) ((X 1).2 1 l)))) (d := c) (k := 0) (by omega)
        by_cases full : c = 60
        · have n60 : (nI c = 60) = True := eq_true (by rw [full]; rfl)
          have e1 : fX8_resolve fu (X 1) (X 8) (X 9) (X 10) (X 11) (X 12) (X 13) (X 14) (X 15) (X 16) (nI j) (nI l) = some (3, 0, X 1, X 8, X 9, X 10, X 11, X 12, X 13, X 14, X 15, X 16) := by
            unfold fX8_resolve
            rw [ck_ok q hj, bd_s, if_pos rfl, ck_ok q hl, bd_s, if_pos rfl, qc, bd_s, if_pos (by decide), qh, bd_s, if_neg (by rw [decide_eq_true full]; exact fun t => t rfl)]
          have e2 : fX9_resolve fu z (nI j) (nI l) = some (0, sI z3 0 3) := by
            unfold fX9_resolve
            simp only [np, mc, g, e3, ms, many_e q3.mc, n60, nm_d, bd_s, jn_d, i1_ne0, if_false, if_true, not_false_eq_true, not_true_eq_false, isZ_0, isZ_1, gd_t, ti_0 t0, ti_1 t3 fu (show (3 : Int32) ≠ 0 by decide), ite_self]
          exact tW_bad (by unfold fL_resolve; rw [e1]; rfl) (by decide) e2 (sI_s _ _ _) ((i0.fr s.sf.1.fq.fr q3).z0 3)
        · have n60 : (nI c = 60) = False := eq_false (fun t => full ((nI_eq (b := 60) (by omega) (by omega)).mp t))
          rw [decide_eq_false full] at qh
          by_cases fd : ff (fun k => decide ((X 1).2 0 k = (mgP ((X 1).2 0 j) ((X 1).2 1 j) ((X 1).2 0 l) ((X 1).2 1 l))) && decide ((X 1).2 1 k = (mgN ((X 1).2 0 j) ((X 1).2 1 j) ((X 1).2 0 l) ((X 1).2 1 l)))) c 0 = -1
          · obtain ⟨zk, ek, sk, kk⟩ := m_keeps (fu := fu) hf z3
            have qk : QR w c (X 1) (zk.2 1) := by rw [sk.2 1 (by decide)]; exact q3
            obtain ⟨x', za, _, _, ea, ez, sf, qa, _⟩ := RL_res (fu := fu) qk hf (by omega) hj hl g
            have q2 : QR w c (X 1) (za.2 2) := by
              rw [sf.a 2]
              exact q3.cong (fun i hi => kk i (reg_lt h6 hi))
            rw [fm.mp fd] at qh
            obtain ⟨zr, er, hr0, inv⟩ := cl za (nI c) w (c + 1) w x' ((((frI z 0).tr s.sf.1.fq.fr).tr (SK2.fr sk)).tr sf.fq.fr) q2 qa
            have e1 : fX8_resolve fu (X 1) (X 8) (X 9) (X 10) (X 11) (X 12) (X 13) (X 14) (X 15) (X 16) (nI j) (nI l) = some (0, nI c, x', x8, H 0, H 1, H 2, H 3, H 4, H 5, H 6, H 7) := by
              unfold fX8_resolve
              rw [ck_ok q hj, bd_s, if_pos rfl, ck_ok q hl, bd_s, if_pos rfl, qc, bd_s, if_pos (by decide), qh, bd_s, if_pos (by decide), ep]
              simp only [bd_s, nm_d, ea]
            have e2 : fX9_resolve fu z (nI j) (nI l) = some (nI c, zr) := by
              unfold fX9_resolve
              simp only [np, mc, g, e3, ms, fd, many_e q3.mc, n60, nm_d, bd_s, jn_d, i1_ne0, if_false, if_true, not_false_eq_true, not_true_eq_false, isZ_0, isZ_1, gd_t, ti_0 t0, ti_0 t3, ek, ez, er]
            exact tW_ok (by unfold fL_resolve; rw [e1]; rfl) e2 (by rw [hr0, sf.i 0, sk.1, s.1, t0]) inv
          · have ft : ex (fun k => decide ((X 1).2 0 k = (mgP ((X 1).2 0 j) ((X 1).2 1 j) ((X 1).2 0 l) ((X 1).2 1 l))) && decide ((X 1).2 1 k = (mgN ((X 1).2 0 j) ((X 1).2 1 j) ((X 1).2 0 l) ((X 1).2 1 l)))) c 0 = true := by
              rcases Bool.eq_false_or_eq_true (ex (fun k => decide ((X 1).2 0 k = (mgP ((X 1).2 0 j) ((X 1).2 1 j) ((X 1).2 0 l) ((X 1).2 1 l))) && decide ((X 1).2 1 k = (mgN ((X 1).2 0 j) ((X 1).2 1 j) ((X 1).2 0 l) ((X 1).2 1 l)))) c 0) with t | t
              · exact t
              · exact absurd (fm.mpr t) fd
            rw [ft] at qh
            have e1 : fX8_resolve fu (X 1) (X 8) (X 9) (X 10) (X 11) (X 12) (X 13) (X 14) (X 15) (X 16) (nI j) (nI l) = some (3, 0, X 1, X 8, X 9, X 10, X 11, X 12, X 13, X 14, X 15, X 16) := by
              unfold fX8_resolve
              rw [ck_ok q hj, bd_s, if_pos rfl, ck_ok q hl, bd_s, if_pos rfl, qc, bd_s, if_pos (by decide), qh, bd_s, if_neg (by decide)]
            have e2 : fX9_resolve fu z (nI j) (nI l) = some (0, sI z3 0 3) := by
              unfold fX9_resolve
              simp only [np, mc, g, e3, ms, fd, many_e q3.mc, n60, nm_d, bd_s, jn_d, i1_ne0, if_false, if_true, not_false_eq_true, not_true_eq_false, isZ_0, isZ_1, gd_t, ti_0 t0, ti_1 t3 fu (show (3 : Int32) ≠ 0 by decide)]
            exact tW_bad (by unfold fL_resolve; rw [e1]; rfl) (by decide) e2 (sI_s _ _ _) ((i0.fr s.sf.1.fq.fr q3).z0 3)
      · rw [decide_eq_false g] at qc
        have e1 : fX8_resolve fu (X 1) (X 8) (X 9) (X 10) (X 11) (X 12) (X 13) (X 14) (X 15) (X 16) (nI j) (nI l) = some (2, 0, X 1, X 8, X 9, X 10, X 11, X 12, X 13, X 14, X 15, X 16) := by
          unfold fX8_resolve
          rw [ck_ok q hj, bd_s, if_pos rfl, ck_ok q hl, bd_s, if_pos rfl, qc, bd_s, if_neg (by decide)]
        have e2 : fX9_resolve fu z (nI j) (nI l) = some (0, sI (sI z 0 0) 0 2) := by
          unfold fX9_resolve
          simp only [np, mc, g, nm_d, bd_s, jn_d, i1_ne0, if_false, if_true, not_false_eq_true, not_true_eq_false, isZ_0, isZ_1, gd_t, ti_1 t0 fu (show (2 : Int32) ≠ 0 by decide)]
        exact tW_bad (by unfold fL_resolve; rw [e1]; rfl) (by decide) e2 (sI_s _ _ _) (i0.z0 2)
