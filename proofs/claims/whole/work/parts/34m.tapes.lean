/-! Part II: append, truncate, undo, writeClause. -/
theorem W10_2 (X : Nat → OS) (x1 x8 : OS) : W10 X x1 x8 (fun k => X (9 + k)) = upX (upX X 1 x1) 8 x8 := by
  funext j
  by_cases h : j ≠ 1 ∧ (j < 8 ∨ 16 < j)
  · rw [W10_o _ _ _ _ h.1 h.2, upX_o _ _ (by omega), upX_o _ _ (by omega)]
  · have cs : j = 1 ∨ j = 8 ∨ ∃ k, k < 8 ∧ j = 9 + k := by
      by_cases a : j = 1
      · exact Or.inl a
      · by_cases b : j = 8
        · exact Or.inr (Or.inl b)
        · exact Or.inr (Or.inr ⟨j - 9, by omega, by omega⟩)
    rcases cs with rfl | rfl | ⟨k, hk, rfl⟩
    · rfl
    · rfl
    · rw [W10_H _ _ _ _ hk, upX_o _ _ (by omega), upX_o _ _ (by omega)]
theorem upX_id (X : Nat → OS) (k : Nat) : upX X k (X k) = X := by
  funext j
  by_cases h : j = k
  · rw [h, upX_s]
  · rw [upX_o _ _ h]
/-- the tape alone has changed -/
theorem Inv.tape {X : Nat → OS} {z z' y : OS} (h : Inv X z) {L : Nat} (t : TB L y z') (s : ZT z z') : Inv (upX X 4 y) z' := by
  have e : ∀ j, j ≠ 4 → upX X 4 y j = X j := fun j hj => upX_o X y hj
  obtain ⟨⟨w, c, q⟩, _, hE, ⟨d, nx, hd, hn, r1, r2, r3, hr⟩, hS, ⟨n, hO⟩⟩ := h
  refine ⟨⟨w, c, ?_⟩, ⟨L, ?_⟩, ?_, ⟨d, nx, hd, hn, ?_, ?_, ?_, fun j hj => ?_⟩, fun k hk => ?_, ⟨n, ?_⟩⟩
  · rw [e 1 (by omega), s.2 1 (by decide)]; exact q
  · rw [upX_s]; exact t
  · rw [e 3 (by omega), s.1 18 (by decide), s.1 17 (by decide)]; exact hE
  · rw [e 8 (by omega)]; exact r1
  · rw [e 8 (by omega)]; exact r2
  · rw [s.1 7 (by decide)]; exact r3
  · have := hr j hj
    show ∃ w c, QR w c (upX X 4 y (9 + (nx + 8 - d + j) % 8)) _
    rw [e _ (by omega), s.2 4 (by decide)]; exact this
  · unfold SL
    rw [e 20 (by omega), e (18 + k) (by omega), s.2 5 (by decide), s.2 6 (by decide)]; exact hS k hk
  · rw [e 23 (by omega)]
    exact ⟨hO.1, (s.1 26 (by decide)).trans hO.2.1, hO.2.2.1, fun i hi => by rw [s.2 25 (by decide)]; exact hO.2.2.2 i hi⟩
/-- the bytes alone have changed -/
theorem Inv.out {X : Nat → OS} {z z' y : OS} (h : Inv X z) {n : Nat} (t : OB n y z') (s : ZO z z') : Inv (upX X 23 y) z' := by
  have e : ∀ j, j ≠ 23 → upX X 23 y j = X j := fun j hj => upX_o X y hj
  obtain ⟨⟨w, c, q⟩, ⟨L, hT⟩, hE, ⟨d, nx, hd, hn, r1, r2, r3, hr⟩, hS, _⟩ := h
  refine ⟨⟨w, c, ?_⟩, ⟨L, ?_⟩, ?_, ⟨d, nx, hd, hn, ?_, ?_, ?_, fun j hj => ?_⟩, fun k hk => ?_, ⟨n, ?_⟩⟩
  · rw [e 1 (by omega), s.2 1 (by decide)]; exact q
  · rw [e 4 (by omega)]
    exact ⟨hT.1, (s.1 16 (by decide)).trans hT.2.1, hT.2.2.1, fun i hi => by rw [s.2 15 (by decide)]; exact hT.2.2.2 i hi⟩
  · rw [e 3 (by omega), s.1 18 (by decide), s.1 17 (by decide)]; exact hE
  · rw [e 8 (by omega)]; exact r1
  · rw [e 8 (by omega)]; exact r2
  · rw [s.1 7 (by decide)]; exact r3
  · have := hr j hj
    show ∃ w c, QR w c (upX X 23 y (9 + (nx + 8 - d + j) % 8)) _
    rw [e _ (by omega), s.2 4 (by decide)]; exact this
  · unfold SL
    rw [e 20 (by omega), e (18 + k) (by omega), s.2 5 (by decide), s.2 6 (by decide)]; exact hS k hk
  · rw [upX_s]; exact t
theorem cA_0 (a1 a2 a3 a4 a5 : Int32) {X : Nat → OS} {z : OS} (o : Nat → Int64) {fu : Nat} (hf : 5000 ≤ fu) (h : Inv X z) : OKS (cL_0 fu a1 a2 a3 a4 a5 X z o) := by
  obtain ⟨w, c, q⟩ := h.1
  have h6 := q.c60
  have h12 := q.w12
  have h1 := q.w1
  have i0 := h.z0 0
  have q0 : QR w c (X 1) ((sI z 0 0).2 1) := q
  have p12 := pw12 h12
  have t0 : (sI z 0 0).1 0 = 0 := sI_s _ _ _
  have nf := i1_ne0
  obtain ⟨L, hT⟩ := i0.2.1
  obtain ⟨r, y', z', L', e1, e2, tb, s⟩ := p_append a1 a2 a3 a4 a5 (fu := fu) hf hT
  have e3 : fX9_append fu z a1 a2 a3 a4 a5 = some (r, z') := by
    unfold fX9_append
    rw [nm_d]
    exact e2
  unfold cL_0
  rw [e1, bd_s, e3, bd_s, if_pos rfl]
  exact ⟨_, _, _, rfl, i0.tape tb s⟩
theorem cA_1 (a1 a2 a3 a4 a5 : Int32) {X : Nat → OS} {z : OS} (o : Nat → Int64) {fu : Nat} (hf : 5000 ≤ fu) (h : Inv X z) : OKS (cL_1 fu a1 a2 a3 a4 a5 X z o) := by
  obtain ⟨w, c, q⟩ := h.1
  have h6 := q.c60
  have h12 := q.w12
  have h1 := q.w1
  have i0 := h.z0 0
  have q0 : QR w c (X 1) ((sI z 0 0).2 1) := q
  have p12 := pw12 h12
  have t0 : (sI z 0 0).1 0 = 0 := sI_s _ _ _
  have nf := i1_ne0
  obtain ⟨L, hT⟩ := h.2.1
  obtain ⟨r, y', z', L', e1, e2, tb, s⟩ := p_trunc (fu := fu) hT a1
  unfold cL_1
  rw [e1, bd_s, e2, bd_s, if_pos rfl]
  exact ⟨_, _, _, rfl, i0.tape tb s⟩
theorem tU_ok {L : Option (Int32 × (Nat → Int64) × OS × OS)} {M : Option (Int32 × OS)} {X : Nat → OS} {x1 x8 z' : OS} {o : Nat → Int64} {fu : Nat} {r : Int32} (e1 : L = some (0, vp_updL o (0 : Int32).toNatClampNeg r.toInt64, x1, x8)) (e2 : M = some (r, z')) (ht : z'.1 0 = 0) (i : Inv (upX (upX X 1 x1) 8 x8) z') : OKS (bd L (fun (w1 : Int32 × (Nat → Int64) × OS × OS) => bd M (fun (w2 : Int32 × OS) => bd (fX9_thrown fu w2.2) (fun (w3 : Int32) => (if w3 = w1.1 then (if w1.1 = 0 then (if (lg_cmp ((w1.2.1 (0 : Int32).toNatClampNeg)) ((w2.1).toInt64)) = 0 then some ((upX (upX X 1 w1.2.2.1) 8 w1.2.2.2), w2.2, w1.2.1) else none) else some ((upX (upX X 1 w1.2.2.1) 8 w1.2.2.2), w2.2, w1.2.1)) else none))))) := by
  subst e1 e2
  have e : lg_cmp ((vp_updL o (0 : Int32).toNatClampNeg r.toInt64) (0 : Int32).toNatClampNeg) r.toInt64 = 0 := by rw [pk_uLs]; exact lg_self _
  rw [bd_s, bd_s, th_e, bd_s, if_pos ht, if_pos rfl]
  exact ⟨upX (upX X 1 x1) 8 x8, z', _, if_pos e, i⟩
theorem tU_bad {L : Option (Int32 × (Nat → Int64) × OS × OS)} {M : Option (Int32 × OS)} {X : Nat → OS} {z' : OS} {o : Nat → Int64} {fu : Nat} {r k : Int32} (e1 : L = some (k, o, X 1, X 8)) (hk : k ≠ 0) (e2 : M = some (r, z')) (ht : z'.1 0 = k) (i : Inv X z') : OKS (bd L (fun (w1 : Int32 × (Nat → Int64) × OS × OS) => bd M (fun (w2 : Int32 × OS) => bd (fX9_thrown fu w2.2) (fun (w3 : Int32) => (if w3 = w1.1 then (if w1.1 = 0 then (if (lg_cmp ((w1.2.1 (0 : Int32).toNatClampNeg)) ((w2.1).toInt64)) = 0 then some ((upX (upX X 1 w1.2.2.1) 8 w1.2.2.2), w2.2, w1.2.1) else none) else some ((upX (upX X 1 w1.2.2.1) 8 w1.2.2.2), w2.2, w1.2.1)) else none))))) := by
  subst e1 e2
  rw [bd_s, bd_s, th_e, bd_s, if_pos ht, if_neg hk]
  exact ⟨upX (upX X 1 (X 1)) 8 (X 8), z', _, rfl, by rw [upX_id, upX_id]; exact i⟩
theorem cA_58 (a1 a2 a3 a4 a5 : Int32) {X : Nat → OS} {z : OS} (o : Nat → Int64) {fu : Nat} (hf : 5000 ≤ fu) (h : Inv X z) : OKS (cL_58 fu a1 a2 a3 a4 a5 X z o) := by
  obtain ⟨w, c, q⟩ := h.1
  have h6 := q.c60
  have h12 := q.w12
  have h1 := q.w1
  have i0 := h.z0 0
  have q0 : QR w c (X 1) ((sI z 0 0).2 1) := q
  have p12 := pw12 h12
  have t0 : (sI z 0 0).1 0 = 0 := sI_s _ _ _
  have nf := i1_ne0
  unfold cL_58
  have e7 : (sI z 0 0).1 7 = z.1 7 := sI_o _ _ (by decide)
  by_cases g : z.1 7 = 0
  · obtain ⟨d, nx, _, _, _, r2, r3, _⟩ := h.2.2.2.1
    have g8 : (X 8).1 2 = 0 := by rw [r2, ← r3]; exact g
    have e1 : fX8_undo fu (X 1) (X 8) (X 9) (X 10) (X 11) (X 12) (X 13) (X 14) (X 15) (X 16) = some (3, 0, X 1, X 8) := by
      unfold fX8_undo
      rw [if_neg (fun t => t g8)]
    have e2 : fX9_undo fu z = some (0, sI (sI z 0 0) 0 1) := by
      unfold fX9_undo
      simp only [e7, g, nm_d, bd_s, jn_d, i1_ne0, if_false, if_true, not_false_eq_true, not_true_eq_false, isZ_0, isZ_1, gd_t, ti_1 t0 fu (show (1 : Int32) ≠ 0 by decide)]
    exact tU_bad (by unfold fL_undo; rw [e1]; rfl) (by decide) e2 (sI_s _ _ _) (i0.z0 1)
  · obtain ⟨n8, x8', y', d, w', c', y, ep, p2, pd, ec, qy, hH⟩ := HI_pop (fu := fu) (x1 := X 1) hf h.2.2.2.1 g
    have ep' : fX1_pop fu (X 8) (X 9) (X 10) (X 11) (X 12) (X 13) (X 14) (X 15) (X 16) (X 1) = some (x8', y') := ep
    have e1 : fX8_undo fu (X 1) (X 8) (X 9) (X 10) (X 11) (X 12) (X 13) (X 14) (X 15) (X 16) = some (0, nI d, y', x8') := by
      unfold fX8_undo
      rw [if_pos n8, ep', bd_s, nm_d, nm_d]
      show some (0, x8'.1 2, y', x8') = _
      rw [p2]
    have e2 : fX9_undo fu z = some (nI d, sA (sI (sI z 0 0) 7 (nI d)) 1 y) := by
      unfold fX9_undo
      simp only [e7, g, nm_d, bd_s, jn_d, i1_ne0, if_false, if_true, not_false_eq_true, not_true_eq_false, isZ_0, isZ_1, gd_t, ti_0 t0, pd, sI_s, sI_2, ec, sA_1]
    have inv : Inv (upX (upX X 1 y') 8 x8') (sA (sI (sI z 0 0) 7 (nI d)) 1 y) := by
      rw [← W10_2]
      refine i0.w10 (z' := sA (sI (sI z 0 0) 7 (nI d)) 1 y) ⟨⟨rfl, rfl, rfl, rfl⟩, rfl, rfl, rfl, rfl⟩ (w := w') (c := c') ?_ (hH _ ?_ rfl)
      · rw [sA_s]; exact qy
      · rw [sA_1, sI_s]
    exact tU_ok (by unfold fL_undo; rw [e1]; rfl) e2 (by rw [sA_1, sI_o _ _ (by decide)]; exact t0) inv
theorem tO_ok {L : Option (Int32 × (Nat → Int64) × OS)} {M : Option (Int32 × OS)} {X : Nat → OS} {y z' : OS} {o : Nat → Int64} {fu : Nat} {r : Int32} (e1 : L = some (0, vp_updL o (0 : Int32).toNatClampNeg r.toInt64, y)) (e2 : M = some (r, z')) (ht : z'.1 0 = 0) (i : Inv (upX X 23 y) z') : OKS (bd L (fun (w1 : Int32 × (Nat → Int64) × OS) => bd M (fun (w2 : Int32 × OS) => bd (fX9_thrown fu w2.2) (fun (w3 : Int32) => (if w3 = w1.1 then (if w1.1 = 0 then (if (lg_cmp ((w1.2.1 (0 : Int32).toNatClampNeg)) ((w2.1).toInt64)) = 0 then some ((upX X 23 w1.2.2), w2.2, w1.2.1) else none) else some ((upX X 23 w1.2.2), w2.2, w1.2.1)) else none))))) := by
  subst e1 e2
  have e : lg_cmp ((vp_updL o (0 : Int32).toNatClampNeg r.toInt64) (0 : Int32).toNatClampNeg) r.toInt64 = 0 := by rw [pk_uLs]; exact lg_self _
  rw [bd_s, bd_s, th_e, bd_s, if_pos ht, if_pos rfl]
  exact ⟨upX X 23 y, z', _, if_pos e, i⟩
theorem tO_bad {L : Option (Int32 × (Nat → Int64) × OS)} {M : Option (Int32 × OS)} {X : Nat → OS} {z' : OS} {o : Nat → Int64} {fu : Nat} {r k : Int32} (e1 : L = some (k, o, X 23)) (hk : k ≠ 0) (e2 : M = some (r, z')) (ht : z'.1 0 = k) (i : Inv X z') : OKS (bd L (fun (w1 : Int32 × (Nat → Int64) × OS) => bd M (fun (w2 : Int32 × OS) => bd (fX9_thrown fu w2.2) (fun (w3 : Int32) => (if w3 = w1.1 then (if w1.1 = 0 then (if (lg_cmp ((w1.2.1 (0 : Int32).toNatClampNeg)) ((w2.1).toInt64)) = 0 then some ((upX X 23 w1.2.2), w2.2, w1.2.1) else none) else some ((upX X 23 w1.2.2), w2.2, w1.2.1)) else none))))) := by
  subst e1 e2
  rw [bd_s, bd_s, th_e, bd_s, if_pos ht, if_neg hk]
  exact ⟨upX X 23 (X 23), z', _, rfl, by rw [upX_id]; exact i⟩
theorem cA_62 (a1 a2 a3 a4 a5 : Int32) {X : Nat → OS} {z : OS} (o : Nat → Int64) {fu : Nat} (hf : 5000 ≤ fu) (h : Inv X z) : OKS (cL_62 fu a1 a2 a3 a4 a5 X z o) := by
  obtain ⟨w, c, q⟩ := h.1
  have h6 := q.c60
  have h12 := q.w12
  have h1 := q.w1
  have i0 := h.z0 0
  have q0 : QR w c (X 1) ((sI z 0 0).2 1) := q
  have p12 := pw12 h12
  have t0 : (sI z 0 0).1 0 = 0 := sI_s _ _ _
  have nf := i1_ne0
  unfold cL_62
  have sp := pk_ix a1 (n := c) (by omega)
  by_cases hb : a1 < 0 ∨ nI c ≤ a1
  · have e1 : fX8_writeClause fu (X 1) (X 23) a1 = some (1, 0, X 23) := by
      unfold fX8_writeClause
      rw [ck_bad q hb, bd_s, if_neg (by decide)]
    have e2 : fX9_writeClause fu z a1 = some (0, sI (sI z 0 0) 0 1) := by
      unfold fX9_writeClause
      simp only [noClause_bad (z := sI z 0 0) (fu := fu) t0 q0.mc h6 hb, nm_d, bd_s, jn_d, i1_ne0, if_false, if_true, not_false_eq_true, not_true_eq_false, isZ_0, isZ_1, gd_t]
    exact tO_bad (by unfold fL_writeClause; rw [e1]; rfl) (by decide) e2 (sI_s _ _ _) (i0.z0 1)
  · obtain ⟨j, hj, rfl⟩ := (sp.resolve_left (fun t => hb (Or.inl t))).resolve_left (fun t => hb (Or.inr t))
    obtain ⟨y', z', n, e3, e4, ob, s⟩ := p_write (fu := fu) (y := X 23) q0 hf hj
    have e1 : fX8_writeClause fu (X 1) (X 23) (nI j) = some (0, nI n, y') := by
      unfold fX8_writeClause
      rw [ck_ok q hj, bd_s, if_pos rfl, inB_I (show j < 60 by omega) (by omega), gd_t, gd_t, nI_clamp (by omega), e3, bd_s, ob.1]
    have e2 : fX9_writeClause fu z (nI j) = some (nI n, z') := by
      unfold fX9_writeClause
      rw [nm_d, noClause_ok (z := sI z 0 0) (fu := fu) t0 q0.mc h6 hj, bd_s, nm_d, nm_d, if_pos rfl, nm_d, jn_d]
      exact e4
    exact tO_ok (by unfold fL_writeClause; rw [e1]; rfl) e2 (by rw [s.1 0 (by decide)]; exact t0) (i0.out ob s)
