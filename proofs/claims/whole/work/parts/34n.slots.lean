/-! Part II: save and restore. -/
theorem cs_ok {k fu : Nat} (hk : k < 2) : fX8_checkSlot fu (nI k) = some 0 := by
  unfold fX8_checkSlot
  rw [jn_d, if_neg (nI_pos (by omega)), show (2 : Int32) = nI 2 from rfl, if_pos ((nI_ltI (by omega) (by omega)).mpr hk)]
theorem cs_bad {fu : Nat} {p : Int32} (hb : p < 0 ∨ nI 2 ≤ p) : fX8_checkSlot fu p = some 1 := by
  unfold fX8_checkSlot
  rw [jn_d]
  by_cases g : p < 0
  · rw [if_pos g]
  · rw [if_neg g, if_neg]
    have t := hb.resolve_left g
    intro u
    have u2 : p < nI 2 := u
    rw [Int32.le_iff_toInt_le] at t
    rw [Int32.lt_iff_toInt_lt] at u2
    omega
theorem Inv.slot {X : Nat → OS} {z z' : OS} (h : Inv X z) {k w c : Nat} (hk : k < 2) {y x20 : OS} (q : QR w c y (fun i => z'.2 5 (k * 917 + i))) (h20 : ∀ j, j < 2 → x20.2 0 j = z'.2 6 j) (o6 : ∀ j, j ≠ k → z'.2 6 j = z.2 6 j) (o5 : ∀ j i, j < 2 → j ≠ k → i < 917 → z'.2 5 (j * 917 + i) = z.2 5 (j * 917 + i)) (f1 : z'.1 = z.1) (f2 : ∀ j, j ≠ 5 → j ≠ 6 → z'.2 j = z.2 j) : Inv (upX (upX X (18 + k) y) 20 x20) z' := by
  have e : ∀ j, j ≠ 18 + k → j ≠ 20 → upX (upX X (18 + k) y) 20 x20 j = X j := fun j h1 h2 => by rw [upX_o _ _ h2, upX_o _ _ h1]
  obtain ⟨⟨w', c', q'⟩, ⟨L, hT⟩, hE, ⟨d, nx, hd, hn, r1, r2, r3, hr⟩, hS, ⟨n, hO⟩⟩ := h
  refine ⟨⟨w', c', ?_⟩, ⟨L, ?_⟩, ?_, ⟨d, nx, hd, hn, ?_, ?_, ?_, fun j hj => ?_⟩, fun j hj => ⟨?_, fun nz => ?_⟩, ⟨n, ?_⟩⟩
  · rw [e 1 (by omega) (by omega), f2 1 (by decide) (by decide)]; exact q'
  · rw [e 4 (by omega) (by omega)]
    exact ⟨hT.1, by rw [f1]; exact hT.2.1, hT.2.2.1, fun i hi => by rw [f2 15 (by decide) (by decide)]; exact hT.2.2.2 i hi⟩
  · rw [e 3 (by omega) (by omega), f1]; exact hE
  · rw [e 8 (by omega) (by omega)]; exact r1
  · rw [e 8 (by omega) (by omega)]; exact r2
  · rw [f1]; exact r3
  · have := hr j hj
    show ∃ w c, QR w c (upX (upX X (18 + k) y) 20 x20 (9 + (nx + 8 - d + j) % 8)) _
    rw [e _ (by omega) (by omega), f2 4 (by decide) (by decide)]; exact this
  · rw [upX_s]; exact h20 j hj
  · by_cases g : j = k
    · subst g
      refine ⟨w, c, ?_⟩
      rw [upX_o _ _ (by omega), upX_s]; exact q
    · rw [e (18 + j) (by omega) (by omega)]
      rw [o6 j g] at nz
      obtain ⟨w2, c2, q2⟩ := (hS j hj).2 nz
      exact ⟨w2, c2, q2.cong (fun i hi => o5 j i hj g (reg_lt q2.c60 hi))⟩
  · rw [e 23 (by omega) (by omega)]
    exact ⟨hO.1, by rw [f1]; exact hO.2.1, hO.2.2.1, fun i hi => by rw [f2 25 (by decide) (by decide)]; exact hO.2.2.2 i hi⟩
theorem tV_ok {L : Option (Int32 × (Nat → Int64) × OS × OS × OS)} {M : Option (Int32 × OS)} {X : Nat → OS} {x18 x19 x20 z' : OS} {o : Nat → Int64} {fu : Nat} {b : Bool} (e1 : L = some (0, vp_updL o (0 : Int32).toNatClampNeg (if b2 b = 0 then 0 else 1), x18, x19, x20)) (e2 : M = some (b2 b, z')) (ht : z'.1 0 = 0) (i : Inv (upX (upX (upX X 18 x18) 19 x19) 20 x20) z') : OKS (bd L (fun (w1 : Int32 × (Nat → Int64) × OS × OS × OS) => bd M (fun (w2 : Int32 × OS) => bd (fX9_thrown fu w2.2) (fun (w3 : Int32) => (if w3 = w1.1 then (if w1.1 = 0 then (if w2.1 = 0 then (if (lg_cmp ((w1.2.1 (0 : Int32).toNatClampNeg)) ((0 : Int64))) = 0 then some ((upX (upX (upX X 18 w1.2.2.1) 19 w1.2.2.2.1) 20 w1.2.2.2.2), w2.2, w1.2.1) else none) else (if (lg_cmp ((w1.2.1 (0 : Int32).toNatClampNeg)) ((1 : Int64))) = 0 then some ((upX (upX (upX X 18 w1.2.2.1) 19 w1.2.2.2.1) 20 w1.2.2.2.2), w2.2, w1.2.1) else none)) else some ((upX (upX (upX X 18 w1.2.2.1) 19 w1.2.2.2.1) 20 w1.2.2.2.2), w2.2, w1.2.1)) else none))))) := by
  subst e1 e2
  have e : lg_cmp ((vp_updL o (0 : Int32).toNatClampNeg (if b2 b = 0 then 0 else 1)) (0 : Int32).toNatClampNeg) (if b2 b = 0 then 0 else 1) = 0 := by rw [pk_uLs]; exact lg_self _
  rw [bd_s, bd_s, th_e, bd_s, if_pos ht, if_pos rfl]
  cases b
  · exact ⟨upX (upX (upX X 18 x18) 19 x19) 20 x20, z', _, (if_pos (show b2 false = 0 by decide)).trans (if_pos e), i⟩
  · exact ⟨upX (upX (upX X 18 x18) 19 x19) 20 x20, z', _, (if_neg (show ¬ b2 true = 0 by decide)).trans (if_pos e), i⟩
theorem tV_bad {L : Option (Int32 × (Nat → Int64) × OS × OS × OS)} {M : Option (Int32 × OS)} {X : Nat → OS} {z' : OS} {o : Nat → Int64} {fu : Nat} {r k : Int32} (e1 : L = some (k, o, X 18, X 19, X 20)) (hk : k ≠ 0) (e2 : M = some (r, z')) (ht : z'.1 0 = k) (i : Inv X z') : OKS (bd L (fun (w1 : Int32 × (Nat → Int64) × OS × OS × OS) => bd M (fun (w2 : Int32 × OS) => bd (fX9_thrown fu w2.2) (fun (w3 : Int32) => (if w3 = w1.1 then (if w1.1 = 0 then (if w2.1 = 0 then (if (lg_cmp ((w1.2.1 (0 : Int32).toNatClampNeg)) ((0 : Int64))) = 0 then some ((upX (upX (upX X 18 w1.2.2.1) 19 w1.2.2.2.1) 20 w1.2.2.2.2), w2.2, w1.2.1) else none) else (if (lg_cmp ((w1.2.1 (0 : Int32).toNatClampNeg)) ((1 : Int64))) = 0 then some ((upX (upX (upX X 18 w1.2.2.1) 19 w1.2.2.2.1) 20 w1.2.2.2.2), w2.2, w1.2.1) else none)) else some ((upX (upX (upX X 18 w1.2.2.1) 19 w1.2.2.2.1) 20 w1.2.2.2.2), w2.2, w1.2.1)) else none))))) := by
  subst e1 e2
  rw [bd_s, bd_s, th_e, bd_s, if_pos ht, if_neg hk]
  exact ⟨upX (upX (upX X 18 (X 18)) 19 (X 19)) 20 (X 20), z', _, rfl, by rw [upX_id, upX_id, upX_id]; exact i⟩
theorem cA_60 (a1 a2 a3 a4 a5 : Int32) {X : Nat → OS} {z : OS} (o : Nat → Int64) {fu : Nat} (hf : 5000 ≤ fu) (h : Inv X z) : OKS (cL_60 fu a1 a2 a3 a4 a5 X z o) := by
  obtain ⟨w, c, q⟩ := h.1
  have h6 := q.c60
  have h12 := q.w12
  have h1 := q.w1
  have i0 := h.z0 0
  have q0 : QR w c (X 1) ((sI z 0 0).2 1) := q
  have p12 := pw12 h12
  have t0 : (sI z 0 0).1 0 = 0 := sI_s _ _ _
  have nf := i1_ne0
  unfold cL_60
  have sp := pk_ix a1 (n := 2) (by omega)
  by_cases hb : a1 < 0 ∨ nI 2 ≤ a1
  · have e1 : fX8_save fu (X 1) (X 18) (X 19) (X 20) a1 = some (1, 0, X 18, X 19, X 20) := by
      unfold fX8_save
      rw [cs_bad hb, bd_s, if_neg (by decide)]
    have e2 : fX9_save fu z a1 = some (0, sI (sI z 0 0) 0 1) := by
      unfold fX9_save
      simp only [noSlot_bad (z := sI z 0 0) (fu := fu) t0 hb, nm_d, bd_s, jn_d, i1_ne0, if_false, if_true, not_false_eq_true, not_true_eq_false, isZ_0, isZ_1, gd_t]
    exact tV_bad (by unfold fL_save; rw [e1]; rfl) (by decide) e2 (sI_s _ _ _) (i0.z0 1)
  · obtain ⟨k, hk, rfl⟩ := (sp.resolve_left (fun t => hb (Or.inl t))).resolve_left (fun t => hb (Or.inr t))
    have sl := i0.2.2.2.2.1 k hk
    obtain ⟨yy, ec, sx⟩ := q_copy fu q.xc h6 (X (18 + k))
    obtain ⟨y, ey, y1, y2⟩ := m_copy (m1 := 917) (m2 := 1834) (a := 0) (b := k) (fu := fu) (z.2 1) (z.2 5) (by omega) (by omega) (by omega) (by omega) hf
    have ey' : fX9_copies_two fu 917 ((sA (sI z 0 0) 6 (upd ((sI z 0 0).2 6) k (vp_nar .boolean 1))).2 1) 1834 ((sA (sI z 0 0) 6 (upd ((sI z 0 0).2 6) k (vp_nar .boolean 1))).2 5) 0 (nI k) = some y := ey
    have ns := noSlot_ok (z := sI z 0 0) (fu := fu) t0 hk
    have ib := inB_I (show k < 2 from hk) (by omega)
    have ck : (nI k).toNatClampNeg = k := nI_clamp (by omega)
    generalize hb2 : decide ((sI z 0 0).2 6 k = 0) = b
    have e2 : fX9_save fu z (nI k) = some (b2 b, sA (sA (sI z 0 0) 6 (upd ((sI z 0 0).2 6) k (vp_nar .boolean 1))) 5 y) := by
      unfold fX9_save
      cases b
      · have g := of_decide_eq_false hb2
        simp only [ns, ib, ck, g, ey', nm_d, bd_s, jn_d, i1_ne0, if_false, if_true, not_false_eq_true, not_true_eq_false, isZ_0, isZ_1, gd_t]; rfl
      · have g := of_decide_eq_true hb2
        simp only [ns, ib, ck, g, ey', nm_d, bd_s, jn_d, i1_ne0, if_false, if_true, not_false_eq_true, not_true_eq_false, isZ_0, isZ_1, gd_t]; rfl
    have inv : Inv (upX (upX X (18 + k) yy) 20 (sA (X 20) 0 (upd ((X 20).2 0) k (vp_nar .boolean 1)))) (sA (sA (sI z 0 0) 6 (upd ((sI z 0 0).2 6) k (vp_nar .boolean 1))) 5 y) := by
      refine i0.slot hk (w := w) (c := c) ?_ (fun j hj => ?_) (fun j hj => ?_) (fun j i hj hjk hi => ?_) rfl (fun j h5 h6 => ?_)
      · refine (q.sx sx).cong (fun i hi => ?_)
        have := y1 i (reg_lt h6 hi)
        rw [Nat.zero_mul, Nat.zero_add] at this
        rw [sA_s]; exact this
      · rw [sA_s, sA_o _ _ (by decide), sA_s]
        by_cases g : j = k
        · subst g
          show (if j = j then _ else _) = (if j = j then _ else _)
          rw [if_pos rfl, if_pos rfl]
        · show (if j = k then _ else _) = (if j = k then _ else _)
          rw [if_neg g, if_neg g]; exact (i0.2.2.2.2.1 j hj).1
      · rw [sA_o _ _ (by decide), sA_s]
        show (if j = k then _ else _) = _
        rw [if_neg hj]
      · rw [sA_s, y2 _ (by omega)]; rfl
      · rw [sA_o _ _ h5, sA_o _ _ h6]
    have cs : k = 0 ∨ k = 1 := by omega
    rcases cs with rfl | rfl
    · have e1 : fX8_save fu (X 1) (X 18) (X 19) (X 20) (nI 0) = some (0, b2 b, yy, X 19, sA (X 20) 0 (upd ((X 20).2 0) 0 (vp_nar .boolean 1))) := by
        have c0 : (nI 0 = 0) = True := eq_true rfl
        unfold fX8_save
        cases b
        · have g : ¬ (X 20).2 0 0 = 0 := by rw [sl.1]; exact of_decide_eq_false hb2
          simp only [cs_ok hk, ib, ck, c0, g, ec, nm_d, bd_s, jn_d, i1_ne0, if_false, if_true, not_false_eq_true, not_true_eq_false, isZ_0, isZ_1, gd_t]; rfl
        · have g : (X 20).2 0 0 = 0 := by rw [sl.1]; exact of_decide_eq_true hb2
          simp only [cs_ok hk, ib, ck, c0, g, ec, nm_d, bd_s, jn_d, i1_ne0, if_false, if_true, not_false_eq_true, not_true_eq_false, isZ_0, isZ_1, gd_t]; rfl
      refine tV_ok (by unfold fL_save; rw [e1]; rfl) e2 (by rw [sA_1, sA_1]; exact t0) ?_
      have t := upX_id (upX X 18 yy) 19
      have t' : upX (upX X 18 yy) 19 (X 19) = upX X 18 yy := t
      exact t'.symm ▸ inv
    · have e1 : fX8_save fu (X 1) (X 18) (X 19) (X 20) (nI 1) = some (0, b2 b, X 18, yy, sA (X 20) 0 (upd ((X 20).2 0) 1 (vp_nar .boolean 1))) := by
        have c0 : (nI 1 = 0) = False := eq_false (by decide)
        have c1 : (nI 1 = 1) = True := eq_true rfl
        unfold fX8_save
        cases b
        · have g : ¬ (X 20).2 0 1 = 0 := by rw [sl.1]; exact of_decide_eq_false hb2
          simp only [cs_ok hk, ib, ck, c0, c1, g, ec, nm_d, bd_s, jn_d, i1_ne0, if_false, if_true, not_false_eq_true, not_true_eq_false, isZ_0, isZ_1, gd_t]; rfl
        · have g : (X 20).2 0 1 = 0 := by rw [sl.1]; exact of_decide_eq_true hb2
          simp only [cs_ok hk, ib, ck, c0, c1, g, ec, nm_d, bd_s, jn_d, i1_ne0, if_false, if_true, not_false_eq_true, not_true_eq_false, isZ_0, isZ_1, gd_t]; rfl
      refine tV_ok (by unfold fL_save; rw [e1]; rfl) e2 (by rw [sA_1, sA_1]; exact t0) ?_
      have t' := upX_id X 18
      exact t'.symm ▸ inv
theorem cA_61 (a1 a2 a3 a4 a5 : Int32) {X : Nat → OS} {z : OS} (o : Nat → Int64) {fu : Nat} (hf : 5000 ≤ fu) (h : Inv X z) : OKS (cL_61 fu a1 a2 a3 a4 a5 X z o) := by
  obtain ⟨w, c, q⟩ := h.1
  have h6 := q.c60
  have h12 := q.w12
  have h1 := q.w1
  have i0 := h.z0 0
  have q0 : QR w c (X 1) ((sI z 0 0).2 1) := q
  have p12 := pw12 h12
  have t0 : (sI z 0 0).1 0 = 0 := sI_s _ _ _
  have nf := i1_ne0
  unfold cL_61
  have sp := pk_ix a1 (n := 2) (by omega)
  by_cases hb : a1 < 0 ∨ nI 2 ≤ a1
  · have e1 : fX8_restore fu (X 1) (X 8) (X 9) (X 10) (X 11) (X 12) (X 13) (X 14) (X 15) (X 16) (X 18) (X 19) (X 20) a1 = some (1, 0, X 1, X 8) := by
      unfold fX8_restore
      rw [cs_bad hb, bd_s, if_neg (by decide)]
    have e2 : fX9_restore fu z a1 = some (0, sI (sI z 0 0) 0 1) := by
      unfold fX9_restore
      simp only [noSlot_bad (z := sI z 0 0) (fu := fu) t0 hb, nm_d, bd_s, jn_d, i1_ne0, if_false, if_true, not_false_eq_true, not_true_eq_false, isZ_0, isZ_1, gd_t]
    exact tU_bad (by unfold fL_restore; rw [e1]; rfl) (by decide) e2 (sI_s _ _ _) (i0.z0 1)
  · obtain ⟨k, hk, rfl⟩ := (sp.resolve_left (fun t => hb (Or.inl t))).resolve_left (fun t => hb (Or.inr t))
    have sl := i0.2.2.2.2.1 k hk
    have ns := noSlot_ok (z := sI z 0 0) (fu := fu) t0 hk
    have ib := inB_I (show k < 2 from hk) (by omega)
    have ck : (nI k).toNatClampNeg = k := nI_clamp (by omega)
    by_cases g : (sI z 0 0).2 6 k = 0
    · have g2 : (X 20).2 0 k = 0 := by rw [sl.1]; exact g
      have e1 : fX8_restore fu (X 1) (X 8) (X 9) (X 10) (X 11) (X 12) (X 13) (X 14) (X 15) (X 16) (X 18) (X 19) (X 20) (nI k) = some (3, 0, X 1, X 8) := by
        unfold fX8_restore
        simp only [cs_ok hk, ib, ck, g2, nm_d, bd_s, jn_d, i1_ne0, if_false, if_true, not_false_eq_true, not_true_eq_false, isZ_0, isZ_1, gd_t]
      have e2 : fX9_restore fu z (nI k) = some (0, sI (sI z 0 0) 0 2) := by
        unfold fX9_restore
        simp only [ns, ib, ck, g, ti_1 t0 fu (show (2 : Int32) ≠ 0 by decide), nm_d, bd_s, jn_d, i1_ne0, if_false, if_true, not_false_eq_true, not_true_eq_false, isZ_0, isZ_1, gd_t]
      exact tU_bad (by unfold fL_restore; rw [e1]; rfl) (by decide) e2 (sI_s _ _ _) (i0.z0 2)
    · have g2 : ¬ (X 20).2 0 k = 0 := by rw [sl.1]; exact g
      obtain ⟨w', c', q'⟩ := sl.2 g
      obtain ⟨yy, ec, sx⟩ := q_copy (y := X (18 + k)) fu q'.xc q'.c60 (X 1)
      obtain ⟨y, ey, y1, y2⟩ := m_copy (m1 := 1834) (m2 := 917) (a := k) (b := 0) (fu := fu) (z.2 5) (z.2 1) (by omega) (by omega) (by omega) (by omega) hf
      have ey' : fX9_copies_two fu 1834 ((sI z 0 0).2 5) 917 ((sI z 0 0).2 1) (nI k) 0 = some y := ey
      have qy : QR w' c' yy y := (q'.sx sx).cong (fun i hi => by
        have := y1 i (reg_lt q'.c60 hi)
        rw [Nat.zero_mul, Nat.zero_add] at this
        exact this)
      have me := many_e (z := sI (sA (sI z 0 0) 1 y) 7 0) (c := c') (show (sI (sA (sI z 0 0) 1 y) 7 0).2 1 1 = nI c' from qy.mc) fu
      have e2 : fX9_restore fu z (nI k) = some (nI c', sI (sA (sI z 0 0) 1 y) 7 0) := by
        unfold fX9_restore
        simp only [ns, ib, ck, g, ti_0 t0, ey', me, nm_d, bd_s, jn_d, i1_ne0, if_false, if_true, not_false_eq_true, not_true_eq_false, isZ_0, isZ_1, gd_t]
      have inv : Inv (upX (upX X 1 yy) 8 (sI (X 8) 2 0)) (sI (sA (sI z 0 0) 1 y) 7 0) := by
        rw [← W10_2]
        obtain ⟨d, nx, hd, hn, r1, r2, r3, hr⟩ := i0.2.2.2.1
        refine i0.w10 (z' := sI (sA (sI z 0 0) 1 y) 7 0) ⟨⟨rfl, rfl, rfl, rfl⟩, rfl, rfl, rfl, rfl⟩ (w := w') (c := c') ?_ ⟨0, nx, by omega, hn, ?_, ?_, ?_, fun j hj => absurd hj (by omega)⟩
        · exact qy
        · rw [sI_o _ _ (by decide)]; exact r1
        · rw [sI_s]; rfl
        · rw [sI_s]; rfl
      have e1 : fX8_restore fu (X 1) (X 8) (X 9) (X 10) (X 11) (X 12) (X 13) (X 14) (X 15) (X 16) (X 18) (X 19) (X 20) (nI k) = some (0, nI c', yy, sI (X 8) 2 0) := by
        have cs : k = 0 ∨ k = 1 := by omega
        have x7 : yy.1 7 = nI c' := qy.xc
        unfold fX8_restore
        rcases cs with rfl | rfl
        · have c0 : (nI 0 = 0) = True := eq_true rfl
          simp only [cs_ok hk, ib, ck, c0, g2, ec, x7, fX1_clear, nm_d, bd_s, jn_d, i1_ne0, if_false, if_true, not_false_eq_true, not_true_eq_false, isZ_0, isZ_1, gd_t]
        · have c0 : (nI 1 = 0) = False := eq_false (by decide)
          have c1 : (nI 1 = 1) = True := eq_true rfl
          simp only [cs_ok hk, ib, ck, c0, c1, g2, ec, x7, fX1_clear, nm_d, bd_s, jn_d, i1_ne0, if_false, if_true, not_false_eq_true, not_true_eq_false, isZ_0, isZ_1, gd_t]
      exact tU_ok (by unfold fL_restore; rw [e1]; rfl) e2 (by rw [sI_o _ _ (by decide), sA_1]; exact t0) inv
