/-! Part II: load. -/
def P8 (X : Nat → OS) (x1 x3 x4 x5 x6 x7 x8 x20 : OS) : Nat → OS := upX (upX (upX (upX (upX (upX (upX (upX X 1 x1) 3 x3) 4 x4) 5 x5) 6 x6) 7 x7) 8 x8) 20 x20
theorem Inv.p8 {X : Nat → OS} {z z' x1 x3 x4 x5 x6 x7 x8 x20 : OS} {w c : Nat} (h : Inv X z) (hQ : QR w c x1 (z'.2 1)) (hT : TB 0 x4 z') (hE : x3.1 4 = z'.1 18 ∧ x3.1 5 = z'.1 17) (hH : HI x8 (fun k => X (9 + k)) z') (hS : ∀ k, k < 2 → x20.2 0 k = z'.2 6 k ∧ (¬ z'.2 6 k = 0 → ∃ w c, QR w c (X (18 + k)) (fun i => z'.2 5 (k * 917 + i)))) (e26 : z'.1 26 = z.1 26) (e25 : z'.2 25 = z.2 25) : Inv (P8 X x1 x3 x4 x5 x6 x7 x8 x20) z' := by
  obtain ⟨_, _, _, _, _, ⟨n, hO⟩⟩ := h
  obtain ⟨d, nx, hd, hn, r1, r2, r3, hr⟩ := hH
  have oH : ∀ k, k < 8 → P8 X x1 x3 x4 x5 x6 x7 x8 x20 (9 + k) = X (9 + k) := by
    intro k hk
    have cs : k = 0 ∨ k = 1 ∨ k = 2 ∨ k = 3 ∨ k = 4 ∨ k = 5 ∨ k = 6 ∨ k = 7 := by omega
    rcases cs with rfl | rfl | rfl | rfl | rfl | rfl | rfl | rfl <;> rfl
  refine ⟨⟨w, c, hQ⟩, ⟨0, hT⟩, hE, ⟨d, nx, hd, hn, r1, r2, r3, fun j hj => ?_⟩, fun k hk => ?_, ⟨n, ?_⟩⟩
  · have := hr j hj
    show ∃ w c, QR w c (P8 X x1 x3 x4 x5 x6 x7 x8 x20 (9 + (nx + 8 - d + j) % 8)) _
    rw [oH _ (Nat.mod_lt _ (by omega))]; exact this
  · have o20 : P8 X x1 x3 x4 x5 x6 x7 x8 x20 20 = x20 := rfl
    have o18 : P8 X x1 x3 x4 x5 x6 x7 x8 x20 (18 + k) = X (18 + k) := by
      have cs : k = 0 ∨ k = 1 := by omega
      rcases cs with rfl | rfl <;> rfl
    unfold SL
    rw [o20, o18]; exact hS k hk
  · have o23 : P8 X x1 x3 x4 x5 x6 x7 x8 x20 23 = X 23 := rfl
    rw [o23]
    exact ⟨hO.1, e26.trans hO.2.1, hO.2.2.1, fun i hi => by rw [e25]; exact hO.2.2.2 i hi⟩
theorem q_flags {fu : Nat} (hf : 5000 ≤ fu) (x20 : OS) : ∃ x, (∀ J, lX8_load_71 J fu 0 x20 = J x) ∧ ∀ k, k < 2 → x.2 0 k = 0 := by
  obtain ⟨m, rfl⟩ : ∃ m, fu = m + 1 + 1 + 1 := ⟨fu - 3, by omega⟩
  refine ⟨sA (sA x20 0 (upd (x20.2 0) 0 (vp_nar .boolean 0))) 0 (upd ((sA x20 0 (upd (x20.2 0) 0 (vp_nar .boolean 0))).2 0) 1 (vp_nar .boolean 0)), fun J => ?_, fun k hk => ?_⟩
  · have i0 : inB (0 : Int32) 2 = true := inB_I (k := 0) (by omega) (by omega)
    have i1 : inB (0 + 1 : Int32) 2 = true := inB_I (k := 1) (by omega) (by omega)
    rw [lX8_load_71, if_neg (by decide), i0, gd_t, nm_d, nm_d, lX8_load_71, if_neg (by decide), i1, gd_t, nm_d, nm_d, lX8_load_71, if_pos (by decide)]
    rfl
  · have cs : k = 0 ∨ k = 1 := by omega
    have n0 : vp_nar .boolean 0 = 0 := by decide
    rcases cs with rfl | rfl
    · exact n0
    · exact n0
theorem tQ_ok {L : Option (Int32 × (Nat → Int64) × OS × OS × OS × OS × OS × OS × OS × OS)} {M : Option (Int32 × OS)} {X : Nat → OS} {x1 x3 x4 x5 x6 x7 x8 x20 z' : OS} {o : Nat → Int64} {fu : Nat} {r : Int32} (e1 : L = some (0, vp_updL o (0 : Int32).toNatClampNeg r.toInt64, x1, x3, x4, x5, x6, x7, x8, x20)) (e2 : M = some (r, z')) (ht : z'.1 0 = 0) (i : Inv (P8 X x1 x3 x4 x5 x6 x7 x8 x20) z') : OKS (bd L (fun (w1 : Int32 × (Nat → Int64) × OS × OS × OS × OS × OS × OS × OS × OS) => bd M (fun (w2 : Int32 × OS) => bd (fX9_thrown fu w2.2) (fun (w3 : Int32) => (if w3 = w1.1 then (if w1.1 = 0 then (if (lg_cmp ((w1.2.1 (0 : Int32).toNatClampNeg)) ((w2.1).toInt64)) = 0 then some ((upX (upX (upX (upX (upX (upX (upX (upX X 1 w1.2.2.1) 3 w1.2.2.2.1) 4 w1.2.2.2.2.1) 5 w1.2.2.2.2.2.1) 6 w1.2.2.2.2.2.2.1) 7 w1.2.2.2.2.2.2.2.1) 8 w1.2.2.2.2.2.2.2.2.1) 20 w1.2.2.2.2.2.2.2.2.2), w2.2, w1.2.1) else none) else some ((upX (upX (upX (upX (upX (upX (upX (upX X 1 w1.2.2.1) 3 w1.2.2.2.1) 4 w1.2.2.2.2.1) 5 w1.2.2.2.2.2.1) 6 w1.2.2.2.2.2.2.1) 7 w1.2.2.2.2.2.2.2.1) 8 w1.2.2.2.2.2.2.2.2.1) 20 w1.2.2.2.2.2.2.2.2.2), w2.2, w1.2.1)) else none))))) := by
  subst e1 e2
  have e : lg_cmp ((vp_updL o (0 : Int32).toNatClampNeg r.toInt64) (0 : Int32).toNatClampNeg) r.toInt64 = 0 := by rw [pk_uLs]; exact lg_self _
  rw [bd_s, bd_s, th_e, bd_s, if_pos ht, if_pos rfl]
  exact ⟨P8 X x1 x3 x4 x5 x6 x7 x8 x20, z', _, if_pos e, i⟩
theorem tQ_bad {L : Option (Int32 × (Nat → Int64) × OS × OS × OS × OS × OS × OS × OS × OS)} {M : Option (Int32 × OS)} {X : Nat → OS} {x1 x3 x4 x5 x6 x7 x8 x20 z' : OS} {o : Nat → Int64} {fu : Nat} {r k : Int32} (e1 : L = some (k, o, x1, x3, x4, x5, x6, x7, x8, x20)) (hk : k ≠ 0) (e2 : M = some (r, z')) (ht : z'.1 0 = k) (i : Inv (P8 X x1 x3 x4 x5 x6 x7 x8 x20) z') : OKS (bd L (fun (w1 : Int32 × (Nat → Int64) × OS × OS × OS × OS × OS × OS × OS × OS) => bd M (fun (w2 : Int32 × OS) => bd (fX9_thrown fu w2.2) (fun (w3 : Int32) => (if w3 = w1.1 then (if w1.1 = 0 then (if (lg_cmp ((w1.2.1 (0 : Int32).toNatClampNeg)) ((w2.1).toInt64)) = 0 then some ((upX (upX (upX (upX (upX (upX (upX (upX X 1 w1.2.2.1) 3 w1.2.2.2.1) 4 w1.2.2.2.2.1) 5 w1.2.2.2.2.2.1) 6 w1.2.2.2.2.2.2.1) 7 w1.2.2.2.2.2.2.2.1) 8 w1.2.2.2.2.2.2.2.2.1) 20 w1.2.2.2.2.2.2.2.2.2), w2.2, w1.2.1) else none) else some ((upX (upX (upX (upX (upX (upX (upX (upX X 1 w1.2.2.1) 3 w1.2.2.2.1) 4 w1.2.2.2.2.1) 5 w1.2.2.2.2.2.1) 6 w1.2.2.2.2.2.2.1) 7 w1.2.2.2.2.2.2.2.1) 8 w1.2.2.2.2.2.2.2.2.1) 20 w1.2.2.2.2.2.2.2.2.2), w2.2, w1.2.1)) else none))))) := by
  subst e1 e2
  rw [bd_s, bd_s, th_e, bd_s, if_pos ht, if_neg hk]
  exact ⟨P8 X x1 x3 x4 x5 x6 x7 x8 x20, z', _, rfl, i⟩
theorem cA_2 (a1 a2 a3 a4 a5 : Int32) {X : Nat → OS} {z : OS} (o : Nat → Int64) {fu : Nat} (hf : 5000 ≤ fu) (h : Inv X z) : OKS (cL_2 fu a1 a2 a3 a4 a5 X z o) := by
  obtain ⟨w, c, q⟩ := h.1
  have h6 := q.c60
  have h12 := q.w12
  have h1 := q.w1
  have i0 := h.z0 0
  have q0 : QR w c (X 1) ((sI z 0 0).2 1) := q
  have p12 := pw12 h12
  have t0 : (sI z 0 0).1 0 = 0 := sI_s _ _ _
  have nf := i1_ne0
  obtain ⟨L, hT⟩ := i0.2.1
  obtain ⟨x3', t, zb, s, eb, ob, sy, h6', fi, f16, fa, f2⟩ := p_begin (x3 := X 3) (fu := fu) hT hf (X 5) (X 6) (X 7)
  have K : ∀ zr : OS, FQ zb zr → zr.1 0 = 0 ∧ zr.1 7 = (sI z 0 0).1 7 ∧ zr.1 26 = (sI z 0 0).1 26 ∧ zr.2 4 = (sI z 0 0).2 4 ∧ zr.2 5 = (sI z 0 0).2 5 ∧ zr.2 6 = (sI z 0 0).2 6 ∧ zr.2 25 = (sI z 0 0).2 25 ∧ zr.1 16 = 0 ∧ ∀ i, i < 917 → zr.2 2 i = (sI z 0 0).2 1 i := fun zr fq =>
    ⟨(fq.i 0).trans ((fi 0 (by omega)).trans t0), (fq.i 7).trans (fi 7 (by omega)), (fq.i 26).trans (fi 26 (by omega)), (fq.a 4).trans (fa 4 (by decide)), (fq.a 5).trans (fa 5 (by decide)), (fq.a 6).trans (fa 6 (by decide)), (fq.a 25).trans (fa 25 (by decide)), (fq.i 16).trans f16, fun i hi => by rw [fq.a 2]; exact f2 i hi⟩
  have bad : ∀ (x3r tr yr sat' pr' zr : OS), FL x3r zr → FQ zb zr → fX8_load fu (X 1) (X 3) (X 4) (X 5) (X 6) (X 7) (X 8) (X 9) (X 10) (X 11) (X 12) (X 13) (X 14) (X 15) (X 16) (X 20) = some (2, 0, X 1, x3r, sI tr 1 0, yr, sat', pr', X 8, X 20) → (∀ y, fX9_hasEnded fu zr = some (1, sI (sA (sI (sI zr 17 (zr.1 21)) 18 (zr.1 22)) 1 y) 0 1) → fX9_load fu z = some (0, sI (sA (sI (sI zr 17 (zr.1 21)) 18 (zr.1 22)) 1 y) 0 1)) → OKS (cL_2 fu a1 a2 a3 a4 a5 X z o) := by
    intro x3r tr yr sat' pr' zr fl fq e1 e2
    obtain ⟨tz, k7, k26, k4, k5, k6, k25, k16, k2⟩ := K zr fq
    obtain ⟨y, ee, yy⟩ := p_end_bad (fu := fu) hf fl.2.2.2.1 tz
    unfold cL_2
    refine tQ_bad (k := 1) (x1 := X 1) (x3 := x3r) (x4 := sI tr 1 0) (x5 := yr) (x6 := sat') (x7 := pr') (x8 := X 8) (x20 := X 20) (by unfold fL_load; rw [e1]; rfl) (by decide) (e2 y ee) (sI_s _ _ _) ?_
    refine Inv.p8 i0 (w := w) (c := c) ?_ ⟨sI_s _ _ _, k16, by omega, fun i hi => absurd hi (by omega)⟩ ⟨fl.1, fl.2.1⟩ (i0.2.2.2.1.fr k7 k4) (fun k hk => ?_) k26 k25
    · exact q0.cong (fun i hi => (yy i (reg_lt h6 hi)).trans (k2 i (reg_lt h6 hi)))
    · have sl := i0.2.2.2.2.1 k hk
      have a6 : (sI (sA (sI (sI zr 17 (zr.1 21)) 18 (zr.1 22)) 1 y) 0 1).2 6 = (sI z 0 0).2 6 := k6
      have a5 : (sI (sA (sI (sI zr 17 (zr.1 21)) 18 (zr.1 22)) 1 y) 0 1).2 5 = (sI z 0 0).2 5 := k5
      rw [a6, a5]; exact sl
  obtain ⟨z4, r6, zc, r8, z9, r12, z13, g1, g2, g3, g4, g5, g6, zj, gd⟩ := p_head (fu := fu) hf sy (X 5) (X 6) (X 7)
  rcases gd with ⟨rfl, w2, t', s', w1', w12', rfl, eh, sy2⟩ | ⟨rfl, x3f, t', eh, fl⟩
  · have ja : JA z13 (sA (sA z13 1 (upd (z13.2 1) 0 (nI w2))) 1 (upd ((sA z13 1 (upd (z13.2 1) 0 (nI w2))).2 1) 1 0)) := (JA.sa z13 _).tr (JA.sa _ _)
    have sy3 := sy2.sf0 ja.sf
    have qr0 : QR w2 0 (sI (sI (X 5) 6 (nI w2)) 7 0) ((sA (sA z13 1 (upd (z13.2 1) 0 (nI w2))) 1 (upd ((sA z13 1 (upd (z13.2 1) 0 (nI w2))).2 1) 1 0)).2 1) := ⟨⟨w1', w12', by omega, rfl, rfl, rfl, rfl⟩, fun k hk => absurd hk (by omega), fun k hk => absurd hk (by omega), fun k hk => absurd hk (by omega), fun k hk => absurd hk (by omega)⟩
    obtain ⟨x3r, tr, yr, sat', pr', zr, n', er, et, dn, fq, hn'⟩ := p_run (X 6) (X 7) hf sy3 qr0 h6'
    have fq2 : FQ zb zr := (zj.fq.tr ja.sf.fq).tr fq
    have ib0 : inB (0 : Int32) 917 = true := inB_I (k := 0) (by omega) (by omega)
    have ib1 : inB (1 : Int32) 917 = true := inB_I (k := 1) (by omega) (by omega)
    have cl0 : (0 : Int32).toNatClampNeg = 0 := by decide
    have cl1 : (1 : Int32).toNatClampNeg = 1 := by decide
    rcases dn with ⟨ox, oz, x6, c', qr⟩ | fl
    · obtain ⟨tz, k7, k26, k4, k5, k6, k25, k16, k2⟩ := K zr fq2
      have ee := p_end_ok (fu := fu) oz tz
      obtain ⟨yc, ecp, sxc⟩ := q_copy fu qr.xc qr.c60 (X 1)
      obtain ⟨xf, ef, hfl⟩ := q_flags (fu := fu) hf (X 20)
      have ox1 : (x3r.1 4 = 0) = True := eq_true ox.1
      have qc := qr.sx sxc
      have x7 : yc.1 7 = nI c' := qc.xc
      have e1 : fX8_load fu (X 1) (X 3) (X 4) (X 5) (X 6) (X 7) (X 8) (X 9) (X 10) (X 11) (X 12) (X 13) (X 14) (X 15) (X 16) (X 20) = some (0, nI c', yc, x3r, sI tr 1 0, yr, sat', pr', sI (X 8) 2 0, xf) := by
        unfold fX8_load
        simp only [eb, eh, er, bd_s, nm_d, jn_d, fX6_end, ox1, if_true, ecp, fX1_clear, ef, x7]
      have ic0 : inB (0 : Int32) 2 = true := inB_I (k := 0) (by omega) (by omega)
      have ic1 : inB (1 : Int32) 2 = true := inB_I (k := 1) (by omega) (by omega)
      have me := many_e (z := sA (sA (sI (sI (sI zr 17 (zr.1 21)) 18 (zr.1 22)) 7 0) 6 (upd ((sI (sI (sI zr 17 (zr.1 21)) 18 (zr.1 22)) 7 0).2 6) 0 (vp_nar .boolean 0))) 6 (upd ((sA (sI (sI (sI zr 17 (zr.1 21)) 18 (zr.1 22)) 7 0) 6 (upd ((sI (sI (sI zr 17 (zr.1 21)) 18 (zr.1 22)) 7 0).2 6) 0 (vp_nar .boolean 0))).2 6) 1 (vp_nar .boolean 0))) (c := c') qr.mc fu
      have e2 : fX9_load fu z = some (nI c', sA (sA (sI (sI (sI zr 17 (zr.1 21)) 18 (zr.1 22)) 7 0) 6 (upd ((sI (sI (sI zr 17 (zr.1 21)) 18 (zr.1 22)) 7 0).2 6) 0 (vp_nar .boolean 0))) 6 (upd ((sA (sI (sI (sI zr 17 (zr.1 21)) 18 (zr.1 22)) 7 0) 6 (upd ((sI (sI (sI zr 17 (zr.1 21)) 18 (zr.1 22)) 7 0).2 6) 0 (vp_nar .boolean 0))).2 6) 1 (vp_nar .boolean 0))) := by
        unfold fX9_load
        by_cases q6 : r6 = 0
        · have g3' := g3 q6
          simp only [nm_d, ob, bd_s, g1, g2, jn_d, q6, not_true_eq_false, if_true, g3', g5, g6, i1_ne0, if_false, ib0, ib1, gd_t, cl0, cl1, et, ee, ic0, ic1, me]
        · have g5' := g5
          rw [g4 q6] at g5'
          simp only [nm_d, ob, bd_s, g1, g2, jn_d, q6, not_false_eq_true, if_true, g5', g6, i1_ne0, if_false, ib0, ib1, gd_t, cl0, cl1, et, ee, ic0, ic1, me]
      unfold cL_2
      refine tQ_ok (x1 := yc) (x3 := x3r) (x4 := sI tr 1 0) (x5 := yr) (x6 := sat') (x7 := pr') (x8 := sI (X 8) 2 0) (x20 := xf) (by unfold fL_load; rw [e1]; rfl) e2 tz ?_
      obtain ⟨d, nx, hd, hn, r1, r2, r3, hr⟩ := i0.2.2.2.1
      refine Inv.p8 i0 (w := w2) (c := c') qc ⟨sI_s _ _ _, k16, by omega, fun i hi => absurd hi (by omega)⟩ ⟨ox.1.trans oz.2.symm, ox.2.trans oz.1.symm⟩ ⟨0, nx, by omega, hn, r1, rfl, rfl, fun j hj => absurd hj (by omega)⟩ (fun k hk => ?_) k26 k25
      have n0 : vp_nar .boolean 0 = 0 := by decide
      have f0 : (sA (sA (sI (sI (sI zr 17 (zr.1 21)) 18 (zr.1 22)) 7 0) 6 (upd ((sI (sI (sI zr 17 (zr.1 21)) 18 (zr.1 22)) 7 0).2 6) 0 (vp_nar .boolean 0))) 6 (upd ((sA (sI (sI (sI zr 17 (zr.1 21)) 18 (zr.1 22)) 7 0) 6 (upd ((sI (sI (sI zr 17 (zr.1 21)) 18 (zr.1 22)) 7 0).2 6) 0 (vp_nar .boolean 0))).2 6) 1 (vp_nar .boolean 0))).2 6 k = 0 := by
        have cs : k = 0 ∨ k = 1 := by omega
        rcases cs with rfl | rfl
        · exact n0
        · exact n0
      exact ⟨(hfl k hk).trans f0.symm, fun t => absurd f0 t⟩
    · have ox1 : (x3r.1 4 = 0) = False := eq_false fl.2.2.1
      refine bad x3r tr yr sat' pr' zr fl fq2 ?_ (fun y ee => ?_)
      · unfold fX8_load
        simp only [eb, eh, er, bd_s, nm_d, jn_d, fX6_end, ox1, if_false]
      · unfold fX9_load
        by_cases q6 : r6 = 0
        · have g3' := g3 q6
          simp only [nm_d, ob, bd_s, g1, g2, jn_d, q6, not_true_eq_false, if_true, g3', g5, g6, i1_ne0, if_false, ib0, ib1, gd_t, cl0, cl1, et, ee]
        · have g5' := g5
          rw [g4 q6] at g5'
          simp only [nm_d, ob, bd_s, g1, g2, jn_d, q6, not_false_eq_true, if_true, g5', g6, i1_ne0, if_false, ib0, ib1, gd_t, cl0, cl1, et, ee]
  · have ox1 : (x3f.1 4 = 0) = False := eq_false fl.2.2.1
    have er := p_failed hf fl.2.2.1 t' (X 5) (X 6) (X 7)
    refine bad x3f t' (X 5) (X 6) (X 7) z13 fl zj.fq ?_ (fun y ee => ?_)
    · unfold fX8_load
      simp only [eb, eh, er, bd_s, nm_d, jn_d, fX6_end, ox1, if_false]
    · unfold fX9_load
      by_cases q6 : r6 = 0
      · have g3' := g3 q6
        simp only [nm_d, ob, bd_s, g1, g2, jn_d, q6, not_true_eq_false, if_true, g3', g5, g6, i1_ne0, if_false, ee]
      · have g5' := g5
        rw [g4 q6] at g5'
        simp only [nm_d, ob, bd_s, g1, g2, jn_d, q6, not_false_eq_true, if_true, g5', g6, i1_ne0, if_false, ee]
