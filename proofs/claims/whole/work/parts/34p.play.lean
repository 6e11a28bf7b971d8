/-! Part II: play. -/
theorem tP_ok {L : Option (Int32 × (Nat → Int64) × OS × OS × OS × OS × OS × OS × OS × OS × OS × OS × OS × OS × OS × OS × OS)} {M : Option (Int32 × OS)} {X H : Nat → OS} {x1 x3 x4 x5 x6 x7 x8 z' : OS} {o : Nat → Int64} {fu : Nat} {r : Int32} (e1 : L = some (0, vp_updL o (0 : Int32).toNatClampNeg r.toInt64, x1, x3, x4, x5, x6, x7, x8, H 0, H 1, H 2, H 3, H 4, H 5, H 6, H 7)) (e2 : M = some (r, z')) (ht : z'.1 0 = 0) (i : Inv (P15 X x1 x3 x4 x5 x6 x7 x8 H) z') : OKS (bd L (fun (w1 : Int32 × (Nat → Int64) × OS × OS × OS × OS × OS × OS × OS × OS × OS × OS × OS × OS × OS × OS × OS) => bd M (fun (w2 : Int32 × OS) => bd (fX9_thrown fu w2.2) (fun (w3 : Int32) => (if w3 = w1.1 then (if w1.1 = 0 then (if (lg_cmp ((w1.2.1 (0 : Int32).toNatClampNeg)) ((w2.1).toInt64)) = 0 then some ((upX (upX (upX (upX (upX (upX (upX (upX (upX (upX (upX (upX (upX (upX (upX X 1 w1.2.2.1) 3 w1.2.2.2.1) 4 w1.2.2.2.2.1) 5 w1.2.2.2.2.2.1) 6 w1.2.2.2.2.2.2.1) 7 w1.2.2.2.2.2.2.2.1) 8 w1.2.2.2.2.2.2.2.2.1) 9 w1.2.2.2.2.2.2.2.2.2.1) 10 w1.2.2.2.2.2.2.2.2.2.2.1) 11 w1.2.2.2.2.2.2.2.2.2.2.2.1) 12 w1.2.2.2.2.2.2.2.2.2.2.2.2.1) 13 w1.2.2.2.2.2.2.2.2.2.2.2.2.2.1) 14 w1.2.2.2.2.2.2.2.2.2.2.2.2.2.2.1) 15 w1.2.2.2.2.2.2.2.2.2.2.2.2.2.2.2.1) 16 w1.2.2.2.2.2.2.2.2.2.2.2.2.2.2.2.2), w2.2, w1.2.1) else none) else some ((upX (upX (upX (upX (upX (upX (upX (upX (upX (upX (upX (upX (upX (upX (upX X 1 w1.2.2.1) 3 w1.2.2.2.1) 4 w1.2.2.2.2.1) 5 w1.2.2.2.2.2.1) 6 w1.2.2.2.2.2.2.1) 7 w1.2.2.2.2.2.2.2.1) 8 w1.2.2.2.2.2.2.2.2.1) 9 w1.2.2.2.2.2.2.2.2.2.1) 10 w1.2.2.2.2.2.2.2.2.2.2.1) 11 w1.2.2.2.2.2.2.2.2.2.2.2.1) 12 w1.2.2.2.2.2.2.2.2.2.2.2.2.1) 13 w1.2.2.2.2.2.2.2.2.2.2.2.2.2.1) 14 w1.2.2.2.2.2.2.2.2.2.2.2.2.2.2.1) 15 w1.2.2.2.2.2.2.2.2.2.2.2.2.2.2.2.1) 16 w1.2.2.2.2.2.2.2.2.2.2.2.2.2.2.2.2), w2.2, w1.2.1)) else none))))) := by
  subst e1 e2
  have e : lg_cmp ((vp_updL o (0 : Int32).toNatClampNeg r.toInt64) (0 : Int32).toNatClampNeg) r.toInt64 = 0 := by rw [pk_uLs]; exact lg_self _
  rw [bd_s, bd_s, th_e, bd_s, if_pos ht, if_pos rfl]
  exact ⟨P15 X x1 x3 x4 x5 x6 x7 x8 H, z', _, if_pos e, i⟩
theorem tP_bad {L : Option (Int32 × (Nat → Int64) × OS × OS × OS × OS × OS × OS × OS × OS × OS × OS × OS × OS × OS × OS × OS)} {M : Option (Int32 × OS)} {X H : Nat → OS} {x1 x3 x4 x5 x6 x7 x8 z' : OS} {o : Nat → Int64} {fu : Nat} {r k : Int32} (e1 : L = some (k, o, x1, x3, x4, x5, x6, x7, x8, H 0, H 1, H 2, H 3, H 4, H 5, H 6, H 7)) (hk : k ≠ 0) (e2 : M = some (r, z')) (ht : z'.1 0 = k) (i : Inv (P15 X x1 x3 x4 x5 x6 x7 x8 H) z') : OKS (bd L (fun (w1 : Int32 × (Nat → Int64) × OS × OS × OS × OS × OS × OS × OS × OS × OS × OS × OS × OS × OS × OS × OS) => bd M (fun (w2 : Int32 × OS) => bd (fX9_thrown fu w2.2) (fun (w3 : Int32) => (if w3 = w1.1 then (if w1.1 = 0 then (if (lg_cmp ((w1.2.1 (0 : Int32).toNatClampNeg)) ((w2.1).toInt64)) = 0 then some ((upX (upX (upX (upX (upX (upX (upX (upX (upX (upX (upX (upX (upX (upX (upX X 1 w1.2.2.1) 3 w1.2.2.2.1) 4 w1.2.2.2.2.1) 5 w1.2.2.2.2.2.1) 6 w1.2.2.2.2.2.2.1) 7 w1.2.2.2.2.2.2.2.1) 8 w1.2.2.2.2.2.2.2.2.1) 9 w1.2.2.2.2.2.2.2.2.2.1) 10 w1.2.2.2.2.2.2.2.2.2.2.1) 11 w1.2.2.2.2.2.2.2.2.2.2.2.1) 12 w1.2.2.2.2.2.2.2.2.2.2.2.2.1) 13 w1.2.2.2.2.2.2.2.2.2.2.2.2.2.1) 14 w1.2.2.2.2.2.2.2.2.2.2.2.2.2.2.1) 15 w1.2.2.2.2.2.2.2.2.2.2.2.2.2.2.2.1) 16 w1.2.2.2.2.2.2.2.2.2.2.2.2.2.2.2.2), w2.2, w1.2.1) else none) else some ((upX (upX (upX (upX (upX (upX (upX (upX (upX (upX (upX (upX (upX (upX (upX X 1 w1.2.2.1) 3 w1.2.2.2.1) 4 w1.2.2.2.2.1) 5 w1.2.2.2.2.2.1) 6 w1.2.2.2.2.2.2.1) 7 w1.2.2.2.2.2.2.2.1) 8 w1.2.2.2.2.2.2.2.2.1) 9 w1.2.2.2.2.2.2.2.2.2.1) 10 w1.2.2.2.2.2.2.2.2.2.2.1) 11 w1.2.2.2.2.2.2.2.2.2.2.2.1) 12 w1.2.2.2.2.2.2.2.2.2.2.2.2.1) 13 w1.2.2.2.2.2.2.2.2.2.2.2.2.2.1) 14 w1.2.2.2.2.2.2.2.2.2.2.2.2.2.2.1) 15 w1.2.2.2.2.2.2.2.2.2.2.2.2.2.2.2.1) 16 w1.2.2.2.2.2.2.2.2.2.2.2.2.2.2.2.2), w2.2, w1.2.1)) else none))))) := by
  subst e1 e2
  rw [bd_s, bd_s, th_e, bd_s, if_pos ht, if_neg hk]
  exact ⟨P15 X x1 x3 x4 x5 x6 x7 x8 H, z', _, rfl, i⟩
theorem cA_3 (a1 a2 a3 a4 a5 : Int32) {X : Nat → OS} {z : OS} (o : Nat → Int64) {fu : Nat} (hf : 5000 ≤ fu) (h : Inv X z) : OKS (cL_3 fu a1 a2 a3 a4 a5 X z o) := by
  obtain ⟨w, c, q⟩ := h.1
  have h6 := q.c60
  have h12 := q.w12
  have h1 := q.w1
  have i0 := h.z0 0
  have q0 : QR w c (X 1) ((sI z 0 0).2 1) := q
  have p12 := pw12 h12
  have t0 : (sI z 0 0).1 0 = 0 := sI_s _ _ _
  have nf := i1_ne0
  unfold cL_3
  obtain ⟨L, hT⟩ := i0.2.1
  obtain ⟨x3', t, zb, s, eb, ob, sy, h6', fi, f16, fa, f2⟩ := p_begin (x3 := X 3) (fu := fu) hT hf (X 5) (X 6) (X 7)
  obtain ⟨y5, ec, sx⟩ := q_copy fu q.xc h6 (X 5)
  have qb : QR w c y5 (zb.2 1) := by rw [fa 1 (by decide)]; exact q0.sx sx
  obtain ⟨x3r, tr, yr, sat', pr', zr, n', er, et, dn, fq, hn'⟩ := p_run (X 6) (X 7) hf sy qb h6'
  have tz : zr.1 0 = 0 := (fq.i 0).trans ((fi 0 (by omega)).trans t0)
  have k7 : zr.1 7 = (sI z 0 0).1 7 := (fq.i 7).trans (fi 7 (by omega))
  have k26 : zr.1 26 = (sI z 0 0).1 26 := (fq.i 26).trans (fi 26 (by omega))
  have k4 : zr.2 4 = (sI z 0 0).2 4 := (fq.a 4).trans (fa 4 (by decide))
  have k5 : zr.2 5 = (sI z 0 0).2 5 := (fq.a 5).trans (fa 5 (by decide))
  have k6 : zr.2 6 = (sI z 0 0).2 6 := (fq.a 6).trans (fa 6 (by decide))
  have k25 : zr.2 25 = (sI z 0 0).2 25 := (fq.a 25).trans (fa 25 (by decide))
  have k16 : zr.1 16 = 0 := (fq.i 16).trans f16
  have k2 : ∀ i, i < 917 → zr.2 2 i = (sI z 0 0).2 1 i := fun i hi => by rw [fq.a 2]; exact f2 i hi
  rcases dn with ⟨ox, oz, x6, c', qr⟩ | fl
  · have ee := p_end_ok (fu := fu) oz tz
    obtain ⟨n, x8', y', hn, ep, f⟩ := HI_push (fu := fu) (y := X 1) hf i0.2.2.2.1 q.xc h6
    have ep' : fX1_push fu (X 8) (X 9) (X 10) (X 11) (X 12) (X 13) (X 14) (X 15) (X 16) (X 1) = some (x8', upX (fun k => X (9 + k)) n y' 0, upX (fun k => X (9 + k)) n y' 1, upX (fun k => X (9 + k)) n y' 2, upX (fun k => X (9 + k)) n y' 3, upX (fun k => X (9 + k)) n y' 4, upX (fun k => X (9 + k)) n y' 5, upX (fun k => X (9 + k)) n y' 6, upX (fun k => X (9 + k)) n y' 7) := ep
    obtain ⟨yc, ecp, sxc⟩ := q_copy fu qr.xc qr.c60 (X 1)
    obtain ⟨zz, ez, sr, hi⟩ := f (sI (sI zr 17 (zr.1 21)) 18 (zr.1 22)) (nI n') w k7 k4 (q0.cong (fun i hi => k2 i (reg_lt h6 hi)))
    have ox1 : (x3r.1 4 = 0) = True := eq_true ox.1
    have e1 : fX8_play fu (X 1) (X 3) (X 4) (X 5) (X 6) (X 7) (X 8) (X 9) (X 10) (X 11) (X 12) (X 13) (X 14) (X 15) (X 16) = some (0, nI n', yc, x3r, sI tr 1 0, yr, sat', pr', x8', upX (fun k => X (9 + k)) n y' 0, upX (fun k => X (9 + k)) n y' 1, upX (fun k => X (9 + k)) n y' 2, upX (fun k => X (9 + k)) n y' 3, upX (fun k => X (9 + k)) n y' 4, upX (fun k => X (9 + k)) n y' 5, upX (fun k => X (9 + k)) n y' 6, upX (fun k => X (9 + k)) n y' 7) := by
      unfold fX8_play
      simp only [eb, ec, er, bd_s, nm_d, fX6_end, ox1, if_true, ep', ecp, x6]
    have e2 : fX9_play fu z = some (nI n', zz) := by
      unfold fX9_play
      simp only [nm_d, ob, bd_s, et, ee, if_true, ez]
    refine tP_ok (H := upX (fun k => X (9 + k)) n y') (x1 := yc) (x3 := x3r) (x4 := sI tr 1 0) (x5 := yr) (x6 := sat') (x7 := pr') (x8 := x8') (by unfold fL_play; rw [e1]; rfl) e2 ((sr.1 0 (by decide)).trans tz) ?_
    refine Inv.p15 i0 (w := w) (c := c') ?_ ⟨sI_s _ _ _, ?_, by omega, fun i hi => absurd hi (by omega)⟩ ⟨?_, ?_⟩ hi ?_ ?_ ?_ ?_
    · rw [sr.2 1 (by decide)]; exact qr.sx sxc
    · rw [sr.1 16 (by decide)]; exact k16
    · rw [sr.1 18 (by decide), ox.1]; exact oz.2.symm
    · rw [sr.1 17 (by decide), ox.2]; exact oz.1.symm
    · rw [sr.2 5 (by decide)]; exact k5
    · rw [sr.2 6 (by decide)]; exact k6
    · rw [sr.1 26 (by decide)]; exact k26
    · rw [sr.2 25 (by decide)]; exact k25
  · obtain ⟨y, ee, yy⟩ := p_end_bad (fu := fu) hf fl.2.2.2.1 tz
    have ox1 : (x3r.1 4 = 0) = False := eq_false fl.2.2.1
    have e1 : fX8_play fu (X 1) (X 3) (X 4) (X 5) (X 6) (X 7) (X 8) (X 9) (X 10) (X 11) (X 12) (X 13) (X 14) (X 15) (X 16) = some (2, 0, X 1, x3r, sI tr 1 0, yr, sat', pr', X 8, X 9, X 10, X 11, X 12, X 13, X 14, X 15, X 16) := by
      unfold fX8_play
      simp only [eb, ec, er, bd_s, nm_d, fX6_end, ox1, if_false]
    have e2 : fX9_play fu z = some (0, sI (sA (sI (sI zr 17 (zr.1 21)) 18 (zr.1 22)) 1 y) 0 1) := by
      unfold fX9_play
      simp only [nm_d, ob, bd_s, et, ee, i1_ne0, if_false]
    refine tP_bad (k := 1) (H := fun k => X (9 + k)) (x1 := X 1) (x3 := x3r) (x4 := sI tr 1 0) (x5 := yr) (x6 := sat') (x7 := pr') (x8 := X 8) (by unfold fL_play; rw [e1]; rfl) (by decide) e2 (sI_s _ _ _) ?_
    refine Inv.p15 i0 (w := w) (c := c) ?_ ⟨sI_s _ _ _, k16, by omega, fun i hi => absurd hi (by omega)⟩ ⟨fl.1, fl.2.1⟩ (i0.2.2.2.1.fr k7 k4) k5 k6 k26 k25
    exact q0.cong (fun i hi => (yy i (reg_lt h6 hi)).trans (k2 i (reg_lt h6 hi)))
