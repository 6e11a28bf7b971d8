/-! Part II: the commands saturate, drop, negate, invert, reduce, the two readers in step. -/
theorem JA.qz {w c : Nat} {y z z' : OS} (a : JA z z') : SF0 z z' := a.sf
/-- 'saturate' -/
theorem p_saturate {L s s1 fu w c : Nat} {B : Nat → Int32} {x3 t t1 y z : OS} (z4 z5 : OS) (hf : 5000 ≤ fu) (had : fX7_advance fu t = some t1) (sy : SY L B s1 x3 t1 z) (hs : s < s1) (qr : QR w c y (z.2 1)) :
    ∃ xa ta ya sa x3' t' z', fX6_readSaturate fu x3 t y z4 z5 = some (xa, ta, ya, sa) ∧ fX6_readSemicolon fu xa ta ya sa z5 = some (x3', t') ∧ (bd (fX9_number fu z (1 : Int32) (99 : Int32)) (fun (w_59 : Int32 × OS) => nm w_59.1 (fun (r_57 : Int32) => nm w_59.2 (fun (z_58 : OS) => bd (fX9_isEnd fu z_58) (fun (w_63 : Int32 × OS) => nm w_63.1 (fun (r_61 : Int32) => nm w_63.2 (fun (z_62 : OS) => jn (κ := OS → Option ((OS))) (fun (z1_75 : OS) => some z1_75) (fun j75 => (if r_61 = (0 : Int32) then j75 z_62 else bd (fX9_steps fu z_62 r_57) (fun (w_67 : Int32 × OS) => nm w_67.1 (fun (r_65 : Int32) => nm w_67.2 (fun (z_66 : OS) => j75 z_66)))))))))))) = some z' ∧ RES L B w s x3 x3' t' ya z z' := by
  unfold fX6_readSaturate
  rw [had, bd_s]
  rcases p_num (lo := 1) sy hf y z4 z5 99 (by omega) with ⟨v, s2, t2, z2, a1, a2, sy2, zj2, lt2, v1, v2, -⟩ | ⟨x4, z2, v, a1, a2, fl, zj2, xc⟩
  · have a1' : fX6_readNumber fu x3 t1 y z4 z5 (1 : Int32) (99 : Int32) = some (v, x3, t2) := a1
    have a2' : fX9_number fu z (1 : Int32) (99 : Int32) = some (v, z2) := a2
    obtain ⟨P, hP, e⟩ : ∃ P : Nat, P < 1000 ∧ v = nI P := by
      have h99 : (99 : Int32).toInt = 99 := by decide
      rw [Int32.lt_iff_toInt_lt, nI_toInt (by omega)] at v1
      rw [Int32.lt_iff_toInt_lt, h99] at v2
      refine ⟨v.toInt.toNat, by omega, ?_⟩
      apply Int32.toInt_inj.mp
      rw [nI_toInt (by omega)]; omega
    subst e
    have nP : ¬ nI P = (-1 : Int32) := fun q => (nI_m1 (a := P) (by omega)).mp q
    have qr2 : QR w c y (z2.2 1) := by rw [zj2.1]; exact qr
    obtain ⟨r, c', y', sa, z3, m1, m2, m3, m4⟩ := q_make (sat := z4) qr2 hf hP
    simp only [a1', a2', bd_s, nm_d, nP, if_false, m1, jn_d]
    rcases p_semi sy2 hf y' sa z5 with ⟨s3, t3, z3', b1, b2', sy3, zj3, lt3⟩ | ⟨x5, z3', b1, b2', fl, zj3, xc3⟩
    · have qr3 : QR w c y (z3'.2 1) := by rw [zj3.1]; exact qr2
      obtain ⟨r2, c2, y2, sa2, z4', n1, n2, n3, n4⟩ := q_make (sat := z4) qr3 hf hP
      rw [m1] at n1
      obtain ⟨-, n1⟩ := Prod.mk.inj (Option.some.inj n1)
      obtain ⟨n1a, n1b⟩ := Prod.mk.inj n1
      subst n1a; subst n1b
      refine ⟨_, _, _, _, _, _, z4', rfl, b1, ?_, Or.inl ⟨s3, sy3.sf0 n3, by omega, _, n4⟩, rfl, (zj2.fq.tr zj3.fq).tr n3.fq⟩
      simp only [b2', bd_s, nm_d, i1_ne0, if_false, n2]
    · refine ⟨_, _, _, _, _, _, z3', rfl, b1, ?_, Or.inr fl, xc3, zj2.fq.tr zj3.fq⟩
      simp only [b2', bd_s, nm_d, if_true]
  · have a1' : fX6_readNumber fu x3 t1 y z4 z5 (1 : Int32) (99 : Int32) = some (-1, x4, t1) := a1
    have a2' : fX9_number fu z (1 : Int32) (99 : Int32) = some (v, z2) := a2
    simp only [a1', a2', bd_s, nm_d, if_true, isEnd_f fl.2.2.2.1, jn_d]
    exact ⟨_, _, _, _, _, _, _, rfl, semi_f fl.2.2.1 _ _ _ _ _, rfl, Or.inr fl, xc, zj2.fq⟩
/-- 'drop' -/
theorem p_drop {L s s1 fu w c : Nat} {B : Nat → Int32} {x3 t t1 y z : OS} (z4 z5 : OS) (hf : 5000 ≤ fu) (had : fX7_advance fu t = some t1) (sy : SY L B s1 x3 t1 z) (hs : s < s1) (qr : QR w c y (z.2 1)) :
    ∃ xa ta ya x3' t' z', fX6_readDrop fu x3 t y z4 z5 = some (xa, ta, ya) ∧ fX6_readSemicolon fu xa ta ya z4 z5 = some (x3', t') ∧ fX9_takesDrop fu z = some z' ∧ RES L B w s x3 x3' t' ya z z' := by
  have h6 := qr.c60
  have hL := sy.2.2.1.1
  have s1L := sy.2.2.1.2.2.2.1
  have s3 : t1.1 3 = nI s1 := sy.2.2.1.2.2.2.2.2.1
  unfold fX6_readDrop fX9_takesDrop
  rw [had, bd_s, nm_d, s3]
  rcases p_clause sy hf z4 z5 qr with ⟨a, s2, t2, z2, ha, a1, a2, sy2, zj2, lt2, h23⟩ | ⟨x4, z2, v, a1, a2, fl, zj2, xc⟩
  · have na : ¬ nI a = (-1 : Int32) := fun q => (nI_m1 (a := a) (by omega)).mp q
    have qr2 : QR w c y (z2.2 1) := by rw [zj2.1]; exact qr
    obtain ⟨p2, ps2, hp2, rp2⟩ := sy2.2.2.2.2
    have s2L := sy2.2.2.1.2.2.2.1
    have ip := q_isParent (fu := fu) qr.xc h6 hf (nI a)
    have mp := m_isParent qr2 hf (a := a) (by omega)
    have ox2 := sy2.1
    have oz2 := sy2.2.1
    simp only [a1, a2, bd_s, nm_d, na, not_false_eq_true, if_true, ip, jn_d, m_ok oz2, not_true_eq_false, if_false, mp, b2_0]
    rcases Bool.eq_false_or_eq_true (par y c a) with hh | hh
    · have hh' := hh
      unfold par at hh'
      have bad : FL (sI (sI x3 4 4) 5 (nI s1)) (sI (sI z2 21 (nI s1)) 22 4) := FL.mk (by decide) (by omega) hp2 (by omega)
      simp only [hh', Bool.true_eq_false, if_false, c_fail ox2, h23, m_fails oz2, bd_s, isEnd_f bad.2.2.2.1, nm_d, if_true]
      exact ⟨_, _, _, _, _, _, rfl, semi_f bad.2.2.1 _ _ _ _ _, rfl, Or.inr bad, XC.fail _ _ _, (zj2.tr (ZJ.fail _ _ _)).fq⟩
    · have hh' := hh
      unfold par at hh'
      obtain ⟨y', zq, e6, -⟩ := RL_drop qr2 hf ha hh
      simp only [hh', if_true, e6, bd_s]
      rcases p_semi sy2 hf y' z4 z5 with ⟨s4, t4, z4', b1, b2', sy4, zj4, lt4⟩ | ⟨x5, z4', b1, b2', fl, zj4, xc4⟩
      · have qr4 : QR w c y (z4'.2 1) := by rw [zj4.1]; exact qr2
        obtain ⟨y2, z5', e7, e8, ja, qr5⟩ := RL_drop qr4 hf ha hh
        rw [e6] at e7
        have e7 := Option.some.inj e7
        subst e7
        refine ⟨_, _, _, _, _, z5', rfl, b1, ?_, Or.inl ⟨s4, sy4.sf0 ja.sf, by omega, _, qr5⟩, rfl, (zj2.fq.tr zj4.fq).tr ja.sf.fq⟩
        simp only [b2', bd_s, nm_d, i1_ne0, if_false, e8]
      · refine ⟨_, _, _, _, _, z4', rfl, b1, ?_, Or.inr fl, xc4, zj2.fq.tr zj4.fq⟩
        simp only [b2', bd_s, nm_d, if_true]
  · simp only [a1, a2, bd_s, nm_d, not_true_eq_false, if_false, jn_d, m_bad fl.2.2.2.1, i1_ne0, not_false_eq_true, if_true, isEnd_f fl.2.2.2.1]
    exact ⟨_, _, _, _, _, _, rfl, semi_f fl.2.2.1 _ _ _ _ _, rfl, Or.inr fl, xc, zj2.fq⟩
/-- 'negate' -/
theorem p_negate {L s s1 fu w c : Nat} {B : Nat → Int32} {x3 t t1 y z : OS} (z4 z5 : OS) (hf : 5000 ≤ fu) (had : fX7_advance fu t = some t1) (sy : SY L B s1 x3 t1 z) (hs : s < s1) (qr : QR w c y (z.2 1)) :
    ∃ xa ta ya x3' t' z', fX6_readNegate fu x3 t y z4 z5 = some (xa, ta, ya) ∧ fX6_readSemicolon fu xa ta ya z4 z5 = some (x3', t') ∧ (bd (fX9_takesVariable fu z) (fun (w_45 : Int32 × OS) => nm w_45.1 (fun (r_43 : Int32) => nm w_45.2 (fun (z_44 : OS) => bd (fX9_isEnd fu z_44) (fun (w_49 : Int32 × OS) => nm w_49.1 (fun (r_47 : Int32) => nm w_49.2 (fun (z_48 : OS) => jn (κ := OS → Option ((OS))) (fun (z1_123 : OS) => some z1_123) (fun j123 => (if r_47 = (0 : Int32) then j123 z_48 else bd (fX9_negates fu z_48 r_43) (fun (w_53 : Int32 × OS) => nm w_53.1 (fun (r_51 : Int32) => nm w_53.2 (fun (z_52 : OS) => j123 z_52)))))))))))) = some z' ∧ RES L B w s x3 x3' t' ya z z' := by
  have h12 := qr.w12
  unfold fX6_readNegate
  rw [had, bd_s]
  rcases p_var sy hf z4 z5 (z3 := y) qr.xw qr.mw h12 with ⟨v, s2, t2, z2, hv, a1, a2, sy2, zj2, lt2, -⟩ | ⟨x4, z2, a1, a2, fl, zj2, xc⟩
  · have nv' : ¬ nI v = (-1 : Int32) := fun q => (nI_m1 (a := v) (by omega)).mp q
    have qr2 : QR w c y (z2.2 1) := by rw [zj2.1]; exact qr
    obtain ⟨y', zq, e6, -⟩ := RL_negate qr2 hf hv
    simp only [a1, a2, bd_s, nm_d, nv', if_false, e6, jn_d]
    rcases p_semi sy2 hf y' z4 z5 with ⟨s4, t4, z4', b1, b2', sy4, zj4, lt4⟩ | ⟨x5, z4', b1, b2', fl, zj4, xc4⟩
    · have qr4 : QR w c y (z4'.2 1) := by rw [zj4.1]; exact qr2
      obtain ⟨y2, z5', e7, e8, ja, qr5, -⟩ := RL_negate qr4 hf hv
      rw [e6] at e7
      have e7 := Option.some.inj e7
      subst e7
      refine ⟨_, _, _, _, _, z5', rfl, b1, ?_, Or.inl ⟨s4, sy4.sf0 ja.sf, by omega, _, qr5⟩, rfl, (zj2.fq.tr zj4.fq).tr ja.sf.fq⟩
      simp only [b2', bd_s, nm_d, i1_ne0, if_false, e8]
    · refine ⟨_, _, _, _, _, z4', rfl, b1, ?_, Or.inr fl, xc4, zj2.fq.tr zj4.fq⟩
      simp only [b2', bd_s, nm_d, if_true]
  · simp only [a1, a2, bd_s, nm_d, if_true, isEnd_f fl.2.2.2.1, jn_d]
    exact ⟨_, _, _, _, _, _, rfl, semi_f fl.2.2.1 _ _ _ _ _, rfl, Or.inr fl, xc, zj2.fq⟩
/-- all variables negated -/
theorem q_invert {w fu : Nat} (hf : 5000 ≤ fu) : ∀ (d v n n' : Nat) (y z : OS) (c : Nat) (t1 : OS), v + d = w → d < n → d < n' → QR w c y (z.2 1) → ∃ y' z', lX6_readInvert_9 fu (fun y => some (t1, y)) n (nI v) y = some (t1, y') ∧ lX9_takesCommand_145 fu (fun z => some z) n' (nI v) z = some z' ∧ JA z z' ∧ QR w c y' (z'.2 1) := by
  intro d
  induction d with
  | zero =>
    intro v n n' y z c t1 h1 h2 h3 qr
    obtain ⟨n, rfl⟩ : ∃ m, n = m + 1 := ⟨n - 1, by omega⟩
    obtain ⟨n', rfl⟩ : ∃ m, n' = m + 1 := ⟨n' - 1, by omega⟩
    have h12 := qr.w12
    refine ⟨y, z, ?_, ?_, JA.rf, qr⟩
    · rw [lX6_readInvert_9, qr.xw, if_pos (nI_le (by omega) (by omega))]
    · rw [lX9_takesCommand_145, wide_e qr.mw, bd_s, if_pos (nI_le (by omega) (by omega))]
  | succ d ih =>
    intro v n n' y z c t1 h1 h2 h3 qr
    obtain ⟨n, rfl⟩ : ∃ m, n = m + 1 := ⟨n - 1, by omega⟩
    obtain ⟨n', rfl⟩ : ∃ m, n' = m + 1 := ⟨n' - 1, by omega⟩
    have h12 := qr.w12
    obtain ⟨y1, z1, e1, e2, ja, qr1, -⟩ := RL_negate qr hf (v := v) (by omega)
    obtain ⟨y', z', k1, k2, k3, k4⟩ := ih (v + 1) n n' y1 z1 c t1 (by omega) (by omega) (by omega) qr1
    refine ⟨y', z', ?_, ?_, ja.tr k3, k4⟩
    · rw [lX6_readInvert_9, qr.xw, if_neg (nI_ge (by omega) (by omega)), e1, bd_s, nm_d, nI_1]; exact k1
    · rw [lX9_takesCommand_145, wide_e qr.mw, bd_s, if_neg (nI_ge (by omega) (by omega)), e2, bd_s]
      simp only [nm_d, nI_1]; exact k2
/-- 'invert' -/
theorem p_invert {L s s1 fu w c : Nat} {B : Nat → Int32} {x3 t t1 y z : OS} (z4 z5 : OS) (hf : 5000 ≤ fu) (had : fX7_advance fu t = some t1) (sy : SY L B s1 x3 t1 z) (hs : s < s1) (qr : QR w c y (z.2 1)) :
    ∃ ta ya x3' t' z', fX6_readInvert fu x3 t y z4 z5 = some (ta, ya) ∧ fX6_readSemicolon fu x3 ta ya z4 z5 = some (x3', t') ∧ (bd (fX9_isEnd fu z) (fun (w_34 : Int32 × OS) => nm w_34.1 (fun (r_32 : Int32) => nm w_34.2 (fun (z_33 : OS) => (if r_32 = (0 : Int32) then some z_33 else jn (κ := OS → Option ((OS))) (fun (z1_165 : OS) => some z1_165) (fun j165 => lX9_takesCommand_145 fu j165 fu (0 : Int32) z_33)))))) = some z' ∧ RES L B w s x3 x3' t' ya z z' := by
  have h12 := qr.w12
  obtain ⟨y', zq, e1, -⟩ := q_invert hf w 0 fu fu y z c t1 (by omega) (by omega) (by omega) qr
  have E : fX6_readInvert fu x3 t y z4 z5 = some (t1, y') := by
    unfold fX6_readInvert
    rw [had, bd_s, jn_d]; exact e1
  rcases p_semi sy hf y' z4 z5 with ⟨s4, t4, z4', b1, b2', sy4, zj4, lt4⟩ | ⟨x5, z4', b1, b2', fl, zj4, xc4⟩
  · have qr4 : QR w c y (z4'.2 1) := by rw [zj4.1]; exact qr
    obtain ⟨y2, z5', e7, e8, ja, qr5⟩ := q_invert hf w 0 fu fu y z4' c t1 (by omega) (by omega) (by omega) qr4
    rw [e1] at e7
    obtain ⟨-, e7⟩ := Prod.mk.inj (Option.some.inj e7)
    subst e7
    refine ⟨_, _, _, _, z5', E, b1, ?_, Or.inl ⟨s4, sy4.sf0 ja.sf, by omega, _, qr5⟩, rfl, zj4.fq.tr ja.sf.fq⟩
    simp only [b2', bd_s, nm_d, i1_ne0, if_false, jn_d]
    exact e8
  · refine ⟨_, _, _, _, z4', E, b1, ?_, Or.inr fl, xc4, zj4.fq⟩
    simp only [b2', bd_s, nm_d, if_true]
/-- 'reduce' -/
theorem p_reduce {L s s1 fu w c : Nat} {B : Nat → Int32} {x3 t t1 y z : OS} (z4 z5 : OS) (hf : 5000 ≤ fu) (had : fX7_advance fu t = some t1) (sy : SY L B s1 x3 t1 z) (hs : s < s1) (qr : QR w c y (z.2 1)) :
    ∃ ta ya x3' t' z', fX6_readReduce fu x3 t y z4 z5 = some (ta, ya) ∧ fX6_readSemicolon fu x3 ta ya z4 z5 = some (x3', t') ∧ (bd (fX9_isEnd fu z) (fun (w_26 : Int32 × OS) => nm w_26.1 (fun (r_24 : Int32) => nm w_26.2 (fun (z_25 : OS) => (if r_24 = (0 : Int32) then some z_25 else bd (fX9_reduces fu z_25) (fun (w_30 : Int32 × OS) => nm w_30.1 (fun (r_28 : Int32) => nm w_30.2 (fun (z_29 : OS) => some z_29)))))))) = some z' ∧ RES L B w s x3 x3' t' ya z z' := by
  obtain ⟨r, c', y', zq, e1, -⟩ := q_reduce qr hf
  have E : fX6_readReduce fu x3 t y z4 z5 = some (t1, y') := by
    unfold fX6_readReduce
    rw [had, bd_s, e1, bd_s]; rfl
  rcases p_semi sy hf y' z4 z5 with ⟨s4, t4, z4', b1, b2', sy4, zj4, lt4⟩ | ⟨x5, z4', b1, b2', fl, zj4, xc4⟩
  · have qr4 : QR w c y (z4'.2 1) := by rw [zj4.1]; exact qr
    obtain ⟨r2, c2, y2, z5', e7, e8, ja, qr5⟩ := q_reduce qr4 hf
    rw [e1] at e7
    obtain ⟨-, e7⟩ := Prod.mk.inj (Option.some.inj e7)
    subst e7
    refine ⟨_, _, _, _, z5', E, b1, ?_, Or.inl ⟨s4, sy4.sf0 ja.sf, by omega, _, qr5⟩, rfl, zj4.fq.tr ja.sf.fq⟩
    simp only [b2', bd_s, nm_d, i1_ne0, if_false, e8]
  · refine ⟨_, _, _, _, z4', E, b1, ?_, Or.inr fl, xc4, zj4.fq⟩
    simp only [b2', bd_s, nm_d, if_true]
