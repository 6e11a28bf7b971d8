/-! Part II: the commands of a script but 'expect', the two readers in step. -/
/-- what a script's commands may change in the reference -/
def FQ (z z' : OS) : Prop := (∀ i, (i = 8 ∨ i = 9 ∨ i = 12 ∨ i = 13 ∨ i = 14 ∨ i = 19 ∨ i = 21 ∨ i = 22 ∨ i = 23 ∨ i = 24) ∨ z'.1 i = z.1 i) ∧ ∀ j, (j = 1 ∨ j = 10 ∨ j = 11) ∨ z'.2 j = z.2 j
theorem FQ.rf {z : OS} : FQ z z := ⟨fun _ => Or.inr rfl, fun _ => Or.inr rfl⟩
theorem FQ.tr {z z' z'' : OS} (a : FQ z z') (b : FQ z' z'') : FQ z z'' := ⟨fun i => (a.1 i).elim Or.inl (fun e => (b.1 i).elim Or.inl (fun f => Or.inr (f.trans e))), fun i => (a.2 i).elim Or.inl (fun e => (b.2 i).elim Or.inl (fun f => Or.inr (f.trans e)))⟩
theorem ZL.fq {c : Nat} {z z' : OS} (a : ZL c z z') : FQ z z' := ⟨fun i => (a.1 i).elim (fun h => Or.inl (by omega)) Or.inr, fun j => by
  by_cases e : j = 1
  · exact Or.inl (Or.inl e)
  · exact Or.inr (a.2.1 j e)⟩
theorem ZJ.fq {z z' : OS} (a : ZJ z z') : FQ z z' := ⟨fun i => (a.2 i).elim (fun h => Or.inl (by omega)) Or.inr, fun j => Or.inr (by rw [a.1])⟩
theorem SF0.fq {z z' : OS} (a : SF0 z z') : FQ z z' := ⟨fun i => (a.1 i).elim (fun h => Or.inl (by omega)) Or.inr, a.2⟩
theorem FQ.i {z z' : OS} (a : FQ z z') (i : Nat) (h : ¬ (i = 8 ∨ i = 9 ∨ i = 12 ∨ i = 13 ∨ i = 14 ∨ i = 19 ∨ i = 21 ∨ i = 22 ∨ i = 23 ∨ i = 24) := by decide) : z'.1 i = z.1 i := (a.1 i).resolve_left h
theorem FQ.a {z z' : OS} (a : FQ z z') (j : Nat) (h : ¬ (j = 1 ∨ j = 10 ∨ j = 11) := by decide) : z'.2 j = z.2 j := (a.2 j).resolve_left h
theorem FQ.mt {L : Nat} {B : Nat → Int32} {z z' : OS} (a : FQ z z') (h : MT L B z) : MT L B z' := ⟨h.1, (a.i 20).trans h.2.1, fun i hi => by rw [a.a 15]; exact h.2.2 i hi⟩
theorem SY.sf0 {L s : Nat} {B : Nat → Int32} {x3 t z z' : OS} (h : SY L B s x3 t z) (a : SF0 z z') : SY L B s x3 t z' := by
  obtain ⟨ox, oz, ts, mt, p, ps, hp, rp⟩ := h
  exact ⟨ox, oz.of (a.i 21) (a.i 22), ts, a.fq.mt mt, p, ps, (a.i 19).trans hp, rp⟩
def RES (L : Nat) (B : Nat → Int32) (w s : Nat) (x3 x3' t' y' z z' : OS) : Prop := ((∃ s', SY L B s' x3' t' z' ∧ s < s' ∧ ∃ c', QR w c' y' (z'.2 1)) ∨ FL x3' z') ∧ XC x3 x3' ∧ FQ z z'
theorem lits_f {L fu w c : Nat} {B : Nat → Int32} {y x3 z : OS} (h : FL x3 z) (mt : MT L B z) (hf : 5000 ≤ fu) (qr : QR w c y (z.2 1)) : ∃ z', fX9_takesLiterals fu z = some z' ∧ FL x3 z' ∧ ZL c z z' := by
  obtain ⟨z1, e1, sa1, r1⟩ := m_lays (fu := fu) 0 0 qr.c60 qr.mc hf
  have f1 : FL x3 z1 := by
    obtain ⟨a, b, c, d, e⟩ := h
    unfold FL
    rw [sa1.1]
    exact ⟨a, b, c, d, e⟩
  obtain ⟨z2, e2, sj2, f2⟩ := f1.skips (sa1.zl.mt mt) hf
  obtain ⟨n, hn⟩ : ∃ m, fu = m + 1 := ⟨fu - 1, by omega⟩
  refine ⟨z2, ?_, f2, sa1.zl.tr (sj2.zj (by omega)).zl⟩
  unfold fX9_takesLiterals
  rw [e1, bd_s, e2, bd_s, jn_d, show lX9_takesLiterals_10 fu (fun z1_146 => some z1_146) fu z2 = lX9_takesLiterals_10 fu (fun z1_146 => some z1_146) (n + 1) z2 by rw [hn], lX9_takesLiterals_10, m_bad f2.2.2.2.1, bd_s, if_pos (by decide)]
theorem isEnd_f {z : OS} (h : z.1 21 ≠ -1) (fu : Nat) : fX9_isEnd fu z = some (0, z) := by
  unfold fX9_isEnd
  rw [m_bad h, bd_s, if_neg (by decide), isZ_0, gd_t]
theorem semi_f {x3 : OS} (h : x3.1 4 ≠ 0) (fu : Nat) (t z3 z4 z5 : OS) : fX6_readSemicolon fu x3 t z3 z4 z5 = some (x3, t) := by
  unfold fX6_readSemicolon
  rw [c_bad h, bd_s, if_neg (by decide)]
theorem lt_ge {x M : Int32} {c : Nat} (h0 : ¬ x < nI 0) (hc : c ≤ 60) (h : ¬ nI c - 1 < x) : ∃ a, a < c ∧ x = nI a := by
  rcases pk_ix x (n := c) (by omega) with g | g | ⟨j, hj, e⟩
  · exact absurd g h0
  · exfalso
    apply h
    have e1 : ((nI c - 1 : Int32)).toInt = (c : Int) - 1 := by
      have := pk_sub_toInt (a := c) (b := 1) (by omega) (by omega)
      exact this
    rw [Int32.le_iff_toInt_le, nI_toInt (by omega)] at g
    rw [Int32.lt_iff_toInt_lt, e1]
    omega
  · exact ⟨j, hj, e⟩
theorem c_num (fu : Nat) (x3 t y z4 z5 : OS) : fX6_readClauseNumber fu x3 t y z4 z5 = fX6_readNumber fu x3 t y z4 z5 (nI 0) (y.1 7 - 1) := by
  unfold fX6_readClauseNumber
  show bd (fX6_readNumber fu x3 t y z4 z5 (nI 0) (y.1 7 - 1)) _ = _
  cases fX6_readNumber fu x3 t y z4 z5 (nI 0) (y.1 7 - 1) <;> rfl
theorem m_clause {z : OS} {c : Nat} (hm : z.2 1 1 = nI c) (fu : Nat) : fX9_takesClause fu z = fX9_number fu z (nI 0) (nI c - 1) := by
  unfold fX9_takesClause
  rw [many_e hm, bd_s]
  show bd (fX9_number fu z (nI 0) (nI c - 1)) _ = _
  cases fX9_number fu z (nI 0) (nI c - 1) <;> rfl
/-- a clause's number is read -/
theorem p_clause {L s fu w c : Nat} {B : Nat → Int32} {x3 t y z : OS} (h : SY L B s x3 t z) (hf : 5000 ≤ fu) (z4 z5 : OS) (qr : QR w c y (z.2 1)) :
    (∃ a s' t' z', a < c ∧ fX6_readClauseNumber fu x3 t y z4 z5 = some (nI a, x3, t') ∧ fX9_takesClause fu z = some (nI a, z') ∧ SY L B s' x3 t' z' ∧ ZJ z z' ∧ s < s' ∧ z'.1 23 = nI s) ∨
    (∃ x3' z' v, fX6_readClauseNumber fu x3 t y z4 z5 = some (-1, x3', t) ∧ fX9_takesClause fu z = some (v, z') ∧ FL x3' z' ∧ ZJ z z' ∧ XC x3 x3') := by
  rw [c_num, m_clause qr.mc, qr.xc]
  rcases p_num (lo := 0) h hf y z4 z5 (nI c - 1) (by omega) with ⟨v, s', t', z', a1, a2, a3, a4, a5, a6, a7, a8⟩ | g
  · obtain ⟨a, ha, e⟩ := lt_ge (M := 0) a6 qr.c60 a7
    subst e
    exact Or.inl ⟨a, s', t', z', ha, a1, a2, a3, a4, a5, a8⟩
  · exact Or.inr g
theorem p_clause_f {c fu : Nat} {x3 z : OS} (h : FL x3 z) (t y z4 z5 : OS) (hc : y.1 7 = nI c) (hm : z.2 1 1 = nI c) : fX6_readClauseNumber fu x3 t y z4 z5 = some (-1, x3, t) ∧ fX9_takesClause fu z = some (nI 0, z) := by
  rw [c_num, m_clause hm, hc]
  exact p_num_f h fu t y z4 z5 _ _
theorem FL.zj0 {x3 z z' : OS} (h : FL x3 z) (e : z'.1 = z.1) : FL x3 z' := by
  unfold FL; rw [e]; exact h
/-- 'clause' -/
theorem p_newClause {L s s1 fu w c : Nat} {B : Nat → Int32} {x3 t t1 y z : OS} (z4 z5 : OS) (hf : 5000 ≤ fu) (ts : TS L B s t) (had : fX7_advance fu t = some t1) (sy : SY L B s1 x3 t1 z) (hs : s < s1) (qr : QR w c y (z.2 1)) :
    ∃ xa ta ya x3' t' z', fX6_readClause fu x3 t y z4 z5 = some (xa, ta, ya) ∧ fX6_readSemicolon fu xa ta ya z4 z5 = some (x3', t') ∧ fX9_takesNewClause fu z (nI s) = some z' ∧ RES L B w s x3 x3' t' ya z z' := by
  have h6 := qr.c60
  have hL := ts.1
  have sL := ts.2.2.2.1
  have ox := sy.1
  have oz := sy.2.1
  have mt := sy.2.2.2.1
  obtain ⟨p, ps, hp, rp⟩ := sy.2.2.2.2
  have s1L := sy.2.2.1.2.2.2.1
  have s3 : t.1 3 = nI s := ts.2.2.2.2.2.1
  unfold fX6_readClause fX9_takesNewClause
  rw [nm_d, s3, q_isFull fu qr.xc h6, bd_s, many_e qr.mc, bd_s, jn_d, L60, had]
  by_cases c60 : c = 60
  · rw [decide_eq_true c60, if_neg (by decide), c_fail ox, bd_s, if_neg (fun q => q (by rw [c60])), m_fails oz, bd_s]
    have fl : FL (sI (sI x3 4 4) 5 (nI s)) (sI (sI z 21 (nI s)) 22 4) := FL.mk (by decide) (by omega) hp (by omega)
    obtain ⟨z', e1, f1, zl⟩ := lits_f fl ((ZJ.fail z (nI s) 4).mt mt) hf qr
    refine ⟨_, _, _, _, _, z', rfl, semi_f fl.2.2.1 _ _ _ _ _, ?_, Or.inr f1, XC.fail _ _ _, (ZJ.fail _ _ _).fq.tr zl.fq⟩
    simp only [e1, bd_s, m_bad f1.2.2.2.1, jn_d, i1_ne0, not_false_eq_true, if_true, isEnd_f f1.2.2.2.1, nm_d]
  · rw [decide_eq_false c60, if_pos (show b2 false = 0 from rfl), bd_s, if_pos (nI_ne c60 (by omega) (by omega))]
    rcases p_lits sy hf z4 z5 qr with ⟨s2, x4, t2, z2, P, N, a1, a2, sy2, a4, a5, a6, okm, row, zl, xc⟩ | ⟨x4, t2, z2, a1, a2, fl, zl, xc⟩
    · have qr2 := zl.qr qr
      have ms := m_same qr2 hf row okm
      have io := q_indexOf (fu := fu) qr.xc h6 hf P N
      have ox2 := sy2.1
      have oz2 := sy2.2.1
      obtain ⟨p2, ps2, hp2, rp2⟩ := sy2.2.2.2.2
      have s2L := sy2.2.2.1.2.2.2.1
      simp only [a1, a2, bd_s, nm_d, jn_d, c_ok ox2, m_ok oz2, if_true, not_true_eq_false, if_false, a5, a6, io, ms]
      rcases ff_or (p := fun i => decide (y.2 0 i = P) && decide (y.2 1 i = N)) c 0 with ⟨hn, hno⟩ | ⟨i, i1, i2, i3, hn, hno⟩
      · simp only [hn, if_true]
        obtain ⟨y', zq, e3, -, -, -, -⟩ := RL_given qr2 (fu := fu) (by omega) row okm
        simp only [e3, bd_s, nm_d]
        rcases p_semi sy2 hf y' z4 z5 with ⟨s3', t3, z3, b1, b2', sy3, zj3, lt3⟩ | ⟨x5, z3, b1, b2', fl, zj3, xc3⟩
        · have row3 : Row (z3.2 1) c P N := by rw [zj3.1]; exact row
          have qr3 : QR w c y (z3.2 1) := by rw [zj3.1]; exact qr2
          obtain ⟨y2, z4', e4, e5, sf, qr4, -⟩ := RL_given qr3 (fu := fu) (by omega) row3 okm
          rw [e3] at e4
          obtain ⟨-, e4⟩ := Prod.mk.inj (Option.some.inj e4)
          subst e4
          refine ⟨_, _, _, _, _, z4', rfl, b1, ?_, Or.inl ⟨s3', sy3.sf0 sf, by omega, _, qr4⟩, xc, (zl.fq.tr zj3.fq).tr sf.fq⟩
          simp only [b2', bd_s, nm_d, i1_ne0, if_false, e5]
        · refine ⟨_, _, _, _, _, z3, rfl, b1, ?_, Or.inr fl, xc.tr xc3, zl.fq.tr zj3.fq⟩
          simp only [b2', bd_s, nm_d, if_true]
      · have hn1 : ¬ nI i = (-1 : Int32) := fun q => (nI_m1 (a := i) (by omega)).mp q
        simp only [hn, hn1, if_false, c_fail ox2, m_fails oz2, bd_s]
        have fl : FL (sI (sI x4 4 4) 5 (nI s)) (sI (sI z2 21 (nI s)) 22 4) := FL.mk (by decide) (by omega) hp2 (by omega)
        refine ⟨_, _, _, _, _, _, rfl, semi_f fl.2.2.1 _ _ _ _ _, ?_, Or.inr fl, xc.tr (XC.fail _ _ _), zl.fq.tr (ZJ.fail _ _ _).fq⟩
        simp only [isEnd_f fl.2.2.2.1, bd_s, nm_d, if_true]
    · refine ⟨x4, t2, y, x4, t2, z2, ?_, semi_f fl.2.2.1 _ _ _ _ _, ?_, Or.inr fl, xc, zl.fq⟩
      · simp only [a1, bd_s, nm_d, c_bad fl.2.2.1, i1_ne0, if_false]
      · simp only [a2, bd_s, m_bad fl.2.2.2.1, jn_d, i1_ne0, not_false_eq_true, if_true, isEnd_f fl.2.2.2.1, nm_d]
/-- 'resolve' -/
theorem p_resolve {L s s1 fu w c : Nat} {B : Nat → Int32} {x3 t t1 y z : OS} (z4 z5 : OS) (hf : 5000 ≤ fu) (had : fX7_advance fu t = some t1) (sy : SY L B s1 x3 t1 z) (hs : s < s1) (qr : QR w c y (z.2 1)) :
    ∃ xa ta ya x3' t' z', fX6_readResolve fu x3 t y z4 z5 = some (xa, ta, ya) ∧ fX6_readSemicolon fu xa ta ya z4 z5 = some (x3', t') ∧ fX9_takesResolve fu z = some z' ∧ RES L B w s x3 x3' t' ya z z' := by
  have h6 := qr.c60
  have hL := sy.2.2.1.1
  unfold fX6_readResolve fX9_takesResolve
  rw [had, bd_s]
  rcases p_clause sy hf z4 z5 qr with ⟨a, s2, t2, z2, ha, a1, a2, sy2, zj2, lt2, -⟩ | ⟨x4, z2, v, a1, a2, fl, zj2, xc⟩
  · have qr2 : QR w c y (z2.2 1) := by rw [zj2.1]; exact qr
    have s3 : t2.1 3 = nI s2 := sy2.2.2.1.2.2.2.2.2.1
    have s2L := sy2.2.2.1.2.2.2.1
    simp only [a1, a2, bd_s, nm_d, s3]
    have na : ¬ nI a = (-1 : Int32) := fun q => (nI_m1 (a := a) (by omega)).mp q
    rcases p_clause sy2 hf z4 z5 qr2 with ⟨b, s4, t3, z3, hb, b1, b2', sy3, zj3, lt3, h23⟩ | ⟨x4, z3, v, b1, b2', fl, zj3, xc⟩
    · have nb : ¬ nI b = (-1 : Int32) := fun q => (nI_m1 (a := b) (by omega)).mp q
      have qr3 : QR w c y (z3.2 1) := by rw [zj3.1]; exact qr2
      have ox3 := sy3.1
      have oz3 := sy3.2.1
      obtain ⟨p3, ps3, hp3, rp3⟩ := sy3.2.2.2.2
      have s4L := sy3.2.2.1.2.2.2.1
      have co := q_clashOnce y fu (i := a) (j := b) (by omega) (by omega)
      have hr := q_hasRoom (fu := fu) qr.xc h6 hf (i := a) (j := b) (by omega) (by omega)
      have mc := m_clash (fu := fu) qr3.mw qr3.w12 (qr3.row ha) (by omega) (qr3.ok ha) (qr3.row hb) (by omega) (qr3.ok hb) hf
      simp only [b1, b2', bd_s, nm_d, na, nb, if_false, not_false_eq_true, if_true, co, hr, jn_d, m_ok oz3, not_true_eq_false, many_e qr3.mc, L60, nI_eq (show c < 2 ^ 31 by omega) (show 60 < 2 ^ 31 by omega), mc, h23, b2_0]
      have bad : FL (sI (sI x3 4 4) 5 (nI s2)) (sI (sI z3 21 (nI s2)) 22 4) := FL.mk (by decide) (by omega) hp3 (by omega)
      have zjb : ZJ z (sI (sI z3 21 (nI s2)) 22 4) := (zj2.tr zj3).tr (ZJ.fail _ _ _)
      by_cases pc1 : pc (cm (y.2 0 a) (y.2 1 a) (y.2 0 b) (y.2 1 b)) = 1
      · by_cases c60 : c = 60
        · simp only [pc1, c60, decide_true, Bool.true_eq_false, if_false, if_true, Bool.not_true, Bool.false_and, not_true_eq_false, c_fail ox3, m_fails oz3, bd_s]
          refine ⟨_, _, _, _, _, _, rfl, semi_f bad.2.2.1 _ _ _ _ _, ?_, Or.inr bad, XC.fail _ _ _, zjb.fq⟩
          simp only [m_bad bad.2.2.2.1, bd_s, i1_ne0, not_false_eq_true, if_true, isEnd_f bad.2.2.2.1, nm_d]
        · obtain ⟨tt, htt, hc1, hn1⟩ := pc_one (qr3.ok ha).cm qr3.w12 pc1
          obtain ⟨z5', e5, sa5, row5⟩ := m_resolves qr3 hf ha hb htt hc1 hn1
          have qr5 : QR w c y (z5'.2 1) := sa5.rl qr3
          have ms := m_same qr5 hf row5 (mg_ok (qr3.ok ha) (qr3.ok hb))
          have oz5 : OKz z5' := by unfold OKz; rw [sa5.1]; exact oz3
          have sy5 : SY L B s4 x3 t3 z5' := ⟨ox3, oz5, sy3.2.2.1, sa5.zl.mt sy3.2.2.2.1, p3, ps3, by rw [sa5.1]; exact hp3, rp3⟩
          have h235 : z5'.1 23 = nI s2 := by rw [sa5.1]; exact h23
          simp only [pc1, c60, decide_true, decide_false, Bool.true_eq_false, if_false, if_true, Bool.not_false, Bool.true_and, not_false_eq_true, m_ok oz3, bd_s, not_true_eq_false, e5, ms, ff_m1 (show 0 + c < 2 ^ 31 by omega)]
          rcases Bool.eq_false_or_eq_true (ex (fun k => decide (y.2 0 k = mgP (y.2 0 a) (y.2 1 a) (y.2 0 b) (y.2 1 b)) && decide (y.2 1 k = mgN (y.2 0 a) (y.2 1 a) (y.2 0 b) (y.2 1 b))) c 0) with hh | hh
          · have bad5 : FL (sI (sI x3 4 4) 5 (nI s2)) (sI (sI z5' 21 (nI s2)) 22 4) := FL.mk (by decide) (by omega) (show z5'.1 19 = nI p3 by rw [sa5.1]; exact hp3) (by omega)
            simp only [hh, Bool.not_true, not_true_eq_false, if_false, Bool.true_eq_false, c_fail ox3, h235, m_fails oz5, bd_s]
            refine ⟨_, _, _, _, _, _, rfl, semi_f bad5.2.2.1 _ _ _ _ _, ?_, Or.inr bad5, XC.fail _ _ _, (((zj2.tr zj3).zl (c := c)).tr sa5.zl).fq.tr (ZJ.fail _ _ _).fq⟩
            simp only [isEnd_f bad5.2.2.2.1, bd_s, nm_d, if_true]
          · obtain ⟨y', zq, vq, dq, e6, -⟩ := RL_res qr5 hf (by omega) ha hb pc1
            simp only [hh, Bool.not_false, not_false_eq_true, Bool.true_eq_false, Bool.false_eq_true, if_true, if_false, e6, bd_s, nm_d]
            rcases p_semi sy5 hf y' z4 z5 with ⟨s6, t6, z6, d1, d2, sy6, zj6, lt6⟩ | ⟨x6, z6, d1, d2, fl6, zj6, xc6⟩
            · have qr6 : QR w c y (z6.2 1) := by rw [zj6.1]; exact qr5
              obtain ⟨y2, z7, v7, dd7, e7, e8, sf7, qr7, -⟩ := RL_res qr6 hf (by omega) ha hb pc1
              rw [e6] at e7
              obtain ⟨-, e7⟩ := Prod.mk.inj (Option.some.inj e7)
              subst e7
              refine ⟨_, _, _, _, _, z7, rfl, d1, ?_, Or.inl ⟨s6, sy6.sf0 sf7, by omega, _, qr7⟩, rfl, ((((zj2.tr zj3).zl (c := c)).tr sa5.zl).fq.tr zj6.fq).tr sf7.fq⟩
              simp only [d2, bd_s, nm_d, i1_ne0, if_false, e8]
            · refine ⟨_, _, _, _, _, z6, rfl, d1, ?_, Or.inr fl6, xc6, (((zj2.tr zj3).zl (c := c)).tr sa5.zl).fq.tr zj6.fq⟩
              simp only [d2, bd_s, nm_d, if_true]
      · simp only [pc1, decide_false, if_true, if_false, c_fail ox3, m_fails oz3, bd_s, ite_self]
        refine ⟨_, _, _, _, _, _, rfl, semi_f bad.2.2.1 _ _ _ _ _, ?_, Or.inr bad, XC.fail _ _ _, zjb.fq⟩
        simp only [m_bad bad.2.2.2.1, bd_s, i1_ne0, not_false_eq_true, if_true, isEnd_f bad.2.2.2.1, nm_d]
    · simp only [b1, b2', bd_s, nm_d, na, if_false, not_true_eq_false, jn_d, m_bad fl.2.2.2.1, i1_ne0, not_false_eq_true, if_true, isEnd_f fl.2.2.2.1]
      exact ⟨_, _, _, _, _, _, rfl, semi_f fl.2.2.1 _ _ _ _ _, rfl, Or.inr fl, xc, (zj2.tr zj3).fq⟩
  · obtain ⟨g1, g2⟩ := p_clause_f (c := c) (fu := fu) fl t1 y z4 z5 qr.xc (by rw [zj2.1]; exact qr.mc)
    simp only [a1, a2, bd_s, nm_d, g1, g2, if_true, jn_d, m_bad fl.2.2.2.1, i1_ne0, not_false_eq_true, isEnd_f fl.2.2.2.1]
    exact ⟨_, _, _, _, _, _, rfl, semi_f fl.2.2.1 _ _ _ _ _, rfl, Or.inr fl, xc, zj2.fq⟩
