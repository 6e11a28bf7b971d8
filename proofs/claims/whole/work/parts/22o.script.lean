/-! Part II: numbers, variables, semicolons of a script: the two readers in step. -/
def OKx (x3 : OS) : Prop := x3.1 4 = 0 ∧ x3.1 5 = -1
def OKz (z : OS) : Prop := z.1 21 = -1 ∧ z.1 22 = 0
/-- both have failed, with one code, at one place -/
def FL (x3 z : OS) : Prop := x3.1 4 = z.1 22 ∧ x3.1 5 = z.1 21 ∧ x3.1 4 ≠ 0 ∧ z.1 21 ≠ -1 ∧ ∃ p, p < 9000 ∧ z.1 19 = nI p
/-- both stand at one token -/
def SY (L : Nat) (B : Nat → Int32) (s : Nat) (x3 t z : OS) : Prop := OKx x3 ∧ OKz z ∧ TS L B s t ∧ MT L B z ∧ ∃ p, p ≤ s ∧ z.1 19 = nI p ∧ run isW B L p = s
def XC (x3 x3' : OS) : Prop := x3'.1 6 = x3.1 6
theorem c_isFailed (fu : Nat) (x3 t z3 z4 z5 : OS) : fX6_isFailed fu x3 t z3 z4 z5 = some (b2 (!decide (x3.1 4 = 0))) := by
  unfold fX6_isFailed
  rw [isZ_0, isZ_1, gd_t, gd_t]
  by_cases e : x3.1 4 = 0
  · rw [if_pos e, decide_eq_true e]; rfl
  · rw [if_neg e, decide_eq_false e]; rfl
theorem c_fail {x3 : OS} (h : OKx x3) (fu : Nat) (t z3 z4 z5 : OS) (c p : Int32) : fX6_fail fu x3 t z3 z4 z5 c p = some (sI (sI x3 4 c) 5 p) := by
  unfold fX6_fail
  rw [if_neg (fun q => q h.1)]; rfl
theorem c_fail2 {x3 : OS} (h : x3.1 4 ≠ 0) (fu : Nat) (t z3 z4 z5 : OS) (c p : Int32) : fX6_fail fu x3 t z3 z4 z5 c p = some x3 := by
  unfold fX6_fail
  rw [if_pos h]
theorem m_hasFailed (fu : Nat) (z : OS) : fX9_hasFailed fu z = some (b2 (!decide (z.1 21 = -1))) := by
  unfold fX9_hasFailed
  rw [isZ_0, isZ_1, gd_t, gd_t]
  by_cases e : z.1 21 = -1
  · rw [if_pos e, decide_eq_true e]; rfl
  · rw [if_neg e, decide_eq_false e]; rfl
theorem m_ok {z : OS} (h : OKz z) (fu : Nat) : fX9_hasFailed fu z = some 0 := by rw [m_hasFailed, decide_eq_true h.1]; rfl
theorem m_bad {z : OS} (h : z.1 21 ≠ -1) (fu : Nat) : fX9_hasFailed fu z = some 1 := by rw [m_hasFailed, decide_eq_false h]; rfl
theorem c_ok {x3 : OS} (h : OKx x3) (fu : Nat) (t z3 z4 z5 : OS) : fX6_isFailed fu x3 t z3 z4 z5 = some 0 := by rw [c_isFailed, decide_eq_true h.1]; rfl
theorem c_bad {x3 : OS} (h : x3.1 4 ≠ 0) (fu : Nat) (t z3 z4 z5 : OS) : fX6_isFailed fu x3 t z3 z4 z5 = some 1 := by rw [c_isFailed, decide_eq_false h]; rfl
theorem m_fails {z : OS} (h : OKz z) (fu : Nat) (p c : Int32) : fX9_fails fu z p c = some (sI (sI z 21 p) 22 c) := by
  unfold fX9_fails
  rw [m_ok h, bd_s, if_neg (fun q => q rfl)]; rfl
theorem m_fails2 {z : OS} (h : z.1 21 ≠ -1) (fu : Nat) (p c : Int32) : fX9_fails fu z p c = some z := by
  unfold fX9_fails
  rw [m_bad h, bd_s, if_pos (by decide)]
theorem FL.mk {x3 z : OS} {c : Int32} {s p : Nat} (hc : c ≠ 0) (hs : s < 2 ^ 31) (hp : z.1 19 = nI p) (h9 : p < 9000) : FL (sI (sI x3 4 c) 5 (nI s)) (sI (sI z 21 (nI s)) 22 c) := by
  refine ⟨?_, ?_, ?_, ?_, p, h9, ?_⟩
  · rw [sI_o _ _ (by omega), sI_s, sI_s]
  · rw [sI_s, sI_o _ _ (by omega), sI_s]
  · rw [sI_o _ _ (by omega), sI_s]; exact hc
  · rw [sI_o _ _ (by omega), sI_s]; exact fun e => (nI_m1 hs).mp e
  · rw [sI_o _ _ (by omega), sI_o _ _ (by omega)]; exact hp
theorem XC.fail (x3 : OS) (c p : Int32) : XC x3 (sI (sI x3 4 c) 5 p) := by
  show (sI (sI x3 4 c) 5 p).1 6 = x3.1 6
  rw [sI_o _ _ (by omega), sI_o _ _ (by omega)]
theorem ZJ.fail (z : OS) (p c : Int32) : ZJ z (sI (sI z 21 p) 22 c) := (ZJ.si z 21 p (by omega)).tr (ZJ.si _ 22 c (by omega))
theorem OKz.of {z z' : OS} (h : OKz z) (e1 : z'.1 21 = z.1 21) (e2 : z'.1 22 = z.1 22) : OKz z' := ⟨e1.trans h.1, e2.trans h.2⟩
def nD (fu : Nat) (p1 v3_136 : Int32) (z1_136 : OS) : Option (Int32 × OS) := bd (fX9_hasFailed fu z1_136) (fun (r_6 : Int32) => (if r_6 = (0 : Int32) then some (v3_136, z1_136) else some ((if (0 : Int32) < p1 then p1 else (0 : Int32)), z1_136)))
def nC (fu : Nat) (p1 p2 v3_79 : Int32) (z1_79 : OS) : Option (Int32 × OS) := (if ¬ (z1_79.1 19) = (z1_79.1 23) then (if (4 : Int32) < ((z1_79.1 19) - (z1_79.1 23)) then bd (fX9_fails fu z1_79 (z1_79.1 23) (2 : Int32)) (fun (z_8 : OS) => nD fu p1 v3_79 z_8) else bd (fX9_in fu ((v3_79).toInt64) ((p1).toInt64) ((p2).toInt64)) (fun (r_10 : Int32) => (if ¬ r_10 = (0 : Int32) then nD fu p1 v3_79 z1_79 else bd (fX9_fails fu z1_79 (z1_79.1 23) (2 : Int32)) (fun (z_8 : OS) => nD fu p1 v3_79 z_8)))) else bd (fX9_fails fu z1_79 (z1_79.1 23) (1 : Int32)) (fun (z_12 : OS) => nD fu p1 v3_79 z_12))
theorem num_eq (fu : Nat) (z : OS) (p1 p2 : Int32) : fX9_number fu z p1 p2 = bd (fX9_hasFailed fu z) (fun (r_1 : Int32) => (if r_1 = (0 : Int32) then bd (fX9_skips fu z) (fun (z_3 : OS) => lX9_number_23 fu (nC fu p1 p2) fu 0 (sI z_3 23 (z_3.1 19))) else some (p1, z))) := rfl
theorem nD_bad {z : OS} (h : z.1 21 ≠ -1) (fu : Nat) (p1 v : Int32) : ∃ r, nD fu p1 v z = some (r, z) := by
  unfold nD
  rw [m_bad h, bd_s, if_neg (by decide)]; exact ⟨_, rfl⟩
theorem nD_ok {z : OS} (h : OKz z) (fu : Nat) (p1 v : Int32) : nD fu p1 v z = some (v, z) := by
  unfold nD
  rw [m_ok h, bd_s, if_pos rfl]
theorem fl_bad {z : OS} {s : Nat} {c : Int32} (hs : s < 2 ^ 31) : (sI (sI z 21 (nI s)) 22 c).1 21 ≠ -1 := by
  rw [sI_o _ _ (by omega), sI_s]; exact fun e => (nI_m1 hs).mp e
/-- a number is read -/
theorem p_num {L s fu lo : Nat} {B : Nat → Int32} {x3 t z : OS} (h : SY L B s x3 t z) (hf : 5000 ≤ fu) (z3 z4 z5 : OS) (hi : Int32) (hlo : lo < 2 ^ 31) :
    (∃ v s' t' z', fX6_readNumber fu x3 t z3 z4 z5 (nI lo) hi = some (v, x3, t') ∧ fX9_number fu z (nI lo) hi = some (v, z') ∧ SY L B s' x3 t' z' ∧ ZJ z z' ∧ s < s' ∧ ¬ v < nI lo ∧ ¬ hi < v ∧ z'.1 23 = nI s) ∨
    (∃ x3' z' v, fX6_readNumber fu x3 t z3 z4 z5 (nI lo) hi = some (-1, x3', t) ∧ fX9_number fu z (nI lo) hi = some (v, z') ∧ FL x3' z' ∧ ZJ z z' ∧ XC x3 x3') := by
  obtain ⟨ox, oz, ts, mt, p, ps, hp, rp⟩ := h
  have ts' := ts
  obtain ⟨hL, l1, hb, sL, nw, s3, k2, e4⟩ := ts'
  obtain ⟨z1, e1, s1, v1⟩ := m_skips mt hp (by omega) hf
  rw [rp] at v1
  have mt1 : MT L B (sI z1 23 (nI s)) := (mt.sj s1.1 (s1.2 20 (by omega))).sj rfl (sI_o _ _ (by omega))
  obtain ⟨v, z2, e2, s2, v2, hv⟩ := m_num_l (fu := fu) (nC fu (nI lo) hi) (L - s) s fu 0 (sI z1 23 (nI s)) (by omega) (by omega) (Nat.le_refl s) mt1 (by rw [sI_o _ _ (by omega)]; exact v1) (sI_s _ _ _)
  have r23 : z2.1 23 = nI s := by rw [s2.2 23 (by omega), sI_s]
  have oz2 : OKz z2 := oz.of (by rw [s2.2 21 (by omega), sI_o _ _ (by omega), s1.2 21 (by omega)]) (by rw [s2.2 22 (by omega), sI_o _ _ (by omega), s1.2 22 (by omega)])
  have zj : ZJ z z2 := ((s1.zj (by omega)).tr (ZJ.si _ 23 _ (by omega))).tr (s2.zj (by omega))
  have g2 := run_le (q := isD) (B := B) sL
  have g1 := run_ge (q := isD) (B := B) (L := L) s
  have E : fX9_number fu z (nI lo) hi = nC fu (nI lo) hi v z2 := by
    rw [num_eq, m_ok oz, bd_s, if_pos rfl, e1, bd_s, v1]; exact e2
  have notneg : (-1 : Int32) < nI lo := (m1_lt hlo).mpr trivial
  rw [E]
  unfold fX6_readNumber nC
  rw [c_ok ox, bd_s, if_pos rfl, k2, v2, r23, pk_sub g1]
  by_cases c1 : s < run isD B L s
  · rw [if_pos ((tk2 sL).mpr c1), t_number ts c1 hf, bd_s, jn_d, if_pos (nI_ne (by omega) (by omega) (by omega)), s3]
    have bad : (∃ x3' z' v', (bd (fX6_fail fu x3 t z3 z4 z5 (2 : Int32) (nI s)) (fun (z_5 : OS) => some ((-1 : Int32), z_5, t))) = some (-1, x3', t) ∧ (bd (fX9_fails fu z2 (nI s) (2 : Int32)) (fun (z_8 : OS) => nD fu (nI lo) v z_8)) = some (v', z') ∧ FL x3' z' ∧ ZJ z z' ∧ XC x3 x3') := by
      obtain ⟨r, hr⟩ := nD_bad (fl_bad (z := z2) (s := s) (c := 2) (by omega)) fu (nI lo) v
      refine ⟨sI (sI x3 4 2) 5 (nI s), sI (sI z2 21 (nI s)) 22 2, r, ?_, ?_, FL.mk (by decide) (by omega) v2 (by omega), zj.tr (ZJ.fail _ _ _), XC.fail _ _ _⟩
      · rw [c_fail ox, bd_s]
      · rw [m_fails oz2, bd_s]; exact hr
    by_cases c2 : run isD B L s - s ≤ 4
    · rw [if_neg (show ¬ (4 : Int32) < nI (run isD B L s - s) from nI_nlt (a := 4) c2 (by omega)), if_pos c2, in_e, bd_s, ← hv c2]
      by_cases c3 : v < nI lo
      · rw [if_pos c3, decide_eq_true c3, Bool.not_true, Bool.false_and, if_neg (by decide)]
        exact Or.inr bad
      · rw [if_neg c3, decide_eq_false c3]
        by_cases c4 : hi < v
        · rw [if_neg (show ¬ v ≤ hi from fun q => by rw [Int32.le_iff_toInt_le] at q; rw [Int32.lt_iff_toInt_lt] at c4; omega), decide_eq_true c4, if_neg (by decide)]
          exact Or.inr bad
        · rw [if_pos (show v ≤ hi from by rw [Int32.lt_iff_toInt_lt] at c4; rw [Int32.le_iff_toInt_le]; omega), decide_eq_false c4, if_pos (by decide), nD_ok oz2]
          have na : ¬ s < run isL B L s := fun q => by
            have := dig_let ((run_lt sL).mp c1).2
            rw [((run_lt sL).mp q).2] at this; cases this
          have eE : tkE B L s = run isD B L s := by unfold tkE; rw [if_neg na, if_pos c1]
          rw [eE] at e4
          obtain ⟨t', f1, f2, f3⟩ := t_advance hL l1 hb g2 e4 hf
          rw [f1, bd_s]
          have gg := run_ge (q := isW) (B := B) (L := L) (run isD B L s)
          exact Or.inl ⟨v, _, t', z2, rfl, rfl, ⟨ox, oz2, f2, zj.mt mt, _, gg, v2, rfl⟩, zj, by omega, c3, c4, r23⟩
    · rw [if_pos (show (4 : Int32) < nI (run isD B L s - s) from nI_lt (a := 4) (by omega) (by omega)), if_neg c2, if_pos notneg]
      exact Or.inr bad
  · rw [if_neg (fun q => c1 ((tk2 sL).mp q)), if_neg (fun q => q (by rw [show run isD B L s = s by omega])), c_fail ox, m_fails oz2, bd_s, bd_s, s3]
    obtain ⟨r, hr⟩ := nD_bad (fl_bad (z := z2) (s := s) (c := 1) (by omega)) fu (nI lo) v
    exact Or.inr ⟨_, _, r, rfl, hr, FL.mk (by decide) (by omega) v2 (by omega), zj.tr (ZJ.fail _ _ _), XC.fail _ _ _⟩
theorem p_num_f {x3 z : OS} (h : FL x3 z) (fu : Nat) (t z3 z4 z5 : OS) (lo hi : Int32) : fX6_readNumber fu x3 t z3 z4 z5 lo hi = some (-1, x3, t) ∧ fX9_number fu z lo hi = some (lo, z) := by
  constructor
  · unfold fX6_readNumber
    rw [c_bad h.2.2.1, bd_s, if_neg (by decide)]
  · rw [num_eq, m_bad h.2.2.2.1, bd_s, if_neg (by decide)]
/-- a semicolon is read -/
theorem p_semi {L s fu : Nat} {B : Nat → Int32} {x3 t z : OS} (h : SY L B s x3 t z) (hf : 5000 ≤ fu) (z3 z4 z5 : OS) :
    (∃ s' t' z', fX6_readSemicolon fu x3 t z3 z4 z5 = some (x3, t') ∧ fX9_isEnd fu z = some (1, z') ∧ SY L B s' x3 t' z' ∧ ZJ z z' ∧ s < s') ∨
    (∃ x3' z', fX6_readSemicolon fu x3 t z3 z4 z5 = some (x3', t) ∧ fX9_isEnd fu z = some (0, z') ∧ FL x3' z' ∧ ZJ z z' ∧ XC x3 x3') := by
  obtain ⟨ox, oz, ts, mt, p, ps, hp, rp⟩ := h
  have ts' := ts
  obtain ⟨hL, l1, hb, sL, nw, s3, k2, e4⟩ := ts'
  obtain ⟨z1, e1, s1, v1⟩ := m_skips mt hp (by omega) hf
  rw [rp] at v1
  have oz1 : OKz z1 := oz.of (s1.2 21 (by omega)) (s1.2 22 (by omega))
  have mt1 : MT L B z1 := mt.sj s1.1 (s1.2 20 (by omega))
  unfold fX6_readSemicolon fX9_isEnd
  rw [c_ok ox, bd_s, if_pos rfl, m_ok oz, bd_s, if_pos rfl, e1, bd_s, m_ahead mt1 v1 (by omega), bd_s, jn_d, k2]
  by_cases c : s < L ∧ B s = 59
  · have ea : ah B L s = 59 := by unfold ah; rw [if_pos c.1]; exact c.2
    rw [if_pos ((tk3 sL).mpr c), if_pos ea]
    have eE : tkE B L s = s + 1 := by
      unfold tkE
      rw [if_neg (fun q => by have := ((run_lt sL).mp q).2; rw [c.2] at this; exact absurd this (by decide)), if_neg (fun q => by have := ((run_lt sL).mp q).2; rw [c.2] at this; exact absurd this (by decide)), if_pos c.1]
    rw [eE] at e4
    obtain ⟨t', f1, f2, f3⟩ := t_advance hL l1 hb (show s + 1 ≤ L by omega) e4 hf
    have oz2 : OKz (sI z1 19 (nI (s + 1))) := oz1.of (sI_o _ _ (by omega)) (sI_o _ _ (by omega))
    have zj : ZJ z (sI z1 19 (nI (s + 1))) := (s1.zj (by omega)).tr (ZJ.si _ 19 _ (by omega))
    have gg := run_ge (q := isW) (B := B) (L := L) (s + 1)
    rw [f1, bd_s]
    simp only [nm_d]
    rw [v1, nI_1, m_ok oz2, bd_s, if_neg (fun q => q rfl), isZ_1, gd_t]
    exact Or.inl ⟨_, t', _, rfl, rfl, ⟨ox, oz2, f2, zj.mt mt, s + 1, gg, sI_s _ _ _, rfl⟩, zj, by omega⟩
  · have ea : ah B L s ≠ 59 := by
      unfold ah
      by_cases q : s < L
      · rw [if_pos q]; exact fun g => c ⟨q, g⟩
      · rw [if_neg q]; decide
    have bad : (sI (sI (sI z1 21 (nI s)) 22 1) 19 (nI (s + 1))).1 21 ≠ -1 := by
      rw [sI_o _ _ (by omega)]; exact fl_bad (by omega)
    have p19 : (sI (sI z1 21 (nI s)) 22 1).1 19 = nI s := by rw [sI_o _ _ (by omega), sI_o _ _ (by omega)]; exact v1
    rw [if_neg (fun q => c ((tk3 sL).mp q)), if_neg ea, c_fail ox, bd_s, s3, v1, m_fails oz1, bd_s]
    simp only [nm_d]
    rw [p19, nI_1, m_bad bad, bd_s, if_pos (by decide), isZ_0, gd_t]
    refine Or.inr ⟨_, _, rfl, rfl, ?_, ((s1.zj (by omega)).tr (ZJ.fail _ _ _)).tr (ZJ.si _ 19 _ (by omega)), XC.fail _ _ _⟩
    have f := FL.mk (x3 := x3) (z := z1) (c := 1) (s := s) (by decide) (by omega) v1 (by omega)
    refine ⟨?_, ?_, f.2.2.1, bad, s + 1, by omega, sI_s _ _ _⟩
    · exact f.1.trans (sI_o _ _ (by omega)).symm
    · exact f.2.1.trans (sI_o _ _ (by omega)).symm
theorem p_semi_f {x3 z : OS} (h : FL x3 z) (fu : Nat) (t z3 z4 z5 : OS) : fX6_readSemicolon fu x3 t z3 z4 z5 = some (x3, t) ∧ fX9_isEnd fu z = some (0, z) := by
  constructor
  · unfold fX6_readSemicolon
    rw [c_bad h.2.2.1, bd_s, if_neg (by decide)]
  · unfold fX9_isEnd
    rw [m_bad h.2.2.2.1, bd_s, if_neg (by decide), isZ_0, gd_t]
theorem let_v {b : Int32} (h : isL b = true) : ∃ v : Nat, v < 26 ∧ b - 97 = nI v := by
  have t97 : (97 : Int32).toInt = 97 := by decide
  have t122 : (122 : Int32).toInt = 122 := by decide
  unfold isL at h
  rw [Bool.and_eq_true, Bool.not_eq_true', Bool.not_eq_true', decide_eq_false_iff_not, decide_eq_false_iff_not, Int32.lt_iff_toInt_lt, Int32.lt_iff_toInt_lt, t97, t122] at h
  have e : b = nI b.toInt.toNat := by
    apply Int32.toInt_inj.mp
    rw [nI_toInt (by omega)]; omega
  refine ⟨b.toInt.toNat - 97, by omega, ?_⟩
  have : nI b.toInt.toNat - nI 97 = nI (b.toInt.toNat - 97) := pk_sub (by omega)
  rw [← e] at this
  exact this
/-- a variable is read -/
theorem p_var {L s fu w : Nat} {B : Nat → Int32} {x3 t z z3 : OS} (h : SY L B s x3 t z) (hf : 5000 ≤ fu) (z4 z5 : OS) (hw3 : z3.1 6 = nI w) (hwz : z.2 1 0 = nI w) (h12 : w ≤ 12) :
    (∃ v s' t' z', v < w ∧ fX6_readVariable fu x3 t z3 z4 z5 = some (nI v, x3, t') ∧ fX9_takesVariable fu z = some (nI v, z') ∧ SY L B s' x3 t' z' ∧ ZJ z z' ∧ s < s' ∧ z'.1 23 = nI s) ∨
    (∃ x3' z', fX6_readVariable fu x3 t z3 z4 z5 = some (-1, x3', t) ∧ fX9_takesVariable fu z = some (0, z') ∧ FL x3' z' ∧ ZJ z z' ∧ XC x3 x3') := by
  obtain ⟨ox, oz, ts, mt, p, ps, hp, rp⟩ := h
  have ts' := ts
  obtain ⟨hL, l1, hb, sL, nw, s3, k2, e4⟩ := ts'
  obtain ⟨z1, e1, zj, v21, v22, v19, v23, v24⟩ := m_word mt hp (by omega) hf
  rw [rp] at v19 v23 v24
  have oz1 : OKz z1 := oz.of v21 v22
  have g1 := run_ge (q := isL) (B := B) (L := L) s
  have g2 := run_le (q := isL) (B := B) sL
  have hwz1 : z1.2 1 0 = nI w := by rw [zj.1]; exact hwz
  unfold fX6_readVariable fX9_takesVariable fX7_letter
  rw [m_ok oz, bd_s, if_pos rfl, e1, bd_s, v24, v23, k2]
  by_cases c1 : run isL B L s - s = 1
  · have c0 : s < run isL B L s := by omega
    have eE : tkE B L s = run isL B L s := by unfold tkE; rw [if_pos c0]
    have isl := ((run_lt sL).mp c0)
    obtain ⟨v, hv, ev⟩ := let_v isl.2
    rw [eE] at e4
    have zb : z1.2 15 s = B s := by rw [zj.1]; exact mt.2.2 s isl.1
    rw [if_neg (fun q => q (tk1.mpr c0)), e4, s3, pk_sub g1, c1, if_neg (fun q => q rfl), l1, if_pos (nI_lt isl.1 (by omega)), inB_I (by omega) (by omega), gd_t, nI_clamp (by omega), hb s isl.1, ev, bd_s, if_pos (show nI 1 = (1 : Int32) from rfl), gd_t, zb, ev, nm_d, wide_e hwz1, bd_s, jn_d, if_pos (fun e => (nI_m1 (a := v) (by omega)).mp e), hw3]
    simp only [nm_d]
    by_cases c2 : v < w
    · rw [if_pos (nI_lt c2 (by omega)), if_pos (nI_lt c2 (by omega)), m_ok oz1, bd_s, if_pos rfl]
      obtain ⟨t', f1, f2, f3⟩ := t_advance hL l1 hb g2 e4 hf
      have gg := run_ge (q := isW) (B := B) (L := L) (run isL B L s)
      rw [f1, bd_s]
      exact Or.inl ⟨v, _, t', z1, c2, rfl, rfl, ⟨ox, oz1, f2, zj.mt mt, _, gg, v19, rfl⟩, zj, by omega, v23⟩
    · rw [if_neg (nI_nlt (by omega) (by omega)), if_neg (nI_nlt (by omega) (by omega)), c_fail ox, m_fails oz1, bd_s, bd_s, m_bad (fl_bad (by omega)), bd_s, if_neg (by decide)]
      exact Or.inr ⟨_, _, rfl, rfl, FL.mk (by decide) (by omega) v19 (by omega), zj.tr (ZJ.fail _ _ _), XC.fail _ _ _⟩
  · rw [if_neg (show ¬ nI (run isL B L s - s) = 1 from nI_ne (b := 1) c1 (by omega) (by omega)), m_fails oz1, bd_s]
    have fin : ∃ x3' z', (bd (some (-1 : Int32)) (fun (r_1 : Int32) => (if ¬ r_1 = (-1 : Int32) then (if r_1 < (z3.1 6) then bd (fX7_advance fu t) (fun (z_3 : OS) => some (r_1, x3, z_3)) else bd (fX6_fail fu x3 t z3 z4 z5 (2 : Int32) (t.1 3)) (fun (z_5 : OS) => some ((-1 : Int32), z_5, t))) else bd (fX6_fail fu x3 t z3 z4 z5 (1 : Int32) (t.1 3)) (fun (z_7 : OS) => some ((-1 : Int32), z_7, t))))) = some (-1, x3', t) ∧ some ((0 : Int32), sI (sI z1 21 (nI s)) 22 1) = some (0, z') ∧ FL x3' z' ∧ ZJ z z' ∧ XC x3 x3' := by
      rw [bd_s, if_neg (fun q => q rfl), c_fail ox, bd_s, s3]
      exact ⟨_, _, rfl, rfl, FL.mk (by decide) (by omega) v19 (by omega), zj.tr (ZJ.fail _ _ _), XC.fail _ _ _⟩
    by_cases c0 : s < run isL B L s
    · have eE : tkE B L s = run isL B L s := by unfold tkE; rw [if_pos c0]
      rw [eE] at e4
      rw [if_neg (fun q => q (tk1.mpr c0)), e4, s3, pk_sub g1, if_pos (show ¬ nI (run isL B L s - s) = 1 from nI_ne (b := 1) c1 (by omega) (by omega))]
      rw [s3] at fin
      exact Or.inr fin
    · rw [if_pos (fun q => c0 (tk1.mp q))]
      exact Or.inr fin
theorem p_var_f {z : OS} (h : z.1 21 ≠ -1) (fu : Nat) : fX9_takesVariable fu z = some (0, z) := by
  unfold fX9_takesVariable
  rw [m_bad h, bd_s, if_neg (by decide)]
