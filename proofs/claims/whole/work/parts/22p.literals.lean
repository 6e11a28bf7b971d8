/-! Part II: the literals of a clause, the two readers in step. -/
theorem FL.skip {x3 z z' : OS} (h : FL x3 z) (s : SJ 19 z z') {p : Nat} (h9 : p < 9000) (hp : z'.1 19 = nI p) : FL x3 z' := by
  obtain ⟨a, b, c, d, -⟩ := h
  exact ⟨by rw [s.2 22 (by omega)]; exact a, by rw [s.2 21 (by omega)]; exact b, c, by rw [s.2 21 (by omega)]; exact d, p, h9, hp⟩
theorem FL.skips {x3 z : OS} {L fu : Nat} {B : Nat → Int32} (h : FL x3 z) (mt : MT L B z) (hf : 5000 ≤ fu) : ∃ z', fX9_skips fu z = some z' ∧ SJ 19 z z' ∧ FL x3 z' := by
  obtain ⟨p, h9, hp⟩ := h.2.2.2.2
  obtain ⟨z', e, s, v⟩ := m_skips mt hp h9 hf
  have hL := mt.1
  refine ⟨z', e, s, h.skip s ?_ v⟩
  rcases Nat.lt_or_ge p L with g | g
  · have := run_le (q := isW) (B := B) (show p ≤ L by omega)
    omega
  · rw [run_L g]; exact h9
def rlv (fu : Nat) (z3 z4 z5 : OS) (t0_16 : Int32) (x3 z2_28 : OS) : Option (OS × OS) := nm (z2_28.1 3) (fun (v2_1 : Int32) => bd (fX6_readVariable fu x3 z2_28 z3 z4 z5) (fun (w_5 : Int32 × OS × OS) => nm w_5.1 (fun (r_2 : Int32) => nm w_5.2.1 (fun (z_3 : OS) => nm w_5.2.2 (fun (z_4 : OS) => (if ¬ r_2 = (-1 : Int32) then nm ((1 : Int32) <<< (r_2 &&& (31 : Int32))) (fun (v4_7 : Int32) => jn (κ := Int32 → Option ((OS) × (OS))) (fun (t0_67 : Int32) => (if (t0_67 &&& v4_7) = (0 : Int32) then (if t0_16 = (0 : Int32) then nm (sI z_3 7 ((z_3.1 7) ||| v4_7)) (fun (z_8 : OS) => some (z_8, z_4)) else nm (sI z_3 8 ((z_3.1 8) ||| v4_7)) (fun (z_9 : OS) => some (z_9, z_4))) else bd (fX6_fail fu z_3 z_4 z3 z4 z5 (3 : Int32) v2_1) (fun (z_10 : OS) => some (z_10, z_4)))) (fun j67 => (if t0_16 = (0 : Int32) then j67 (z_3.1 8) else j67 (z_3.1 7)))) else some (z_3, z_4)))))))
theorem lit_eq0 (fu : Nat) (x3 t z3 z4 z5 : OS) (h : ¬ t.1 2 = 4) : fX6_readLiteral fu x3 t z3 z4 z5 = rlv fu z3 z4 z5 0 x3 t := by
  unfold fX6_readLiteral
  rw [jn_d, if_pos h]; rfl
theorem lit_eq1 (fu : Nat) (x3 t z3 z4 z5 : OS) (h : t.1 2 = 4) : fX6_readLiteral fu x3 t z3 z4 z5 = bd (fX7_advance fu t) (fun t' => rlv fu z3 z4 z5 1 x3 t') := by
  unfold fX6_readLiteral
  rw [jn_d, if_neg (fun q => q h)]; rfl
theorem rlv_bad {fu : Nat} {x3 t z3 z4 z5 x' t' : OS} (t0 : Int32) (h : fX6_readVariable fu x3 t z3 z4 z5 = some (-1, x', t')) : rlv fu z3 z4 z5 t0 x3 t = some (x', t') := by
  unfold rlv
  rw [nm_d, h, bd_s]
  simp only [nm_d, not_true_eq_false, if_false]
theorem rlv_0 {fu v : Nat} {x3 t z3 z4 z5 t' : OS} (ox : OKx x3) (hv : v < 12) (h : fX6_readVariable fu x3 t z3 z4 z5 = some (nI v, x3, t')) : rlv fu z3 z4 z5 0 x3 t = if bt (x3.1 8) v = false then some (sI x3 7 (x3.1 7 ||| bit v), t') else some (sI (sI x3 4 3) 5 (t.1 3), t') := by
  have ab := and_bit (p := x3.1 8) (v := v) (by omega)
  unfold rlv
  rw [nm_d, h, bd_s]
  simp only [nm_d, jn_d, nI_m1 (show v < 2 ^ 31 by omega), not_false_eq_true, if_true, ab, c_fail ox, bd_s]
  rfl
theorem rlv_1 {fu v : Nat} {x3 t z3 z4 z5 t' : OS} (ox : OKx x3) (hv : v < 12) (h : fX6_readVariable fu x3 t z3 z4 z5 = some (nI v, x3, t')) : rlv fu z3 z4 z5 1 x3 t = if bt (x3.1 7) v = false then some (sI x3 8 (x3.1 8 ||| bit v), t') else some (sI (sI x3 4 3) 5 (t.1 3), t') := by
  have ab := and_bit (p := x3.1 7) (v := v) (by omega)
  unfold rlv
  rw [nm_d, h, bd_s]
  simp only [nm_d, jn_d, nI_m1 (show v < 2 ^ 31 by omega), not_false_eq_true, if_true, ab, c_fail ox, bd_s, i1_ne0, if_false]
  rfl
def mlv (fu : Nat) (j : OS → Option OS) (n : Nat) (t0_57 : Int32) (z_11 : OS) : Option OS := bd (fX9_takesVariable fu z_11) (fun (w_14 : Int32 × OS) => nm w_14.1 (fun (r_12 : Int32) => nm w_14.2 (fun (z_13 : OS) => jn (κ := Int32 → Option ((OS))) (fun (t0_90 : Int32) => bd (fX9_hasFailed fu z_13) (fun (r_16 : Int32) => jn (κ := OS → Option ((OS))) (fun (z1_122 : OS) => bd (fX9_hasFailed fu z1_122) (fun (r_18 : Int32) => jn (κ := OS → Option ((OS))) (fun (z1_139 : OS) => bd (fX9_skips fu z1_139) (fun (z_20 : OS) => lX9_takesLiterals_10 fu j n z_20)) (fun j139 => (if ¬ r_18 = (0 : Int32) then j139 z1_122 else bd (fX9_many fu z1_122) (fun (r_22 : Int32) => bd (fX9_puts fu z1_122 r_22 r_12 t0_90) (fun (z_24 : OS) => j139 z_24)))))) (fun j122 => (if ¬ r_16 = (0 : Int32) then j122 z_13 else bd (fX9_many fu z_13) (fun (r_26 : Int32) => bd (fX9_sign fu z_13 r_26 r_12) (fun (r_28 : Int32) => (if ¬ r_28 = ((3 : Int32) - t0_90) then j122 z_13 else bd (fX9_fails fu z_13 (z_13.1 23) (3 : Int32)) (fun (z_30 : OS) => j122 z_30)))))))) (fun j90 => (if t0_57 = (0 : Int32) then j90 (1 : Int32) else j90 (2 : Int32))))))
theorem mlit_eq {L fu p : Nat} {B : Nat → Int32} {z : OS} (oz : OKz z) (mt : MT L B z) (hp : z.1 19 = nI p) (h9 : p < 10000) (j : OS → Option OS) (n : Nat) : lX9_takesLiterals_10 fu j (n + 1) z = if ah B L p = 45 then mlv fu j n 1 (sI z 19 (nI (p + 1))) else if isL (ah B L p) = true then mlv fu j n 0 (sI z 19 (nI p)) else j z := by
  have e : isL (ah B L p) = (!decide (ah B L p < 97) && !decide (122 < ah B L p)) := rfl
  rw [lX9_takesLiterals_10, m_ok oz, bd_s, if_neg (fun q => q rfl), m_ahead mt hp h9, bd_s, jn_d, bd_s, jn_d]
  by_cases a : ah B L p = 45
  · rw [if_pos a, if_pos a, if_neg (fun q => q a)]
    simp only [jn_d, i1_ne0, if_false, hp, nI_1]
    rfl
  · rw [if_neg a, if_neg a, bd_s, c97, c122, in_e, bd_s, ← e]
    rcases Bool.eq_false_or_eq_true (isL (ah B L p)) with g | g
    · rw [g, if_neg (by decide), if_pos rfl, if_pos a]
      have : nI p + 0 = nI p := by simp
      simp only [jn_d, if_true, hp, this]
      rfl
    · rw [g, if_pos (by decide), if_neg (by decide)]
theorem mlv_bad {fu n : Nat} {j : OS → Option OS} {z z1 : OS} (t0 : Int32) (h : fX9_takesVariable fu z = some (0, z1)) (hb : z1.1 21 ≠ -1) : mlv fu j n t0 z = bd (fX9_skips fu z1) (fun z_20 => lX9_takesLiterals_10 fu j n z_20) := by
  unfold mlv
  rw [h, bd_s]
  simp only [nm_d, jn_d, m_bad hb, bd_s, i1_ne0, not_false_eq_true, if_true]
  by_cases g : t0 = 0
  · rw [if_pos g]
  · rw [if_neg g]
theorem mlv_clash {fu n v c s : Nat} {j : OS → Option OS} {z z1 : OS} {sg : Int32} (t0 : Int32) (h : fX9_takesVariable fu z = some (nI v, z1)) (oz : OKz z1) (hm : z1.2 1 1 = nI c) (h6 : c ≤ 60) (hv : v < 12) (hs : sg = if t0 = 0 then 1 else 2) (h23 : z1.1 23 = nI s) (hs2 : s < 2 ^ 31) (hc : z1.2 1 (2 + c * 12 + v) = 3 - sg) : mlv fu j n t0 z = bd (fX9_skips fu (sI (sI z1 21 (nI s)) 22 3)) (fun z_20 => lX9_takesLiterals_10 fu j n z_20) := by
  have b := fl_bad (z := z1) (c := 3) hs2
  have si := sign_e z1 fu h6 hv
  unfold mlv
  rw [h, bd_s]
  by_cases g : t0 = 0
  · rw [if_pos g] at hs
    subst hs
    simp only [nm_d, jn_d, g, if_true, m_ok oz, bd_s, many_e hm, si, hc, not_true_eq_false, if_false, m_fails oz, h23, m_bad b, i1_ne0, not_false_eq_true]
  · rw [if_neg g] at hs
    subst hs
    simp only [nm_d, jn_d, g, if_true, m_ok oz, bd_s, many_e hm, si, hc, not_true_eq_false, if_false, m_fails oz, h23, m_bad b, i1_ne0, not_false_eq_true]
theorem mlv_put {fu n v c : Nat} {j : OS → Option OS} {z z1 : OS} {sg : Int32} (t0 : Int32) (h : fX9_takesVariable fu z = some (nI v, z1)) (oz : OKz z1) (hm : z1.2 1 1 = nI c) (h6 : c ≤ 60) (hv : v < 12) (hs : sg = if t0 = 0 then 1 else 2) (hc : ¬ z1.2 1 (2 + c * 12 + v) = 3 - sg) : mlv fu j n t0 z = bd (fX9_skips fu (sA z1 1 (upd (z1.2 1) (2 + c * 12 + v) sg))) (fun z_20 => lX9_takesLiterals_10 fu j n z_20) := by
  have si := sign_e z1 fu h6 hv
  unfold mlv
  rw [h, bd_s]
  by_cases g : t0 = 0
  · rw [if_pos g] at hs
    subst hs
    simp only [nm_d, jn_d, g, if_true, m_ok oz, bd_s, many_e hm, si, hc, not_false_eq_true, if_false, puts_e z1 fu h6 hv, not_true_eq_false]
  · rw [if_neg g] at hs
    subst hs
    simp only [nm_d, jn_d, g, if_true, m_ok oz, bd_s, many_e hm, si, hc, not_false_eq_true, if_false, puts_e z1 fu h6 hv, not_true_eq_false]
/-- what reading literals may change -/
def ZL (c : Nat) (z z' : OS) : Prop := (∀ i, (i = 19 ∨ i = 21 ∨ i = 22 ∨ i = 23 ∨ i = 24) ∨ z'.1 i = z.1 i) ∧ (∀ j, j ≠ 1 → z'.2 j = z.2 j) ∧ ∀ i, reg c i → z'.2 1 i = z.2 1 i
theorem ZL.rf {c : Nat} {z : OS} : ZL c z z := ⟨fun _ => Or.inr rfl, fun _ _ => rfl, fun _ _ => rfl⟩
theorem ZL.tr {c : Nat} {z z' z'' : OS} (a : ZL c z z') (b : ZL c z' z'') : ZL c z z'' := ⟨fun i => (a.1 i).elim Or.inl (fun e => (b.1 i).elim Or.inl (fun f => Or.inr (f.trans e))), fun j h => (b.2.1 j h).trans (a.2.1 j h), fun i h => (b.2.2 i h).trans (a.2.2 i h)⟩
theorem ZJ.zl {c : Nat} {z z' : OS} (a : ZJ z z') : ZL c z z' := ⟨a.2, fun j _ => by rw [a.1], fun i _ => by rw [a.1]⟩
theorem SA.zl {c : Nat} {z z' : OS} (a : SA c z z') : ZL c z z' := ⟨fun i => Or.inr (by rw [a.1]), a.2.1, a.2.2⟩
theorem ZL.i {c : Nat} {z z' : OS} (a : ZL c z z') (i : Nat) (h : ¬ (i = 19 ∨ i = 21 ∨ i = 22 ∨ i = 23 ∨ i = 24) := by decide) : z'.1 i = z.1 i := (a.1 i).resolve_left h
theorem ZL.mt {c L : Nat} {B : Nat → Int32} {z z' : OS} (a : ZL c z z') (h : MT L B z) : MT L B z' := ⟨h.1, (a.i 20).trans h.2.1, fun i hi => by rw [a.2.1 15 (by omega)]; exact h.2.2 i hi⟩
theorem ZL.qr {w c : Nat} {y z z' : OS} (a : ZL c z z') (h : QR w c y (z.2 1)) : QR w c y (z'.2 1) := h.cong a.2.2
theorem XC.tr {a b d : OS} (h : XC a b) (g : XC b d) : XC a d := Eq.trans (b := b.1 6) g h
/-- literals are read up to something else -/
theorem p_lits_l {L fu w c : Nat} {B : Nat → Int32} {y : OS} (hf : 5000 ≤ fu) (z4 z5 : OS) : ∀ (d s k nC nM : Nat) (x3 t z : OS) (P N : Int32), L - s < d → d < nC → d < nM → k ≤ s → SY L B s x3 t z → z.1 19 = nI s → x3.1 7 = P → x3.1 8 = N → OKm w P N → Row (z.2 1) c P N → QR w c y (z.2 1) →
    (∃ s' x3' t' z' P' N', lX6_readLiterals_12 fu y z4 z5 (fun a b => some (a, b)) nC (nI k) x3 t = some (x3', t') ∧ lX9_takesLiterals_10 fu (fun z => some z) nM z = some z' ∧ SY L B s' x3' t' z' ∧ s ≤ s' ∧ x3'.1 7 = P' ∧ x3'.1 8 = N' ∧ OKm w P' N' ∧ Row (z'.2 1) c P' N' ∧ ZL c z z' ∧ XC x3 x3') ∨
    (∃ x3' t' z', lX6_readLiterals_12 fu y z4 z5 (fun a b => some (a, b)) nC (nI k) x3 t = some (x3', t') ∧ lX9_takesLiterals_10 fu (fun z => some z) nM z = some z' ∧ FL x3' z' ∧ ZL c z z' ∧ XC x3 x3') := by
  intro d
  induction d with
  | zero => intro s k nC nM x3 t z P N h; omega
  | succ d ih =>
    intro s k nC nM x3 t z P N hd hC hM hk sy hp h7 h8 okm row qr
    obtain ⟨nC, rfl⟩ : ∃ m, nC = m + 1 := ⟨nC - 1, by omega⟩
    obtain ⟨nM, rfl⟩ : ∃ m, nM = m + 1 := ⟨nM - 1, by omega⟩
    have sy' := sy
    obtain ⟨ox, oz, ts, mt, p, ps, hp0, rp⟩ := sy'
    have ts' := ts
    obtain ⟨hL, l1, hb, sL, nw, s3, k2, e4⟩ := ts'
    have h6 := qr.c60
    have h12 := qr.w12
    have w1 := qr.w1
    -- where both have failed
    have failed : ∀ (x1 t1 z1 : OS), FL x1 z1 → ZL c z z1 → XC x3 x1 → ∃ x3' t' z', lX6_readLiterals_12 fu y z4 z5 (fun a b => some (a, b)) nC (nI (k + 1)) x1 t1 = some (x3', t') ∧ (bd (fX9_skips fu z1) (fun z_20 => lX9_takesLiterals_10 fu (fun z => some z) nM z_20)) = some z' ∧ FL x3' z' ∧ ZL c z z' ∧ XC x3 x3' := by
      intro x1 t1 z1 f1 f2 f3
      obtain ⟨z2, e, sj, f4⟩ := f1.skips (f2.mt mt) hf
      obtain ⟨nC2, rfl⟩ : ∃ m, nC = m + 1 := ⟨nC - 1, by omega⟩
      obtain ⟨nM2, rfl⟩ : ∃ m, nM = m + 1 := ⟨nM - 1, by omega⟩
      refine ⟨x1, t1, z2, ?_, ?_, f4, f2.tr (sj.zj (by omega)).zl, f3⟩
      · rw [lX6_readLiterals_12]
        by_cases q : (500 : Int32) ≤ nI (k + 1)
        · rw [if_pos q]
        · rw [if_neg q, c_bad f1.2.2.1, bd_s, if_pos (by decide)]
      · rw [e, bd_s, lX9_takesLiterals_10, m_bad f4.2.2.2.1, bd_s, if_pos (by decide)]
    -- where a variable v of sign sg is read from a token at s1
    have step : ∀ (s1 : Nat) (t1 z1 : OS) (t0 : Int32), s ≤ s1 → s1 ≤ L → SY L B s1 x3 t1 z1 → ZJ z z1 → (t0 = 0 ∨ t0 = 1) →
        (∃ s' x3' t' z' P' N', (bd (rlv fu y z4 z5 t0 x3 t1) (fun w_7 => lX6_readLiterals_12 fu y z4 z5 (fun a b => some (a, b)) nC (nI (k + 1)) w_7.1 w_7.2)) = some (x3', t') ∧ mlv fu (fun z => some z) nM t0 z1 = some z' ∧ SY L B s' x3' t' z' ∧ s ≤ s' ∧ x3'.1 7 = P' ∧ x3'.1 8 = N' ∧ OKm w P' N' ∧ Row (z'.2 1) c P' N' ∧ ZL c z z' ∧ XC x3 x3') ∨
        (∃ x3' t' z', (bd (rlv fu y z4 z5 t0 x3 t1) (fun w_7 => lX6_readLiterals_12 fu y z4 z5 (fun a b => some (a, b)) nC (nI (k + 1)) w_7.1 w_7.2)) = some (x3', t') ∧ mlv fu (fun z => some z) nM t0 z1 = some z' ∧ FL x3' z' ∧ ZL c z z' ∧ XC x3 x3') := by
      intro s1 t1 z1 t0 hs1 hs1L sy1 zj1 ht0
      have qr1 : QR w c y (z1.2 1) := by rw [zj1.1]; exact qr
      have row1 : Row (z1.2 1) c P N := by rw [zj1.1]; exact row
      rcases p_var sy1 hf z4 z5 (z3 := y) qr.xw qr1.mw h12 with ⟨v, s2, t2, z2, hv, a1, a2, sy2, zj2, lt2, h23⟩ | ⟨x3', z2, a1, a2, fl, zj2, xc⟩
      · have oz2 := sy2.2.1
        have qr2 : QR w c y (z2.2 1) := by rw [zj2.1]; exact qr1
        have row2 : Row (z2.2 1) c P N := by rw [zj2.1]; exact row1
        have hL2 := sy2.2.2.1.2.2.2.1
        have ts1 : t1.1 3 = nI s1 := sy1.2.2.1.2.2.2.2.2.1
        have vb : Vm w (bit v) := Vm.bit hv (by omega)
        have sg := row2 v (by omega)
        have bb : ∀ i, bt (bit v) i = decide (i = v) := fun i => by unfold bit; exact bt_bit (by omega)
        -- the opposite literal stands there already
        have clash : ∀ sgn : Int32, sgn = (if t0 = 0 then 1 else 2) → z2.2 1 (2 + c * 12 + v) = 3 - sgn → rlv fu y z4 z5 t0 x3 t1 = some (sI (sI x3 4 3) 5 (t1.1 3), t2) → ∃ x3' t' z', (bd (rlv fu y z4 z5 t0 x3 t1) (fun w_7 => lX6_readLiterals_12 fu y z4 z5 (fun a b => some (a, b)) nC (nI (k + 1)) w_7.1 w_7.2)) = some (x3', t') ∧ mlv fu (fun z => some z) nM t0 z1 = some z' ∧ FL x3' z' ∧ ZL c z z' ∧ XC x3 x3' := by
          intro sgn hsg hcl hr
          rw [hr, bd_s, mlv_clash t0 a2 oz2 qr2.mc h6 (by omega) hsg h23 (by omega) hcl, ts1]
          obtain ⟨p2, hp2a, hp2, -⟩ := sy2.2.2.2.2
          exact failed _ _ _ (FL.mk (by decide) (by omega) hp2 (by omega)) (((zj1.tr zj2).tr (ZJ.fail _ _ _)).zl) (XC.fail _ _ _)
        have put : ∀ (sgn P' N' : Int32) (x4 : OS), sgn = (if t0 = 0 then 1 else 2) → ¬ z2.2 1 (2 + c * 12 + v) = 3 - sgn → rlv fu y z4 z5 t0 x3 t1 = some (x4, t2) → x4.1 4 = x3.1 4 → x4.1 5 = x3.1 5 → x4.1 6 = x3.1 6 → x4.1 7 = P' → x4.1 8 = N' → OKm w P' N' → SG P' N' v = sgn → (∀ i, i ≠ v → SG P' N' i = SG P N i) →
            (∃ s' x3' t' z' P' N', (bd (rlv fu y z4 z5 t0 x3 t1) (fun w_7 => lX6_readLiterals_12 fu y z4 z5 (fun a b => some (a, b)) nC (nI (k + 1)) w_7.1 w_7.2)) = some (x3', t') ∧ mlv fu (fun z => some z) nM t0 z1 = some z' ∧ SY L B s' x3' t' z' ∧ s ≤ s' ∧ x3'.1 7 = P' ∧ x3'.1 8 = N' ∧ OKm w P' N' ∧ Row (z'.2 1) c P' N' ∧ ZL c z z' ∧ XC x3 x3') ∨
            (∃ x3' t' z', (bd (rlv fu y z4 z5 t0 x3 t1) (fun w_7 => lX6_readLiterals_12 fu y z4 z5 (fun a b => some (a, b)) nC (nI (k + 1)) w_7.1 w_7.2)) = some (x3', t') ∧ mlv fu (fun z => some z) nM t0 z1 = some z' ∧ FL x3' z' ∧ ZL c z z' ∧ XC x3 x3') := by
          intro sgn P' N' x4 hsg hcl hr u4 u5 u6 u7 u8 okm' sv so
          have zl3 : ZL c z2 (sA z2 1 (upd (z2.2 1) (2 + c * 12 + v) sgn)) := (SA.put h6 z2 (by omega) _).zl
          have mt3 := zl3.mt sy2.2.2.2.1
          obtain ⟨p2, hp2a, hp2, rp2⟩ := sy2.2.2.2.2
          obtain ⟨z4', e5, sj5, v5⟩ := m_skips mt3 (show (sA z2 1 (upd (z2.2 1) (2 + c * 12 + v) sgn)).1 19 = nI p2 from hp2) (by omega) hf
          rw [rp2] at v5
          have zl4 : ZL c z z4' := (((zj1.tr zj2).zl).tr zl3).tr (sj5.zj (by omega)).zl
          have row4 : Row (z4'.2 1) c P' N' := by
            intro i hi
            rw [sj5.1, sA_s]
            by_cases g : i = v
            · subst g; rw [pk_us, sv]
            · rw [pk_un (by omega), row2 i hi, so i g]
          have sy4 : SY L B s2 x4 t2 z4' := ⟨⟨u4.trans ox.1, u5.trans ox.2⟩, oz2.of (sj5.2 21 (by omega)) (sj5.2 22 (by omega)), sy2.2.2.1, zl4.mt mt, s2, Nat.le_refl _, v5, by
            have := sy2.2.2.1.2.2.2.2.1
            exact run_same this⟩
          rw [hr, bd_s, mlv_put t0 a2 oz2 qr2.mc h6 (by omega) hsg hcl, e5, bd_s]
          rcases ih s2 (k + 1) nC nM x4 t2 z4' P' N' (by omega) (by omega) (by omega) (by omega) sy4 v5 u7 u8 okm' row4 (zl4.qr qr) with ⟨s', x3', t', z', P2, N2, b1, b2', b3, b4, b5, b6, b7, b8, b9, b10⟩ | ⟨x3', t', z', b1, b2', b3, b4, b5⟩
          · exact Or.inl ⟨s', x3', t', z', P2, N2, b1, b2', b3, by omega, b5, b6, b7, b8, zl4.tr b9, XC.tr (show XC x3 x4 from u6) b10⟩
          · exact Or.inr ⟨x3', t', z', b1, b2', b3, zl4.tr b4, XC.tr (show XC x3 x4 from u6) b5⟩
        rcases ht0 with ht0 | ht0
        · subst ht0
          have r0 := rlv_0 (z4 := z4) (z5 := z5) ox (show v < 12 by omega) a1
          rw [h7, h8] at r0
          rcases Bool.eq_false_or_eq_true (bt N v) with g | g
          · rw [g, if_neg (by decide)] at r0
            exact Or.inr (clash 1 rfl (by rw [sg, d31]; exact (SG_2 okm v).mpr g) r0)
          · rw [g, if_pos rfl] at r0
            have okm' : OKm w (P ||| bit v) N := ⟨okm.1.or vb, okm.2.1, fun i hi => by
              rw [b_or, bb, Bool.or_eq_true, decide_eq_true_eq] at hi
              rcases hi with hi | hi
              · exact okm.2.2 i hi
              · rw [hi]; exact g⟩
            refine put 1 (P ||| bit v) N _ rfl (by rw [sg, d31]; exact fun q => by rw [(SG_2 okm v).mp q] at g; cases g) r0 (sI_o _ _ (by omega)) (sI_o _ _ (by omega)) (sI_o _ _ (by omega)) (sI_s _ _ _) (by rw [sI_o _ _ (by omega)]; exact h8) okm' ?_ (fun i hi => ?_)
            · rw [SG_1, b_or, bb, decide_eq_true rfl, Bool.or_true]
            · unfold SG; rw [b_or, bb, decide_eq_false hi, Bool.or_false]
        · subst ht0
          have r1 := rlv_1 (z4 := z4) (z5 := z5) ox (show v < 12 by omega) a1
          rw [h7, h8] at r1
          rcases Bool.eq_false_or_eq_true (bt P v) with g | g
          · rw [g, if_neg (by decide)] at r1
            exact Or.inr (clash 2 rfl (by rw [sg, d32, SG_1]; exact g) r1)
          · rw [g, if_pos rfl] at r1
            have okm' : OKm w P (N ||| bit v) := ⟨okm.1, okm.2.1.or vb, fun i hi => by
              rw [b_or, bb, okm.2.2 i hi, Bool.false_or]
              apply decide_eq_false
              intro q; subst q; rw [hi] at g; cases g⟩
            refine put 2 P (N ||| bit v) _ rfl (by rw [sg, d32, SG_1, g]; decide) r1 (sI_o _ _ (by omega)) (sI_o _ _ (by omega)) (sI_o _ _ (by omega)) (by rw [sI_o _ _ (by omega)]; exact h7) (sI_s _ _ _) okm' ?_ (fun i hi => ?_)
            · rw [SG_2 okm', b_or, bb, decide_eq_true rfl, Bool.or_true]
            · unfold SG; rw [b_or, bb, decide_eq_false hi, Bool.or_false]
      · rw [rlv_bad t0 a1, bd_s, mlv_bad t0 a2 fl.2.2.2.1]
        exact Or.inr (failed _ _ _ fl ((zj1.tr zj2).zl) xc)
    have stop : tkK B L s ≠ 1 → tkK B L s ≠ 4 → (lX6_readLiterals_12 fu y z4 z5 (fun a b => some (a, b)) (nC + 1) (nI k) x3 t = some (x3, t)) := by
      intro q1 q4
      rw [lX6_readLiterals_12]
      by_cases q : (500 : Int32) ≤ nI k
      · rw [if_pos q]
      · rw [if_neg q, c_ok ox, bd_s, if_neg (fun q => q rfl), jn_d, k2, if_neg q1, if_neg q4]
    rw [mlit_eq oz mt hp (by omega)]
    by_cases m4 : s < L ∧ B s = 45
    · have ea : ah B L s = 45 := by unfold ah; rw [if_pos m4.1]; exact m4.2
      have t4 : t.1 2 = 4 := by rw [k2]; exact (tk4 sL).mpr m4
      have eE : tkE B L s = s + 1 := by
        unfold tkE
        rw [if_neg (fun q => by have := ((run_lt sL).mp q).2; rw [m4.2] at this; exact absurd this (by decide)), if_neg (fun q => by have := ((run_lt sL).mp q).2; rw [m4.2] at this; exact absurd this (by decide)), if_pos m4.1]
      rw [eE] at e4
      obtain ⟨t1, f1, f2, f3⟩ := t_advance hL l1 hb (show s + 1 ≤ L by omega) e4 hf
      have gg := run_ge (q := isW) (B := B) (L := L) (s + 1)
      have gl := run_le (q := isW) (B := B) (show s + 1 ≤ L by omega)
      have sy1 : SY L B (run isW B L (s + 1)) x3 t1 (sI z 19 (nI (s + 1))) := ⟨ox, oz.of (sI_o _ _ (by omega)) (sI_o _ _ (by omega)), f2, (ZJ.si z 19 _ (by omega)).mt mt, s + 1, gg, sI_s _ _ _, rfl⟩
      rw [if_pos ea, lX6_readLiterals_12, if_neg (show ¬ (500 : Int32) ≤ nI k from nI_ge (b := 500) (by omega) (by omega)), c_ok ox, bd_s, if_neg (fun q => q rfl), jn_d, if_neg (by rw [t4]; decide), if_pos t4, lit_eq1 _ _ _ _ _ _ t4, f1, bd_s]
      simp only [nm_d, nI_1]
      exact step _ t1 _ 1 (by omega) gl sy1 (ZJ.si z 19 _ (by omega)) (Or.inr rfl)
    · have ne4 : tkK B L s ≠ 4 := fun q => m4 ((tk4 sL).mp q)
      have ea : ah B L s ≠ 45 := by
        unfold ah
        by_cases q : s < L
        · rw [if_pos q]; exact fun g => m4 ⟨q, g⟩
        · rw [if_neg q]; decide
      rw [if_neg ea]
      by_cases m1 : s < run isL B L s
      · obtain ⟨lt, il⟩ := (run_lt sL).mp m1
        have ea2 : ah B L s = B s := by unfold ah; rw [if_pos lt]
        have t1 : t.1 2 = 1 := by rw [k2]; exact tk1.mpr m1
        have sy1 : SY L B s x3 t (sI z 19 (nI s)) := ⟨ox, oz.of (sI_o _ _ (by omega)) (sI_o _ _ (by omega)), ts, (ZJ.si z 19 _ (by omega)).mt mt, s, Nat.le_refl s, sI_s _ _ _, run_same nw⟩
        rw [ea2, if_pos il, lX6_readLiterals_12, if_neg (show ¬ (500 : Int32) ≤ nI k from nI_ge (b := 500) (by omega) (by omega)), c_ok ox, bd_s, if_neg (fun q => q rfl), jn_d, if_pos t1, lit_eq0 _ _ _ _ _ _ (by rw [t1]; decide)]
        simp only [nm_d, nI_1]
        exact step s t _ 0 (Nat.le_refl s) sL sy1 (ZJ.si z 19 _ (by omega)) (Or.inl rfl)
      · have ne1 : tkK B L s ≠ 1 := fun q => m1 (tk1.mp q)
        have ea3 : isL (ah B L s) = false := by
          unfold ah
          by_cases q : s < L
          · rw [if_pos q]
            exact Bool.eq_false_iff.mpr (fun g => m1 ((run_lt sL).mpr ⟨q, g⟩))
          · rw [if_neg q]; decide
        rw [stop ne1 ne4, if_neg (by rw [ea3]; decide)]
        exact Or.inl ⟨s, x3, t, z, P, N, rfl, rfl, sy, Nat.le_refl s, h7, h8, okm, row, ZL.rf, rfl⟩
/-- the literals of a clause, from nothing on -/
theorem p_lits {L fu w c s : Nat} {B : Nat → Int32} {y x3 t z : OS} (h : SY L B s x3 t z) (hf : 5000 ≤ fu) (z4 z5 : OS) (qr : QR w c y (z.2 1)) :
    (∃ s' x3' t' z' P' N', fX6_readLiterals fu x3 t y z4 z5 = some (x3', t') ∧ fX9_takesLiterals fu z = some z' ∧ SY L B s' x3' t' z' ∧ s ≤ s' ∧ x3'.1 7 = P' ∧ x3'.1 8 = N' ∧ OKm w P' N' ∧ Row (z'.2 1) c P' N' ∧ ZL c z z' ∧ XC x3 x3') ∨
    (∃ x3' t' z', fX6_readLiterals fu x3 t y z4 z5 = some (x3', t') ∧ fX9_takesLiterals fu z = some z' ∧ FL x3' z' ∧ ZL c z z' ∧ XC x3 x3') := by
  obtain ⟨ox, oz, ts, mt, p, ps, hp, rp⟩ := h
  have hL := ts.1
  have sL := ts.2.2.2.1
  obtain ⟨z1, e1, sa1, r1⟩ := m_lays (fu := fu) 0 0 qr.c60 qr.mc hf
  have mt1 := sa1.zl.mt mt
  obtain ⟨z2, e2, sj2, v2⟩ := m_skips mt1 (show z1.1 19 = nI p by rw [sa1.1]; exact hp) (by omega) hf
  rw [rp] at v2
  have zl2 : ZL c z z2 := sa1.zl.tr (sj2.zj (by omega)).zl
  have sy2 : SY L B s (sI (sI x3 7 0) 8 0) t z2 := ⟨⟨by rw [sI_o _ _ (by omega), sI_o _ _ (by omega)]; exact ox.1, by rw [sI_o _ _ (by omega), sI_o _ _ (by omega)]; exact ox.2⟩, oz.of (by rw [sj2.2 21 (by omega), sa1.1]) (by rw [sj2.2 22 (by omega), sa1.1]), ts, zl2.mt mt, s, Nat.le_refl s, v2, run_same ts.2.2.2.2.1⟩
  have xc : XC x3 (sI (sI x3 7 0) 8 0) := by
    show (sI (sI x3 7 0) 8 0).1 6 = x3.1 6
    rw [sI_o _ _ (by omega), sI_o _ _ (by omega)]
  have r2 : Row (z2.2 1) c 0 0 := by rw [sj2.1]; exact r1
  have E1 : fX6_readLiterals fu x3 t y z4 z5 = lX6_readLiterals_12 fu y z4 z5 (fun a b => some (a, b)) fu (nI 0) (sI (sI x3 7 0) 8 0) t := rfl
  have E2 : fX9_takesLiterals fu z = lX9_takesLiterals_10 fu (fun z => some z) fu z2 := by
    unfold fX9_takesLiterals
    rw [e1, bd_s, e2]; rfl
  rw [E1, E2]
  rcases p_lits_l hf z4 z5 (L - s + 1) s 0 fu fu (sI (sI x3 7 0) 8 0) t z2 0 0 (by omega) (by omega) (by omega) (by omega) sy2 v2 (by rw [sI_o _ _ (by omega), sI_s]) (sI_s _ _ _) ⟨Vm.zero, Vm.zero, fun v hv => by rw [b_0] at hv; cases hv⟩ r2 (zl2.qr qr) with ⟨s', x3', t', z', P', N', b1, b2', b3, b4, b5, b6, b7, b8, b9, b10⟩ | ⟨x3', t', z', b1, b2', b3, b4, b5⟩
  · exact Or.inl ⟨s', x3', t', z', P', N', b1, b2', b3, b4, b5, b6, b7, b8, zl2.tr b9, XC.tr xc b10⟩
  · exact Or.inr ⟨x3', t', z', b1, b2', b3, zl2.tr b4, XC.tr xc b5⟩
