/-! Part II: the command 'expect', the two readers in step. -/
def eT (fu : Nat) (p1 v2_331 : Int32) (z1_331 : OS) : Option OS := jn (κ := OS → Option ((OS))) (fun (z1_341 : OS) => bd (fX9_isEnd fu z1_341) (fun (w_7 : Int32 × OS) => nm w_7.1 (fun (r_5 : Int32) => nm w_7.2 (fun (z_6 : OS) => some z_6)))) (fun j341 => (if ¬ v2_331 = (0 : Int32) then j341 z1_331 else bd (fX9_fails fu z1_331 p1 (5 : Int32)) (fun (z_9 : OS) => j341 z_9)))
theorem exp_eq (fu : Nat) (z : OS) (p1 : Int32) : fX9_takesExpect fu z p1 = bd (fX9_takesWord fu z) (fun (z_1 : OS) => bd (fX9_isToken fu z_1 (lt 9)) (fun (r_3 : Int32) => ((if r_3 = (0 : Int32) then bd (fX9_isToken fu z_1 (lt 10)) (fun (r_11 : Int32) => (if r_11 = (0 : Int32) then bd (fX9_isToken fu z_1 (lt 11)) (fun (r_13 : Int32) => (if r_13 = (0 : Int32) then bd (fX9_isToken fu z_1 (lt 12)) (fun (r_15 : Int32) => (if r_15 = (0 : Int32) then bd (fX9_isToken fu z_1 (lt 14)) (fun (r_17 : Int32) => (if r_17 = (0 : Int32) then bd (fX9_isToken fu z_1 (lt 15)) (fun (r_19 : Int32) => (if r_19 = (0 : Int32) then bd (fX9_isToken fu z_1 (lt 16)) (fun (r_21 : Int32) => (if r_21 = (0 : Int32) then bd (fX9_isToken fu z_1 (lt 17)) (fun (r_23 : Int32) => (if r_23 = (0 : Int32) then bd (fX9_isToken fu z_1 (lt 13)) (fun (r_25 : Int32) => (if r_25 = (0 : Int32) then bd (fX9_fails fu z_1 (z_1.1 23) (1 : Int32)) (fun (z_27 : OS) => eT fu p1 (0 : Int32) z_27) else bd (fX9_takesLiterals fu z_1) (fun (z_29 : OS) => bd (fX9_hasFailed fu z_29) (fun (r_31 : Int32) => jn (κ := Int32 → Option ((OS))) (fun (t0_318 : Int32) => eT fu p1 t0_318 z_29) (fun j318 => jn (κ := Option ((OS))) (j318 (0 : Int32)) (fun j317 => (if ¬ r_31 = (0 : Int32) then j317 else bd (fX9_many fu z_29) (fun (r_33 : Int32) => bd (fX9_follows fu z_29 r_33 (-1 : Int32)) (fun (r_35 : Int32) => (if r_35 = (0 : Int32) then j317 else j318 (1 : Int32))))))))))) else bd (fX9_takesClause fu z_1) (fun (w_39 : Int32 × OS) => nm w_39.1 (fun (r_37 : Int32) => nm w_39.2 (fun (z_38 : OS) => bd (fX9_number fu z_38 (0 : Int32) (9999 : Int32)) (fun (w_43 : Int32 × OS) => nm w_43.1 (fun (r_41 : Int32) => nm w_43.2 (fun (z_42 : OS) => bd (fX9_hasFailed fu z_42) (fun (r_45 : Int32) => jn (κ := Int32 → OS → Option ((OS))) (fun (t0_276 : Int32) (z1_276 : OS) => eT fu p1 t0_276 z1_276) (fun j276 => jn (κ := OS → Option ((OS))) (fun (z1_275 : OS) => j276 (0 : Int32) z1_275) (fun j275 => (if ¬ r_45 = (0 : Int32) then j275 z_42 else bd (fX9_depthAt fu z_42 r_37) (fun (w_49 : Int32 × OS) => nm w_49.1 (fun (r_47 : Int32) => nm w_49.2 (fun (z_48 : OS) => (if ¬ r_47 = r_41 then j275 z_48 else j276 (1 : Int32) z_48)))))))))))))))) else bd (fX9_takesClause fu z_1) (fun (w_53 : Int32 × OS) => nm w_53.1 (fun (r_51 : Int32) => nm w_53.2 (fun (z_52 : OS) => bd (fX9_number fu z_52 (0 : Int32) (9999 : Int32)) (fun (w_57 : Int32 × OS) => nm w_57.1 (fun (r_55 : Int32) => nm w_57.2 (fun (z_56 : OS) => bd (fX9_hasFailed fu z_56) (fun (r_59 : Int32) => jn (κ := Int32 → Option ((OS))) (fun (t0_225 : Int32) => eT fu p1 t0_225 z_56) (fun j225 => jn (κ := Option ((OS))) (j225 (0 : Int32)) (fun j224 => (if ¬ r_59 = (0 : Int32) then j224 else bd (fX9_literals fu z_56 r_51) (fun (r_61 : Int32) => (if ¬ r_61 = r_55 then j224 else j225 (1 : Int32))))))))))))))) else bd (fX9_number fu z_1 (0 : Int32) (9999 : Int32)) (fun (w_65 : Int32 × OS) => nm w_65.1 (fun (r_63 : Int32) => nm w_65.2 (fun (z_64 : OS) => bd (fX9_subsumed fu z_64) (fun (r_67 : Int32) => jn (κ := Int32 → Option ((OS))) (fun (t0_174 : Int32) => eT fu p1 t0_174 z_64) (fun j174 => (if ¬ r_63 = r_67 then j174 (0 : Int32) else j174 (1 : Int32))))))))) else bd (fX9_isLiteralFixed fu z_1) (fun (w_71 : Int32 × OS) => nm w_71.1 (fun (r_69 : Int32) => nm w_71.2 (fun (z_70 : OS) => eT fu p1 r_69 z_70))))) else bd (fX9_empty fu z_1) (fun (r_73 : Int32) => jn (κ := Int32 → Option ((OS))) (fun (t0_122 : Int32) => eT fu p1 t0_122 z_1) (fun j122 => (if ¬ r_73 = (-1 : Int32) then j122 (0 : Int32) else j122 (1 : Int32)))))) else bd (fX9_empty fu z_1) (fun (r_75 : Int32) => jn (κ := Int32 → Option ((OS))) (fun (t0_95 : Int32) => eT fu p1 t0_95 z_1) (fun j95 => (if r_75 = (-1 : Int32) then j95 (0 : Int32) else j95 (1 : Int32)))))) else bd (fX9_number fu z_1 (0 : Int32) (9999 : Int32)) (fun (w_79 : Int32 × OS) => nm w_79.1 (fun (r_77 : Int32) => nm w_79.2 (fun (z_78 : OS) => bd (fX9_models fu z_78) (fun (r_81 : Int32) => jn (κ := Int32 → Option ((OS))) (fun (t0_68 : Int32) => eT fu p1 t0_68 z_78) (fun j68 => (if ¬ r_77 = r_81 then j68 (0 : Int32) else j68 (1 : Int32))))))))) else bd (fX9_number fu z_1 (0 : Int32) (9999 : Int32)) (fun (w_85 : Int32 × OS) => nm w_85.1 (fun (r_83 : Int32) => nm w_85.2 (fun (z_84 : OS) => bd (fX9_many fu z_84) (fun (r_87 : Int32) => jn (κ := Int32 → Option ((OS))) (fun (t0_35 : Int32) => eT fu p1 t0_35 z_84) (fun j35 => (if ¬ r_83 = r_87 then j35 (0 : Int32) else j35 (1 : Int32))))))))))) := rfl
/-- behind a condition: what both sides do with its answer -/
def ETs (L : Nat) (B : Nat → Int32) (w s fu : Nat) (y x3 z : OS) (r : Int32) (xa ta pa : OS) (v : Int32) (za z4 : OS) : Prop := ∃ xb x3' t' z', (¬ r = 0 → xb = xa) ∧ (r = 0 → fX6_fail fu xa ta y z4 pa 5 (nI s) = some xb) ∧ fX6_readSemicolon fu xb ta y z4 pa = some (x3', t') ∧ eT fu (nI s) v za = some z' ∧ RES L B w s x3 x3' t' y z z'
theorem eT_ok {L w s s3 fu c : Nat} {B : Nat → Int32} {x3 xa ta pa y z za z4 : OS} (hf : 5000 ≤ fu) (sy : SY L B s3 xa ta za) (is : Bool) (hs : s < s3) (qr : QR w c y (za.2 1)) (fq : FQ z za) (xc : XC x3 xa) : ETs L B w s fu y x3 z (b2 is) xa ta pa (b2 is) za z4 := by
  have hL := sy.2.2.1.1
  have sL := sy.2.2.1.2.2.2.1
  obtain ⟨p, ps, hp, rp⟩ := sy.2.2.2.2
  unfold ETs eT
  cases is
  · have fl : FL (sI (sI xa 4 5) 5 (nI s)) (sI (sI za 21 (nI s)) 22 5) := FL.mk (by decide) (by omega) hp (by omega)
    refine ⟨_, _, _, sI (sI za 21 (nI s)) 22 5, fun q => absurd rfl q, fun _ => c_fail sy.1 fu ta y z4 pa 5 (nI s), semi_f fl.2.2.1 _ _ _ _ _, ?_, Or.inr fl, xc.tr (XC.fail _ _ _), fq.tr (ZJ.fail _ _ _).fq⟩
    simp only [jn_d, b2_f, not_true_eq_false, if_false, m_fails sy.2.1, bd_s, isEnd_f fl.2.2.2.1, nm_d]
  · rcases p_semi sy hf y z4 pa with ⟨s', t', z', b1, b2', sy', zj, lt'⟩ | ⟨x', z', b1, b2', fl, zj, xc'⟩
    · refine ⟨xa, xa, t', z', fun _ => rfl, fun q => absurd q (by decide), b1, ?_, Or.inl ⟨s', sy', by omega, c, by rw [zj.1]; exact qr⟩, xc, fq.tr zj.fq⟩
      simp only [jn_d, b2_t, i1_ne0, not_false_eq_true, if_true, b2', bd_s, nm_d]
    · refine ⟨xa, x', ta, z', fun _ => rfl, fun q => absurd q (by decide), b1, ?_, Or.inr fl, xc.tr xc', fq.tr zj.fq⟩
      simp only [jn_d, b2_t, i1_ne0, not_false_eq_true, if_true, b2', bd_s, nm_d]
theorem eT_f {L w s fu : Nat} {B : Nat → Int32} {x3 xa ta pa y z za z4 : OS} (fl : FL xa za) (r v : Int32) (fq : FQ z za) (xc : XC x3 xa) : ETs L B w s fu y x3 z r xa ta pa v za z4 := by
  unfold ETs eT
  refine ⟨xa, xa, ta, za, fun _ => rfl, fun _ => c_fail2 fl.2.2.1 _ _ _ _ _ _ _, semi_f fl.2.2.1 _ _ _ _ _, ?_, Or.inr fl, xc, fq⟩
  rw [jn_d]
  by_cases q : v = 0
  · rw [if_neg (fun g => g q), m_fails2 fl.2.2.2.1, bd_s]
    simp only [isEnd_f fl.2.2.2.1, bd_s, nm_d]
  · rw [if_pos q]
    simp only [isEnd_f fl.2.2.2.1, bd_s, nm_d]
theorem pw_no {fu : Nat} {x3 t z3 z4 z5 : OS} {tx : List Int32} (h : fX7_isWord fu t tx = some 0) : fX6_passWord fu x3 t z3 z4 z5 tx = some (0, t) := by
  unfold fX6_passWord
  rw [h, bd_s, if_pos rfl, isZ_0, gd_t]
theorem pw_yes {fu : Nat} {x3 t t' z3 z4 z5 : OS} {tx : List Int32} (h : fX7_isWord fu t tx = some 1) (ha : fX7_advance fu t = some t') : fX6_passWord fu x3 t z3 z4 z5 tx = some (1, t') := by
  unfold fX6_passWord
  rw [h, bd_s, if_neg (by decide), ha, bd_s, isZ_1, gd_t]
theorem p_val {L s fu : Nat} {B : Nat → Int32} {x3 t z : OS} (h : SY L B s x3 t z) (hf : 5000 ≤ fu) (z3 z4 z5 : OS) :
    (∃ v s' t' z', fX6_readValue fu x3 t z3 z4 z5 = some (v, x3, t') ∧ fX9_number fu z (0 : Int32) (9999 : Int32) = some (v, z') ∧ SY L B s' x3 t' z' ∧ ZJ z z' ∧ s < s') ∨
    (∃ x3' z' v, fX6_readValue fu x3 t z3 z4 z5 = some (-1, x3', t) ∧ fX9_number fu z (0 : Int32) (9999 : Int32) = some (v, z') ∧ FL x3' z' ∧ ZJ z z' ∧ XC x3 x3') := by
  have E : fX6_readValue fu x3 t z3 z4 z5 = fX6_readNumber fu x3 t z3 z4 z5 (nI 0) 9999 := by
    unfold fX6_readValue
    show bd (fX6_readNumber fu x3 t z3 z4 z5 (nI 0) 9999) _ = _
    cases fX6_readNumber fu x3 t z3 z4 z5 (nI 0) 9999 <;> rfl
  rw [E]
  rcases p_num (lo := 0) h hf z3 z4 z5 9999 (by omega) with ⟨v, s', t', z', a1, a2, a3, a4, a5, -⟩ | g
  · exact Or.inl ⟨v, s', t', z', a1, a2, a3, a4, a5⟩
  · exact Or.inr g
theorem p_val_f {fu : Nat} {x3 z : OS} (h : FL x3 z) (t z3 z4 z5 : OS) : fX6_readValue fu x3 t z3 z4 z5 = some (-1, x3, t) ∧ fX9_number fu z (0 : Int32) (9999 : Int32) = some (0, z) := by
  have E : fX6_readValue fu x3 t z3 z4 z5 = fX6_readNumber fu x3 t z3 z4 z5 (nI 0) 9999 := by
    unfold fX6_readValue
    show bd (fX6_readNumber fu x3 t z3 z4 z5 (nI 0) 9999) _ = _
    cases fX6_readNumber fu x3 t z3 z4 z5 (nI 0) 9999 <;> rfl
  rw [E]
  exact p_num_f h fu t z3 z4 z5 _ _
/-- the literal behind 'fixed' -/
theorem p_fixed {L s fu w c : Nat} {B : Nat → Int32} {x3 t y z : OS} (z4 z5 : OS) (hf : 5000 ≤ fu) (sy : SY L B s x3 t z) (qr : QR w c y (z.2 1)) :
    (∃ is s' xa ta pa za, fX6_readFixed fu x3 t y z4 z5 = some (b2 is, xa, ta, pa) ∧ fX9_isLiteralFixed fu z = some (b2 is, za) ∧ SY L B s' xa ta za ∧ s < s' ∧ QR w c y (za.2 1) ∧ FQ z za ∧ XC x3 xa) ∨
    (∃ r v xa ta pa za, fX6_readFixed fu x3 t y z4 z5 = some (r, xa, ta, pa) ∧ fX9_isLiteralFixed fu z = some (v, za) ∧ FL xa za ∧ FQ z za ∧ XC x3 xa) := by
  have h12 := qr.w12
  obtain ⟨ox, oz, ts, mt, p, ps, hp, rp⟩ := sy
  have ts' := ts
  obtain ⟨hL, l1, hb, sL, nw, s3, k2, e4⟩ := ts'
  obtain ⟨z1, e1, sj1, v1⟩ := m_skips mt hp (by omega) hf
  rw [rp] at v1
  have oz1 : OKz z1 := oz.of (sj1.2 21 (by omega)) (sj1.2 22 (by omega))
  have zj1 : ZJ z z1 := sj1.zj (by omega)
  have mt1 := zj1.mt mt
  have ox0 : OKx (sI (sI x3 7 0) 8 0) := ⟨by rw [sI_o _ _ (by omega), sI_o _ _ (by omega)]; exact ox.1, by rw [sI_o _ _ (by omega), sI_o _ _ (by omega)]; exact ox.2⟩
  have x7 : (sI (sI x3 7 0) 8 0).1 7 = 0 := by rw [sI_o _ _ (by omega), sI_s]
  have x8 : (sI (sI x3 7 0) 8 0).1 8 = 0 := sI_s _ _ _
  have xc0 : XC x3 (sI (sI x3 7 0) 8 0) := by
    show (sI (sI x3 7 0) 8 0).1 6 = x3.1 6
    rw [sI_o _ _ (by omega), sI_o _ _ (by omega)]
  generalize hx0 : sI (sI x3 7 0) 8 0 = x0 at *
  -- from a token at s1 on, sign t0
  have step : ∀ (s1 : Nat) (t1 z2 : OS) (t0 : Int32), s ≤ s1 → SY L B s1 x0 t1 z2 → ZJ z z2 → (t0 = 0 ∨ t0 = 1) →
      (∃ is s' xa ta pa za, (bd (rlv fu y z4 z5 t0 x0 t1) (fun (w_5 : OS × OS) => nm w_5.1 (fun (z_3 : OS) => nm w_5.2 (fun (z_4 : OS) => bd (fX4_run fu z5 y) (fun (z_7 : OS) => (if ¬ ((z_3.1 7) &&& ((z_7.1 0) ^^^ (-1 : Int32))) = (0 : Int32) then gd (isZ (0 : Int32)) (some ((0 : Int32), z_3, z_4, z_7)) else (if ¬ ((z_3.1 8) &&& ((z_7.1 1) ^^^ (-1 : Int32))) = (0 : Int32) then gd (isZ (0 : Int32)) (some ((0 : Int32), z_3, z_4, z_7)) else gd (isZ (1 : Int32)) (some ((1 : Int32), z_3, z_4, z_7))))))))) = some (b2 is, xa, ta, pa) ∧ (bd (fX9_takesVariable fu z2) (fun (w_8 : Int32 × OS) => nm w_8.1 (fun (r_6 : Int32) => nm w_8.2 (fun (z_7 : OS) => bd (fX9_hasFailed fu z_7) (fun (r_10 : Int32) => (if r_10 = (0 : Int32) then bd (fX9_propagates fu z_7) (fun (z_12 : OS) => bd (fX9_isFixed fu z_12 r_6 (if t0 = 0 then 1 else 2)) (fun (r_14 : Int32) => gd (isZ r_14) (some (r_14, z_12)))) else gd (isZ (0 : Int32)) (some ((0 : Int32), z_7)))))))) = some (b2 is, za) ∧ SY L B s' xa ta za ∧ s < s' ∧ QR w c y (za.2 1) ∧ FQ z za ∧ XC x3 xa) ∨
      (∃ r v xa ta pa za, (bd (rlv fu y z4 z5 t0 x0 t1) (fun (w_5 : OS × OS) => nm w_5.1 (fun (z_3 : OS) => nm w_5.2 (fun (z_4 : OS) => bd (fX4_run fu z5 y) (fun (z_7 : OS) => (if ¬ ((z_3.1 7) &&& ((z_7.1 0) ^^^ (-1 : Int32))) = (0 : Int32) then gd (isZ (0 : Int32)) (some ((0 : Int32), z_3, z_4, z_7)) else (if ¬ ((z_3.1 8) &&& ((z_7.1 1) ^^^ (-1 : Int32))) = (0 : Int32) then gd (isZ (0 : Int32)) (some ((0 : Int32), z_3, z_4, z_7)) else gd (isZ (1 : Int32)) (some ((1 : Int32), z_3, z_4, z_7))))))))) = some (r, xa, ta, pa) ∧ (bd (fX9_takesVariable fu z2) (fun (w_8 : Int32 × OS) => nm w_8.1 (fun (r_6 : Int32) => nm w_8.2 (fun (z_7 : OS) => bd (fX9_hasFailed fu z_7) (fun (r_10 : Int32) => (if r_10 = (0 : Int32) then bd (fX9_propagates fu z_7) (fun (z_12 : OS) => bd (fX9_isFixed fu z_12 r_6 (if t0 = 0 then 1 else 2)) (fun (r_14 : Int32) => gd (isZ r_14) (some (r_14, z_12)))) else gd (isZ (0 : Int32)) (some ((0 : Int32), z_7)))))))) = some (v, za) ∧ FL xa za ∧ FQ z za ∧ XC x3 xa) := by
    intro s1 t1 z2 t0 hs1 sy1 zj2 ht0
    have qr2 : QR w c y (z2.2 1) := by rw [zj2.1]; exact qr
    rcases p_var sy1 hf z4 z5 (z3 := y) qr.xw qr2.mw h12 with ⟨v, s2, t2, z3, hv, a1, a2, sy2, zj3, lt2, -⟩ | ⟨x4, z3, a1, a2, fl, zj3, xc⟩
    · have qr3 : QR w c y (z3.2 1) := by rw [zj3.1]; exact qr2
      obtain ⟨T, F, K, zc, z6, r1, r2, r3, r4, ⟨q1, q2, q3, q4, q5⟩, -⟩ := q_prop qr3 hf z5
      have sf : SF0 z3 z6 := ⟨fun i => (q2 i).elim (fun h => Or.inl (by omega)) Or.inr, fun j => Or.inr (by rw [q1])⟩
      have f1 := m_isFixed1 (z := z6) fu (v := v) (by omega)
      have f2 := m_isFixed2 (z := z6) fu (v := v) (by omega)
      rw [q3] at f1
      rw [q4] at f2
      have b0 : ∀ q : Int32, ((0 : Int32) &&& q) = 0 := fun q => by simp
      have o0 : ∀ q : Int32, ((0 : Int32) ||| q) = q := fun q => by simp
      have zr : QR w c y (z6.2 1) := by rw [q1]; exact qr3
      rcases ht0 with ht0 | ht0
      · subst ht0
        have lr0 := rlv_0 (z4 := z4) (z5 := z5) ox0 (show v < 12 by omega) a1
        rw [x7, x8, b_0, if_pos rfl, o0] at lr0
        refine Or.inl ⟨bt T v, s2, sI x0 7 (bit v), t2, zc, z6, ?_, ?_, ?_, by omega, zr, (zj2.tr zj3).fq.tr sf.fq, ?_⟩
        · have u8 : (sI x0 7 (bit v)).1 8 = 0 := by rw [sI_o _ _ (by omega)]; exact x8
          simp only [lr0, bd_s, nm_d, r1, sI_s, u8, r2, r3, b0, not_true_eq_false, if_false, isZ_0, isZ_1, gd_t]
          by_cases g : (bit v &&& (T ^^^ (-1))) = 0
          · rw [if_neg (fun q => q g), (bit_in (by omega)).mp g]; rfl
          · rw [if_pos g, Bool.eq_false_iff.mpr (fun q => g ((bit_in (by omega)).mpr q))]; rfl
        · simp only [a2, bd_s, nm_d, m_ok sy2.2.1, if_true, r4, f1, isZ_b, gd_t]
        · obtain ⟨o1, o2, o3, o4, o5⟩ := sy2.sf0 sf
          exact ⟨⟨by rw [sI_o _ _ (by omega)]; exact o1.1, by rw [sI_o _ _ (by omega)]; exact o1.2⟩, o2, o3, o4, o5⟩
        · refine xc0.tr ?_
          show (sI x0 7 (bit v)).1 6 = x0.1 6
          exact sI_o _ _ (by omega)
      · subst ht0
        have lr1 := rlv_1 (z4 := z4) (z5 := z5) ox0 (show v < 12 by omega) a1
        rw [x7, x8, b_0, if_pos rfl, o0] at lr1
        refine Or.inl ⟨bt F v, s2, sI x0 8 (bit v), t2, zc, z6, ?_, ?_, ?_, by omega, zr, (zj2.tr zj3).fq.tr sf.fq, ?_⟩
        · have u7 : (sI x0 8 (bit v)).1 7 = 0 := by rw [sI_o _ _ (by omega)]; exact x7
          simp only [lr1, bd_s, nm_d, r1, sI_s, u7, r2, r3, b0, not_true_eq_false, if_false, isZ_0, isZ_1, gd_t]
          by_cases g : (bit v &&& (F ^^^ (-1))) = 0
          · rw [if_neg (fun q => q g), (bit_in (by omega)).mp g]; rfl
          · rw [if_pos g, Bool.eq_false_iff.mpr (fun q => g ((bit_in (by omega)).mpr q))]; rfl
        · simp only [a2, bd_s, nm_d, m_ok sy2.2.1, if_true, i1_ne0, if_false, r4, f2, isZ_b, gd_t]
        · obtain ⟨o1, o2, o3, o4, o5⟩ := sy2.sf0 sf
          exact ⟨⟨by rw [sI_o _ _ (by omega)]; exact o1.1, by rw [sI_o _ _ (by omega)]; exact o1.2⟩, o2, o3, o4, o5⟩
        · refine xc0.tr ?_
          show (sI x0 8 (bit v)).1 6 = x0.1 6
          exact sI_o _ _ (by omega)
    · obtain ⟨T, F, K, zc, z6, r1, -⟩ := q_prop qr2 hf z5
      have lb := rlv_bad (z4 := z4) (z5 := z5) t0 a1
      right
      simp only [lb, bd_s, nm_d, r1, a2, m_bad fl.2.2.2.1, i1_ne0, if_false, isZ_0, isZ_1, gd_t]
      by_cases g1 : ((x4.1 7) &&& ((zc.1 0) ^^^ (-1 : Int32))) = 0
      · by_cases g2 : ((x4.1 8) &&& ((zc.1 1) ^^^ (-1 : Int32))) = 0
        · simp only [g1, g2, not_true_eq_false, if_false]
          exact ⟨_, _, _, _, _, _, rfl, rfl, fl, (zj2.tr zj3).fq, xc0.tr xc⟩
        · simp only [g1, g2, not_true_eq_false, if_false, not_false_eq_true, if_true]
          exact ⟨_, _, _, _, _, _, rfl, rfl, fl, (zj2.tr zj3).fq, xc0.tr xc⟩
      · simp only [g1, not_false_eq_true, if_true]
        exact ⟨_, _, _, _, _, _, rfl, rfl, fl, (zj2.tr zj3).fq, xc0.tr xc⟩
  unfold fX6_readFixed fX9_isLiteralFixed
  rw [e1, bd_s, m_ahead mt1 v1 (by omega), bd_s]
  simp only [nm_d, jn_d, hx0]
  by_cases m4 : s < L ∧ B s = 45
  · have ea : ah B L s = 45 := by unfold ah; rw [if_pos m4.1]; exact m4.2
    have t4 : t.1 2 = 4 := by rw [k2]; exact (tk4 sL).mpr m4
    have eE : tkE B L s = s + 1 := by
      unfold tkE
      rw [if_neg (fun q => by have := ((run_lt sL).mp q).2; rw [m4.2] at this; exact absurd this (by decide)), if_neg (fun q => by have := ((run_lt sL).mp q).2; rw [m4.2] at this; exact absurd this (by decide)), if_pos m4.1]
    rw [eE] at e4
    obtain ⟨t1, f1, f2, f3⟩ := t_advance hL l1 hb (show s + 1 ≤ L by omega) e4 hf
    have gg := run_ge (q := isW) (B := B) (L := L) (s + 1)
    have zj2 : ZJ z (sI z1 19 (nI (s + 1))) := zj1.tr (ZJ.si z1 19 _ (by omega))
    have sy1 : SY L B (run isW B L (s + 1)) x0 t1 (sI z1 19 (nI (s + 1))) := ⟨ox0, oz1.of (sI_o _ _ (by omega)) (sI_o _ _ (by omega)), f2, zj2.mt mt, s + 1, gg, sI_s _ _ _, rfl⟩
    rw [lit_eq1 _ _ _ _ _ _ t4, f1, bd_s, ea, v1]
    simp only [not_true_eq_false, if_false, i1_ne0, nI_1]
    exact step _ t1 _ 1 (by omega) sy1 zj2 (Or.inr rfl)
  · have ne4 : ¬ t.1 2 = 4 := fun q => m4 ((tk4 sL).mp (k2.symm.trans q))
    have ea : ah B L s ≠ 45 := by
      unfold ah
      by_cases q : s < L
      · rw [if_pos q]; exact fun g => m4 ⟨q, g⟩
      · rw [if_neg q]; decide
    have n0 : nI s + 0 = nI s := by simp
    have zj2 : ZJ z (sI z1 19 (nI s)) := zj1.tr (ZJ.si z1 19 _ (by omega))
    have sy1 : SY L B s x0 t (sI z1 19 (nI s)) := ⟨ox0, oz1.of (sI_o _ _ (by omega)) (sI_o _ _ (by omega)), ts, zj2.mt mt, s, Nat.le_refl s, sI_s _ _ _, run_same nw⟩
    rw [lit_eq0 _ _ _ _ _ _ ne4, v1]
    simp only [ea, not_false_eq_true, if_true, n0]
    exact step s t _ 0 (Nat.le_refl s) sy1 zj2 (Or.inl rfl)
theorem fixed_z {fu : Nat} {x3 t y z4 z5 xa ta pa : OS} {r : Int32} (h : fX6_readFixed fu x3 t y z4 z5 = some (r, xa, ta, pa)) : isZ r = true := by
  unfold fX6_readFixed at h
  obtain ⟨_, _, h⟩ := nm_ob h
  obtain ⟨_, _, h⟩ := nm_ob h
  obtain ⟨_, _, h⟩ := bd_ob h
  obtain ⟨_, _, h⟩ := nm_ob h
  obtain ⟨_, _, h⟩ := nm_ob h
  obtain ⟨_, _, h⟩ := bd_ob h
  split at h
  · rw [isZ_0, gd_t] at h
    have := (Prod.mk.inj (Option.some.inj h)).1
    rw [← this]; exact isZ_0
  · split at h
    · rw [isZ_0, gd_t] at h
      have := (Prod.mk.inj (Option.some.inj h)).1
      rw [← this]; exact isZ_0
    · rw [isZ_1, gd_t] at h
      have := (Prod.mk.inj (Option.some.inj h)).1
      rw [← this]; exact isZ_1
/-- 'expect' -/
theorem p_expect {L s s1 fu w c : Nat} {B : Nat → Int32} {x3 t1 y z : OS} (z4 z5 : OS) (hf : 5000 ≤ fu) (sy : SY L B s1 x3 t1 z) (hs : s < s1) (qr : QR w c y (z.2 1)) :
    ∃ r xa ta pa v za, fX6_readCondition fu x3 t1 y z4 z5 = some (r, xa, ta, pa) ∧ fX9_takesExpect fu z (nI s) = eT fu (nI s) v za ∧ ETs L B w s fu y x3 z r xa ta pa v za z4 := by
  have h6 := qr.c60
  have hc := qr.xc
  have sy0 := sy
  obtain ⟨ox, oz, ts, mt, p, ps, hp, rp⟩ := sy0
  have ts' := ts
  obtain ⟨hL, l1, hb, sL, nw, s3, k2, e4⟩ := ts'
  obtain ⟨z1, e1, zj, v21, v22, v19, v23, v24⟩ := m_word mt hp (by omega) hf
  rw [rp] at v19 v23 v24
  have oz1 : OKz z1 := oz.of v21 v22
  have mt1 := zj.mt mt
  have g1 := run_ge (q := isL) (B := B) (L := L) s1
  have g2 := run_le (q := isL) (B := B) sL
  have qr1 : QR w c y (z1.2 1) := by rw [zj.1]; exact qr
  have SY2 : s1 < run isL B L s1 → ∃ t2, fX7_advance fu t1 = some t2 ∧ SY L B (run isW B L (run isL B L s1)) x3 t2 z1 ∧ s1 < run isW B L (run isL B L s1) := fun a => by
    have eE : tkE B L s1 = run isL B L s1 := by unfold tkE; rw [if_pos a]
    rw [eE] at e4
    obtain ⟨t2, f1, f2, f3⟩ := t_advance hL l1 hb g2 e4 hf
    have gg := run_ge (q := isW) (B := B) (L := L) (run isL B L s1)
    exact ⟨t2, f1, ⟨ox, oz1, f2, mt1, _, gg, v19, rfl⟩, by omega⟩
  have TK : ∀ tx : List Int32, tx.length < 500 → fX9_isToken fu z1 tx = some (b2 (wd B s1 (run isL B L s1 - s1) tx)) := fun tx hx => m_isTok mt1 v23 v24 (by omega) hx hf
  have WK : ∀ tx : List Int32, 0 < tx.length → tx.length < 500 → fX7_isWord fu t1 tx = some (b2 (wd B s1 (run isL B L s1 - s1) tx)) := fun tx h0 hx => t_isWord ts h0 hx hf
  have LEN : ∀ tx : List Int32, wd B s1 (run isL B L s1 - s1) tx = true → run isL B L s1 - s1 = tx.length := fun tx h => by
    unfold wd at h
    rw [Bool.and_eq_true, decide_eq_true_eq] at h; exact h.1
  have NO : ∀ tx : List Int32, 0 < tx.length → tx.length < 500 → wd B s1 (run isL B L s1 - s1) tx = false → fX9_isToken fu z1 tx = some 0 ∧ fX6_passWord fu x3 t1 y z4 z5 tx = some (0, t1) := fun tx h0 hx h => by
    have a := TK tx hx
    have b := WK tx h0 hx
    rw [h] at a b
    exact ⟨a, pw_no b⟩
  have YES : ∀ tx : List Int32, 0 < tx.length → tx.length < 500 → wd B s1 (run isL B L s1 - s1) tx = true → ∃ t2, fX9_isToken fu z1 tx = some 1 ∧ fX6_passWord fu x3 t1 y z4 z5 tx = some (1, t2) ∧ SY L B (run isW B L (run isL B L s1)) x3 t2 z1 ∧ s1 < run isW B L (run isL B L s1) := fun tx h0 hx h => by
    have a := TK tx hx
    have b := WK tx h0 hx
    rw [h] at a b
    have l := LEN tx h
    obtain ⟨t2, f1, f2, f3⟩ := SY2 (by omega)
    exact ⟨t2, a, pw_yes b f1, f2, f3⟩
  have fq1 := zj.fq
  rw [exp_eq, e1, bd_s]
  unfold fX6_readCondition
  rcases Bool.eq_false_or_eq_true (wd B s1 (run isL B L s1 - s1) (lt 9)) with h9 | h9
  · obtain ⟨t2, y1, y2, S2, lt2⟩ := YES (lt 9) (by decide) (by decide) h9
    rcases p_val S2 hf y z4 z5 with ⟨v, s4, t4, z4', a1, a2, sy4, zj4, lt4⟩ | ⟨x4, z4', v, a1, a2, fl, zj4, xc⟩
    · have qr4 : QR w c y (z4'.2 1) := by rw [zj4.1]; exact qr1
      by_cases q : v = nI c
      · simp only [y1, y2, bd_s, nm_d, jn_d, if_true, i1_ne0, if_false, a1, a2, many_e qr4.mc, hc, q, not_true_eq_false, isZ_1, gd_t]
        exact ⟨_, _, _, _, _, _, rfl, rfl, eT_ok hf sy4 true (by omega) qr4 (fq1.tr zj4.fq) rfl⟩
      · simp only [y1, y2, bd_s, nm_d, jn_d, if_true, i1_ne0, if_false, a1, a2, many_e qr4.mc, hc, q, not_false_eq_true, isZ_0, gd_t]
        exact ⟨_, _, _, _, _, _, rfl, rfl, eT_ok hf sy4 false (by omega) qr4 (fq1.tr zj4.fq) rfl⟩
    · have qr4 : QR w c y (z4'.2 1) := by rw [zj4.1]; exact qr1
      have nc : ¬ (-1 : Int32) = nI c := fun q => (nI_m1 (a := c) (by omega)).mp q.symm
      by_cases q : v = nI c
      · simp only [y1, y2, bd_s, nm_d, jn_d, if_true, i1_ne0, if_false, a1, a2, many_e qr4.mc, hc, q, nc, not_true_eq_false, not_false_eq_true, isZ_0, gd_t]
        exact ⟨_, _, _, _, _, _, rfl, rfl, eT_f fl _ _ (fq1.tr zj4.fq) xc⟩
      · simp only [y1, y2, bd_s, nm_d, jn_d, if_true, i1_ne0, if_false, a1, a2, many_e qr4.mc, hc, q, nc, not_false_eq_true, isZ_0, gd_t]
        exact ⟨_, _, _, _, _, _, rfl, rfl, eT_f fl _ _ (fq1.tr zj4.fq) xc⟩
  · have n9 := NO (lt 9) (by decide) (by decide) h9
    rcases Bool.eq_false_or_eq_true (wd B s1 (run isL B L s1 - s1) (lt 10)) with h10 | h10
    · obtain ⟨t2, y1, y2, S2, lt2⟩ := YES (lt 10) (by decide) (by decide) h10
      rcases p_val S2 hf y z4 z5 with ⟨v, s4, t4, z4', a1, a2, sy4, zj4, lt4⟩ | ⟨x4, z4', v, a1, a2, fl, zj4, xc⟩
      · have qr4 : QR w c y (z4'.2 1) := by rw [zj4.1]; exact qr1
        have u1 := q_count (fu := fu) hc h6 hf qr.av (pw12 qr.w12).1 (pw12 qr.w12).2
        have u2 := m_models qr4 hf
        generalize hV : cn (fun a => mo y c (-1) (nI a)) (2 ^ w) 0 = V at u1 u2
        by_cases q : v = V
        · simp only [n9.1, n9.2, y1, y2, bd_s, nm_d, jn_d, if_true, i1_ne0, if_false, a1, a2, u1, u2, q, not_true_eq_false, isZ_1, gd_t]
          exact ⟨_, _, _, _, _, _, rfl, rfl, eT_ok hf sy4 true (by omega) qr4 (fq1.tr zj4.fq) rfl⟩
        · simp only [n9.1, n9.2, y1, y2, bd_s, nm_d, jn_d, if_true, i1_ne0, if_false, a1, a2, u1, u2, q, not_false_eq_true, isZ_0, gd_t]
          exact ⟨_, _, _, _, _, _, rfl, rfl, eT_ok hf sy4 false (by omega) qr4 (fq1.tr zj4.fq) rfl⟩
      · have qr4 : QR w c y (z4'.2 1) := by rw [zj4.1]; exact qr1
        have u1 := q_count (fu := fu) hc h6 hf qr.av (pw12 qr.w12).1 (pw12 qr.w12).2
        have u2 := m_models qr4 hf
        generalize hV : cn (fun a => mo y c (-1) (nI a)) (2 ^ w) 0 = V at u1 u2
        by_cases q : v = V <;> by_cases q2 : (-1 : Int32) = V
        all_goals
          simp only [n9.1, n9.2, y1, y2, bd_s, nm_d, jn_d, if_true, i1_ne0, if_false, a1, a2, u1, u2, q, q2, not_true_eq_false, not_false_eq_true, isZ_0, isZ_1, gd_t]
          exact ⟨_, _, _, _, _, _, rfl, rfl, eT_f fl _ _ (fq1.tr zj4.fq) xc⟩
    · have n10 := NO (lt 10) (by decide) (by decide) h10
      rcases Bool.eq_false_or_eq_true (wd B s1 (run isL B L s1 - s1) (lt 11)) with h11 | h11
      · obtain ⟨t2, y1, y2, S2, lt2⟩ := YES (lt 11) (by decide) (by decide) h11
        have u1 := q_indexOf (fu := fu) hc h6 hf 0 0
        have u2 := m_empty qr1 hf
        generalize hV : ff (fun i => decide (y.2 0 i = 0) && decide (y.2 1 i = 0)) c 0 = V at u1 u2
        by_cases q : V = -1
        · simp only [n9.1, n10.1, n9.2, n10.2, y1, y2, bd_s, nm_d, jn_d, if_true, i1_ne0, if_false, u1, u2, q, not_true_eq_false, isZ_0, gd_t]
          exact ⟨_, _, _, _, _, _, rfl, rfl, eT_ok hf S2 false (by omega) qr1 fq1 rfl⟩
        · simp only [n9.1, n10.1, n9.2, n10.2, y1, y2, bd_s, nm_d, jn_d, if_true, i1_ne0, if_false, u1, u2, q, not_false_eq_true, isZ_1, gd_t]
          exact ⟨_, _, _, _, _, _, rfl, rfl, eT_ok hf S2 true (by omega) qr1 fq1 rfl⟩
      · have n11 := NO (lt 11) (by decide) (by decide) h11
        rcases Bool.eq_false_or_eq_true (wd B s1 (run isL B L s1 - s1) (lt 12)) with h12 | h12
        · obtain ⟨t2, y1, y2, S2, lt2⟩ := YES (lt 12) (by decide) (by decide) h12
          have u1 := q_indexOf (fu := fu) hc h6 hf 0 0
          have u2 := m_empty qr1 hf
          generalize hV : ff (fun i => decide (y.2 0 i = 0) && decide (y.2 1 i = 0)) c 0 = V at u1 u2
          by_cases q : V = -1
          · simp only [n9.1, n10.1, n11.1, n9.2, n10.2, n11.2, y1, y2, bd_s, nm_d, jn_d, if_true, i1_ne0, if_false, u1, u2, q, not_true_eq_false, isZ_1, gd_t]
            exact ⟨_, _, _, _, _, _, rfl, rfl, eT_ok hf S2 true (by omega) qr1 fq1 rfl⟩
          · simp only [n9.1, n10.1, n11.1, n9.2, n10.2, n11.2, y1, y2, bd_s, nm_d, jn_d, if_true, i1_ne0, if_false, u1, u2, q, not_false_eq_true, isZ_0, gd_t]
            exact ⟨_, _, _, _, _, _, rfl, rfl, eT_ok hf S2 false (by omega) qr1 fq1 rfl⟩
        · have n12 := NO (lt 12) (by decide) (by decide) h12
          rcases Bool.eq_false_or_eq_true (wd B s1 (run isL B L s1 - s1) (lt 13)) with h13 | h13
          · obtain ⟨t2, y1, y2, S2, lt2⟩ := YES (lt 13) (by decide) (by decide) h13
            have h14 : wd B s1 (run isL B L s1 - s1) (lt 14) = false := Bool.eq_false_iff.mpr (fun q => by have a := LEN _ h13; have b := LEN _ q; rw [a] at b; exact absurd b (by decide))
            have n14 := NO (lt 14) (by decide) (by decide) h14
            have h15 : wd B s1 (run isL B L s1 - s1) (lt 15) = false := Bool.eq_false_iff.mpr (fun q => by have a := LEN _ h13; have b := LEN _ q; rw [a] at b; exact absurd b (by decide))
            have n15 := NO (lt 15) (by decide) (by decide) h15
            have h16 : wd B s1 (run isL B L s1 - s1) (lt 16) = false := Bool.eq_false_iff.mpr (fun q => by have a := LEN _ h13; have b := LEN _ q; rw [a] at b; exact absurd b (by decide))
            have n16 := NO (lt 16) (by decide) (by decide) h16
            have h17 : wd B s1 (run isL B L s1 - s1) (lt 17) = false := Bool.eq_false_iff.mpr (fun q => by have a := LEN _ h13; have b := LEN _ q; rw [a] at b; exact absurd b (by decide))
            have n17 := NO (lt 17) (by decide) (by decide) h17
            rcases p_lits S2 hf z4 z5 qr1 with ⟨s4, x4, t4, z4', P, N, a1, a2, sy4, a4, a5, a6, okm, row, zl, xc⟩ | ⟨x4, t4, z4', a1, a2, fl, zl, xc⟩
            · have qr4 := zl.qr qr1
              have u1 := q_imply (fu := fu) hc h6 hf qr.av (pw12 qr.w12).1 (pw12 qr.w12).2 P N (-1)
              have u2 := m_follows qr4 hf row h6 okm (-1)
              generalize hV : al (fun a => !(!tu P N (nI a) && mo y c (-1) (nI a))) (2 ^ w) 0 = V at u1 u2
              cases V
              · simp only [n9.1, n10.1, n11.1, n12.1, n9.2, n10.2, n11.2, n12.2, y1, y2, n14.1, n15.1, n16.1, n17.1, bd_s, nm_d, jn_d, if_true, i1_ne0, if_false, a1, a2, a5, a6, u1, u2, b2_f, m_ok sy4.2.1, many_e qr4.mc, not_true_eq_false, isZ_0, gd_t]
                exact ⟨_, _, _, _, _, _, rfl, rfl, eT_ok hf sy4 false (by omega) qr4 (fq1.tr zl.fq) xc⟩
              · simp only [n9.1, n10.1, n11.1, n12.1, n9.2, n10.2, n11.2, n12.2, y1, y2, n14.1, n15.1, n16.1, n17.1, bd_s, nm_d, jn_d, if_true, i1_ne0, if_false, a1, a2, a5, a6, u1, u2, b2_t, m_ok sy4.2.1, many_e qr4.mc, not_true_eq_false, isZ_1, gd_t]
                exact ⟨_, _, _, _, _, _, rfl, rfl, eT_ok hf sy4 true (by omega) qr4 (fq1.tr zl.fq) xc⟩
            · have u1 := q_imply (fu := fu) hc h6 hf qr.av (pw12 qr.w12).1 (pw12 qr.w12).2 (x4.1 7) (x4.1 8) (-1)
              simp only [n9.1, n10.1, n11.1, n12.1, n9.2, n10.2, n11.2, n12.2, y1, y2, n14.1, n15.1, n16.1, n17.1, bd_s, nm_d, jn_d, if_true, i1_ne0, if_false, a1, a2, u1, isZ_b, m_bad fl.2.2.2.1, not_false_eq_true, gd_t]
              exact ⟨_, _, _, _, _, _, rfl, rfl, eT_f fl _ _ (fq1.tr zl.fq) xc⟩
          · have n13 := NO (lt 13) (by decide) (by decide) h13
            rcases Bool.eq_false_or_eq_true (wd B s1 (run isL B L s1 - s1) (lt 14)) with h14 | h14
            · obtain ⟨t2, y1, y2, S2, lt2⟩ := YES (lt 14) (by decide) (by decide) h14
              rcases p_fixed z4 z5 hf S2 qr1 with ⟨is, s4, xa, ta, pa, za, a1, a2, sy4, lt4, qr4, fq, xc⟩ | ⟨r, v, xa, ta, pa, za, a1, a2, fl, fq, xc⟩
              · simp only [n9.1, n10.1, n11.1, n12.1, n13.1, n9.2, n10.2, n11.2, n12.2, n13.2, y1, y2, bd_s, nm_d, jn_d, if_true, i1_ne0, if_false, a1, a2, isZ_b, gd_t]
                exact ⟨_, _, _, _, _, _, rfl, rfl, eT_ok hf sy4 is (by omega) qr4 (fq1.tr fq) xc⟩
              · have zr := fixed_z a1
                simp only [n9.1, n10.1, n11.1, n12.1, n13.1, n9.2, n10.2, n11.2, n12.2, n13.2, y1, y2, bd_s, nm_d, jn_d, if_true, i1_ne0, if_false, a1, a2, zr, gd_t]
                exact ⟨_, _, _, _, _, _, rfl, rfl, eT_f fl _ _ (fq1.tr fq) xc⟩
            · have n14 := NO (lt 14) (by decide) (by decide) h14
              rcases Bool.eq_false_or_eq_true (wd B s1 (run isL B L s1 - s1) (lt 15)) with h15 | h15
              · obtain ⟨t2, y1, y2, S2, lt2⟩ := YES (lt 15) (by decide) (by decide) h15
                rcases p_val S2 hf y z4 z5 with ⟨v, s4, t4, z4', a1, a2, sy4, zj4, lt4⟩ | ⟨x4, z4', v, a1, a2, fl, zj4, xc⟩
                · have qr4 : QR w c y (z4'.2 1) := by rw [zj4.1]; exact qr1
                  have u1 := q_subsumed (fu := fu) hc h6 hf
                  have u2 := m_subsumed qr4 hf
                  generalize hV : cn (sb y c) c 0 = V at u1 u2
                  by_cases q : v = V
                  · simp only [n9.1, n10.1, n11.1, n12.1, n13.1, n14.1, n9.2, n10.2, n11.2, n12.2, n13.2, n14.2, y1, y2, bd_s, nm_d, jn_d, if_true, i1_ne0, if_false, a1, a2, u1, u2, q, not_true_eq_false, isZ_1, gd_t]
                    exact ⟨_, _, _, _, _, _, rfl, rfl, eT_ok hf sy4 true (by omega) qr4 (fq1.tr zj4.fq) rfl⟩
                  · simp only [n9.1, n10.1, n11.1, n12.1, n13.1, n14.1, n9.2, n10.2, n11.2, n12.2, n13.2, n14.2, y1, y2, bd_s, nm_d, jn_d, if_true, i1_ne0, if_false, a1, a2, u1, u2, q, not_false_eq_true, isZ_0, gd_t]
                    exact ⟨_, _, _, _, _, _, rfl, rfl, eT_ok hf sy4 false (by omega) qr4 (fq1.tr zj4.fq) rfl⟩
                · have qr4 : QR w c y (z4'.2 1) := by rw [zj4.1]; exact qr1
                  have u1 := q_subsumed (fu := fu) hc h6 hf
                  have u2 := m_subsumed qr4 hf
                  generalize hV : cn (sb y c) c 0 = V at u1 u2
                  by_cases q : v = V <;> by_cases q2 : (-1 : Int32) = V
                  all_goals
                    simp only [n9.1, n10.1, n11.1, n12.1, n13.1, n14.1, n9.2, n10.2, n11.2, n12.2, n13.2, n14.2, y1, y2, bd_s, nm_d, jn_d, if_true, i1_ne0, if_false, a1, a2, u1, u2, q, q2, not_true_eq_false, not_false_eq_true, isZ_0, isZ_1, gd_t]
                    exact ⟨_, _, _, _, _, _, rfl, rfl, eT_f fl _ _ (fq1.tr zj4.fq) xc⟩
              · have n15 := NO (lt 15) (by decide) (by decide) h15
                rcases Bool.eq_false_or_eq_true (wd B s1 (run isL B L s1 - s1) (lt 16)) with h16 | h16
                · obtain ⟨t2, y1, y2, S2, lt2⟩ := YES (lt 16) (by decide) (by decide) h16
                  rcases p_clause S2 hf z4 z5 qr1 with ⟨a, s4, t4, z4', ha, a1, a2, sy4, zj4, lt4, -⟩ | ⟨x4, z4', v, a1, a2, fl, zj4, xc⟩
                  · have na : ¬ nI a = (-1 : Int32) := fun q => (nI_m1 (a := a) (by omega)).mp q
                    have qr4 : QR w c y (z4'.2 1) := by rw [zj4.1]; exact qr1
                    rcases p_val sy4 hf y z4 z5 with ⟨v, s5, t5, z5', b1, b2', sy5, zj5, lt5⟩ | ⟨x5, z5', v, b1, b2', fl, zj5, xc⟩
                    · have qr5 : QR w c y (z5'.2 1) := by rw [zj5.1]; exact qr4
                      have u1 := q_literalsIn y fu (k := a) (by omega)
                      have u2 := m_lit (fu := fu) qr5.mw qr5.w12 (qr5.row ha) (by omega) (qr5.ok ha) hf
                      generalize hV : pc (y.2 0 a) + pc (y.2 1 a) = V at u1 u2
                      by_cases q : V = v
                      · simp only [n9.1, n10.1, n11.1, n12.1, n13.1, n14.1, n15.1, n9.2, n10.2, n11.2, n12.2, n13.2, n14.2, n15.2, y1, y2, bd_s, nm_d, jn_d, if_true, i1_ne0, if_false, a1, a2, b1, b2', na, u1, u2, q, m_ok sy5.2.1, not_true_eq_false, isZ_1, gd_t]
                        exact ⟨_, _, _, _, _, _, rfl, rfl, eT_ok hf sy5 true (by omega) qr5 ((fq1.tr zj4.fq).tr zj5.fq) rfl⟩
                      · simp only [n9.1, n10.1, n11.1, n12.1, n13.1, n14.1, n15.1, n9.2, n10.2, n11.2, n12.2, n13.2, n14.2, n15.2, y1, y2, bd_s, nm_d, jn_d, if_true, i1_ne0, if_false, a1, a2, b1, b2', na, u1, u2, q, m_ok sy5.2.1, not_true_eq_false, not_false_eq_true, isZ_0, gd_t]
                        exact ⟨_, _, _, _, _, _, rfl, rfl, eT_ok hf sy5 false (by omega) qr5 ((fq1.tr zj4.fq).tr zj5.fq) rfl⟩
                    · have u1 := q_literalsIn y fu (k := a) (by omega)
                      by_cases q : pc (y.2 0 a) + pc (y.2 1 a) = -1
                      all_goals
                        simp only [n9.1, n10.1, n11.1, n12.1, n13.1, n14.1, n15.1, n9.2, n10.2, n11.2, n12.2, n13.2, n14.2, n15.2, y1, y2, bd_s, nm_d, jn_d, if_true, i1_ne0, if_false, a1, a2, b1, b2', na, u1, q, m_bad fl.2.2.2.1, not_true_eq_false, not_false_eq_true, isZ_0, isZ_1, gd_t]
                        exact ⟨_, _, _, _, _, _, rfl, rfl, eT_f fl _ _ ((fq1.tr zj4.fq).tr zj5.fq) xc⟩
                  · obtain ⟨w1, w2⟩ := p_val_f (fu := fu) fl t2 y z4 z5
                    simp only [n9.1, n10.1, n11.1, n12.1, n13.1, n14.1, n15.1, n9.2, n10.2, n11.2, n12.2, n13.2, n14.2, n15.2, y1, y2, bd_s, nm_d, jn_d, if_true, i1_ne0, if_false, a1, a2, w1, w2, m_bad fl.2.2.2.1, not_false_eq_true, isZ_0, gd_t]
                    exact ⟨_, _, _, _, _, _, rfl, rfl, eT_f fl _ _ (fq1.tr zj4.fq) xc⟩
                · have n16 := NO (lt 16) (by decide) (by decide) h16
                  rcases Bool.eq_false_or_eq_true (wd B s1 (run isL B L s1 - s1) (lt 17)) with h17 | h17
                  · obtain ⟨t2, y1, y2, S2, lt2⟩ := YES (lt 17) (by decide) (by decide) h17
                    rcases p_clause S2 hf z4 z5 qr1 with ⟨a, s4, t4, z4', ha, a1, a2, sy4, zj4, lt4, -⟩ | ⟨x4, z4', v, a1, a2, fl, zj4, xc⟩
                    · have na : ¬ nI a = (-1 : Int32) := fun q => (nI_m1 (a := a) (by omega)).mp q
                      have qr4 : QR w c y (z4'.2 1) := by rw [zj4.1]; exact qr1
                      rcases p_val sy4 hf y z4 z5 with ⟨v, s5, t5, z5', b1, b2', sy5, zj5, lt5⟩ | ⟨x5, z5', v, b1, b2', fl, zj5, xc⟩
                      · have qr5 : QR w c y (z5'.2 1) := by rw [zj5.1]; exact qr4
                        obtain ⟨z6, u2, sk⟩ := m_depthAt qr5 hf ha
                        have sf : SF0 z5' z6 := (sk.sf (c := 0) (by omega)).1
                        have qr6 : QR w c y (z6.2 1) := by rw [sk.2 1 (by omega)]; exact qr5
                        have sy6 := sy5.sf0 sf
                        have ib : inB (nI a) 60 = true := inB_I (by omega) (by omega)
                        have nc : (nI a).toNatClampNeg = a := nI_clamp (by omega)
                        by_cases q : y.2 5 a = v
                        · simp only [n9.1, n10.1, n11.1, n12.1, n13.1, n14.1, n15.1, n16.1, n9.2, n10.2, n11.2, n12.2, n13.2, n14.2, n15.2, n16.2, y1, y2, bd_s, nm_d, jn_d, if_true, i1_ne0, if_false, a1, a2, b1, b2', na, ib, nc, u2, q, m_ok sy5.2.1, not_true_eq_false, isZ_1, gd_t]
                          exact ⟨_, _, _, _, _, _, rfl, rfl, eT_ok hf sy6 true (by omega) qr6 (((fq1.tr zj4.fq).tr zj5.fq).tr sf.fq) rfl⟩
                        · simp only [n9.1, n10.1, n11.1, n12.1, n13.1, n14.1, n15.1, n16.1, n9.2, n10.2, n11.2, n12.2, n13.2, n14.2, n15.2, n16.2, y1, y2, bd_s, nm_d, jn_d, if_true, i1_ne0, if_false, a1, a2, b1, b2', na, ib, nc, u2, q, m_ok sy5.2.1, not_true_eq_false, not_false_eq_true, isZ_0, gd_t]
                          exact ⟨_, _, _, _, _, _, rfl, rfl, eT_ok hf sy6 false (by omega) qr6 (((fq1.tr zj4.fq).tr zj5.fq).tr sf.fq) rfl⟩
                      · have ib : inB (nI a) 60 = true := inB_I (by omega) (by omega)
                        have nc : (nI a).toNatClampNeg = a := nI_clamp (by omega)
                        by_cases q : y.2 5 a = -1
                        all_goals
                          simp only [n9.1, n10.1, n11.1, n12.1, n13.1, n14.1, n15.1, n16.1, n9.2, n10.2, n11.2, n12.2, n13.2, n14.2, n15.2, n16.2, y1, y2, bd_s, nm_d, jn_d, if_true, i1_ne0, if_false, a1, a2, b1, b2', na, ib, nc, q, m_bad fl.2.2.2.1, not_true_eq_false, not_false_eq_true, isZ_0, isZ_1, gd_t]
                          exact ⟨_, _, _, _, _, _, rfl, rfl, eT_f fl _ _ ((fq1.tr zj4.fq).tr zj5.fq) xc⟩
                    · obtain ⟨w1, w2⟩ := p_val_f (fu := fu) fl t2 y z4 z5
                      simp only [n9.1, n10.1, n11.1, n12.1, n13.1, n14.1, n15.1, n16.1, n9.2, n10.2, n11.2, n12.2, n13.2, n14.2, n15.2, n16.2, y1, y2, bd_s, nm_d, jn_d, if_true, i1_ne0, if_false, a1, a2, w1, w2, m_bad fl.2.2.2.1, not_false_eq_true, isZ_0, gd_t]
                      exact ⟨_, _, _, _, _, _, rfl, rfl, eT_f fl _ _ (fq1.tr zj4.fq) xc⟩
                  · have n17 := NO (lt 17) (by decide) (by decide) h17
                    have fl : FL (sI (sI x3 4 1) 5 (nI s1)) (sI (sI z1 21 (nI s1)) 22 1) := FL.mk (by decide) (by omega) v19 (by have := run_le (q := isL) (B := B) sL; omega)
                    simp only [n9.1, n10.1, n11.1, n12.1, n13.1, n14.1, n15.1, n16.1, n17.1, n9.2, n10.2, n11.2, n12.2, n13.2, n14.2, n15.2, n16.2, n17.2, bd_s, nm_d, jn_d, if_true, s3, v23, c_fail ox, m_fails oz1, isZ_0, gd_t]
                    exact ⟨_, _, _, _, _, _, rfl, rfl, eT_f fl _ _ (zj.tr (ZJ.fail _ _ _)).fq (XC.fail _ _ _)⟩
