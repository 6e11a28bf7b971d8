/-! Part II: the head of a script; load. -/
theorem p_head {L s fu : Nat} {B : Nat → Int32} {x3 t z : OS} (hf : 5000 ≤ fu) (sy : SY L B s x3 t z) (x5 x6 x7 : OS) : ∃ z4 r6 zb r8 z9 r12 z13, fX9_takesWord fu z = some z4 ∧ fX9_isToken fu z4 (lt 0) = some r6 ∧ (r6 = 0 → fX9_fails fu z4 (z4.1 23) 1 = some zb) ∧ (¬ r6 = 0 → zb = z4) ∧ fX9_number fu zb 1 12 = some (r8, z9) ∧ fX9_isEnd fu z9 = some (r12, z13) ∧ ZJ z z13 ∧
    ((r12 = 1 ∧ ∃ w t' s', 1 ≤ w ∧ w ≤ 12 ∧ r8 = nI w ∧ fX6_readHeader fu x3 t x5 x6 x7 = some (x3, t', sI (sI x5 6 (nI w)) 7 0) ∧ SY L B s' x3 t' z13) ∨ (r12 = 0 ∧ ∃ x3' t', fX6_readHeader fu x3 t x5 x6 x7 = some (x3', t', x5) ∧ FL x3' z13)) := by
  obtain ⟨ox, oz, ts, mt, p, ps, hp, rp⟩ := sy
  have ts' := ts
  obtain ⟨hL, l1, hb, sL, nw, s3, k2, e4⟩ := ts'
  obtain ⟨z4, e1, zj, v21, v22, v19, v23, v24⟩ := m_word mt hp (by omega) hf
  rw [rp] at v19 v23 v24
  have oz1 : OKz z4 := oz.of v21 v22
  have mt1 := zj.mt mt
  have g1 := run_ge (q := isL) (B := B) (L := L) s
  have g2 := run_le (q := isL) (B := B) sL
  have a := m_isTok (tx := lt 0) mt1 v23 v24 (by omega) (by decide) hf
  have b := t_isWord (tx := lt 0) ts (by decide) (by decide) hf
  rcases Bool.eq_false_or_eq_true (wd B s (run isL B L s - s) (lt 0)) with h | h
  · rw [h] at a b
    have l : run isL B L s - s = (lt 0).length := by
      unfold wd at h
      rw [Bool.and_eq_true, decide_eq_true_eq] at h; exact h.1
    have l0 : 0 < (lt 0).length := by decide
    have a9 : s < run isL B L s := by omega
    have eE : tkE B L s = run isL B L s := by unfold tkE; rw [if_pos a9]
    rw [eE] at e4
    obtain ⟨t2, f1, f2, f3⟩ := t_advance hL l1 hb g2 e4 hf
    have gg := run_ge (q := isW) (B := B) (L := L) (run isL B L s)
    have sy2 : SY L B (run isW B L (run isL B L s)) x3 t2 z4 := ⟨ox, oz1, f2, mt1, _, gg, v19, rfl⟩
    have nz : ¬ b2 true = 0 := by decide
    rcases p_num (lo := 1) sy2 hf x5 x6 x7 12 (by omega) with ⟨v, s', t', z9, n1, n2, sy3, zj3, _, lo, hi, _⟩ | ⟨x3', z9, v, n1, n2, fl, zj3, xc⟩
    · have n1' : fX6_readNumber fu x3 t2 x5 x6 x7 1 12 = some (v, x3, t') := n1
      rcases p_semi sy3 hf x5 x6 x7 with ⟨s'', t'', z13, m1, m2, sy4, zj4, _⟩ | ⟨x3', z13, m1, m2, fl, zj4, xc⟩
      · obtain ⟨w, h1, h12, rfl⟩ : ∃ w : Nat, 1 ≤ w ∧ w ≤ 12 ∧ v = nI w := by
          rcases pk_ix v (n := 13) (by omega) with k | k | ⟨j, hj, rfl⟩
          · exfalso
            apply lo
            rw [Int32.lt_iff_toInt_lt] at k ⊢
            rw [nI_toInt (by omega)]
            have : (0 : Int32).toInt = 0 := by decide
            omega
          · exfalso
            apply hi
            rw [Int32.le_iff_toInt_le, nI_toInt (by omega)] at k
            rw [Int32.lt_iff_toInt_lt]
            have : (12 : Int32).toInt = 12 := by decide
            omega
          · refine ⟨j, ?_, by omega, rfl⟩
            exact Nat.not_lt.mp (fun q => lo ((nI_ltI (a := j) (b := 1) (by omega) (by omega)).mpr q))
        refine ⟨z4, _, z4, _, z9, _, z13, e1, a, fun q => absurd q nz, fun _ => rfl, n2, m2, (zj.tr zj3).tr zj4, Or.inl ⟨rfl, w, t'', s'', h1, h12, rfl, ?_, sy4⟩⟩
        unfold fX6_readHeader fX0_begin
        rw [b, bd_s, if_pos nz, f1]
        simp only [bd_s, nm_d, n1', m1, c_ok ox, not_true_eq_false, if_false]
      · refine ⟨z4, _, z4, _, z9, _, z13, e1, a, fun q => absurd q nz, fun _ => rfl, n2, m2, (zj.tr zj3).tr zj4, Or.inr ⟨rfl, x3', t', ?_, fl⟩⟩
        unfold fX6_readHeader
        rw [b, bd_s, if_pos nz, f1]
        simp only [bd_s, nm_d, n1', m1, c_bad fl.2.2.1, i1_ne0, not_false_eq_true, if_true]
    · have n1' : fX6_readNumber fu x3 t2 x5 x6 x7 1 12 = some (-1, x3', t2) := n1
      obtain ⟨m1, m2⟩ := p_semi_f fl fu t2 x5 x6 x7
      refine ⟨z4, _, z4, _, z9, _, z9, e1, a, fun q => absurd q nz, fun _ => rfl, n2, m2, zj.tr zj3, Or.inr ⟨rfl, x3', t2, ?_, fl⟩⟩
      unfold fX6_readHeader
      rw [b, bd_s, if_pos nz, f1]
      simp only [bd_s, nm_d, n1', m1, c_bad fl.2.2.1, i1_ne0, not_false_eq_true, if_true]
  · rw [h] at a b
    have fl : FL (sI (sI x3 4 1) 5 (nI s)) (sI (sI z4 21 (nI s)) 22 1) := FL.mk (c := 1) (s := s) (by decide) (by omega) v19 (by omega)
    obtain ⟨_, n2⟩ := p_num_f fl fu t x5 x6 x7 1 12
    obtain ⟨_, m2⟩ := p_semi_f fl fu t x5 x6 x7
    refine ⟨z4, _, sI (sI z4 21 (nI s)) 22 1, _, _, _, _, e1, a, fun _ => ?_, fun q => absurd rfl q, n2, m2, zj.tr (ZJ.fail _ _ _), Or.inr ⟨rfl, sI (sI x3 4 1) 5 (nI s), t, ?_, fl⟩⟩
    · rw [m_fails oz1, v23]
    · unfold fX6_readHeader
      rw [b, bd_s, if_neg (fun q => q (show b2 false = 0 by decide)), c_fail ox, bd_s, s3]
/-- a failed script reads no command -/
theorem p_failed {fu : Nat} (hf : 5000 ≤ fu) {x3 : OS} (h : x3.1 4 ≠ 0) (t y sat pr : OS) : fX6_readCommands fu x3 t y sat pr = some (x3, t, y, sat, pr) := by
  obtain ⟨m, rfl⟩ : ∃ m, fu = m + 1 := ⟨fu - 1, by omega⟩
  unfold fX6_readCommands
  rw [jn_d, cmds_eq, if_neg (by decide), c_bad h, bd_s, if_pos (by decide)]
