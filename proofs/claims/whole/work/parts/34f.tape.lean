/-! Part II: the tape: append and truncate. -/
/-- the class's tape y beside the reference's -/
def TB (n : Nat) (y z : OS) : Prop := y.1 1 = nI n ∧ z.1 16 = nI n ∧ n ≤ 500 ∧ ∀ i, i < n → y.2 0 i = z.2 15 i
def ZT (z z' : OS) : Prop := (∀ i, i ≠ 16 → z'.1 i = z.1 i) ∧ ∀ j, j ≠ 15 → z'.2 j = z.2 j
theorem ZT.rf {z : OS} : ZT z z := ⟨fun _ _ => rfl, fun _ _ => rfl⟩
theorem ZT.tr {z z' z'' : OS} (a : ZT z z') (b : ZT z' z'') : ZT z z'' := ⟨fun i h => (b.1 i h).trans (a.1 i h), fun j h => (b.2 j h).trans (a.2 j h)⟩
def pk5 (p1 p2 p3 p4 p5 : Int32) (v : Nat) : Int32 := if 4 ≤ v then (if 8 ≤ v then (if 12 ≤ v then (if 16 ≤ v then p5 else p4) else p3) else p2) else p1
theorem ap_tab : ∀ v, v < 20 → ((24 : Int32) - 8 * (nI v - nI v / 4 * 4)) = nI (24 - 8 * (v % 4)) := by decide
theorem ap_s : ∀ i, i < 4 → nI (24 - 8 * i) + (-8) = (if i = 3 then (-8) else nI (24 - 8 * (i + 1))) := by decide
theorem ap_ref (p1 p2 p3 p4 p5 : Int32) {v n : Nat} (hv : v < 20) (hn : n < 500) {z : OS} (h : z.1 16 = nI n) : ∃ z', (∀ J m, lX9_append_23 p1 p2 p3 p4 p5 J (m + 1) (nI v) z = lX9_append_23 p1 p2 p3 p4 p5 J m (nI (v + 1)) z') ∧ z'.1 16 = nI (n + 1) ∧ z'.2 15 = upd (z.2 15) n (vp_nar .byte ((pk5 p1 p2 p3 p4 p5 v >>> (nI (24 - 8 * (v % 4)) &&& 31)).toInt8.toInt32)) ∧ ZT z z' := by
  have cl : (nI n).toNatClampNeg = n := nI_clamp (by omega)
  have g : ¬ (20 : Int32) ≤ nI v := by rw [L20, nI_leI (by omega) (by omega)]; omega
  have q4 : ((4 : Int32) ≤ nI v) = (4 ≤ v) := propext (nI_leI (a := 4) (by omega) (by omega))
  have q8 : ((8 : Int32) ≤ nI v) = (8 ≤ v) := propext (nI_leI (a := 8) (by omega) (by omega))
  have q12 : ((12 : Int32) ≤ nI v) = (12 ≤ v) := propext (nI_leI (a := 12) (by omega) (by omega))
  have q16 : ((16 : Int32) ≤ nI v) = (16 ≤ v) := propext (nI_leI (a := 16) (by omega) (by omega))
  refine ⟨sI (sA z 15 (upd (z.2 15) n (vp_nar .byte ((pk5 p1 p2 p3 p4 p5 v >>> (nI (24 - 8 * (v % 4)) &&& 31)).toInt8.toInt32)))) 16 (nI (n + 1)), fun J m => ?_, sI_s _ _ _, ?_, fun i hi => ?_, fun j hj => ?_⟩
  · rw [lX9_append_23, if_neg g, jn_d, ap_tab v hv]
    unfold pk5
    simp only [q4, q8, q12, q16, h, inB_I (show n < 500 from hn) (by omega), gd_t, nm_d, cl, sA_1, nI_1]
    split
    · split
      · split
        · split <;> rfl
        · rfl
      · rfl
    · rfl
  · rw [sI_2, sA_s]
  · rw [sI_o _ _ hi, sA_1]
  · rw [sI_2, sA_o _ _ hj]
theorem ap_cls (p : Int32) {i n : Nat} (hi : i < 4) (hn : n < 500) {y : OS} (h : y.1 1 = nI n) : ∃ y', (∀ J m, lX7_addFour_3 p J (m + 1) (nI (24 - 8 * i)) y = lX7_addFour_3 p J m (nI (24 - 8 * i) + (-8)) y') ∧ y'.1 1 = nI (n + 1) ∧ y'.2 0 = upd (y.2 0) n (vp_nar .byte ((p >>> (nI (24 - 8 * i) &&& 31)).toInt8.toInt32)) := by
  have cl : (nI n).toNatClampNeg = n := nI_clamp (by omega)
  have g : ¬ nI (24 - 8 * i) < 0 := nI_pos (by omega)
  have g5 : ¬ (500 : Int32) ≤ nI n := by rw [L500, nI_leI (by omega) (by omega)]; omega
  refine ⟨sI (sA y 0 (upd (y.2 0) n (vp_nar .byte ((p >>> (nI (24 - 8 * i) &&& 31)).toInt8.toInt32)))) 1 (nI (n + 1)), fun J m => ?_, sI_s _ _ _, ?_⟩
  · rw [lX7_addFour_3, if_neg g, h, if_neg g5, inB_I hn (by omega), gd_t, nm_d, nm_d, nm_d, cl, sA_1, h, nI_1]
  · rw [sI_2, sA_s]
theorem ap_one (p1 p2 p3 p4 p5 : Int32) {k i n : Nat} (hk : k < 5) (hi : i < 4) {y z : OS} (h : TB n y z) (hn : n < 500) : ∃ y' z', (∀ J m, lX7_addFour_3 (pk5 p1 p2 p3 p4 p5 (4 * k)) J (m + 1) (nI (24 - 8 * i)) y = lX7_addFour_3 (pk5 p1 p2 p3 p4 p5 (4 * k)) J m (nI (24 - 8 * i) + (-8)) y') ∧ (∀ J m, lX9_append_23 p1 p2 p3 p4 p5 J (m + 1) (nI (4 * k + i)) z = lX9_append_23 p1 p2 p3 p4 p5 J m (nI (4 * k + i + 1)) z') ∧ TB (n + 1) y' z' ∧ ZT z z' := by
  obtain ⟨h1, h2, h3, h4⟩ := h
  have e : pk5 p1 p2 p3 p4 p5 (4 * k + i) = pk5 p1 p2 p3 p4 p5 (4 * k) := by
    unfold pk5
    simp only [show (4 ≤ 4 * k + i) = (4 ≤ 4 * k) from propext (by omega), show (8 ≤ 4 * k + i) = (8 ≤ 4 * k) from propext (by omega), show (12 ≤ 4 * k + i) = (12 ≤ 4 * k) from propext (by omega), show (16 ≤ 4 * k + i) = (16 ≤ 4 * k) from propext (by omega)]
  obtain ⟨y', a, a1, a2⟩ := ap_cls (pk5 p1 p2 p3 p4 p5 (4 * k)) hi hn h1
  obtain ⟨z', b, b1, b2', s⟩ := ap_ref p1 p2 p3 p4 p5 (v := 4 * k + i) (by omega) hn h2
  refine ⟨y', z', a, b, ⟨a1, b1, by omega, fun j hj => ?_⟩, s⟩
  rw [a2, b2', e, show (4 * k + i) % 4 = i by omega]
  by_cases q : j = n
  · subst q
    show (if j = j then _ else _) = (if j = j then _ else _)
    rw [if_pos rfl, if_pos rfl]
  · show (if j = n then _ else _) = (if j = n then _ else _)
    rw [if_neg q, if_neg q]
    exact h4 j (by omega)
theorem ap_four (p1 p2 p3 p4 p5 : Int32) {k n fu : Nat} (hf : 5000 ≤ fu) (hk : k < 5) {y z : OS} (h : TB n y z) (hn : n + 4 ≤ 500) : ∃ y' z', fX7_addFour fu y (pk5 p1 p2 p3 p4 p5 (4 * k)) = some y' ∧ (∀ J m, lX9_append_23 p1 p2 p3 p4 p5 J (m + 4) (nI (4 * k)) z = lX9_append_23 p1 p2 p3 p4 p5 J m (nI (4 * (k + 1))) z') ∧ TB (n + 4) y' z' ∧ ZT z z' := by
  obtain ⟨y1, z1, a1, b1, h1, s1⟩ := ap_one p1 p2 p3 p4 p5 hk (i := 0) (by omega) h (by omega)
  obtain ⟨y2, z2, a2, b2', h2, s2⟩ := ap_one p1 p2 p3 p4 p5 hk (i := 1) (by omega) h1 (by omega)
  obtain ⟨y3, z3, a3, b3, h3, s3⟩ := ap_one p1 p2 p3 p4 p5 hk (i := 2) (by omega) h2 (by omega)
  obtain ⟨y4, z4, a4, b4, h4, s4⟩ := ap_one p1 p2 p3 p4 p5 hk (i := 3) (by omega) h3 (by omega)
  refine ⟨y4, z4, ?_, fun J m => ?_, h4, ((s1.tr s2).tr s3).tr s4⟩
  · obtain ⟨m, rfl⟩ : ∃ m, fu = m + 1 + 1 + 1 + 1 + 1 := ⟨fu - 5, by omega⟩
    unfold fX7_addFour
    rw [jn_d]
    have t1 := a1 (fun z => some z) (m + 1 + 1 + 1 + 1)
    have t2 := a2 (fun z => some z) (m + 1 + 1 + 1)
    have t3 := a3 (fun z => some z) (m + 1 + 1)
    have t4 := a4 (fun z => some z) (m + 1)
    rw [ap_s 0 (by omega)] at t1
    rw [ap_s 1 (by omega)] at t2
    rw [ap_s 2 (by omega)] at t3
    rw [ap_s 3 (by omega)] at t4
    refine t1.trans (t2.trans (t3.trans (t4.trans ?_)))
    rw [if_pos rfl, lX7_addFour_3, if_pos (by decide)]
  · have t1 := b1 J (m + 3)
    have t2 := b2' J (m + 2)
    have t3 := b3 J (m + 1)
    have t4 := b4 J m
    exact t1.trans (t2.trans (t3.trans t4))
theorem p_append (p1 p2 p3 p4 p5 : Int32) {L fu : Nat} (hf : 5000 ≤ fu) {y z : OS} (h : TB L y z) : ∃ r y' z' L', fX8_append fu y p1 p2 p3 p4 p5 = some (r, y') ∧ (if z.1 16 + 20 ≤ 500 then jn (κ := OS → Option (Int32 × OS)) (fun z1 => some (z1.1 16, z1)) (fun j => lX9_append_23 p1 p2 p3 p4 p5 j fu 0 z) else some (-1, z)) = some (r, z') ∧ TB L' y' z' ∧ ZT z z' := by
  have hL := h.2.2.1
  have e : (nI L + 20 ≤ 500) = (L + 20 ≤ 500) := by
    rw [L20, nI_add, L500]; exact propext (nI_leI (by omega) (by omega))
  unfold fX8_append
  rw [h.1, h.2.1]
  by_cases q : L + 20 ≤ 500
  · rw [if_pos (e.mpr q), if_pos (e.mpr q)]
    obtain ⟨y1, z1, a1, b1, h1, s1⟩ := ap_four p1 p2 p3 p4 p5 hf (k := 0) (by omega) h (by omega)
    obtain ⟨y2, z2, a2, b2', h2, s2⟩ := ap_four p1 p2 p3 p4 p5 hf (k := 1) (by omega) h1 (by omega)
    obtain ⟨y3, z3, a3, b3, h3, s3⟩ := ap_four p1 p2 p3 p4 p5 hf (k := 2) (by omega) h2 (by omega)
    obtain ⟨y4, z4, a4, b4, h4, s4⟩ := ap_four p1 p2 p3 p4 p5 hf (k := 3) (by omega) h3 (by omega)
    obtain ⟨y5, z5, a5, b5, h5, s5⟩ := ap_four p1 p2 p3 p4 p5 hf (k := 4) (by omega) h4 (by omega)
    have a1' : fX7_addFour fu y p1 = some y1 := a1
    have a2' : fX7_addFour fu y1 p2 = some y2 := a2
    have a3' : fX7_addFour fu y2 p3 = some y3 := a3
    have a4' : fX7_addFour fu y3 p4 = some y4 := a4
    have a5' : fX7_addFour fu y4 p5 = some y5 := a5
    refine ⟨nI (L + 20), y5, z5, L + 20, ?_, ?_, h5, (((s1.tr s2).tr s3).tr s4).tr s5⟩
    · rw [a1', bd_s, a2', bd_s, a3', bd_s, a4', bd_s, a5', bd_s]
      show some (y5.1 1, y5) = _
      rw [h5.1]
    · obtain ⟨m, rfl⟩ : ∃ m, fu = m + 1 + 4 + 4 + 4 + 4 + 4 := ⟨fu - 21, by omega⟩
      rw [jn_d]
      refine (b1 _ _).trans ((b2' _ _).trans ((b3 _ _).trans ((b4 _ _).trans ((b5 _ _).trans ?_))))
      rw [lX9_append_23, if_pos (by decide), h5.2.1]
  · rw [if_neg (fun t => q (e.mp t)), if_neg (fun t => q (e.mp t))]
    exact ⟨-1, y, z, L, rfl, rfl, h, ZT.rf⟩
theorem p_trunc {L fu : Nat} {y z : OS} (h : TB L y z) (p : Int32) : ∃ r y' z' L', fX8_truncate fu y p = some (r, y') ∧ fX9_truncate fu z p = some (r, z') ∧ TB L' y' z' ∧ ZT (sI z 0 0) z' := by
  unfold fX8_truncate fX9_truncate
  simp only [nm_d, isZ_0, isZ_1, gd_t]
  have e1 : (sI z 0 0).1 16 = nI L := by rw [sI_o _ _ (by decide), h.2.1]
  have tb : TB L y (sI z 0 0) := ⟨h.1, e1, h.2.2.1, h.2.2.2⟩
  by_cases q : p < 0
  · rw [if_pos q, if_pos q]
    exact ⟨0, y, _, L, rfl, rfl, tb, ZT.rf⟩
  · rw [if_neg q, if_neg q, h.1, e1]
    have hL := h.2.2.1
    by_cases g : p ≤ nI L
    · rw [if_pos g, if_pos g]
      rcases pk_ix p (n := L + 1) (by omega) with k | k | ⟨j, hj, e⟩
      · exact absurd k q
      · exfalso
        rw [Int32.le_iff_toInt_le, nI_toInt (by omega)] at k g
        omega
      · subst e
        refine ⟨1, _, _, j, rfl, rfl, ⟨sI_s _ _ _, sI_s _ _ _, by omega, fun i hi => h.2.2.2 i (by omega)⟩, fun i hi => sI_o _ _ hi, fun _ _ => rfl⟩
    · rw [if_neg g, if_neg g]
      exact ⟨0, y, _, L, rfl, rfl, tb, ZT.rf⟩
