/-! Part II: a clause dropped, on both sides. -/
def sh (a i : Nat) : Nat := if i < a then i else i + 1
def dc (a : Nat) (v : Int32) : Int32 := if v ≤ nI a then v else v - 1
def XR (x : OS) (c a : Nat) (x' : OS) : Prop := x'.1 6 = x.1 6 ∧ x'.1 7 = nI c ∧ ∀ i, i < c → x'.2 0 i = x.2 0 (sh a i) ∧ x'.2 1 i = x.2 1 (sh a i) ∧ x'.2 2 i = dc a (x.2 2 (sh a i)) ∧ x'.2 3 i = dc a (x.2 3 (sh a i)) ∧ x'.2 4 i = x.2 4 (sh a i) ∧ x'.2 5 i = x.2 5 (sh a i)
/-- the state of the class's loop: k numbers are written -/
def RI (x : OS) (c a k : Nat) (z : OS) : Prop := z.1 6 = x.1 6 ∧ z.1 7 = nI c ∧ (∀ i, i < k → z.2 0 i = x.2 0 (sh a i) ∧ z.2 1 i = x.2 1 (sh a i) ∧ z.2 2 i = dc a (x.2 2 (sh a i)) ∧ z.2 3 i = dc a (x.2 3 (sh a i)) ∧ z.2 4 i = x.2 4 (sh a i) ∧ z.2 5 i = x.2 5 (sh a i)) ∧ ∀ i, k < i → z.2 0 i = x.2 0 i ∧ z.2 1 i = x.2 1 i ∧ z.2 2 i = x.2 2 i ∧ z.2 3 i = x.2 3 i ∧ z.2 4 i = x.2 4 i ∧ z.2 5 i = x.2 5 i
theorem m1_le (a : Nat) (ha : a < 2 ^ 31) : (-1 : Int32) ≤ nI a := by
  rw [Int32.le_iff_toInt_le, nI_toInt ha]
  have h : ((-1 : Int32)).toInt = -1 := by decide
  omega
theorem dc_m1 {a : Nat} (ha : a < 2 ^ 31) : dc a (-1) = -1 := if_pos (m1_le a ha)
theorem dc_lt {a b : Nat} (h : b ≤ a) (ha : a < 2 ^ 31) : dc a (nI b) = nI b := if_pos (nI_le h ha)
theorem dc_gt {a b : Nat} (h : a < b) (hb : b < 2 ^ 31) : dc a (nI b) = nI (b - 1) := by
  unfold dc
  rw [if_neg (nI_ge h hb), L1, pk_sub (by omega)]
theorem q_remove_l {x : OS} {c a : Nat} (h6 : c ≤ 60) : ∀ (d k n : Nat) (z : OS), k + 1 + d = c → d < n → a ≤ k → RI x c a k z → ∃ z', lX0_remove_4 (nI a) (fun z => some (sI z 7 (z.1 7 - 1))) n (nI (k + 1)) z = some z' ∧ XR x (c - 1) a z' := by
  intro d
  induction d with
  | zero =>
    intro k n z h1 h2 h3 ⟨i6, i7, ia, ib⟩
    obtain ⟨n, rfl⟩ : ∃ m, n = m + 1 := ⟨n - 1, by omega⟩
    refine ⟨sI z 7 (z.1 7 - 1), ?_, ?_⟩
    · rw [lX0_remove_4, i7, if_pos (nI_le (by omega) (by omega))]
    · refine ⟨(sI_o z _ (by omega)).trans i6, ?_, fun i hi => ia i (by omega)⟩
      rw [sI_s, i7, L1, pk_sub (by omega)]
  | succ d ih =>
    intro k n z h1 h2 h3 ⟨i6, i7, ia, ib⟩
    obtain ⟨n, rfl⟩ : ∃ m, n = m + 1 := ⟨n - 1, by omega⟩
    obtain ⟨b0, b1, b2', b3, b4, b5⟩ := ib (k + 1) (by omega)
    have e : ¬ c ≤ k + 1 := by omega
    have hs : sh a k = k + 1 := if_neg (by omega)
    have key : ∀ z2 : OS, z2.1 = z.1 → z2.2 0 = upd (z.2 0) k (x.2 0 (k + 1)) → z2.2 1 = upd (z.2 1) k (x.2 1 (k + 1)) → z2.2 2 = upd (z.2 2) k (dc a (x.2 2 (k + 1))) → z2.2 3 = upd (z.2 3) k (dc a (x.2 3 (k + 1))) → z2.2 4 = upd (z.2 4) k (x.2 4 (k + 1)) → z2.2 5 = upd (z.2 5) k (x.2 5 (k + 1)) → ∃ z', lX0_remove_4 (nI a) (fun z => some (sI z 7 (z.1 7 - 1))) n (nI (k + 1 + 1)) z2 = some z' ∧ XR x (c - 1) a z' := by
      intro z2 e1 f0 f1 f2 f3 f4 f5
      refine ih (k + 1) n z2 (by omega) (by omega) (by omega) ⟨by rw [e1]; exact i6, by rw [e1]; exact i7, fun i hi => ?_, fun i hi => ?_⟩
      · rw [f0, f1, f2, f3, f4, f5]
        by_cases g : i = k
        · subst g
          rw [pk_us, pk_us, pk_us, pk_us, pk_us, pk_us, hs]
          exact ⟨rfl, rfl, rfl, rfl, rfl, rfl⟩
        · rw [pk_un g, pk_un g, pk_un g, pk_un g, pk_un g, pk_un g]
          exact ia i (by omega)
      · rw [f0, f1, f2, f3, f4, f5, pk_un (by omega), pk_un (by omega), pk_un (by omega), pk_un (by omega), pk_un (by omega), pk_un (by omega)]
        exact ib i (by omega)
    rw [lX0_remove_4]
    simp (disch := omega) only [i7, nI_leI, e, if_false, inB_I, gd_t, nI_pred, nI_clamp, nm_d, jn_d, sA_s, sA_o, sA_1, b0, b1, b2', b3, b4, b5, nI_1, ne_eq, not_false_eq_true]
    by_cases g1 : x.2 2 (k + 1) ≤ nI a <;> by_cases g2 : x.2 3 (k + 1) ≤ nI a
    · simp (disch := omega) only [g1, g2, if_true, inB_I, gd_t, nI_clamp, nI_1, sA_s, sA_o, sA_1, ne_eq, not_false_eq_true, b0, b1, b2', b3, b4, b5]
      apply key <;> (simp (disch := omega) only [sA_s, sA_o, sA_1, ne_eq, not_false_eq_true, dc, g1, g2, if_true])
    · simp (disch := omega) only [g1, g2, if_true, if_false, inB_I, gd_t, nI_clamp, nI_1, sA_s, sA_o, sA_1, ne_eq, not_false_eq_true, b0, b1, b2', b3, b4, b5]
      apply key <;> (simp (disch := omega) only [sA_s, sA_o, sA_1, ne_eq, not_false_eq_true, dc, g1, g2, if_true, if_false])
    · simp (disch := omega) only [g1, g2, if_true, if_false, inB_I, gd_t, nI_clamp, nI_1, sA_s, sA_o, sA_1, ne_eq, not_false_eq_true, b0, b1, b2', b3, b4, b5]
      apply key <;> (simp (disch := omega) only [sA_s, sA_o, sA_1, ne_eq, not_false_eq_true, dc, g1, g2, if_true, if_false])
    · simp (disch := omega) only [g1, g2, if_true, if_false, inB_I, gd_t, nI_clamp, nI_1, sA_s, sA_o, sA_1, ne_eq, not_false_eq_true, b0, b1, b2', b3, b4, b5]
      apply key <;> (simp (disch := omega) only [sA_s, sA_o, sA_1, ne_eq, not_false_eq_true, dc, g1, g2, if_true, if_false])
theorem PW.dc {w : Nat} {x : OS} {k a : Nat} (h : PW w x k) (hk : k < a) (ha : a < 2 ^ 31) : x.2 2 k = dc a (x.2 2 k) ∧ x.2 3 k = dc a (x.2 3 k) := by
  rcases h with ⟨-, h2, h3, -⟩ | ⟨v, b, d, h1, h2, h3, -, h5, h6, -⟩
  · rw [h2, h3, dc_m1 ha]; exact ⟨rfl, rfl⟩
  · rw [h5, h6, dc_lt (by omega) ha, dc_lt (by omega) ha]; exact ⟨rfl, rfl⟩
theorem q_remove {w c a fu : Nat} {x : OS} {m : Nat → Int32} (h : QR w c x m) (hf : 5000 ≤ fu) (ha : a < c) : ∃ x', fX0_remove fu x (nI a) = some x' ∧ XR x (c - 1) a x' := by
  have h6 := h.c60
  unfold fX0_remove
  simp only [nm_d, jn_d, nI_1]
  refine q_remove_l h6 (c - 1 - a) a fu x (by omega) (by omega) (Nat.le_refl a) ⟨rfl, h.xc, fun i hi => ?_, fun i hi => ⟨rfl, rfl, rfl, rfl, rfl, rfl⟩⟩
  have e : sh a i = i := if_pos hi
  rw [e]
  obtain ⟨e2, e3⟩ := (h.pw (k := i) (by omega)).dc hi (by omega)
  exact ⟨rfl, rfl, e2, e3, rfl, rfl⟩
/-! the reference drops a clause -/
/-- what stands in the numbers of clause i -/
def MI (m m' : Nat → Int32) (i s : Nat) : Prop := (∀ v, v < 12 → m' (2 + i * 12 + v) = m (2 + s * 12 + v)) ∧ m' (734 + i) = m (734 + s) ∧ m' (795 + i) = m (795 + s) ∧ m' (856 + i) = m (856 + s)
def JA (z z' : OS) : Prop := z'.1 = z.1 ∧ ∀ j, j ≠ 1 → z'.2 j = z.2 j
theorem JA.rf {z : OS} : JA z z := ⟨rfl, fun _ _ => rfl⟩
theorem JA.tr {z z' z'' : OS} (a : JA z z') (b : JA z' z'') : JA z z'' := ⟨b.1.trans a.1, fun j h => (b.2 j h).trans (a.2 j h)⟩
theorem JA.sa (z : OS) (f : Nat → Int32) : JA z (sA z 1 f) := ⟨rfl, fun _ h => sA_o z f h⟩
theorem JA.sf {z z' : OS} (a : JA z z') : SF0 z z' := ⟨fun i => Or.inr (by rw [a.1]), fun j => by
  by_cases e : j = 1
  · exact Or.inl (Or.inl e)
  · exact Or.inr (a.2 j e)⟩
theorem m_row_l {fu k : Nat} {z : OS} (h6 : k + 1 ≤ 60) (J : OS → Option OS) : ∀ (d v n : Nat) (z1 : OS), v + d = 12 → d < n → JA z z1 → (∀ u, u < v → z1.2 1 (2 + k * 12 + u) = z.2 1 (2 + (k + 1) * 12 + u)) → (∀ i, (i < 2 + k * 12 ∨ 2 + k * 12 + v ≤ i) → z1.2 1 i = z.2 1 i) → ∃ z', lX9_drops_14 fu (nI k) J n (nI v) z1 = J z' ∧ JA z z' ∧ (∀ u, u < 12 → z'.2 1 (2 + k * 12 + u) = z.2 1 (2 + (k + 1) * 12 + u)) ∧ ∀ i, (i < 2 + k * 12 ∨ 14 + k * 12 ≤ i) → z'.2 1 i = z.2 1 i := by
  intro d
  induction d with
  | zero =>
    intro v n z1 h1 h2 h3 h4 h5
    obtain ⟨n, rfl⟩ : ∃ m, n = m + 1 := ⟨n - 1, by omega⟩
    have h1 : v = 12 := h1
    subst h1
    refine ⟨z1, ?_, h3, h4, fun i hi => h5 i (by omega)⟩
    rw [lX9_drops_14, if_pos (show (12 : Int32) ≤ nI 12 from nI_le (Nat.le_refl 12) (by omega))]
  | succ d ih =>
    intro v n z1 h1 h2 h3 h4 h5
    obtain ⟨n, rfl⟩ : ∃ m, n = m + 1 := ⟨n - 1, by omega⟩
    have e12 : ¬ 12 ≤ v := by omega
    have hv := h5 (2 + (k + 1) * 12 + v) (by omega)
    rw [lX9_drops_14]
    simp (disch := omega) only [L12, nI_leI, e12, if_false, nI_1, sign_e, bd_s, puts_e, nm_d, hv]
    exact ih (v + 1) n _ (by omega) (by omega) (h3.tr (JA.sa _ _)) (fun u hu => by
      rw [sA_s]
      by_cases g : u = v
      · subst g; exact pk_us
      · rw [pk_un (by omega)]; exact h4 u (by omega)) (fun i hi => by
      rw [sA_s, pk_un (by omega)]; exact h5 i (by omega))
/-- a stretch of the row -/
def MR (m m' : Nat → Int32) (c a k : Nat) : Prop := (∀ i, i < k → MI m m' i (sh a i)) ∧ (∀ i, k ≤ i → i ≤ 60 → MI m m' i i) ∧ m' 0 = m 0 ∧ m' 1 = m 1
theorem m_drop_l {fu c a : Nat} {z : OS} (h6 : c ≤ 60) (hm : z.2 1 1 = nI c) (hf : 5000 ≤ fu) (J : OS → Option OS) : ∀ (d k n : Nat) (z1 : OS), k + 1 + d = c → d < n → a ≤ k → JA z z1 → MR (z.2 1) (z1.2 1) c a k → ∃ z', lX9_drops_2 fu J n (nI k) z1 = J z' ∧ JA z z' ∧ MR (z.2 1) (z'.2 1) c a (c - 1) := by
  intro d
  induction d with
  | zero =>
    intro k n z1 h1 h2 h3 h4 h5
    obtain ⟨n, rfl⟩ : ∃ m, n = m + 1 := ⟨n - 1, by omega⟩
    have e : k = c - 1 := by omega
    subst e
    refine ⟨z1, ?_, h4, h5⟩
    rw [lX9_drops_2, many_e (h5.2.2.2.trans hm), bd_s, nI_1, if_pos (nI_le (by omega) (by omega))]
  | succ d ih =>
    intro k n z1 h1 h2 h3 h4 h5
    obtain ⟨n, rfl⟩ : ∃ m, n = m + 1 := ⟨n - 1, by omega⟩
    have hs : sh a k = k + 1 := if_neg (by omega)
    have E := m_row_l (fu := fu) (k := k) (z := z1) (by omega) (fun (z1_40 : OS) => gd (inB (((734 : Int32) + nI k) + (1 : Int32)) 917) (gd (inB ((734 : Int32) + nI k) 917) (nm (sA z1_40 1 (upd (z1_40.2 1) (((734 : Int32) + nI k)).toNatClampNeg (z1_40.2 1 ((((734 : Int32) + nI k) + (1 : Int32))).toNatClampNeg))) (fun (z_9 : OS) => gd (inB (((795 : Int32) + nI k) + (1 : Int32)) 917) (gd (inB ((795 : Int32) + nI k) 917) (nm (sA z_9 1 (upd (z_9.2 1) (((795 : Int32) + nI k)).toNatClampNeg (z_9.2 1 ((((795 : Int32) + nI k) + (1 : Int32))).toNatClampNeg))) (fun (z_10 : OS) => gd (inB (((856 : Int32) + nI k) + (1 : Int32)) 917) (gd (inB ((856 : Int32) + nI k) 917) (nm (sA z_10 1 (upd (z_10.2 1) (((856 : Int32) + nI k)).toNatClampNeg (z_10.2 1 ((((856 : Int32) + nI k) + (1 : Int32))).toNatClampNeg))) (fun (z_11 : OS) => nm (nI k + (1 : Int32)) (fun (v2_12 : Int32) => lX9_drops_2 fu J n v2_12 z_11))))))))))) 12 0 fu z1 (by omega) (by omega) JA.rf (fun u hu => absurd hu (by omega)) (fun _ _ => rfl)
    obtain ⟨z2, e1, s1, r1, r2⟩ := E
    rw [lX9_drops_2, many_e (h5.2.2.2.trans hm), bd_s, nI_1, if_neg (nI_ge (by omega) (by omega)), jn_d]
    have e1' : lX9_drops_14 fu (nI k) _ fu 0 z1 = _ := e1
    rw [nI_1] at e1'
    rw [e1']
    have d1 := h5.2.1 (k + 1) (by omega) (by omega)
    simp (disch := omega) only [L734, L795, L856, nI_add, inB_I, gd_t, nI_clamp, nm_d, sA_s, nI_1]
    refine ih (k + 1) n _ (by omega) (by omega) (by omega) (((h4.tr s1).tr (JA.sa _ _)).tr ((JA.sa _ _).tr (JA.sa _ _))) ⟨fun i hi => ?_, fun i hi hi2 => ?_, ?_, ?_⟩
    · unfold MI
      rw [sA_s]
      by_cases g : i = k
      · subst g
        rw [hs]
        refine ⟨fun v hv => ?_, ?_, ?_, ?_⟩
        · rw [pk_un (by omega), pk_un (by omega), pk_un (by omega), r1 v hv]; exact d1.1 v hv
        · rw [pk_un (by omega), pk_un (by omega), pk_us, show 734 + i + 1 = 734 + (i + 1) by omega, r2 _ (by omega)]; exact d1.2.1
        · rw [pk_un (by omega), pk_us, pk_un (by omega), show 795 + i + 1 = 795 + (i + 1) by omega, r2 _ (by omega)]; exact d1.2.2.1
        · rw [pk_us, pk_un (by omega), pk_un (by omega), show 856 + i + 1 = 856 + (i + 1) by omega, r2 _ (by omega)]; exact d1.2.2.2
      · obtain ⟨q1, q2, q3, q4⟩ := h5.1 i (by omega)
        refine ⟨fun v hv => ?_, ?_, ?_, ?_⟩
        · rw [pk_un (by omega), pk_un (by omega), pk_un (by omega), r2 _ (by omega)]; exact q1 v hv
        · rw [pk_un (by omega), pk_un (by omega), pk_un (by omega), r2 _ (by omega)]; exact q2
        · rw [pk_un (by omega), pk_un (by omega), pk_un (by omega), r2 _ (by omega)]; exact q3
        · rw [pk_un (by omega), pk_un (by omega), pk_un (by omega), r2 _ (by omega)]; exact q4
    · unfold MI
      rw [sA_s]
      obtain ⟨q1, q2, q3, q4⟩ := h5.2.1 i (by omega) hi2
      refine ⟨fun v hv => ?_, ?_, ?_, ?_⟩
      · rw [pk_un (by omega), pk_un (by omega), pk_un (by omega), r2 _ (by omega)]; exact q1 v hv
      · rw [pk_un (by omega), pk_un (by omega), pk_un (by omega), r2 _ (by omega)]; exact q2
      · rw [pk_un (by omega), pk_un (by omega), pk_un (by omega), r2 _ (by omega)]; exact q3
      · rw [pk_un (by omega), pk_un (by omega), pk_un (by omega), r2 _ (by omega)]; exact q4
    · rw [sA_s, pk_un (by omega), pk_un (by omega), pk_un (by omega), r2 _ (by omega)]; exact h5.2.2.1
    · rw [sA_s, pk_un (by omega), pk_un (by omega), pk_un (by omega), r2 _ (by omega)]; exact h5.2.2.2
/-- the numbers of the parents are made smaller -/
theorem m_dec_l {fu c a : Nat} {z : OS} (h6 : c ≤ 60) (hm : z.2 1 1 = nI c) : ∀ (d k n : Nat) (z1 : OS), k + d = c → d < n → JA z z1 → (∀ i, i < k → z1.2 1 (734 + i) = dc a (z.2 1 (734 + i)) ∧ z1.2 1 (795 + i) = dc a (z.2 1 (795 + i))) → (∀ i, ¬ (734 ≤ i ∧ i < 734 + k) → ¬ (795 ≤ i ∧ i < 795 + k) → z1.2 1 i = z.2 1 i) → ∃ z', lX9_drops_124 fu (nI a) (fun z => some z) n (nI k) z1 = some z' ∧ JA z z' ∧ (∀ i, i < c → z'.2 1 (734 + i) = dc a (z.2 1 (734 + i)) ∧ z'.2 1 (795 + i) = dc a (z.2 1 (795 + i))) ∧ ∀ i, ¬ (734 ≤ i ∧ i < 734 + c) → ¬ (795 ≤ i ∧ i < 795 + c) → z'.2 1 i = z.2 1 i := by
  intro d
  induction d with
  | zero =>
    intro k n z1 h1 h2 h3 h4 h5
    obtain ⟨n, rfl⟩ : ∃ m, n = m + 1 := ⟨n - 1, by omega⟩
    have h1 : k = c := h1
    subst h1
    refine ⟨z1, ?_, h3, h4, h5⟩
    rw [lX9_drops_124, many_e ((h5 1 (by omega) (by omega)).trans hm), bd_s, if_pos (nI_le (by omega) (by omega))]
  | succ d ih =>
    intro k n z1 h1 h2 h3 h4 h5
    obtain ⟨n, rfl⟩ : ∃ m, n = m + 1 := ⟨n - 1, by omega⟩
    have e : ¬ c ≤ k := by omega
    have a1 := h5 (734 + k) (by omega) (by omega)
    have a2 := h5 (795 + k) (by omega) (by omega)
    have key : ∀ z2 : OS, JA z1 z2 → z2.2 1 = upd (upd (z1.2 1) (734 + k) (dc a (z.2 1 (734 + k)))) (795 + k) (dc a (z.2 1 (795 + k))) → ∃ z', lX9_drops_124 fu (nI a) (fun z => some z) n (nI (k + 1)) z2 = some z' ∧ JA z z' ∧ (∀ i, i < c → z'.2 1 (734 + i) = dc a (z.2 1 (734 + i)) ∧ z'.2 1 (795 + i) = dc a (z.2 1 (795 + i))) ∧ ∀ i, ¬ (734 ≤ i ∧ i < 734 + c) → ¬ (795 ≤ i ∧ i < 795 + c) → z'.2 1 i = z.2 1 i := by
      intro z2 f1 f2
      refine ih (k + 1) n z2 (by omega) (by omega) (h3.tr f1) (fun i hi => ?_) (fun i hi hi2 => ?_)
      · rw [f2]
        by_cases g : i = k
        · subst g
          rw [pk_un (by omega), pk_us, pk_us]; exact ⟨rfl, rfl⟩
        · rw [pk_un (by omega), pk_un (by omega), pk_un (by omega), pk_un (by omega)]
          exact h4 i (by omega)
      · rw [f2, pk_un (by omega), pk_un (by omega)]
        exact h5 i (by omega) (by omega)
    rw [lX9_drops_124]
    simp (disch := omega) only [many_e ((h5 1 (by omega) (by omega)).trans hm), bd_s, nI_leI, e, if_false, L734, L795, nI_add, inB_I, gd_t, nI_clamp, jn_d, nm_d, a1, sA_s, pk_un, a2, nI_1, Int32.sub_zero]
    by_cases g1 : z.2 1 (734 + k) ≤ nI a <;> by_cases g2 : z.2 1 (795 + k) ≤ nI a
    all_goals
      simp (disch := omega) only [g1, g2, if_true, if_false, inB_I, gd_t, nI_clamp, nI_1, sA_s, pk_un, Int32.sub_zero, a2]
      apply key
      · exact (JA.sa _ _).tr (JA.sa _ _)
      · simp only [sA_s, dc, g1, g2, if_true, if_false]
theorem m_drops {w c a fu : Nat} {x z : OS} (h : QR w c x (z.2 1)) (hf : 5000 ≤ fu) (ha : a < c) : ∃ z', fX9_drops fu z (nI a) = some z' ∧ JA z z' ∧ z'.2 1 0 = nI w ∧ z'.2 1 1 = nI (c - 1) ∧ ∀ i, i + 1 < c → (∀ v, v < 12 → z'.2 1 (2 + i * 12 + v) = z.2 1 (2 + sh a i * 12 + v)) ∧ z'.2 1 (734 + i) = dc a (z.2 1 (734 + sh a i)) ∧ z'.2 1 (795 + i) = dc a (z.2 1 (795 + sh a i)) ∧ z'.2 1 (856 + i) = z.2 1 (856 + sh a i) := by
  have h6 := h.c60
  obtain ⟨z1, e1, j1, mr⟩ := m_drop_l (a := a) h6 h.mc hf (fun (z1_112 : OS) => gd (inB (1 : Int32) 917) (gd (inB (1 : Int32) 917) (nm (sA z1_112 1 (upd (z1_112.2 1) ((1 : Int32)).toNatClampNeg ((z1_112.2 1 ((1 : Int32)).toNatClampNeg) - (1 : Int32)))) (fun (z_1 : OS) => jn (κ := OS → Option ((OS))) (fun (z1_202 : OS) => some z1_202) (fun j202 => lX9_drops_124 fu (nI a) j202 fu (0 : Int32) z_1))))) (c - 1 - a) a fu z (by omega) (by omega) (Nat.le_refl a) JA.rf ⟨fun i hi => by
      rw [show sh a i = i from if_pos hi]; exact ⟨fun _ _ => rfl, rfl, rfl, rfl⟩, fun i _ _ => ⟨fun _ _ => rfl, rfl, rfl, rfl⟩, rfl, rfl⟩
  have m1 : z1.2 1 1 = nI c := mr.2.2.2.trans h.mc
  have m2 : (sA z1 1 (upd (z1.2 1) 1 (nI (c - 1)))).2 1 1 = nI (c - 1) := by rw [sA_s]; exact pk_us
  obtain ⟨z', e2, j2, d1, d2⟩ := m_dec_l (fu := fu) (a := a) (z := sA z1 1 (upd (z1.2 1) 1 (nI (c - 1)))) (by omega) m2 (c - 1) 0 fu (sA z1 1 (upd (z1.2 1) 1 (nI (c - 1)))) (by omega) (by omega) JA.rf (fun i hi => absurd hi (by omega)) (fun _ _ _ => rfl)
  refine ⟨z', ?_, (j1.tr (JA.sa _ _)).tr j2, ?_, ?_, fun i hi => ?_⟩
  · unfold fX9_drops
    rw [jn_d, e1]
    simp (disch := omega) only [L1, inB_I, gd_t, nI_clamp, m1, nm_d, jn_d, pk_sub]
    exact e2
  · rw [d2 0 (by omega) (by omega), sA_s, pk_un (by omega)]; exact mr.2.2.1.trans h.mw
  · rw [d2 1 (by omega) (by omega)]; exact m2
  · obtain ⟨q1, q2, q3, q4⟩ := mr.1 i (by omega)
    refine ⟨fun v hv => ?_, ?_, ?_, ?_⟩
    · rw [d2 _ (by omega) (by omega), sA_s, pk_un (by omega)]; exact q1 v hv
    · rw [(d1 i (by omega)).1, sA_s, pk_un (by omega), q2]
    · rw [(d1 i (by omega)).2, sA_s, pk_un (by omega), q3]
    · rw [d2 _ (by omega) (by omega), sA_s, pk_un (by omega)]; exact q4
/-- no clause has this one as a parent -/
def par (x : OS) (c a : Nat) : Bool := ex (fun i => decide (x.2 2 i = nI a) || decide (x.2 3 i = nI a)) c 0
theorem RL_drop {w c a fu : Nat} {x z : OS} (h : QR w c x (z.2 1)) (hf : 5000 ≤ fu) (ha : a < c) (np : par x c a = false) : ∃ x' z', fX0_remove fu x (nI a) = some x' ∧ fX9_drops fu z (nI a) = some z' ∧ JA z z' ∧ QR w (c - 1) x' (z'.2 1) := by
  have h6 := h.c60
  obtain ⟨x', e1, x6, x7, k⟩ := q_remove h hf ha
  obtain ⟨z', e2, j, m0, m1, km⟩ := m_drops h hf ha
  have hsh : ∀ i, i + 1 < c → sh a i < c := fun i hi => by unfold sh; split <;> omega
  refine ⟨x', z', e1, e2, j, ⟨h.w1, h.w12, by omega, x6.trans h.xw, x7, m0, m1⟩, fun i hi => ?_, fun i hi => ?_, fun i hi => ?_, fun i hi => ?_⟩
  · obtain ⟨k0, k1, -⟩ := k i hi
    rw [k0, k1]; exact h.ok (hsh i (by omega))
  · obtain ⟨k0, k1, -⟩ := k i hi
    rw [k0, k1]
    intro v hv
    rw [(km i (by omega)).1 v hv]
    exact h.row (hsh i (by omega)) v hv
  · obtain ⟨k0, k1, k2, k3, k4, k5⟩ := k i hi
    obtain ⟨-, q2, q3, q4⟩ := km i (by omega)
    rw [q2, q3, q4, k2, k3, k4, h.fst (hsh i (by omega)), h.snd (hsh i (by omega)), h.by (hsh i (by omega))]
    exact ⟨rfl, rfl, rfl⟩
  · obtain ⟨k0, k1, k2, k3, k4, k5⟩ := k i hi
    have hs := hsh i (by omega)
    rcases h.pw hs with ⟨p1, p2, p3, p4⟩ | ⟨v, A, B, hv, hA, hB, p1, p2, p3, p4⟩
    · left
      rw [k2, k3, k4, k5, p1, p2, p3, p4, dc_m1 (by omega)]
      exact ⟨rfl, rfl, rfl, rfl⟩
    · right
      have nA : A ≠ a := fun e => by
        have : par x c a = true := ex_t.mpr ⟨sh a i, by omega, by omega, by rw [p2, e]; simp⟩
        rw [np] at this; cases this
      have nB : B ≠ a := fun e => by
        have : par x c a = true := ex_t.mpr ⟨sh a i, by omega, by omega, by rw [p3, e]; simp⟩
        rw [np] at this; cases this
      have down : ∀ A, A < sh a i → A ≠ a → ∃ A', A' < i ∧ dc a (nI A) = nI A' ∧ sh a A' = A := fun A hA nA => by
        rcases Nat.lt_or_ge A a with g | g
        · refine ⟨A, ?_, dc_lt (by omega) (by omega), if_pos g⟩
          unfold sh at hA; split at hA <;> omega
        · refine ⟨A - 1, ?_, dc_gt (by omega) (by omega), ?_⟩
          · unfold sh at hA; split at hA <;> omega
          · unfold sh; rw [if_neg (by omega)]; omega
      obtain ⟨A', hA', eA, sA'⟩ := down A hA nA
      obtain ⟨B', hB', eB, sB'⟩ := down B hB nB
      refine ⟨v, A', B', hv, hA', hB', ?_, ?_, ?_, ?_⟩
      · rw [k4, p1]
      · rw [k2, p2, eA]
      · rw [k3, p3, eB]
      · rw [k5, p4, (k A' (by omega)).2.2.2.2.2, (k B' (by omega)).2.2.2.2.2, sA', sB']
