/-! Part II: depths and derivations on both sides. -/
/-- one array alone has changed -/
def SK (k : Nat) (z z' : OS) : Prop := z'.1 = z.1 ∧ ∀ j, j ≠ k → z'.2 j = z.2 j
theorem SK.rf {k : Nat} {z : OS} : SK k z z := ⟨rfl, fun _ _ => rfl⟩
theorem SK.tr {k : Nat} {z z' z'' : OS} (a : SK k z z') (b : SK k z' z'') : SK k z z'' := ⟨b.1.trans a.1, fun j h => (b.2 j h).trans (a.2 j h)⟩
theorem SK.sa (k : Nat) (z : OS) (f : Nat → Int32) : SK k z (sA z k f) := ⟨rfl, fun _ h => sA_o z f h⟩
theorem SK.sf {k c : Nat} {z z' : OS} (a : SK k z z') (h : k = 10 ∨ k = 11) : SF c z z' := ⟨⟨fun i => Or.inr (by rw [a.1]), fun j => by
  by_cases e : j = k
  · exact Or.inl (Or.inr (by omega))
  · exact Or.inr (a.2 j e)⟩, fun i _ => by rw [a.2 1 (by omega)]⟩
theorem m_deep {w c fu : Nat} {x z z1 : OS} (h : QR w c x (z.2 1)) (s : SK 10 z z1) {k : Nat} (hk : k < c) (inv : ∀ i, i < k → z1.2 10 i = x.2 5 i) : fX9_deep fu z1 (nI k) = some (x.2 5 k) := by
  have h6 := h.c60
  have h12 := h.w12
  have e1 : z1.2 1 = z.2 1 := s.2 1 (by omega)
  have g1 := h.by hk
  have g2 := h.fst hk
  have g3 := h.snd hk
  have c1 : (856 : Int32) + nI k = nI (856 + k) := nI_add 856 k
  have c2 : (734 : Int32) + nI k = nI (734 + k) := nI_add 734 k
  have c3 : (795 : Int32) + nI k = nI (795 + k) := nI_add 795 k
  unfold fX9_deep
  rw [c1, c2, c3, e1, inB_I (by omega) (by omega), gd_t, nI_clamp (by omega), g1, inB_I (by omega) (by omega), gd_t, nI_clamp (by omega), g2, inB_I (by omega) (by omega), nI_clamp (by omega), g3]
  rcases h.pw hk with ⟨p1, p2, p3, p4⟩ | ⟨v, A, B, hv, hA, hB, p1, p2, p3, p4⟩
  · rw [p1, if_neg (fun q => q rfl), p4]
  · rw [p1, if_pos (fun q => (nI_m1 (a := v) (by omega)).mp q), p2, p3, inB_I (by omega) (by omega), inB_I (by omega) (by omega), gd_t, gd_t, gd_t, nI_clamp (by omega), nI_clamp (by omega), inv A hA, inv B hB, p4]
theorem m_depthAt_l {w c fu : Nat} {x z : OS} (h : QR w c x (z.2 1)) (hf : 5000 ≤ fu) {a : Nat} (ha : a < c) : ∀ (d k n : Nat) (z1 : OS), k + d = a + 1 → d < n → SK 10 z z1 → (∀ i, i < k → z1.2 10 i = x.2 5 i) → ∃ z', lX9_depthAt_2 fu (nI a) (fun z1_24 => gd (inB (nI a) 60) (some ((z1_24.2 10 (nI a).toNatClampNeg), z1_24))) n (nI k) z1 = some (x.2 5 a, z') ∧ SK 10 z z' := by
  have h6 := h.c60
  intro d
  induction d with
  | zero =>
    intro k n z1 h1 h2 s inv
    obtain ⟨n, rfl⟩ : ∃ m, n = m + 1 := ⟨n - 1, by omega⟩
    refine ⟨z1, ?_, s⟩
    rw [lX9_depthAt_2, if_pos (nI_lt (by omega) (by omega)), inB_I (by omega) (by omega), gd_t, nI_clamp (by omega), inv a (by omega)]
  | succ d ih =>
    intro k n z1 h1 h2 s inv
    obtain ⟨n, rfl⟩ : ∃ m, n = m + 1 := ⟨n - 1, by omega⟩
    rw [lX9_depthAt_2, if_neg (nI_nlt (by omega) (by omega)), m_deep h s (k := k) (by omega) inv, bd_s, inB_I (by omega) (by omega), gd_t, nI_clamp (by omega), nm_d, nm_d, nI_1]
    refine ih (k + 1) n _ (by omega) (by omega) (s.tr (SK.sa 10 _ _)) (fun i hi => ?_)
    rw [sA_s]
    by_cases g : i = k
    · subst g; exact pk_us
    · rw [pk_un g]; exact inv i (by omega)
theorem m_depthAt {w c fu : Nat} {x z : OS} (h : QR w c x (z.2 1)) (hf : 5000 ≤ fu) {a : Nat} (ha : a < c) : ∃ z', fX9_depthAt fu z (nI a) = some (x.2 5 a, z') ∧ SK 10 z z' :=
  m_depthAt_l h hf ha (a + 1) 0 fu z (by omega) (by have := h.c60; omega) SK.rf (fun i hi => absurd hi (by omega))
theorem m_deepest_l {w c fu : Nat} {x z : OS} (h : QR w c x (z.2 1)) (hf : 5000 ≤ fu) : ∀ (d k n : Nat) (b g : Int32) (z1 : OS), k + d = c → d < n → SK 10 z z1 → ∃ z', lX9_deepestClause_11 fu (fun v z => some (v, z)) n b g (nI k) z1 = some (mf (x.2 5) d k b g, z') ∧ SK 10 z z' := by
  have h6 := h.c60
  intro d
  induction d with
  | zero =>
    intro k n b g z1 h1 h2 s
    obtain ⟨n, rfl⟩ : ∃ m, n = m + 1 := ⟨n - 1, by omega⟩
    have r1 : QR w c x (z1.2 1) := by rw [s.2 1 (by omega)]; exact h
    refine ⟨z1, ?_, s⟩
    rw [lX9_deepestClause_11, many_e r1.mc, bd_s, if_pos (nI_le (by omega) (by omega)), mf]
  | succ d ih =>
    intro k n b g z1 h1 h2 s
    obtain ⟨n, rfl⟩ : ∃ m, n = m + 1 := ⟨n - 1, by omega⟩
    have r1 : QR w c x (z1.2 1) := by rw [s.2 1 (by omega)]; exact h
    obtain ⟨z2, e2, s2⟩ := m_depthAt r1 hf (a := k) (by omega)
    have r2 : QR w c x (z2.2 1) := by rw [s2.2 1 (by omega)]; exact r1
    obtain ⟨z3, e3, s3⟩ := m_depthAt r2 hf (a := k) (by omega)
    rw [lX9_deepestClause_11, many_e r1.mc, bd_s, if_neg (nI_ge (by omega) (by omega)), e2]
    simp only [bd_s, nm_d, jn_d, nI_1, e3, mf]
    by_cases q : x.2 5 k ≤ g
    · simp only [q, if_true]
      exact ih (k + 1) n b g z2 (by omega) (by omega) (s.tr s2)
    · simp only [q, if_false]
      exact ih (k + 1) n (nI k) (x.2 5 k) z3 (by omega) (by omega) ((s.tr s2).tr s3)
/-! derivations -/
theorem bL_ext {x y : Int64} (h : ∀ i, i < 64 → bL x i = bL y i) : x = y := Int64.toBitVec_inj.mp (BitVec.eq_of_getLsbD_eq (fun i hi => h i hi))
theorem bL_or (x y : Int64) (i : Nat) : bL (x ||| y) i = (bL x i || bL y i) := by unfold bL; rw [Int64.toBitVec_or, BitVec.getLsbD_or]
theorem bL_and (x y : Int64) (i : Nat) : bL (x &&& y) i = (bL x i && bL y i) := by unfold bL; rw [Int64.toBitVec_and, BitVec.getLsbD_and]
theorem bL_0 (i : Nat) : bL 0 i = false := BitVec.getLsbD_zero
theorem bL_big {x : Int64} {i : Nat} (h : 64 ≤ i) : bL x i = false := BitVec.getLsbD_of_ge _ _ h
theorem sL : ∀ n, n < 64 → (((nI n).toInt64 &&& 63).toBitVec.smod 64).toNat = n := by decide +kernel
theorem bL_1 : ∀ i, i < 64 → bL 1 i = decide (i = 0) := by decide +kernel
theorem bL_shl (n : Nat) (hn : n < 64) (x : Int64) {i : Nat} (hi : i < 64) : bL (x <<< ((nI n).toInt64 &&& 63)) i = (decide (n ≤ i) && bL x (i - n)) := by
  unfold bL
  rw [Int64.toBitVec_shiftLeft]
  show (x.toBitVec <<< (((nI n).toInt64 &&& 63).toBitVec.smod 64).toNat).getLsbD i = _
  rw [sL n hn, BitVec.getLsbD_shiftLeft]
  rcases Nat.lt_or_ge i n with h | h
  · simp [h, Nat.not_le.mpr h]
  · simp [hi, h, Nat.not_lt.mpr h]
theorem bL_bit {a i : Nat} (ha : a < 64) (hi : i < 64) : bL ((1 : Int64) <<< ((nI a).toInt64 &&& 63)) i = decide (i = a) := by
  rw [bL_shl a ha 1 hi]
  rcases Nat.lt_or_ge i a with g | g
  · rw [decide_eq_false (by omega), decide_eq_false (by omega)]; rfl
  · rw [decide_eq_true g, bL_1 _ (by omega), Bool.true_and]
    by_cases e : i = a
    · rw [decide_eq_true e, decide_eq_true (by omega)]
    · rw [decide_eq_false e, decide_eq_false (by omega)]
theorem bL_sshr (n : Nat) (hn : n < 64) (x : Int64) {i : Nat} (hi : i < 64) : bL (x >>> ((nI n).toInt64 &&& 63)) i = if n + i < 64 then bL x (n + i) else bL x 63 := by
  unfold bL
  rw [Int64.toBitVec_shiftRight]
  show (x.toBitVec.sshiftRight (((nI n).toInt64 &&& 63).toBitVec.smod 64).toNat).getLsbD i = _
  rw [sL n hn, BitVec.getLsbD_sshiftRight, BitVec.msb_eq_getLsbD_last]
  simp [hi]
theorem bL_at {k : Nat} (hk : k < 64) (m : Int64) : (lg_cmp ((m >>> ((nI k).toInt64 &&& 63)) &&& 1) 0 = 0) = (bL m k = false) := by
  apply propext
  rw [lg_cmp_eq]
  constructor
  · intro h
    have := congrArg (fun q => bL q 0) h
    simp only [bL_and, bL_0, bL_sshr k hk m (show 0 < 64 by omega), bL_1 0 (by omega)] at this
    rw [if_pos (by omega)] at this
    simpa using this
  · intro h
    apply bL_ext
    intro i hi
    rw [bL_and, bL_0, bL_1 i hi, bL_sshr k hk m hi]
    by_cases e : i = 0
    · subst e; rw [if_pos (by omega), Nat.add_zero, h]; rfl
    · rw [decide_eq_false e, Bool.and_false]
/-- the clauses of a derivation, from the k-th downwards -/
def ds (x : OS) : Nat → (Nat → Bool) → Nat → Bool
  | 0, S => S
  | k + 1, S => ds x k (if (S k && !decide (x.2 4 k = -1)) = true then fun i => S i || (decide (i = (x.2 2 k).toNatClampNeg) || decide (i = (x.2 3 k).toNatClampNeg)) else S)
theorem ds_sup {w c : Nat} {x : OS} {m : Nat → Int32} (h : QR w c x m) : ∀ (k : Nat) (S : Nat → Bool), k ≤ c → (∀ i, S i = true → i < c) → ∀ i, ds x k S i = true → i < c := by
  have h6 := h.c60
  intro k
  induction k with
  | zero => intro S _ hs i hi; exact hs i hi
  | succ k ih =>
    intro S hk hs i hi
    rw [ds] at hi
    by_cases e : (S k && !decide (x.2 4 k = -1)) = true
    · rw [if_pos e] at hi
      rcases h.pw (k := k) (by omega) with ⟨p1, -⟩ | ⟨v, A, B, hv, hA, hB, p1, p2, p3, p4⟩
      · rw [p1] at e; simp at e
      · rw [p2, p3, nI_clamp (by omega), nI_clamp (by omega)] at hi
        refine ih _ (by omega) (fun j hj => ?_) i hi
        rw [Bool.or_eq_true, Bool.or_eq_true, decide_eq_true_eq, decide_eq_true_eq] at hj
        rcases hj with hj | hj | hj
        · exact hs j hj
        · omega
        · omega
    · rw [if_neg e] at hi
      exact ih S (by omega) hs i hi
theorem q_deriv_l {w c : Nat} {x : OS} {m : Nat → Int32} (h : QR w c x m) : ∀ (k n : Nat) (M : Int64) (S : Nat → Bool), k ≤ c → k < n → (∀ i, i < 64 → bL M i = S i) → ∃ M', lX0_derivationMask_7 x (fun v => some v) n M (vk k) = some M' ∧ ∀ i, i < 64 → bL M' i = ds x k S i := by
  have h6 := h.c60
  have h12 := h.w12
  intro k
  induction k with
  | zero =>
    intro n M S hk hn hS
    obtain ⟨n, rfl⟩ : ∃ m, n = m + 1 := ⟨n - 1, by omega⟩
    refine ⟨M, ?_, hS⟩
    rw [lX0_derivationMask_7, vk_0, if_pos (by decide)]
  | succ k ih =>
    intro n M S hk hn hS
    obtain ⟨n, rfl⟩ : ∃ m, n = m + 1 := ⟨n - 1, by omega⟩
    rw [lX0_derivationMask_7, vk_s, if_neg (nI_pos (by omega)), ds]
    simp (disch := omega) only [jn_d, nm_d, vk_p, bL_at (show k < 64 by omega), inB_I, gd_t, nI_clamp]
    rw [hS k (by omega)]
    rcases Bool.eq_false_or_eq_true (S k) with g | g
    · rcases h.pw (k := k) (by omega) with ⟨p1, -⟩ | ⟨v, A, B, hv, hA, hB, p1, p2, p3, p4⟩
      · simp only [g, p1, Bool.true_eq_false, if_false, if_true, decide_true, Bool.not_true, Bool.and_false, Bool.false_eq_true]
        exact ih n M S (by omega) (by omega) hS
      · have ne : ¬ (nI v = (-1 : Int32)) := fun q => (nI_m1 (a := v) (by omega)).mp q
        simp (disch := omega) only [g, p1, p2, p3, ne, Bool.true_eq_false, if_false, if_true, decide_false, Bool.not_false, Bool.and_self, nI_clamp]
        refine ih n _ _ (by omega) (by omega) (fun i hi => ?_)
        rw [bL_or, bL_or, hS i hi, bL_bit (by omega) hi, bL_bit (by omega) hi]
    · simp only [g, if_true, Bool.false_and, Bool.false_eq_true, if_false]
      exact ih n M S (by omega) (by omega) hS
def dS (x : OS) (a : Nat) : Nat → Bool := ds x (a + 1) (fun i => decide (i = a))
theorem dS_sup {w c a : Nat} {x : OS} {m : Nat → Int32} (h : QR w c x m) (ha : a < c) {i : Nat} (hi : dS x a i = true) : i < c :=
  ds_sup h (a + 1) _ (by omega) (fun j hj => by rw [decide_eq_true_eq] at hj; omega) i hi
theorem q_deriv {w c a fu : Nat} {x : OS} {m : Nat → Int32} (h : QR w c x m) (hf : 5000 ≤ fu) (ha : a < c) : ∃ M, fX0_derivationMask fu x (nI a) = some M ∧ ∀ i, i < 64 → bL M i = dS x a i := by
  have h6 := h.c60
  have := q_deriv_l h (a + 1) fu ((1 : Int64) <<< ((nI a).toInt64 &&& 63)) (fun i => decide (i = a)) (by omega) (by omega) (fun i hi => bL_bit (by omega) hi)
  rw [vk_s] at this
  exact this
theorem nar_0 : vp_nar .boolean (0 : Int32) = 0 := by decide
theorem nar_1 : vp_nar .boolean (1 : Int32) = 1 := by decide
theorem m_der2_l {fu a : Nat} {z : OS} (J : OS → Option OS) : ∀ (d k n : Nat) (z1 : OS), k + d = 60 → d < n → SK 11 z z1 → (∀ i, i < k → z1.2 11 i = b2 (decide (i = a))) → a < 60 → ∃ z', lX9_derives_2 (nI a) J n (nI k) z1 = J z' ∧ SK 11 z z' ∧ ∀ i, i < 60 → z'.2 11 i = b2 (decide (i = a)) := by
  intro d
  induction d with
  | zero =>
    intro k n z1 h1 h2 s inv ha
    obtain ⟨n, rfl⟩ : ∃ m, n = m + 1 := ⟨n - 1, by omega⟩
    refine ⟨z1, ?_, s, fun i hi => inv i (by omega)⟩
    rw [lX9_derives_2, L60, if_pos (nI_le (by omega) (by omega))]
  | succ d ih =>
    intro k n z1 h1 h2 s inv ha
    obtain ⟨n, rfl⟩ : ∃ m, n = m + 1 := ⟨n - 1, by omega⟩
    have key : ∀ v : Int32, v = b2 (decide (k = a)) → ∃ z', lX9_derives_2 (nI a) J n (nI (k + 1)) (sA z1 11 (upd (z1.2 11) k v)) = J z' ∧ SK 11 z z' ∧ ∀ i, i < 60 → z'.2 11 i = b2 (decide (i = a)) := fun v hv =>
      ih (k + 1) n _ (by omega) (by omega) (s.tr (SK.sa 11 _ _)) (fun i hi => by
        rw [sA_s]
        by_cases g : i = k
        · subst g; rw [pk_us, hv]
        · rw [pk_un g]; exact inv i (by omega)) ha
    rw [lX9_derives_2, L60, if_neg (nI_ge (by omega) (by omega))]
    simp (disch := omega) only [jn_d, nm_d, nI_eq, inB_I, gd_t, nI_clamp, nI_1, nar_0, nar_1]
    by_cases g : k = a
    · subst g
      simp only [not_true_eq_false, if_false, nar_1]
      exact key 1 (by rw [decide_eq_true rfl]; rfl)
    · simp only [g, not_false_eq_true, if_true, nar_0]
      exact key 0 (by rw [decide_eq_false g]; rfl)
theorem m_der1_l {w c fu : Nat} {x z : OS} (h : QR w c x (z.2 1)) (hf : 5000 ≤ fu) : ∀ (k n : Nat) (z1 : OS) (S : Nat → Bool), k ≤ c → k < n → SK 11 z z1 → (∀ i, i < 60 → z1.2 11 i = b2 (S i)) → ∃ z', lX9_derives_32 (fun z => some z) n (vk k) z1 = some z' ∧ SK 11 z z' ∧ ∀ i, i < 60 → z'.2 11 i = b2 (ds x k S i) := by
  have h6 := h.c60
  have h12 := h.w12
  intro k
  induction k with
  | zero =>
    intro n z1 S hk hn s inv
    obtain ⟨n, rfl⟩ : ∃ m, n = m + 1 := ⟨n - 1, by omega⟩
    refine ⟨z1, ?_, s, inv⟩
    rw [lX9_derives_32, vk_0, if_pos (by decide)]
  | succ k ih =>
    intro n z1 S hk hn s inv
    obtain ⟨n, rfl⟩ : ∃ m, n = m + 1 := ⟨n - 1, by omega⟩
    have e1 : z1.2 1 = z.2 1 := s.2 1 (by omega)
    have g1 := h.by (k := k) (by omega)
    have g2 := h.fst (k := k) (by omega)
    have g3 := h.snd (k := k) (by omega)
    have c1 : (856 : Int32) + nI k = nI (856 + k) := nI_add 856 k
    have c2 : (734 : Int32) + nI k = nI (734 + k) := nI_add 734 k
    have c3 : (795 : Int32) + nI k = nI (795 + k) := nI_add 795 k
    have ik := inv k (by omega)
    rw [lX9_derives_32, vk_s, if_neg (nI_pos (by omega)), ds, c1, c2, c3, jn_d, inB_I (show k < 60 by omega) (by omega), gd_t, nI_clamp (show k < 2 ^ 31 by omega), ik]
    rcases Bool.eq_false_or_eq_true (S k) with g | g
    · have hb : ¬ b2 (S k) = 0 := by rw [g]; decide
      rw [if_neg hb, inB_I (show 856 + k < 917 by omega) (by omega), gd_t, nI_clamp (show 856 + k < 2 ^ 31 by omega), e1, g1]
      rcases h.pw (k := k) (by omega) with ⟨p1, -⟩ | ⟨v, A, B, hv, hA, hB, p1, p2, p3, p4⟩
      · rw [p1, if_pos rfl, decide_eq_true rfl, Bool.not_true, Bool.and_false, if_neg (by decide)]
        simp only [nm_d, vk_p]
        exact ih n z1 S (by omega) (by omega) s inv
      · have ne : ¬ (nI v = (-1 : Int32)) := fun q => (nI_m1 (a := v) (by omega)).mp q
        rw [p1, if_neg ne, inB_I (show 734 + k < 917 by omega) (by omega), gd_t, nI_clamp (show 734 + k < 2 ^ 31 by omega), g2, p2, inB_I (show A < 60 by omega) (by omega), gd_t, nm_d, inB_I (show 795 + k < 917 by omega) (by omega), gd_t, nI_clamp (show 795 + k < 2 ^ 31 by omega), sA_o _ _ (show 1 ≠ 11 by omega), e1, g3, p3, inB_I (show B < 60 by omega) (by omega), gd_t, nm_d]
        simp only [nm_d, vk_p]
        rw [nI_clamp (show A < 2 ^ 31 by omega), nI_clamp (show B < 2 ^ 31 by omega), nar_1, sA_s, g, decide_eq_false ne]
        refine ih n _ _ (by omega) (by omega) ((s.tr (SK.sa 11 _ _)).tr (SK.sa 11 _ _)) (fun i hi => ?_)
        rw [sA_s, if_pos (by decide)]
        by_cases gB : i = B
        · subst gB
          rw [pk_us]; simp [b2]
        · rw [pk_un gB]
          by_cases gA : i = A
          · subst gA
            rw [pk_us]; simp [b2]
          · rw [pk_un gA, inv i hi]; simp [gA, gB]
    · have hb : b2 (S k) = 0 := by rw [g]; rfl
      rw [if_pos hb, g, Bool.false_and, if_neg (by decide)]
      simp only [nm_d, vk_p]
      exact ih n z1 S (by omega) (by omega) s inv
theorem m_derives {w c fu : Nat} {x z : OS} (h : QR w c x (z.2 1)) (hf : 5000 ≤ fu) {a : Nat} (ha : a < c) : ∃ z', fX9_derives fu z (nI a) = some z' ∧ SK 11 z z' ∧ ∀ i, i < 60 → z'.2 11 i = b2 (dS x a i) := by
  have h6 := h.c60
  obtain ⟨z1, e1, s1, i1⟩ := m_der2_l (fu := fu) (a := a) (z := z) (fun (z1_30 : OS) => jn (κ := OS → Option ((OS))) (fun (z1_97 : OS) => some z1_97) (fun j97 => lX9_derives_32 j97 fu (nI a) z1_30)) 60 0 fu z (by omega) (by omega) SK.rf (fun i hi => absurd hi (by omega)) (by omega)
  have r1 : QR w c x (z1.2 1) := by rw [s1.2 1 (by omega)]; exact h
  obtain ⟨z2, e2, s2, i2⟩ := m_der1_l r1 hf (a + 1) fu z1 (fun i => decide (i = a)) (by omega) (by omega) SK.rf i1
  refine ⟨z2, ?_, s1.tr s2, i2⟩
  unfold fX9_derives
  rw [jn_d]
  rw [vk_s] at e2
  exact e1.trans e2
/-- an or of bits of a long -/
def oL (p : Nat → Bool) : Nat → Nat → Int64
  | 0, _ => 0
  | d + 1, k => (if p k = true then (1 : Int64) <<< ((nI k).toInt64 &&& 63) else 0) ||| oL p d (k + 1)
theorem oL_bt {p : Nat → Bool} : ∀ {d k i : Nat}, k + d ≤ 64 → i < 64 → bL (oL p d k) i = (decide (k ≤ i) && decide (i < k + d) && p i)
  | 0, k, i, _, _ => by
    rw [oL, bL_0]
    by_cases a : k ≤ i
    · rw [decide_eq_false (show ¬ i < k + 0 by omega)]; simp
    · rw [decide_eq_false a]; simp
  | d + 1, k, i, h, hi => by
    rw [oL, bL_or, oL_bt (by omega) hi]
    by_cases e : i = k
    · subst e
      rw [decide_eq_true (Nat.le_refl i), decide_eq_true (show i < i + (d + 1) by omega), decide_eq_false (show ¬ i + 1 ≤ i by omega)]
      rcases Bool.eq_false_or_eq_true (p i) with g | g
      · rw [if_pos g, bL_bit (by omega) hi, decide_eq_true rfl, g]; rfl
      · rw [g, if_neg (by decide), bL_0]; rfl
    · have z0 : bL (if p k = true then (1 : Int64) <<< ((nI k).toInt64 &&& 63) else 0) i = false := by
        by_cases g : p k = true
        · rw [if_pos g, bL_bit (by omega) hi, decide_eq_false e]
        · rw [if_neg g, bL_0]
      rw [z0, Bool.false_or]
      congr 1
      rw [show decide (k + 1 ≤ i) = decide (k ≤ i) from by rw [decide_eq_decide]; omega, show decide (i < k + 1 + d) = decide (i < k + (d + 1)) from by rw [decide_eq_decide]; omega]
theorem q_given_l {x : OS} {c : Nat} (hc : x.1 7 = nI c) (h6 : c ≤ 60) : ∀ (d k n : Nat) (acc : Int64), k + d = c → d < n → lX0_givenMask_4 x (fun v => some v) n acc (nI k) = some (acc ||| oL (fun i => decide (x.2 4 i = -1)) d k) := by
  intro d
  induction d with
  | zero =>
    intro k n acc h1 h2
    obtain ⟨n, rfl⟩ : ∃ m, n = m + 1 := ⟨n - 1, by omega⟩
    have e : c ≤ k := by omega
    simp (disch := omega) only [lX0_givenMask_4, hc, nI_leI, e, oL, if_true, Int64.or_zero]
  | succ d ih =>
    intro k n acc h1 h2
    obtain ⟨n, rfl⟩ : ∃ m, n = m + 1 := ⟨n - 1, by omega⟩
    have e : ¬ c ≤ k := by omega
    have e2 := fun acc => ih (k + 1) n acc (by omega) (by omega)
    simp (disch := omega) only [lX0_givenMask_4, gd_t, bd_s, nm_d, jn_d, isZ_0, isZ_1, ↓reduceIte, if_true, if_false, not_true_eq_false, not_false_eq_true, ite_not, inB_I, nI_leI, nI_ltI, nI_clamp, nI_1, hc, oL, e, e2]
    clear ih e2
    by_cases q : x.2 4 k = -1 <;> simp [q, Int64.or_assoc]
theorem q_given {x : OS} {c fu : Nat} (hc : x.1 7 = nI c) (h6 : c ≤ 60) (hf : 5000 ≤ fu) : fX0_givenMask fu x = some (oL (fun i => decide (x.2 4 i = -1)) c 0) := by
  have := q_given_l hc h6 c 0 fu 0 (by omega) (by omega)
  rw [show (0 : Int64) ||| oL (fun i => decide (x.2 4 i = -1)) c 0 = oL (fun i => decide (x.2 4 i = -1)) c 0 by simp] at this
  exact this
theorem m_dsz_l {z : OS} {S : Nat → Bool} (hs : ∀ i, i < 60 → z.2 11 i = b2 (S i)) (j : Int32 → Option (Int32 × OS)) : ∀ (d k n : Nat) (acc : Int32), k + d = 60 → d < n → lX9_derivationSize_24 z j n acc (nI k) = j (acc + cn S d k) := by
  intro d
  induction d with
  | zero =>
    intro k n acc h1 h2
    obtain ⟨n, rfl⟩ : ∃ m, n = m + 1 := ⟨n - 1, by omega⟩
    have e : 60 ≤ k := by omega
    simp (disch := omega) only [lX9_derivationSize_24, L60, nI_leI, e, cn, if_true, Int32.add_zero]
  | succ d ih =>
    intro k n acc h1 h2
    obtain ⟨n, rfl⟩ : ∃ m, n = m + 1 := ⟨n - 1, by omega⟩
    have e : ¬ 60 ≤ k := by omega
    have e2 := fun acc => ih (k + 1) n acc (by omega) (by omega)
    simp (disch := omega) only [lX9_derivationSize_24, gd_t, bd_s, nm_d, jn_d, isZ_0, isZ_1, ↓reduceIte, if_true, if_false, not_true_eq_false, not_false_eq_true, ite_not, inB_I, nI_leI, nI_ltI, nI_clamp, nI_1, L60, cn, hs, b2_0, e, e2]
    clear ih e2
    rcases Bool.eq_false_or_eq_true (S k) with hh | hh <;> simp [hh, Int32.add_assoc]
theorem m_prem_l {w c fu : Nat} {x z : OS} (h : QR w c x (z.2 1)) {S : Nat → Bool} (hs : ∀ i, i < 60 → z.2 11 i = b2 (S i)) (j : Int64 → Option (Int64 × OS)) : ∀ (d k n : Nat) (acc : Int64), k + d = c → d < n → lX9_premises_25 fu z j n acc (nI k) = j (acc ||| oL (fun i => S i && decide (x.2 4 i = -1)) d k) := by
  intro d
  induction d with
  | zero =>
    intro k n acc h1 h2
    obtain ⟨n, rfl⟩ : ∃ m, n = m + 1 := ⟨n - 1, by omega⟩
    have e : c ≤ k := by omega
    have h6 := h.c60
    simp (disch := omega) only [lX9_premises_25, many_e h.mc, bd_s, nI_leI, e, oL, if_true, Int64.or_zero]
  | succ d ih =>
    intro k n acc h1 h2
    obtain ⟨n, rfl⟩ : ∃ m, n = m + 1 := ⟨n - 1, by omega⟩
    have e : ¬ c ≤ k := by omega
    have e2 := fun acc => ih (k + 1) n acc (by omega) (by omega)
    have h6 := h.c60
    have by1 := h.by (k := k) (by omega)
    simp (disch := omega) only [lX9_premises_25, gd_t, bd_s, nm_d, jn_d, isZ_0, isZ_1, ↓reduceIte, if_true, if_false, not_true_eq_false, not_false_eq_true, ite_not, inB_I, nI_leI, nI_ltI, nI_clamp, nI_1, many_e h.mc, oL, hs, b2_0, L856, nI_add, by1, e, e2]
    clear ih e2 by1
    rcases Bool.eq_false_or_eq_true (S k) with hh | hh <;> by_cases q : x.2 4 k = -1 <;> simp [hh, q, Int64.or_assoc]
/-- the sizes, the premises: the same on both sides -/
theorem size_eq {w c a : Nat} {x : OS} {m : Nat → Int32} (h : QR w c x m) (ha : a < c) {M : Int64} (hM : ∀ i, i < 64 → bL M i = dS x a i) : pL M = some (cn (dS x a) 60 0) := by
  have h6 := h.c60
  rw [pop64, show 64 = 60 + 4 by rfl, cn_cut 60 4 0 (fun i h1 h2 => by
    rw [hM i (by omega)]
    rcases Bool.eq_false_or_eq_true (dS x a i) with g | g
    · have := dS_sup h ha g; omega
    · exact g)]
  exact congrArg some (cn_c (fun i _ hi => hM i (by omega)))
theorem prem_eq {w c a : Nat} {x : OS} {m : Nat → Int32} (h : QR w c x m) (ha : a < c) {M : Int64} (hM : ∀ i, i < 64 → bL M i = dS x a i) : M &&& oL (fun i => decide (x.2 4 i = -1)) c 0 = 0 ||| oL (fun i => dS x a i && decide (x.2 4 i = -1)) c 0 := by
  have h6 := h.c60
  apply bL_ext
  intro i hi
  rw [bL_and, bL_or, bL_0, oL_bt (by omega) hi, oL_bt (by omega) hi, hM i hi]
  cases dS x a i <;> simp
