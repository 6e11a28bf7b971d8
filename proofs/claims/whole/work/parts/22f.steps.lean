/-! Part II: the next step of a saturation, and its steps, on both sides. -/
/-- a pair that gives a step -/
def sp (x : OS) (c i j : Nat) : Bool := decide (pc (cm (x.2 0 i) (x.2 1 i) (x.2 0 j) (x.2 1 j)) = 1) && !ex (fun k => wi (x.2 0 k) (x.2 1 k) (mgP (x.2 0 i) (x.2 1 i) (x.2 0 j) (x.2 1 j)) (mgN (x.2 0 i) (x.2 1 i) (x.2 0 j) (x.2 1 j))) c 0
def NB (x : OS) (c i j : Nat) : Prop := ∀ i' j', i' < j' → j' < c → (j' < j ∨ (j' = j ∧ i' < i)) → sp x c i' j' = false
def FS (x : OS) (c i j : Nat) : Prop := i < j ∧ j < c ∧ sp x c i j = true ∧ NB x c i j
theorem FS.one {x : OS} {c i j i' j' : Nat} (a : FS x c i j) (b : FS x c i' j') : i = i' ∧ j = j' := by
  obtain ⟨a1, a2, a3, a4⟩ := a
  obtain ⟨b1, b2, b3, b4⟩ := b
  have h1 : ¬ (j' < j ∨ (j' = j ∧ i' < i)) := fun h => by rw [a4 i' j' b1 b2 h] at b3; cases b3
  have h2 : ¬ (j < j' ∨ (j = j' ∧ i < i')) := fun h => by rw [b4 i j a1 a2 h] at a3; cases a3
  omega
def emp (x : OS) (c : Nat) : Bool := ex (fun i => decide (x.2 0 i = 0) && decide (x.2 1 i = 0)) c 0
/-- there is a next step -/
def ST (x : OS) (c i j : Nat) : Prop := c < 60 ∧ emp x c = false ∧ FS x c i j
theorem q_find1 {x : OS} {c fu : Nat} (hc : x.1 7 = nI c) (h6 : c ≤ 60) (hf : 5000 ≤ fu) {j : Nat} (hj : j < c) (J : OS → Option (Int32 × OS)) : ∀ (d i n : Nat) (z1 : OS), i + d = j → d < n → z1.1 0 = nI i → z1.1 1 = nI j →
    (∃ i', i ≤ i' ∧ i' < j ∧ sp x c i' j = true ∧ (∀ u, i ≤ u → u < i' → sp x c u j = false) ∧ ∃ z', lX5_findStep_30 fu x J n z1 = some (1, z') ∧ z'.1 0 = nI i' ∧ z'.1 1 = nI j) ∨ ((∀ u, i ≤ u → u < j → sp x c u j = false) ∧ ∃ z', lX5_findStep_30 fu x J n z1 = J z' ∧ z'.1 1 = nI j) := by
  intro d
  induction d with
  | zero =>
    intro i n z1 h1 h2 e0 e1
    obtain ⟨n, rfl⟩ : ∃ m, n = m + 1 := ⟨n - 1, by omega⟩
    refine Or.inr ⟨fun u a b => absurd b (by omega), z1, ?_, e1⟩
    unfold lX5_findStep_30
    rw [e0, e1, if_pos (nI_le (by omega) (by omega))]
  | succ d ih =>
    intro i n z1 h1 h2 e0 e1
    obtain ⟨n, rfl⟩ : ∃ m, n = m + 1 := ⟨n - 1, by omega⟩
    have ih := ih (i + 1) n (sI z1 0 (nI (i + 1))) (by omega) (by omega) (sI_s _ _ _) (by rw [sI_o _ _ (by omega)]; exact e1)
    have e : ¬ j ≤ i := by omega
    have E : lX5_findStep_30 fu x J (n + 1) z1 = if sp x c i j = true then some (1, z1) else lX5_findStep_30 fu x J n (sI z1 0 (nI (i + 1))) := by
      simp (disch := omega) only [lX5_findStep_30, e0, e1, nI_leI, e, if_false, q_clashOnce, bd_s, jn_d, nm_d, b2_0, q_mergedP, q_mergedN, q_some hc h6 hf, isZ_1, gd_t, nI_1]
      unfold sp
      by_cases a : pc (cm (x.2 0 i) (x.2 1 i) (x.2 0 j) (x.2 1 j)) = 1
      · rw [decide_eq_true a, Bool.true_and]
        rcases Bool.eq_false_or_eq_true (ex (fun k => wi (x.2 0 k) (x.2 1 k) (mgP (x.2 0 i) (x.2 1 i) (x.2 0 j) (x.2 1 j)) (mgN (x.2 0 i) (x.2 1 i) (x.2 0 j) (x.2 1 j))) c 0) with hh | hh <;> simp [hh]
      · rw [decide_eq_false a]; simp
    rw [E]
    by_cases a : sp x c i j = true
    · rw [if_pos a]
      exact Or.inl ⟨i, by omega, by omega, a, fun u h1 h2 => absurd h2 (by omega), z1, rfl, e0, e1⟩
    · rw [if_neg a]
      have a : sp x c i j = false := Bool.eq_false_iff.mpr a
      rcases ih with ⟨i', k1, k2, k3, k4, k5⟩ | ⟨k1, k2⟩
      · refine Or.inl ⟨i', by omega, k2, k3, fun u h1 h2 => ?_, k5⟩
        by_cases g : u = i
        · subst g; exact a
        · exact k4 u (by omega) h2
      · refine Or.inr ⟨fun u h1 h2 => ?_, k2⟩
        by_cases g : u = i
        · subst g; exact a
        · exact k1 u (by omega) h2
theorem q_find2 {x : OS} {c fu : Nat} (hc : x.1 7 = nI c) (h6 : c ≤ 60) (hf : 5000 ≤ fu) : ∀ (d j n i : Nat) (z1 : OS), j + d = c → d < n → i ≤ j → z1.1 0 = nI i → z1.1 1 = nI j → NB x c i j →
    (∃ i' j', FS x c i' j' ∧ ∃ z', lX5_findStep_19 fu x (fun z => gd (isZ 0) (some (0, z))) n z1 = some (1, z') ∧ z'.1 0 = nI i' ∧ z'.1 1 = nI j') ∨ ((∀ i j, i < j → j < c → sp x c i j = false) ∧ ∃ z', lX5_findStep_19 fu x (fun z => gd (isZ 0) (some (0, z))) n z1 = some (0, z')) := by
  intro d
  induction d with
  | zero =>
    intro j n i z1 h1 h2 h3 e0 e1 nb
    obtain ⟨n, rfl⟩ : ∃ m, n = m + 1 := ⟨n - 1, by omega⟩
    refine Or.inr ⟨fun i j a b => nb i j a b (Or.inl (by omega)), z1, ?_⟩
    unfold lX5_findStep_19
    rw [hc, e1, if_pos (nI_le (by omega) (by omega)), isZ_0]; rfl
  | succ d ih =>
    intro j n i z1 h1 h2 h3 e0 e1 nb
    obtain ⟨n, rfl⟩ : ∃ m, n = m + 1 := ⟨n - 1, by omega⟩
    have e : ¬ c ≤ j := by omega
    have g := q_find1 hc h6 hf (j := j) (by omega) (fun z1_102 => nm (sI z1_102 0 (0 : Int32)) (fun (z_5 : OS) => nm (sI z_5 1 ((z_5.1 1) + (1 : Int32))) (fun (z_6 : OS) => lX5_findStep_19 fu x (fun z => gd (isZ 0) (some (0, z))) n z_6))) (j - i) i fu z1 (by omega) (by omega) e0 e1
    have E : lX5_findStep_19 fu x (fun z => gd (isZ 0) (some (0, z))) (n + 1) z1 = lX5_findStep_30 fu x (fun z1_102 => nm (sI z1_102 0 (0 : Int32)) (fun (z_5 : OS) => nm (sI z_5 1 ((z_5.1 1) + (1 : Int32))) (fun (z_6 : OS) => lX5_findStep_19 fu x (fun z => gd (isZ 0) (some (0, z))) n z_6))) fu z1 := by
      rw [lX5_findStep_19, hc, e1, if_neg (nI_ge (by omega) (by omega))]; rfl
    rw [E]
    rcases g with ⟨i', k1, k2, k3, k4, z', k5, k6, k7⟩ | ⟨k1, z', k2, k3⟩
    · refine Or.inl ⟨i', j, ⟨k2, by omega, k3, fun u v a b f => ?_⟩, z', k5, k6, k7⟩
      rcases f with f | ⟨f1, f2⟩
      · exact nb u v a b (Or.inl f)
      · subst f1
        by_cases g : u < i
        · exact nb u v a b (Or.inr ⟨rfl, g⟩)
        · exact k4 u (by omega) f2
    · rw [k2]
      have e5 : (sI z' 0 0).1 1 + 1 = nI (j + 1) := by rw [sI_o _ _ (by omega), k3, nI_1]
      simp only [nm_d, e5]
      exact ih (j + 1) n 0 (sI (sI z' 0 0) 1 (nI (j + 1))) (by omega) (by omega) (by omega) (by rw [sI_o _ _ (by omega), sI_s]; rfl) (sI_s _ _ _) (fun u v a b f => by
        rcases f with f | ⟨f1, f2⟩
        · by_cases g : v = j
          · subst g
            by_cases g : u < i
            · exact nb u v a b (Or.inr ⟨rfl, g⟩)
            · exact k1 u (by omega) a
          · exact nb u v a b (Or.inl (by omega))
        · omega)
theorem q_findStep {x : OS} {c fu : Nat} (hc : x.1 7 = nI c) (h6 : c ≤ 60) (hf : 5000 ≤ fu) {i j : Nat} {z : OS} (h1 : i ≤ j) (e0 : z.1 0 = nI i) (e1 : z.1 1 = nI j) (hj : j ≤ 61) (nb : NB x c i j) :
    (∃ i' j', ST x c i' j' ∧ ∃ z', fX5_findStep fu z x = some (1, z') ∧ z'.1 0 = nI i' ∧ z'.1 1 = nI j') ∨ ((∀ i j, ¬ ST x c i j) ∧ ∃ z', fX5_findStep fu z x = some (0, z')) := by
  unfold fX5_findStep
  simp (disch := omega) only [q_isFull fu hc h6, bd_s, b2_0, q_indexOf hc h6 hf, ff_m1, isZ_0, gd_t, jn_d, decide_eq_false_iff_not]
  by_cases a : c = 60
  · refine Or.inr ⟨fun i j s => absurd s.1 (by omega), z, ?_⟩
    simp [a]
  · rcases Bool.eq_false_or_eq_true (emp x c) with b | b
    · refine Or.inr ⟨fun i j s => (by rw [s.2.1] at b; cases b), z, ?_⟩
      unfold emp at b
      simp [a, b]
    · have b' := b
      unfold emp at b'
      simp only [a, not_false_eq_true, not_true_eq_false, if_false, if_true, b']
      by_cases cj : c ≤ j
      · refine Or.inr ⟨fun u v s => ?_, z, ?_⟩
        · have := nb u v s.2.2.1 s.2.2.2.1 (Or.inl (by have := s.2.2.2.1; omega))
          rw [s.2.2.2.2.1] at this; cases this
        · obtain ⟨n, rfl⟩ : ∃ m, fu = m + 1 := ⟨fu - 1, by omega⟩
          rw [lX5_findStep_19, hc, e1, if_pos (nI_le cj (by omega))]
      · have g := q_find2 hc h6 hf (c - j) j fu i z (by omega) (by omega) h1 e0 e1 nb
        simp only [isZ_0, gd_t] at g
        rcases g with ⟨i', j', k1, k2⟩ | ⟨k1, k2⟩
        · exact Or.inl ⟨i', j', ⟨by omega, b, k1⟩, k2⟩
        · refine Or.inr ⟨fun u v s => ?_, k2⟩
          have := k1 u v s.2.2.1 s.2.2.2.1
          rw [s.2.2.2.2.1] at this; cases this
theorem m_has1 {w c fu : Nat} {x z : OS} (h : QR w c x (z.2 1)) (hf : 5000 ≤ fu) {j : Nat} (hj : j < c) (J : OS → Option (Int32 × OS)) : ∀ (d i n : Nat) (z1 : OS), i + d = j → d < n → SF c z z1 → z1.1 8 = -1 → z1.1 9 = -1 → (∀ u, u < i → sp x c u j = false) →
    (∃ i', i' < j ∧ sp x c i' j = true ∧ (∀ u, u < i' → sp x c u j = false) ∧ ∃ z', lX9_hasStep_41 fu (nI j) J n (nI i) z1 = some (1, z') ∧ SF c z z' ∧ z'.1 8 = nI i' ∧ z'.1 9 = nI j) ∨ ((∀ u, u < j → sp x c u j = false) ∧ ∃ z', lX9_hasStep_41 fu (nI j) J n (nI i) z1 = J z' ∧ SF c z z' ∧ z'.1 8 = -1 ∧ z'.1 9 = -1) := by
  have h6 := h.c60
  intro d
  induction d with
  | zero =>
    intro i n z1 h1 h2 s e8 e9 nb
    obtain ⟨n, rfl⟩ : ∃ m, n = m + 1 := ⟨n - 1, by omega⟩
    refine Or.inr ⟨fun u a => nb u (by omega), z1, ?_, s, e8, e9⟩
    unfold lX9_hasStep_41
    rw [if_pos (nI_le (by omega) (by omega))]
  | succ d ih =>
    intro i n z1 h1 h2 s e8 e9 nb
    obtain ⟨n, rfl⟩ : ∃ m, n = m + 1 := ⟨n - 1, by omega⟩
    have r1 := s.rl h
    have cl := m_clash (fu := fu) r1.mw r1.w12 (r1.row (k := i) (by omega)) (by omega) (r1.ok (k := i) (by omega)) (r1.row hj) (by omega) (r1.ok hj) hf
    have e : ¬ j ≤ i := by omega
    have go : sp x c i j = false → ∀ z2 : OS, SF c z z2 → z2.1 8 = -1 → z2.1 9 = -1 → (∃ i', i' < j ∧ sp x c i' j = true ∧ (∀ u, u < i' → sp x c u j = false) ∧ ∃ z', lX9_hasStep_41 fu (nI j) J n (nI (i + 1)) z2 = some (1, z') ∧ SF c z z' ∧ z'.1 8 = nI i' ∧ z'.1 9 = nI j) ∨ ((∀ u, u < j → sp x c u j = false) ∧ ∃ z', lX9_hasStep_41 fu (nI j) J n (nI (i + 1)) z2 = J z' ∧ SF c z z' ∧ z'.1 8 = -1 ∧ z'.1 9 = -1) :=
      fun hs z2 s2 f8 f9 => ih (i + 1) n z2 (by omega) (by omega) s2 f8 f9 (fun u hu => by
        by_cases g : u = i
        · subst g; exact hs
        · exact nb u (by omega))
    rw [lX9_hasStep_41]
    simp (disch := omega) only [nI_leI, e, if_false, cl, bd_s, jn_d, nm_d, nI_1]
    by_cases a : pc (cm (x.2 0 i) (x.2 1 i) (x.2 0 j) (x.2 1 j)) = 1
    · obtain ⟨t, ht, hc, hn⟩ := pc_one (h.ok (k := i) (by omega)).cm h.w12 a
      obtain ⟨z2, f1, s2, rw2⟩ := m_resolves r1 hf (a := i) (b := j) (by omega) hj ht hc hn
      have s3 := s.tr s2.sf
      have an := m_any (s3.rl h) hf rw2 (mg_ok (h.ok (k := i) (by omega)) (h.ok hj))
      simp only [a, if_true, f1, bd_s, an, b2_0]
      have spe : sp x c i j = !ex (fun k => wi (x.2 0 k) (x.2 1 k) (mgP (x.2 0 i) (x.2 1 i) (x.2 0 j) (x.2 1 j)) (mgN (x.2 0 i) (x.2 1 i) (x.2 0 j) (x.2 1 j))) c 0 := by unfold sp; rw [decide_eq_true a, Bool.true_and]
      rcases Bool.eq_false_or_eq_true (ex (fun k => wi (x.2 0 k) (x.2 1 k) (mgP (x.2 0 i) (x.2 1 i) (x.2 0 j) (x.2 1 j)) (mgN (x.2 0 i) (x.2 1 i) (x.2 0 j) (x.2 1 j))) c 0) with hh | hh
      · rw [hh] at spe
        simp only [hh, Bool.true_eq_false, not_false_eq_true, if_true]
        exact go spe z2 s3 (by rw [s2.1]; exact e8) (by rw [s2.1]; exact e9)
      · rw [hh] at spe
        simp only [hh, not_true_eq_false, if_false, isZ_1, gd_t]
        refine Or.inl ⟨i, by omega, spe, nb, _, rfl, (s3.tr (SF.si _ 8 _ (by omega))).tr (SF.si _ 9 _ (by omega)), ?_, sI_s _ _ _⟩
        rw [sI_o _ _ (by omega), sI_s]
    · simp only [a, if_false]
      exact go (by unfold sp; rw [decide_eq_false a]; rfl) z1 s e8 e9
theorem m_has2 {w c fu : Nat} {x z : OS} (h : QR w c x (z.2 1)) (hf : 5000 ≤ fu) : ∀ (d j n : Nat) (z1 : OS), j + d = c → d < n → SF c z z1 → z1.1 8 = -1 → z1.1 9 = -1 → NB x c 0 j →
    (∃ i' j', FS x c i' j' ∧ ∃ z', lX9_hasStep_31 fu (fun z => gd (isZ 0) (some (0, z))) n (nI j) z1 = some (1, z') ∧ SF c z z' ∧ z'.1 8 = nI i' ∧ z'.1 9 = nI j') ∨ ((∀ i j, i < j → j < c → sp x c i j = false) ∧ ∃ z', lX9_hasStep_31 fu (fun z => gd (isZ 0) (some (0, z))) n (nI j) z1 = some (0, z') ∧ SF c z z' ∧ z'.1 8 = -1 ∧ z'.1 9 = -1) := by
  have h6 := h.c60
  intro d
  induction d with
  | zero =>
    intro j n z1 h1 h2 s e8 e9 nb
    obtain ⟨n, rfl⟩ : ∃ m, n = m + 1 := ⟨n - 1, by omega⟩
    refine Or.inr ⟨fun i j a b => nb i j a b (Or.inl (by omega)), z1, ?_, s, e8, e9⟩
    rw [lX9_hasStep_31, many_e (s.rl h).mc, bd_s, if_pos (nI_le (by omega) (by omega)), isZ_0]; rfl
  | succ d ih =>
    intro j n z1 h1 h2 s e8 e9 nb
    obtain ⟨n, rfl⟩ : ∃ m, n = m + 1 := ⟨n - 1, by omega⟩
    have g := m_has1 h hf (j := j) (by omega) (fun z1_90 => nm (nI j + (1 : Int32)) (fun (v1_9 : Int32) => lX9_hasStep_31 fu (fun z => gd (isZ 0) (some (0, z))) n v1_9 z1_90)) j 0 fu z1 (by omega) (by omega) s e8 e9 (fun u hu => absurd hu (by omega))
    have E : lX9_hasStep_31 fu (fun z => gd (isZ 0) (some (0, z))) (n + 1) (nI j) z1 = lX9_hasStep_41 fu (nI j) (fun z1_90 => nm (nI j + (1 : Int32)) (fun (v1_9 : Int32) => lX9_hasStep_31 fu (fun z => gd (isZ 0) (some (0, z))) n v1_9 z1_90)) fu (nI 0) z1 := by
      rw [lX9_hasStep_31, many_e (s.rl h).mc, bd_s, if_neg (nI_ge (by omega) (by omega))]; rfl
    rw [E]
    rcases g with ⟨i', k2, k3, k4, k5⟩ | ⟨k1, z', k2, k3, k4, k5⟩
    · refine Or.inl ⟨i', j, ⟨k2, by omega, k3, fun u v a b f => ?_⟩, k5⟩
      rcases f with f | ⟨f1, f2⟩
      · exact nb u v a b (Or.inl f)
      · subst f1; exact k4 u f2
    · rw [k2]
      simp only [nm_d, nI_1]
      exact ih (j + 1) n z' (by omega) (by omega) k3 k4 k5 (fun u v a b f => by
        rcases f with f | ⟨f1, f2⟩
        · by_cases g : v = j
          · subst g; exact k1 u a
          · exact nb u v a b (Or.inl (by omega))
        · omega)
theorem m_hasStep {w c fu : Nat} {x z : OS} (h : QR w c x (z.2 1)) (hf : 5000 ≤ fu) : (∃ i j, ST x c i j ∧ ∃ z', fX9_hasStep fu z = some (1, z') ∧ SF c z z' ∧ z'.1 8 = nI i ∧ z'.1 9 = nI j) ∨ ((∀ i j, ¬ ST x c i j) ∧ ∃ z', fX9_hasStep fu z = some (0, z') ∧ SF c z z' ∧ z'.1 8 = -1 ∧ z'.1 9 = -1) := by
  have h6 := h.c60
  have s : SF c z (sI (sI z 8 (-1)) 9 (-1)) := (SF.si z 8 _ (by omega)).tr (SF.si _ 9 _ (by omega))
  have e8 : (sI (sI z 8 (-1)) 9 (-1)).1 8 = -1 := by rw [sI_o _ _ (by omega), sI_s]
  have e9 : (sI (sI z 8 (-1)) 9 (-1)).1 9 = -1 := sI_s _ _ _
  have r1 := s.rl h
  unfold fX9_hasStep
  simp only [nm_d, m_empty r1 hf, bd_s, ff_m1 (show 0 + c < 2 ^ 31 by omega), many_e r1.mc, isZ_0, gd_t, jn_d, L60, nI_eq (show c < 2 ^ 31 by omega) (show 60 < 2 ^ 31 by omega)]
  rcases Bool.eq_false_or_eq_true (emp x c) with b | b
  · have b' := b
    unfold emp at b'
    refine Or.inr ⟨fun i j t => (by rw [t.2.1] at b; cases b), sI (sI z 8 (-1)) 9 (-1), ?_, s, e8, e9⟩
    simp only [b', Bool.true_eq_false, not_false_eq_true, if_true]
  · have b' := b
    unfold emp at b'
    simp only [b', not_true_eq_false, if_false]
    by_cases a : c = 60
    · refine Or.inr ⟨fun i j t => absurd t.1 (by omega), sI (sI z 8 (-1)) 9 (-1), ?_, s, e8, e9⟩
      simp only [a, not_true_eq_false, if_false]
    · simp only [a, not_false_eq_true, if_true]
      rcases Nat.eq_zero_or_pos c with h0 | h0
      · refine Or.inr ⟨fun i j t => absurd t.2.2.2.1 (by omega), sI (sI z 8 (-1)) 9 (-1), ?_, s, e8, e9⟩
        obtain ⟨n, rfl⟩ : ∃ m, fu = m + 1 := ⟨fu - 1, by omega⟩
        rw [lX9_hasStep_31, many_e r1.mc, bd_s, if_pos (by rw [L1]; exact nI_le (by omega) (by omega))]
      · have g := m_has2 h hf (c - 1) 1 fu (sI (sI z 8 (-1)) 9 (-1)) (by omega) (by omega) s e8 e9 (fun u v a b f => by omega)
        simp only [isZ_0, gd_t] at g
        rcases g with ⟨i', j', k1, k2⟩ | ⟨k1, k2⟩
        · exact Or.inl ⟨i', j', ⟨by omega, b, k1⟩, k2⟩
        · refine Or.inr ⟨fun u v t => ?_, k2⟩
          have := k1 u v t.2.2.1 t.2.2.2.1
          rw [t.2.2.2.2.1] at this; cases this
theorem ex_mono {p : Nat → Bool} {q : Nat → Bool} {d e k : Nat} (h : ex p d k = true) (hd : d ≤ e) (hq : ∀ i, k ≤ i → i < k + d → p i = true → q i = true) : ex q e k = true := by
  obtain ⟨i, a, b, g⟩ := ex_t.mp h
  exact ex_t.mpr ⟨i, a, by omega, hq i a b g⟩
theorem sp_mono {x x' : OS} {c : Nat} {p q a b v d : Int32} (hx : XA x c p q a b v d x') {i j : Nat} (hi : i < c) (hj : j < c) (h : sp x c i j = false) : sp x' (c + 1) i j = false := by
  obtain ⟨-, -, k0, k1, -⟩ := hx
  unfold sp at h ⊢
  rw [k0, k1, pk_un (by omega), pk_un (by omega), pk_un (by omega), pk_un (by omega)]
  by_cases e : pc (cm (x.2 0 i) (x.2 1 i) (x.2 0 j) (x.2 1 j)) = 1
  · rw [decide_eq_true e, Bool.true_and, Bool.not_eq_false'] at h ⊢
    exact ex_mono h (by omega) (fun u _ hu g => by rw [pk_un (by omega), pk_un (by omega)]; exact g)
  · rw [decide_eq_false e]; rfl
/-- the steps of a saturation on both sides -/
theorem q_steps {w P fu : Nat} (hf : 5000 ≤ fu) (hP : P < 1000) : ∀ (d k n n' c i j : Nat) (x sat z : OS), k + d = P → d < n → d < n' → QR w c x (z.2 1) → sat.1 0 = nI i → sat.1 1 = nI j → i ≤ j → j ≤ 61 → NB x c i j →
    ∃ r c' x' sat' z', lX5_makeSteps_6 fu (nI P) (fun a b c => some (a, b, c)) n (nI k) sat x = some (nI r, sat', x') ∧ lX9_steps_2 fu (nI P) (fun a b => some (a, b)) n' (nI k) z = some (nI r, z') ∧ SF0 z z' ∧ QR w c' x' (z'.2 1) := by
  intro d
  induction d with
  | zero =>
    intro k n n' c i j x sat z h1 h2 h3 h e0 e1 hij hj nb
    obtain ⟨n, rfl⟩ : ∃ m, n = m + 1 := ⟨n - 1, by omega⟩
    obtain ⟨n', rfl⟩ : ∃ m, n' = m + 1 := ⟨n' - 1, by omega⟩
    refine ⟨k, c, x, sat, z, ?_, ?_, SF0.rf, h⟩
    · rw [lX5_makeSteps_6, if_pos (nI_le (by omega) (by omega))]
    · rw [lX9_steps_2, if_pos (nI_le (by omega) (by omega))]
  | succ d ih =>
    intro k n n' c i j x sat z h1 h2 h3 h e0 e1 hij hj nb
    obtain ⟨n, rfl⟩ : ∃ m, n = m + 1 := ⟨n - 1, by omega⟩
    obtain ⟨n', rfl⟩ : ∃ m, n' = m + 1 := ⟨n' - 1, by omega⟩
    have hk : ¬ nI P ≤ nI k := nI_ge (by omega) (by omega)
    have A := q_findStep (fu := fu) h.xc h.c60 hf hij e0 e1 hj nb
    have B := m_hasStep h hf
    rw [lX5_makeSteps_6, if_neg hk, lX9_steps_2, if_neg hk]
    rcases A with ⟨i1, j1, s1, sat1, f1, g0, g1⟩ | ⟨s1, sat1, f1⟩
    · rcases B with ⟨i2, j2, s2, z1, f2, sf, g8, g9⟩ | ⟨s2, -⟩
      · obtain ⟨u1, u2⟩ := s1.2.2.one s2.2.2
        subst u1; subst u2
        obtain ⟨c60, -, lt, jc, spe, nb1⟩ := s1
        have h1' : pc (cm (x.2 0 i1) (x.2 1 i1) (x.2 0 j1) (x.2 1 j1)) = 1 := by
          unfold sp at spe
          rw [Bool.and_eq_true, decide_eq_true_eq] at spe; exact spe.1
        obtain ⟨x2, z2, v, dd, f3, f4, sf2, rl2, u, u2, xa⟩ := RL_res (sf.rl h) hf c60 (a := i1) (b := j1) (by omega) jc h1'
        simp only [f1, f2, bd_s, nm_d, i1_ne0, if_false, g0, g1, g8, g9, f3, f4, nI_1]
        obtain ⟨r, c', x', sat', z', k1, k2, k3, k4⟩ := ih (k + 1) n n' (c + 1) i1 j1 x2 sat1 z2 (by omega) (by omega) (by omega) rl2 g0 g1 (by omega) (by omega) (fun a b e1 e2 e3 => sp_mono xa (by omega) (by omega) (nb1 a b e1 (by omega) e3))
        exact ⟨r, c', x', sat', z', k1, k2, (sf.1.tr sf2).tr k3, k4⟩
      · exact absurd s1 (s2 _ _)
    · rcases B with ⟨i2, j2, s2, -⟩ | ⟨s2, z1, f2, sf, -⟩
      · exact absurd s2 (s1 _ _)
      · simp only [f1, f2, bd_s, nm_d, if_true]
        exact ⟨k, c, x, sat1, z1, rfl, rfl, sf.1, sf.rl h⟩
theorem NB_01 (x : OS) (c : Nat) : NB x c 0 1 := fun u v a b f => by omega
theorem q_make {w c P fu : Nat} {x sat z : OS} (h : QR w c x (z.2 1)) (hf : 5000 ≤ fu) (hP : P < 1000) : ∃ r c' x' sat' z', fX5_makeSteps fu sat x (nI P) = some (nI r, sat', x') ∧ fX9_steps fu z (nI P) = some (nI r, z') ∧ SF0 z z' ∧ QR w c' x' (z'.2 1) := by
  have := q_steps (w := w) hf hP P 0 fu fu c 0 1 x (sI (sI sat 0 0) 1 1) z (by omega) (by omega) (by omega) h (by rw [sI_o _ _ (by omega), sI_s]; rfl) (by rw [sI_s]; rfl) (by omega) (by omega) (NB_01 x c)
  exact this
