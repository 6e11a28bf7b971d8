/-! Part II: the rounds of unit propagation on both sides. -/
def uc (T : Int32) : Nat → Nat
  | 0 => 0
  | v + 1 => uc T v + (if bt T v = true then 0 else 1)
theorem uc_le {T T' : Int32} (h : ∀ v, bt T v = true → bt T' v = true) : ∀ w, uc T' w ≤ uc T w
  | 0 => Nat.le_refl 0
  | v + 1 => by
    have := uc_le h v
    rw [uc, uc]
    by_cases e : bt T v = true
    · rw [if_pos e, if_pos (h v e)]; exact this
    · rw [if_neg e]; split <;> omega
theorem uc_lt {T T' : Int32} (h : ∀ v, bt T v = true → bt T' v = true) {u : Nat} (h1 : bt T u = false) (h2 : bt T' u = true) : ∀ w, u < w → uc T' w < uc T w
  | 0, hw => absurd hw (by omega)
  | v + 1, hw => by
    rw [uc, uc]
    by_cases e : u = v
    · subst e
      have := uc_le h u
      rw [h1, h2]; simp; omega
    · have := uc_lt h h1 h2 v (by omega)
      by_cases g : bt T v = true
      · rw [if_pos g, if_pos (h v g)]; exact this
      · rw [if_neg g]; split <;> omega
theorem uc_max (T : Int32) : ∀ w, uc T w ≤ w
  | 0 => Nat.le_refl 0
  | v + 1 => by
    have := uc_max T v
    rw [uc]; split <;> omega
theorem or_sub {w : Nat} {T u : Int32} (hu : Vm w u) (hw : w ≤ 32) (h : (u &&& (T ^^^ (-1))) = 0) : T ||| u = T := b_ext (fun i hi => by
  rw [b_or]
  rcases Nat.lt_or_ge i w with g | g
  · have := (sub_z hu hw).mp h i g
    cases a : bt u i
    · rw [Bool.or_false]
    · rw [this a]; rfl
  · rw [hu i g, Bool.or_false])
theorem st_mono {P N T F : Int32} (v : Nat) : (bt T v = true → bt (nT P N T F) v = true) ∧ (bt F v = true → bt (nF P N T F) v = true) := by
  unfold nT nF
  by_cases e : hit P N T F = true
  · rw [if_pos e, if_pos e, b_or, b_or]
    exact ⟨fun h => by rw [h]; rfl, fun h => by rw [h]; rfl⟩
  · rw [if_neg e, if_neg e]; exact ⟨fun h => h, fun h => h⟩
theorem st_no {w : Nat} {P N T F : Int32} (ok : OKm w P N) (h12 : w ≤ 12) (h : nwb P N T F = false) : nT P N T F = T ∧ nF P N T F = F := by
  unfold nT nF
  by_cases e : hit P N T F = true
  · unfold nwb at h
    rw [e, Bool.true_and, Bool.or_eq_false_iff, Bool.not_eq_false', Bool.not_eq_false', decide_eq_true_eq, decide_eq_true_eq] at h
    rw [if_pos e, if_pos e]
    exact ⟨or_sub (up_ok (T := T) (F := F) ok).1 (by omega) h.1, or_sub (up_ok (T := T) (F := F) ok).2.1 (by omega) h.2⟩
  · rw [if_neg e, if_neg e]; exact ⟨rfl, rfl⟩
theorem not_sub {w : Nat} {T u : Int32} (hu : Vm w u) (hw : w ≤ 32) (h : ¬ (u &&& (T ^^^ (-1))) = 0) : ∃ v, v < w ∧ bt u v = true ∧ bt T v = false := by
  apply Classical.byContradiction
  intro n
  apply h
  apply (sub_z hu hw).mpr
  intro v hv a
  cases b : bt T v
  · exact absurd ⟨v, hv, a, b⟩ n
  · rfl
theorem st_yes {w : Nat} {P N T F : Int32} (ok : OKm w P N) (h12 : w ≤ 12) (h : nwb P N T F = true) : uc (nT P N T F) w + uc (nF P N T F) w < uc T w + uc F w := by
  have m := st_mono (P := P) (N := N) (T := T) (F := F)
  have l1 := uc_le (fun v => (m v).1) w
  have l2 := uc_le (fun v => (m v).2) w
  have h' := h
  unfold nwb at h'
  rw [Bool.and_eq_true, Bool.or_eq_true, Bool.not_eq_true', Bool.not_eq_true', decide_eq_false_iff_not, decide_eq_false_iff_not] at h'
  obtain ⟨e, h'⟩ := h'
  rcases h' with g | g
  · obtain ⟨v, hv, a, b⟩ := not_sub (up_ok (T := T) (F := F) ok).1 (by omega) g
    have := uc_lt (fun v => (m v).1) (u := v) b (by unfold nT; rw [if_pos e, b_or, a, Bool.or_true]) w hv
    omega
  · obtain ⟨v, hv, a, b⟩ := not_sub (up_ok (T := T) (F := F) ok).2.1 (by omega) g
    have := uc_lt (fun v => (m v).2) (u := v) b (by unfold nF; rw [if_pos e, b_or, a, Bool.or_true]) w hv
    omega
/-- a clause is false under what is fixed -/
def CF (x : OS) (c : Nat) (T F : Int32) : Prop := ∃ i, i < c ∧ wi (x.2 0 i) (x.2 1 i) F T = true
theorem wi_mono {w : Nat} {P N T F T' F' : Int32} (ok : OKm w P N) (h12 : w ≤ 12) (hT : ∀ v, bt T v = true → bt T' v = true) (hF : ∀ v, bt F v = true → bt F' v = true) (h : wi P N F T = true) : wi P N F' T' = true := by
  rw [wi_iff ok h12] at h ⊢
  exact ⟨fun v hv g => hF v (h.1 v hv g), fun v hv g => hT v (h.2 v hv g)⟩
def PI (z zm : OS) (T F : Int32) (C : Bool) : Prop := zm.2 = z.2 ∧ (∀ i, (i = 12 ∨ i = 13 ∨ i = 14) ∨ zm.1 i = z.1 i) ∧ zm.1 12 = T ∧ zm.1 13 = F ∧ zm.1 14 = b2 C
def RV (w : Nat) (x : OS) (c k : Nat) (T0 F0 : Int32) (nw : Bool) (T F : Int32) (C : Bool) : Prop := Vm w T ∧ Vm w F ∧ (C = true → CF x c T F) ∧ (nw = false → T = T0 ∧ F = F0 ∧ ∀ i, i < k → wi (x.2 0 i) (x.2 1 i) F0 T0 = true → C = true) ∧ (∀ v, bt T0 v = true → bt T v = true) ∧ (∀ v, bt F0 v = true → bt F v = true) ∧ (nw = true → uc T w + uc F w < uc T0 w + uc F0 w)
theorem rounds {w c fu : Nat} {x z : OS} (h : QR w c x (z.2 1)) (hf : 5000 ≤ fu) (T0 F0 : Int32) (J : Int32 → OS → Option OS) : ∀ (d k nC nM : Nat) (nw C : Bool) (T F : Int32) (zc zm : OS), k + d = c → d < nC → d < nM → zc.1 0 = T → zc.1 1 = F → PI z zm T F C → RV w x c k T0 F0 nw T F C →
    ∃ nw' C' T' F' zc' zm', lX4_runRound_4 fu x (fun v z => gd (isZ v) (some (v, z))) nC (b2 nw) (nI k) zc = some (b2 nw', zc') ∧ lX9_propagates_25 fu J nM (b2 nw) (nI k) zm = J (b2 nw') zm' ∧ zc'.1 0 = T' ∧ zc'.1 1 = F' ∧ PI z zm' T' F' C' ∧ RV w x c c T0 F0 nw' T' F' C' := by
  have h6 := h.c60
  have h12 := h.w12
  intro d
  induction d with
  | zero =>
    intro k nC nM nw C T F zc zm h1 h2 h3 e0 e1 pi rv
    obtain ⟨nC, rfl⟩ : ∃ m, nC = m + 1 := ⟨nC - 1, by omega⟩
    obtain ⟨nM, rfl⟩ : ∃ m, nM = m + 1 := ⟨nM - 1, by omega⟩
    have h1 : k = c := h1
    subst h1
    refine ⟨nw, C, T, F, zc, zm, ?_, ?_, e0, e1, pi, rv⟩
    · rw [lX4_runRound_4, h.xc, if_pos (nI_le (by omega) (by omega)), isZ_b]; rfl
    · rw [lX9_propagates_25, many_e (by rw [pi.1]; exact h.mc), bd_s, if_pos (nI_le (by omega) (by omega))]
  | succ d ih =>
    intro k nC nM nw C T F zc zm h1 h2 h3 e0 e1 pi rv
    obtain ⟨nC, rfl⟩ : ∃ m, nC = m + 1 := ⟨nC - 1, by omega⟩
    obtain ⟨nM, rfl⟩ : ∃ m, nM = m + 1 := ⟨nM - 1, by omega⟩
    obtain ⟨p1, p2, p3, p4, p5⟩ := pi
    obtain ⟨v1, v2, v3, v4, v5, v6, v7⟩ := rv
    have hk : k < c := by omega
    have ok := h.ok hk
    have hz : QR w c x (zm.2 1) := by rw [p1]; exact h
    obtain ⟨zc1, a1, a2, a3⟩ := q_round1 (fu := fu) h.xc h6 hk (fun v z => gd (isZ v) (some (v, z))) nC nw T F e0 e1
    obtain ⟨zm1, b1, b2', b3, b4, b5, b6⟩ := m_fixes hz hf hk p3 p4 p5
    have mono := st_mono (P := x.2 0 k) (N := x.2 1 k) (T := T) (F := F)
    rw [a1, lX9_propagates_25, many_e hz.mc, bd_s, if_neg (nI_ge (by omega) (by omega)), b1]
    simp only [bd_s, nm_d, b2_or, nI_1]
    refine ih (k + 1) nC nM _ _ _ _ zc1 zm1 (by omega) (by omega) (by omega) a2 a3 ⟨b2'.trans p1, fun i => ?_, b4, b5, b6⟩ ⟨nT_v ok v1, nF_v ok v2, fun hC => ?_, fun hn => ?_, fun v g => (mono v).1 (v5 v g), fun v g => (mono v).2 (v6 v g), fun hn => ?_⟩
    · rcases b3 i with g | g
      · exact Or.inl g
      · rcases p2 i with g2 | g2
        · exact Or.inl g2
        · exact Or.inr (g.trans g2)
    · rw [Bool.or_eq_true] at hC
      rcases hC with g | g
      · obtain ⟨i, hi, q⟩ := v3 g
        exact ⟨i, hi, wi_mono (h.ok hi) h12 (fun v => (mono v).1) (fun v => (mono v).2) q⟩
      · exact ⟨k, hk, wi_mono ok h12 (fun v => (mono v).1) (fun v => (mono v).2) g⟩
    · rw [Bool.or_eq_false_iff] at hn
      obtain ⟨q1, q2, q3⟩ := v4 hn.1
      obtain ⟨s1, s2⟩ := st_no ok h12 hn.2
      refine ⟨s1.trans q1, s2.trans q2, fun i hi g => ?_⟩
      rw [Bool.or_eq_true]
      by_cases e : i = k
      · subst e; right; rw [q1, q2]; exact g
      · left; exact q3 i (by omega) g
    · rw [Bool.or_eq_true] at hn
      have l1 := uc_le (fun v => (mono v).1) w
      have l2 := uc_le (fun v => (mono v).2) w
      rcases hn with g | g
      · have := v7 g; omega
      · have := st_yes ok h12 g
        have m1 := uc_le v5 w
        have m2 := uc_le v6 w
        omega
theorem runs {w c fu : Nat} {x z : OS} (h : QR w c x (z.2 1)) (hf : 5000 ≤ fu) (J : OS → Option OS) : ∀ (d r nC nM : Nat) (T F : Int32) (C : Bool) (zc zm : OS), uc T w + uc F w ≤ d → r + d ≤ 24 → d + 1 < nC → d + 1 < nM → zc.1 0 = T → zc.1 1 = F → PI z zm T F C → Vm w T → Vm w F → (C = true → CF x c T F) →
    ∃ T' F' C' zc' zm', lX4_run_14 fu x (fun z => some z) nC 1 (nI r) zc = some zc' ∧ lX9_propagates_17 fu J nM 1 zm = J zm' ∧ zc'.1 0 = T' ∧ zc'.1 1 = F' ∧ PI z zm' T' F' C' ∧ (C' = true ↔ CF x c T' F') := by
  have h6 := h.c60
  intro d
  induction d with
  | zero =>
    intro r nC nM T F C zc zm hu hr h2 h3 e0 e1 pi vT vF hC
    obtain ⟨nC, rfl⟩ : ∃ m, nC = m + 1 + 1 := ⟨nC - 2, by omega⟩
    obtain ⟨nM, rfl⟩ : ∃ m, nM = m + 1 + 1 := ⟨nM - 2, by omega⟩
    obtain ⟨nw', C', T', F', zc', zm', g1, g2, g3, g4, g5, g6⟩ := rounds h hf T F (fun v1_47 z1_47 => lX9_propagates_17 fu J (nM + 1) v1_47 z1_47) c 0 fu fu false C T F zc zm (by omega) (by omega) (by omega) e0 e1 pi ⟨vT, vF, hC, fun _ => ⟨rfl, rfl, fun i hi => absurd hi (by omega)⟩, fun _ g => g, fun _ g => g, fun g => by cases g⟩
    have g1' : fX4_runRound fu zc x = some (b2 nw', zc') := g1
    have g2' : lX9_propagates_17 fu J (nM + 1 + 1) 1 zm = lX9_propagates_17 fu J (nM + 1) (b2 nw') zm' := by
      rw [lX9_propagates_17, if_neg (by decide)]; exact g2
    have hnw : nw' = false := by
      cases q : nw'
      · rfl
      · have := g6.2.2.2.2.2.2 q; omega
    subst hnw
    refine ⟨T', F', C', zc', zm', ?_, ?_, g3, g4, g5, ?_⟩
    · rw [lX4_run_14, if_neg (by decide), if_neg (show ¬ (24 : Int32) < nI r from nI_nlt (a := 24) (by omega) (by omega)), g1', bd_s]
      simp only [nm_d]
      rw [lX4_run_14, if_pos (by decide)]
    · rw [g2', lX9_propagates_17, if_pos (by decide)]
    · obtain ⟨q1, q2, q3⟩ := g6.2.2.2.1 rfl
      exact ⟨g6.2.2.1, fun ⟨i, hi, g⟩ => q3 i hi (by rw [← q1, ← q2]; exact g)⟩
  | succ d ih =>
    intro r nC nM T F C zc zm hu hr h2 h3 e0 e1 pi vT vF hC
    obtain ⟨nC, rfl⟩ : ∃ m, nC = m + 1 + 1 := ⟨nC - 2, by omega⟩
    obtain ⟨nM, rfl⟩ : ∃ m, nM = m + 1 + 1 := ⟨nM - 2, by omega⟩
    obtain ⟨nw', C', T', F', zc', zm', g1, g2, g3, g4, g5, g6⟩ := rounds h hf T F (fun v1_47 z1_47 => lX9_propagates_17 fu J (nM + 1) v1_47 z1_47) c 0 fu fu false C T F zc zm (by omega) (by omega) (by omega) e0 e1 pi ⟨vT, vF, hC, fun _ => ⟨rfl, rfl, fun i hi => absurd hi (by omega)⟩, fun _ g => g, fun _ g => g, fun g => by cases g⟩
    have g1' : fX4_runRound fu zc x = some (b2 nw', zc') := g1
    have g2' : lX9_propagates_17 fu J (nM + 1 + 1) 1 zm = lX9_propagates_17 fu J (nM + 1) (b2 nw') zm' := by
      rw [lX9_propagates_17, if_neg (by decide)]; exact g2
    have u1 : lX4_run_14 fu x (fun z => some z) (nC + 1 + 1) 1 (nI r) zc = lX4_run_14 fu x (fun z => some z) (nC + 1) (b2 nw') (nI (r + 1)) zc' := by
      rw [lX4_run_14, if_neg (by decide), if_neg (show ¬ (24 : Int32) < nI r from nI_nlt (a := 24) (by omega) (by omega)), g1', bd_s]
      simp only [nm_d, nI_1]
    rw [u1, g2']
    cases hnw : nw'
    · subst hnw
      refine ⟨T', F', C', zc', zm', ?_, ?_, g3, g4, g5, ?_⟩
      · rw [lX4_run_14, if_pos (by decide)]
      · rw [lX9_propagates_17, if_pos (by decide)]
      · obtain ⟨q1, q2, q3⟩ := g6.2.2.2.1 rfl
        exact ⟨g6.2.2.1, fun ⟨i, hi, g⟩ => q3 i hi (by rw [← q1, ← q2]; exact g)⟩
    · have := g6.2.2.2.2.2.2 hnw
      exact ih (r + 1) (nC + 1) (nM + 1) T' F' C' zc' zm' (by omega) (by omega) (by omega) (by omega) g3 g4 g5 g6.1 g6.2.1 g6.2.2.1
/-- unit propagation, with its conflict -/
theorem q_prop {w c fu : Nat} {x z : OS} (h : QR w c x (z.2 1)) (hf : 5000 ≤ fu) (zc : OS) : ∃ T F K zc' z', fX4_run fu zc x = some zc' ∧ zc'.1 0 = T ∧ zc'.1 1 = F ∧ fX9_propagates fu z = some z' ∧ PI z z' T F K ∧ fX4_isContradictory fu zc' x = some (b2 K) := by
  have h6 := h.c60
  have h12 := h.w12
  have um := uc_max 0 w
  obtain ⟨T, F, C, zc', zm', g1, g2, g3, g4, ⟨p1, p2, p3, p4, p5⟩, g6⟩ := runs h hf (fun (z1_50 : OS) => jn (κ := Int32 → Int32 → OS → Option ((OS))) (fun (t1_72 : Int32) (t2_72 : Int32) (z1_72 : OS) => gd (isZ (t1_72 ||| t2_72)) (nm (sI z1_72 14 (t1_72 ||| t2_72)) (fun (z_4 : OS) => some z_4))) (fun j72 => (if ((z1_50.1 12) &&& (z1_50.1 13)) = (0 : Int32) then j72 (z1_50.1 14) (0 : Int32) z1_50 else j72 (z1_50.1 14) (1 : Int32) z1_50))) 24 0 fu fu 0 0 false (sI (sI zc 0 0) 1 0) (sI (sI (sI z 12 0) 13 0) 14 0) (by omega) (by omega) (by omega) (by omega) (by rw [sI_o _ _ (by omega), sI_s]) (sI_s _ _ _) ⟨rfl, fun i => by
      by_cases e : i = 12 ∨ i = 13 ∨ i = 14
      · exact Or.inl e
      · exact Or.inr (by rw [sI_o _ _ (by omega), sI_o _ _ (by omega), sI_o _ _ (by omega)]), by rw [sI_o _ _ (by omega), sI_o _ _ (by omega), sI_s], by rw [sI_o _ _ (by omega), sI_s], by rw [sI_s]; rfl⟩ Vm.zero Vm.zero (fun g => by cases g)
  have sm := q_some (fu := fu) h.xc h6 hf F T
  have cf : C = ex (fun i => wi (x.2 0 i) (x.2 1 i) F T) c 0 := by
    rw [Bool.eq_iff_iff, g6, ex_t]
    exact ⟨fun ⟨i, a, b⟩ => ⟨i, by omega, by omega, b⟩, fun ⟨i, _, a, b⟩ => ⟨i, by omega, b⟩⟩
  refine ⟨T, F, C || !decide ((T &&& F) = 0), zc', sI zm' 14 (b2 (C || !decide ((T &&& F) = 0))), g1, g3, g4, ?_, ⟨p1, fun i => ?_, ?_, ?_, sI_s _ _ _⟩, ?_⟩
  · unfold fX9_propagates
    simp only [nm_d, jn_d, isZ_0, gd_t]
    refine Eq.trans g2 ?_
    rw [jn_d, p3, p4, p5]
    by_cases e : (T &&& F) = 0
    · rw [if_pos e, decide_eq_true e]
      show gd (isZ (b2 C ||| 0)) (some (sI zm' 14 (b2 C ||| 0))) = _
      rw [b2_o0, isZ_b, gd_t]; rfl
    · rw [if_neg e, decide_eq_false e]
      show gd (isZ (b2 C ||| 1)) (some (sI zm' 14 (b2 C ||| 1))) = _
      rw [b2_o1, isZ_b, gd_t]; rfl
  · by_cases e : i = 14
    · exact Or.inl (Or.inr (Or.inr e))
    · rcases p2 i with g | g
      · exact Or.inl g
      · exact Or.inr (by rw [sI_o _ _ e]; exact g)
  · rw [sI_o _ _ (by omega)]; exact p3
  · rw [sI_o _ _ (by omega)]; exact p4
  · unfold fX4_isContradictory
    rw [jn_d, g3, g4, sm, bd_s, ← cf, isZ_0, isZ_1, gd_t, gd_t]
    by_cases e : (T &&& F) = 0
    · rw [decide_eq_true e, if_neg (fun q => q e)]
      cases C <;> rfl
    · rw [decide_eq_false e, if_pos e]
      cases C <;> rfl
