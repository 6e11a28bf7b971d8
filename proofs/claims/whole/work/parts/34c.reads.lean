/-! Part II: the reading loops that are left: best flip, Horn clauses, sizes, pairs, models by number. -/
theorem m_flip_l {w c fu : Nat} {x z : OS} (h : QR w c x (z.2 1)) (hf : 5000 ≤ fu) (a : Int32) (j : Int32 → Option (Int32 × OS)) : ∀ (d k n : Nat) (b : Nat), k + d = w → d < n → lX9_bestFlip_32 fu a z j n (nI b) (nI k) = j (ml (fun v => cn (fun i => !tu (x.2 0 i) (x.2 1 i) (a ^^^ ((1 : Int32) <<< (nI v &&& 31)))) c 0) d k (nI b) (cn (fun i => !tu (x.2 0 i) (x.2 1 i) (a ^^^ ((1 : Int32) <<< (nI b &&& 31)))) c 0)) := by
  intro d
  induction d with
  | zero =>
    intro k n b h1 h2
    obtain ⟨n, rfl⟩ : ∃ m, n = m + 1 := ⟨n - 1, by omega⟩
    have e : w ≤ k := by omega
    have h12 := h.w12
    simp (disch := omega) only [lX9_bestFlip_32, wide_e h.mw, bd_s, nI_leI, e, ml, if_true]
  | succ d ih =>
    intro k n b h1 h2
    obtain ⟨n, rfl⟩ : ∃ m, n = m + 1 := ⟨n - 1, by omega⟩
    have e : ¬ w ≤ k := by omega
    have e2 := fun b => ih (k + 1) n b (by omega) (by omega)
    have h12 := h.w12
    simp (disch := omega) only [lX9_bestFlip_32, gd_t, bd_s, nm_d, jn_d, isZ_0, isZ_1, ↓reduceIte, if_true, if_false, not_true_eq_false, not_false_eq_true, ite_not, inB_I, nI_leI, nI_ltI, nI_clamp, nI_1, wide_e h.mw, m_false h hf, ml, e, e2]
    split <;> rfl
theorem m_flip {w c fu : Nat} {x z : OS} (h : QR w c x (z.2 1)) (hf : 5000 ≤ fu) (a : Int32) : lX9_bestFlip_32 fu a z (fun v => some (v, z)) fu 0 1 = some (ml (fun v => cn (fun i => !tu (x.2 0 i) (x.2 1 i) (a ^^^ ((1 : Int32) <<< (nI v &&& 31)))) c 0) w 0 0 61, z) := by
  have h12 := h.w12
  have h1 := h.w1
  have h6 := h.c60
  obtain ⟨u, rfl⟩ : ∃ u, w = u + 1 := ⟨w - 1, by omega⟩
  have e := m_flip_l h hf a (fun v => some (v, z)) u 1 fu 0 (by omega) (by omega)
  obtain ⟨t, ht, et⟩ := (cn_0 (p := fun i => !tu (x.2 0 i) (x.2 1 i) (a ^^^ ((1 : Int32) <<< (nI 0 &&& 31)))) (d := c) (k := 0) (by omega)).2
  have g : ¬ (61 : Int32) ≤ cn (fun i => !tu (x.2 0 i) (x.2 1 i) (a ^^^ ((1 : Int32) <<< (nI 0 &&& 31)))) c 0 := by
    rw [et, show (61 : Int32) = nI 61 from rfl, nI_leI (by omega) (by omega)]
    omega
  rw [ml, if_neg g]
  exact e
theorem m_horn_l {w c fu : Nat} {x z : OS} (h : QR w c x (z.2 1)) (hf : 5000 ≤ fu) (j : Int32 → Option (Int32 × OS)) : ∀ (d k n : Nat) (acc : Int32), k + d = c → d < n → lX9_hornClauses_9 fu z j n acc (nI k) = j (acc + cn (fun i => !decide (1 < pc (x.2 0 i))) d k) := by
  intro d
  induction d with
  | zero =>
    intro k n acc h1 h2
    obtain ⟨n, rfl⟩ : ∃ m, n = m + 1 := ⟨n - 1, by omega⟩
    have e : c ≤ k := by omega
    have h6 := h.c60
    simp (disch := omega) only [lX9_hornClauses_9, many_e h.mc, bd_s, nI_leI, e, cn, if_true, Int32.add_zero]
  | succ d ih =>
    intro k n acc h1 h2
    obtain ⟨n, rfl⟩ : ∃ m, n = m + 1 := ⟨n - 1, by omega⟩
    have e : ¬ c ≤ k := by omega
    have e2 := fun acc => ih (k + 1) n acc (by omega) (by omega)
    have h6 := h.c60
    have mk := m_maskP (fu := fu) h.mw h.w12 (h.row (k := k) (by omega)) (by omega) (h.ok (k := k) (by omega)) hf
    simp (disch := omega) only [lX9_hornClauses_9, gd_t, bd_s, nm_d, jn_d, isZ_0, isZ_1, ↓reduceIte, if_true, if_false, not_true_eq_false, not_false_eq_true, ite_not, inB_I, nI_leI, nI_ltI, nI_clamp, nI_1, many_e h.mc, mk, pc_e, cn, e, e2]
    clear ih e2 mk
    by_cases g : (1 : Int32) < pc (x.2 0 k) <;> simp [g, Int32.add_assoc]
theorem m_cos_l {w c fu : Nat} {x z : OS} (h : QR w c x (z.2 1)) (hf : 5000 ≤ fu) (s : Int32) (j : Int32 → Option (Int32 × OS)) : ∀ (d k n : Nat) (acc : Int32), k + d = c → d < n → lX9_clausesOfSize_9 fu s z j n acc (nI k) = j (acc + cn (fun i => decide (pc (x.2 0 i) + pc (x.2 1 i) = s)) d k) := by
  intro d
  induction d with
  | zero =>
    intro k n acc h1 h2
    obtain ⟨n, rfl⟩ : ∃ m, n = m + 1 := ⟨n - 1, by omega⟩
    have e : c ≤ k := by omega
    have h6 := h.c60
    simp (disch := omega) only [lX9_clausesOfSize_9, many_e h.mc, bd_s, nI_leI, e, cn, if_true, Int32.add_zero]
  | succ d ih =>
    intro k n acc h1 h2
    obtain ⟨n, rfl⟩ : ∃ m, n = m + 1 := ⟨n - 1, by omega⟩
    have e : ¬ c ≤ k := by omega
    have e2 := fun acc => ih (k + 1) n acc (by omega) (by omega)
    have h6 := h.c60
    have mk := m_lit (fu := fu) h.mw h.w12 (h.row (k := k) (by omega)) (by omega) (h.ok (k := k) (by omega)) hf
    simp (disch := omega) only [lX9_clausesOfSize_9, gd_t, bd_s, nm_d, jn_d, isZ_0, isZ_1, ↓reduceIte, if_true, if_false, not_true_eq_false, not_false_eq_true, ite_not, inB_I, nI_leI, nI_ltI, nI_clamp, nI_1, many_e h.mc, mk, cn, e, e2]
    clear ih e2 mk
    by_cases g : pc (x.2 0 k) + pc (x.2 1 k) = s <;> simp [g, Int32.add_assoc]
theorem m_pair1_l {w c fu : Nat} {x z : OS} (h : QR w c x (z.2 1)) (hf : 5000 ≤ fu) {b : Nat} (hb : b < c) (j : Int32 → Option (Int32 × OS)) : ∀ (d k n : Nat) (acc : Int32), k + d = b → d < n → lX9_resolvablePairs_19 fu z (nI b) j n acc (nI k) = j (acc + cn (fun i => decide (pc (cm (x.2 0 i) (x.2 1 i) (x.2 0 b) (x.2 1 b)) = 1)) d k) := by
  intro d
  induction d with
  | zero =>
    intro k n acc h1 h2
    obtain ⟨n, rfl⟩ : ∃ m, n = m + 1 := ⟨n - 1, by omega⟩
    have e : b ≤ k := by omega
    have h6 := h.c60
    simp (disch := omega) only [lX9_resolvablePairs_19, nI_leI, e, cn, if_true, Int32.add_zero]
  | succ d ih =>
    intro k n acc h1 h2
    obtain ⟨n, rfl⟩ : ∃ m, n = m + 1 := ⟨n - 1, by omega⟩
    have e : ¬ b ≤ k := by omega
    have e2 := fun acc => ih (k + 1) n acc (by omega) (by omega)
    have h6 := h.c60
    have mk := m_clash (fu := fu) h.mw h.w12 (h.row (k := k) (by omega)) (by omega) (h.ok (k := k) (by omega)) (h.row hb) (by omega) (h.ok hb) hf
    simp (disch := omega) only [lX9_resolvablePairs_19, gd_t, bd_s, nm_d, jn_d, isZ_0, isZ_1, ↓reduceIte, if_true, if_false, not_true_eq_false, not_false_eq_true, ite_not, inB_I, nI_leI, nI_ltI, nI_clamp, nI_1, mk, cn, e, e2]
    clear ih e2 mk
    by_cases g : pc (cm (x.2 0 k) (x.2 1 k) (x.2 0 b) (x.2 1 b)) = 1 <;> simp [g, Int32.add_assoc]
theorem m_pair2_l {w c fu : Nat} {x z : OS} (h : QR w c x (z.2 1)) (hf : 5000 ≤ fu) (j : Int32 → Option (Int32 × OS)) : ∀ (d k n : Nat) (acc : Int32), k + d = c → d < n → lX9_resolvablePairs_9 fu z j n acc (nI k) = j (acc + cn2 (fun b => cn (fun i => decide (pc (cm (x.2 0 i) (x.2 1 i) (x.2 0 b) (x.2 1 b)) = 1)) b 0) d k) := by
  intro d
  induction d with
  | zero =>
    intro k n acc h1 h2
    obtain ⟨n, rfl⟩ : ∃ m, n = m + 1 := ⟨n - 1, by omega⟩
    have e : c ≤ k := by omega
    have h6 := h.c60
    simp (disch := omega) only [lX9_resolvablePairs_9, many_e h.mc, bd_s, nI_leI, e, cn2, if_true, Int32.add_zero]
  | succ d ih =>
    intro k n acc h1 h2
    obtain ⟨n, rfl⟩ : ∃ m, n = m + 1 := ⟨n - 1, by omega⟩
    have e : ¬ c ≤ k := by omega
    have e2 := fun acc => ih (k + 1) n acc (by omega) (by omega)
    have h6 := h.c60
    have mk : ∀ (J : Int32 → Option (Int32 × OS)) (acc : Int32), lX9_resolvablePairs_19 fu z (nI k) J fu acc 0 = J (acc + cn (fun i => decide (pc (cm (x.2 0 i) (x.2 1 i) (x.2 0 k) (x.2 1 k)) = 1)) k 0) := fun J acc => m_pair1_l h hf (b := k) (by omega) J k 0 fu acc (by omega) (by omega)
    simp (disch := omega) only [lX9_resolvablePairs_9, gd_t, bd_s, nm_d, jn_d, isZ_0, isZ_1, ↓reduceIte, if_true, if_false, not_true_eq_false, not_false_eq_true, ite_not, inB_I, nI_leI, nI_ltI, nI_clamp, nI_1, many_e h.mc, mk, cn2, e, e2]
    simp only [Int32.add_assoc]
theorem m_first_l {w c fu : Nat} {x z : OS} (h : QR w c x (z.2 1)) (hf : 5000 ≤ fu) (J : Option (Int32 × OS)) : ∀ (d k n : Nat), k + d = 2 ^ w → d < n → lX9_firstModel_7 fu z (some (-1, z)) n (nI k) = some (fa (fun a => mo x c (-1) (nI a)) 0 d k 0, z) := by
  intro d
  induction d with
  | zero =>
    intro k n h1 h2
    obtain ⟨n, rfl⟩ : ∃ m, n = m + 1 := ⟨n - 1, by omega⟩
    have e : 2 ^ w ≤ k := by omega
    have p12 := (pw12 h.w12).2
    simp (disch := omega) only [lX9_firstModel_7, m_asg h.mw h.w12, bd_s, nI_leI, e, fa, if_true, if_true]
  | succ d ih =>
    intro k n h1 h2
    obtain ⟨n, rfl⟩ : ∃ m, n = m + 1 := ⟨n - 1, by omega⟩
    have e : ¬ 2 ^ w ≤ k := by omega
    have e2 := ih (k + 1) n (by omega) (by omega)
    have p12 := (pw12 h.w12).2
    simp (disch := omega) only [lX9_firstModel_7, gd_t, bd_s, nm_d, jn_d, isZ_0, isZ_1, ↓reduceIte, if_true, if_false, not_true_eq_false, not_false_eq_true, ite_not, inB_I, nI_leI, nI_ltI, nI_clamp, nI_1, m_asg h.mw h.w12, m_isModel h hf, fa, b2_0, e, e2]
    clear ih e2
    rcases Bool.eq_false_or_eq_true (mo x c (-1) (nI k)) with hh | hh <;> simp [hh]
theorem m_at_l {w c fu : Nat} {x z : OS} (h : QR w c x (z.2 1)) (hf : 5000 ≤ fu) (ix : Int32) : ∀ (d k n : Nat) (acc : Int32), k + d = 2 ^ w → d < n → lX9_modelAt_9 fu ix z (some (-1, z)) n acc (nI k) = some (fa (fun a => mo x c (-1) (nI a)) ix d k acc, z) := by
  intro d
  induction d with
  | zero =>
    intro k n acc h1 h2
    obtain ⟨n, rfl⟩ : ∃ m, n = m + 1 := ⟨n - 1, by omega⟩
    have e : 2 ^ w ≤ k := by omega
    have p12 := (pw12 h.w12).2
    simp (disch := omega) only [lX9_modelAt_9, m_asg h.mw h.w12, bd_s, nI_leI, e, fa, if_true, if_true]
  | succ d ih =>
    intro k n acc h1 h2
    obtain ⟨n, rfl⟩ : ∃ m, n = m + 1 := ⟨n - 1, by omega⟩
    have e : ¬ 2 ^ w ≤ k := by omega
    have e2 := fun acc => ih (k + 1) n acc (by omega) (by omega)
    have p12 := (pw12 h.w12).2
    simp (disch := omega) only [lX9_modelAt_9, gd_t, bd_s, nm_d, jn_d, isZ_0, isZ_1, ↓reduceIte, if_true, if_false, not_true_eq_false, not_false_eq_true, ite_not, inB_I, nI_leI, nI_ltI, nI_clamp, nI_1, m_asg h.mw h.w12, m_isModel h hf, fa, b2_0, e, e2]
    clear ih e2
    rcases Bool.eq_false_or_eq_true (mo x c (-1) (nI k)) with hh | hh
    · by_cases g : acc = ix <;> simp [hh, g]
    · simp [hh]
theorem m_horn {w c fu : Nat} {x z : OS} (h : QR w c x (z.2 1)) (hf : 5000 ≤ fu) : lX9_hornClauses_9 fu z (fun v => some (v, z)) fu 0 0 = some (cn (fun i => !decide (1 < pc (x.2 0 i))) c 0, z) := by
  have h6 := h.c60
  have := m_horn_l h hf (fun v => some (v, z)) c 0 fu 0 (by omega) (by omega)
  rw [z_add] at this; exact this
theorem m_cos {w c fu : Nat} {x z : OS} (h : QR w c x (z.2 1)) (hf : 5000 ≤ fu) (s : Int32) : lX9_clausesOfSize_9 fu s z (fun v => some (v, z)) fu 0 0 = some (cn (fun i => decide (pc (x.2 0 i) + pc (x.2 1 i) = s)) c 0, z) := by
  have h6 := h.c60
  have := m_cos_l h hf s (fun v => some (v, z)) c 0 fu 0 (by omega) (by omega)
  rw [z_add] at this; exact this
theorem m_pairs {w c fu : Nat} {x z : OS} (h : QR w c x (z.2 1)) (hf : 5000 ≤ fu) : lX9_resolvablePairs_9 fu z (fun v => some (v, z)) fu 0 0 = some (cn2 (fun b => cn (fun i => decide (pc (cm (x.2 0 i) (x.2 1 i) (x.2 0 b) (x.2 1 b)) = 1)) b 0) c 0, z) := by
  have h6 := h.c60
  have := m_pair2_l h hf (fun v => some (v, z)) c 0 fu 0 (by omega) (by omega)
  rw [z_add] at this; exact this
theorem m_first {w c fu : Nat} {x z : OS} (h : QR w c x (z.2 1)) (hf : 5000 ≤ fu) : lX9_firstModel_7 fu z (some (-1, z)) fu 0 = some (fa (fun a => mo x c (-1) (nI a)) 0 (2 ^ w) 0 0, z) :=
  m_first_l h hf none (2 ^ w) 0 fu (by omega) (by have := (pw12 h.w12).2; omega)
theorem m_at {w c fu : Nat} {x z : OS} (h : QR w c x (z.2 1)) (hf : 5000 ≤ fu) (ix : Int32) : lX9_modelAt_9 fu ix z (some (-1, z)) fu 0 0 = some (fa (fun a => mo x c (-1) (nI a)) ix (2 ^ w) 0 0, z) :=
  m_at_l h hf ix (2 ^ w) 0 fu 0 (by omega) (by have := (pw12 h.w12).2; omega)
