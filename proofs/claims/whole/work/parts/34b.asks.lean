/-! Part II: the reference's questions about its arguments; counts of literals; what is left of the reading methods. -/
theorem ti_0 {z : OS} (h : z.1 0 = 0) (fu : Nat) (p2 : Int32) : fX9_throwsIf fu z 0 p2 = some (0, z) := by
  unfold fX9_throwsIf
  rw [jn_d, if_pos rfl]
  show (if z.1 0 = 0 then gd (isZ 0) (some ((0 : Int32), z)) else gd (isZ 1) (some ((1 : Int32), z))) = _
  rw [if_pos h, isZ_0, gd_t]
theorem ti_1 {z : OS} (h : z.1 0 = 0) (fu : Nat) {p2 : Int32} (hp : p2 ≠ 0) : fX9_throwsIf fu z 1 p2 = some (1, sI z 0 p2) := by
  unfold fX9_throwsIf
  rw [jn_d, if_neg (by decide), if_neg (fun q => q h), nm_d]
  show (if (sI z 0 p2).1 0 = 0 then gd (isZ 0) (some ((0 : Int32), sI z 0 p2)) else gd (isZ 1) (some ((1 : Int32), sI z 0 p2))) = _
  rw [sI_s, if_neg hp, isZ_1, gd_t]
theorem c0L : (0 : Int64) = (0 : Int32).toInt64 := by decide
theorem c1L : (1 : Int64) = (1 : Int32).toInt64 := by decide
theorem c99L : (99 : Int64) = (99 : Int32).toInt64 := by decide
theorem in_ok {c a : Nat} (ha : a < c) (hc : c ≤ 5000) (fu : Nat) : fX9_in fu (nI a).toInt64 0 (nI c - 1).toInt64 = some 1 := by
  rw [c0L, in_e, decide_eq_false (nI_pos (by omega)), decide_eq_false]
  · rfl
  · rw [L1, pk_sub (by omega)]
    exact nI_nlt (by omega) (by omega)
theorem in_bad {c : Nat} {p : Int32} (hp : p < 0 ∨ nI c ≤ p) (hc : c ≤ 5000) (fu : Nat) : fX9_in fu p.toInt64 0 (nI c - 1).toInt64 = some 0 := by
  rw [c0L, in_e]
  by_cases q : p < 0
  · rw [decide_eq_true q]; rfl
  · have q2 := hp.resolve_left q
    have : nI c - 1 < p := by
      have e1 : ((nI c - 1 : Int32)).toInt = (c : Int) - 1 := pk_sub_toInt (a := c) (b := 1) (by omega) (by omega)
      rw [Int32.le_iff_toInt_le, nI_toInt (by omega)] at q2
      rw [Int32.lt_iff_toInt_lt, e1]; omega
    rw [decide_eq_true this, decide_eq_false q]; rfl
theorem noClause_ok {z : OS} {c a fu : Nat} (h0 : z.1 0 = 0) (hm : z.2 1 1 = nI c) (h6 : c ≤ 60) (ha : a < c) : fX9_noClause fu z (nI a) = some (0, z) := by
  unfold fX9_noClause
  rw [many_e hm, bd_s, in_ok ha (by omega), bd_s, jn_d, if_pos (by decide)]
  simp only [ti_0 h0, bd_s, nm_d, isZ_0, gd_t]
theorem noClause_bad {z : OS} {c fu : Nat} {p : Int32} (h0 : z.1 0 = 0) (hm : z.2 1 1 = nI c) (h6 : c ≤ 60) (hp : p < 0 ∨ nI c ≤ p) : fX9_noClause fu z p = some (1, sI z 0 1) := by
  unfold fX9_noClause
  rw [many_e hm, bd_s, in_bad hp (by omega), bd_s, jn_d, if_neg (by decide)]
  simp only [ti_1 h0 fu (show (1 : Int32) ≠ 0 by decide), bd_s, nm_d, isZ_1, gd_t]
theorem noVar_ok {z : OS} {w a fu : Nat} (h0 : z.1 0 = 0) (hw : z.2 1 0 = nI w) (h12 : w ≤ 12) (ha : a < w) : fX9_noVariable fu z (nI a) = some (0, z) := by
  unfold fX9_noVariable
  rw [wide_e hw, bd_s, in_ok ha (by omega), bd_s, jn_d, if_pos (by decide)]
  simp only [ti_0 h0, bd_s, nm_d, isZ_0, gd_t]
theorem noVar_bad {z : OS} {w fu : Nat} {p : Int32} (h0 : z.1 0 = 0) (hw : z.2 1 0 = nI w) (h12 : w ≤ 12) (hp : p < 0 ∨ nI w ≤ p) : fX9_noVariable fu z p = some (1, sI z 0 1) := by
  unfold fX9_noVariable
  rw [wide_e hw, bd_s, in_bad hp (by omega), bd_s, jn_d, if_neg (by decide)]
  simp only [ti_1 h0 fu (show (1 : Int32) ≠ 0 by decide), bd_s, nm_d, isZ_1, gd_t]
theorem noSlot_ok {z : OS} {a fu : Nat} (h0 : z.1 0 = 0) (ha : a < 2) : fX9_noSlot fu z (nI a) = some (0, z) := by
  have e := in_ok (c := 2) ha (by omega) fu
  have e1 : (nI 2 - 1).toInt64 = 1 := by decide
  rw [e1] at e
  unfold fX9_noSlot
  rw [e, bd_s, jn_d, if_pos (by decide)]
  simp only [ti_0 h0, bd_s, nm_d, isZ_0, gd_t]
theorem noSlot_bad {z : OS} {fu : Nat} {p : Int32} (h0 : z.1 0 = 0) (hp : p < 0 ∨ nI 2 ≤ p) : fX9_noSlot fu z p = some (1, sI z 0 1) := by
  have e := in_bad (c := 2) hp (by omega) fu
  have e1 : (nI 2 - 1).toInt64 = 1 := by decide
  rw [e1] at e
  unfold fX9_noSlot
  rw [e, bd_s, jn_d, if_neg (by decide)]
  simp only [ti_1 h0 fu (show (1 : Int32) ≠ 0 by decide), bd_s, nm_d, isZ_1, gd_t]
theorem noPair_ok {z : OS} {c a b fu : Nat} (h0 : z.1 0 = 0) (hm : z.2 1 1 = nI c) (h6 : c ≤ 60) (ha : a < c) (hb : b < c) : fX9_noPair fu z (nI a) (nI b) = some (0, z) := by
  unfold fX9_noPair
  simp only [noClause_ok h0 hm h6 ha, noClause_ok h0 hm h6 hb, bd_s, nm_d, jn_d, not_true_eq_false, if_false, if_true, isZ_0, gd_t]
theorem noPair_bad1 {z : OS} {c fu : Nat} {p q : Int32} (h0 : z.1 0 = 0) (hm : z.2 1 1 = nI c) (h6 : c ≤ 60) (hp : p < 0 ∨ nI c ≤ p) : fX9_noPair fu z p q = some (1, sI z 0 1) := by
  unfold fX9_noPair
  simp only [noClause_bad h0 hm h6 hp, bd_s, nm_d, jn_d, i1_ne0, not_false_eq_true, if_true, isZ_1, gd_t]
theorem noPair_bad2 {z : OS} {c a fu : Nat} {q : Int32} (h0 : z.1 0 = 0) (hm : z.2 1 1 = nI c) (h6 : c ≤ 60) (ha : a < c) (hq : q < 0 ∨ nI c ≤ q) : fX9_noPair fu z (nI a) q = some (1, sI z 0 1) := by
  unfold fX9_noPair
  simp only [noClause_ok h0 hm h6 ha, noClause_bad h0 hm h6 hq, bd_s, nm_d, jn_d, not_true_eq_false, if_false, i1_ne0, isZ_1, gd_t]
/-! masks -/
theorem mk_bt : ∀ w, w < 13 → ∀ v, v < 32 → bt (nI (2 ^ w - 1)) v = decide (v < w) := by decide +kernel
theorem mask_c {w : Nat} {p : Int32} (h12 : w ≤ 12) : ((p &&& (nI (2 ^ w - 1) ^^^ (-1))) = 0) ↔ Vm w p := by
  have v32 : Vm 32 p := fun v hv => b_big hv
  rw [sub_z v32 (by omega)]
  constructor
  · intro g v hv
    rcases Nat.lt_or_ge v 32 with a | a
    · cases b : bt p v
      · rfl
      · have := g v a b
        rw [mk_bt w (by omega) v a, decide_eq_true_eq] at this; omega
    · exact b_big a
  · intro g v hv b
    rw [mk_bt w (by omega) v hv, decide_eq_true_eq]
    rcases Nat.lt_or_ge v w with a | a
    · exact a
    · rw [g v a] at b; cases b
theorem mask_m {w : Nat} {p : Int32} (h12 : w ≤ 12) : (¬ p < 0 ∧ ¬ nI (2 ^ w - 1) < p) ↔ Vm w p := by
  have p12 := pw12 h12
  constructor
  · intro ⟨a, b⟩
    rcases pk_ix p (n := 2 ^ w) (by omega) with g | g | ⟨j, hj, e⟩
    · exact absurd g a
    · exfalso
      apply b
      rw [Int32.lt_iff_toInt_lt, nI_toInt (by omega)]
      rw [Int32.le_iff_toInt_le, nI_toInt (by omega)] at g
      omega
    · subst e
      intro v hv
      show (nI j).toBitVec.toNat.testBit v = false
      rw [pk_tn (by omega)]
      exact Nat.testBit_lt_two_pow (Nat.lt_of_lt_of_le hj (Nat.pow_le_pow_right (by omega) hv))
  · intro g
    obtain ⟨a, ha, e⟩ := g.nat
    subst e
    exact ⟨nI_pos (by omega), nI_nlt (by omega) (by omega)⟩
theorem q_isMask {x : OS} {w fu : Nat} {p : Int32} (hA : ((1 : Int32) <<< (x.1 6 &&& 31)) - 1 = nI (2 ^ w - 1)) (h12 : w ≤ 12) : (Vm w p → fX0_isMask fu x p = some 1) ∧ (¬ Vm w p → fX0_isMask fu x p = some 0) := by
  unfold fX0_isMask
  rw [q_allVars fu hA, bd_s, isZ_0, isZ_1, gd_t, gd_t]
  constructor
  · intro g; rw [if_neg (fun q => q ((mask_c h12).mpr g))]
  · intro g; rw [if_pos (fun q => g ((mask_c h12).mp q))]
theorem m_isMask {z : OS} {w fu : Nat} {p : Int32} (hw : z.2 1 0 = nI w) (h12 : w ≤ 12) : (Vm w p → fX9_isMask fu z p = some 1) ∧ (¬ Vm w p → fX9_isMask fu z p = some 0) := by
  have p12 := pw12 h12
  have mm := mask_m (p := p) h12
  unfold fX9_isMask
  rw [m_asg hw h12, bd_s, L1, pk_sub p12.1, c0L, in_e, bd_s]
  constructor
  · intro g
    obtain ⟨a, b⟩ := mm.mpr g
    rw [decide_eq_false a, decide_eq_false b]; rfl
  · intro g
    by_cases a : p < 0
    · rw [decide_eq_true a]; rfl
    · rw [decide_eq_false a]
      by_cases b : nI (2 ^ w - 1) < p
      · rw [decide_eq_true b]; rfl
      · exact absurd (mm.mp ⟨a, b⟩) g
theorem vm_dec (w : Nat) (p : Int32) : Vm w p ∨ ¬ Vm w p := Classical.em _
/-- masks of a clause that is asked about -/
theorem noMasks_ok {w c fu : Nat} {x z : OS} {p q : Int32} (h : QR w c x (z.2 1)) (hf : 5000 ≤ fu) (h0 : z.1 0 = 0) (hp : Vm w p) (hq : Vm w q) (hpq : (p &&& q) = 0) : ∃ z', fX9_noMasks fu z p q = some (0, z') ∧ SA c z z' ∧ Row (z'.2 1) c p q ∧ OKm w p q := by
  obtain ⟨z', e, s, r⟩ := m_lays (fu := fu) p q h.c60 h.mc hf
  refine ⟨z', ?_, s, r, hp, hq, fun v hv => ?_⟩
  · unfold fX9_noMasks
    simp only [(m_isMask (fu := fu) h.mw h.w12).1 hp, (m_isMask (fu := fu) h.mw h.w12).1 hq, bd_s, jn_d, i1_ne0, if_false, hpq, if_true, ti_0 h0, nm_d, e, isZ_0, gd_t]
  · rcases Nat.lt_or_ge v w with g | g
    · exact (meet_z hp).mp hpq v g hv
    · exact hq v g
theorem noMasks_bad {w c fu : Nat} {x z : OS} {p q : Int32} (h : QR w c x (z.2 1)) (h0 : z.1 0 = 0) (hb : ¬ (Vm w p ∧ Vm w q ∧ (p &&& q) = 0)) : fX9_noMasks fu z p q = some (1, sI z 0 1) := by
  have t1 := ti_1 h0 fu (show (1 : Int32) ≠ 0 by decide)
  unfold fX9_noMasks
  rcases vm_dec w p with hp | hp
  · rcases vm_dec w q with hq | hq
    · have : ¬ (p &&& q) = 0 := fun g => hb ⟨hp, hq, g⟩
      simp only [(m_isMask (fu := fu) h.mw h.w12).1 hp, (m_isMask (fu := fu) h.mw h.w12).1 hq, bd_s, jn_d, i1_ne0, if_false, this, t1, nm_d, isZ_1, gd_t]
    · simp only [(m_isMask (fu := fu) h.mw h.w12).1 hp, (m_isMask (fu := fu) h.mw h.w12).2 hq, bd_s, jn_d, i1_ne0, if_false, if_true, t1, nm_d, isZ_1, gd_t]
  · simp only [(m_isMask (fu := fu) h.mw h.w12).2 hp, bd_s, jn_d, i1_ne0, if_false, if_true, t1, nm_d, isZ_1, gd_t]
theorem m_often1_l {w c fu : Nat} {x z : OS} (h : QR w c x (z.2 1)) (hf : 5000 ≤ fu) {v : Nat} (hv : v < w) (j : Int32 → Option Int32) : ∀ (d k n : Nat) (acc : Int32), k + d = c → d < n → lX9_often_5 fu z (nI v) 1 j n acc (nI k) = j (acc + cn (fun i => bt (x.2 0 i) v) d k) := by
  intro d
  induction d with
  | zero =>
    intro k n acc h1 h2
    obtain ⟨n, rfl⟩ : ∃ m, n = m + 1 := ⟨n - 1, by omega⟩
    have e : c ≤ k := by omega
    have h6 := h.c60
    simp (disch := omega) only [lX9_often_5, many_e h.mc, bd_s, nI_leI, e, cn, if_true, Int32.add_zero]
  | succ d ih =>
    intro k n acc h1 h2
    obtain ⟨n, rfl⟩ : ∃ m, n = m + 1 := ⟨n - 1, by omega⟩
    have e : ¬ c ≤ k := by omega
    have e2 := fun acc => ih (k + 1) n acc (by omega) (by omega)
    have r := h.row (k := k) (by omega)
    have o := h.ok (k := k) (by omega)
    have h6 := h.c60
    have h12 := h.w12
    have sg := sign_r r (by omega) fu (v := v) (by omega)
    simp (disch := omega) only [lX9_often_5, gd_t, bd_s, nm_d, jn_d, isZ_0, isZ_1, ↓reduceIte, if_true, if_false, not_true_eq_false, not_false_eq_true, ite_not, inB_I, nI_leI, nI_ltI, nI_clamp, nI_1, many_e h.mc, sg, SG_1, cn, e, e2]
    clear ih e2 sg
    rcases Bool.eq_false_or_eq_true (bt (x.2 0 k) v) with hh | hh <;> simp [hh, Int32.add_assoc]
theorem m_often2_l {w c fu : Nat} {x z : OS} (h : QR w c x (z.2 1)) (hf : 5000 ≤ fu) {v : Nat} (hv : v < w) (j : Int32 → Option Int32) : ∀ (d k n : Nat) (acc : Int32), k + d = c → d < n → lX9_often_5 fu z (nI v) 2 j n acc (nI k) = j (acc + cn (fun i => bt (x.2 1 i) v) d k) := by
  intro d
  induction d with
  | zero =>
    intro k n acc h1 h2
    obtain ⟨n, rfl⟩ : ∃ m, n = m + 1 := ⟨n - 1, by omega⟩
    have e : c ≤ k := by omega
    have h6 := h.c60
    simp (disch := omega) only [lX9_often_5, many_e h.mc, bd_s, nI_leI, e, cn, if_true, Int32.add_zero]
  | succ d ih =>
    intro k n acc h1 h2
    obtain ⟨n, rfl⟩ : ∃ m, n = m + 1 := ⟨n - 1, by omega⟩
    have e : ¬ c ≤ k := by omega
    have e2 := fun acc => ih (k + 1) n acc (by omega) (by omega)
    have r := h.row (k := k) (by omega)
    have o := h.ok (k := k) (by omega)
    have h6 := h.c60
    have h12 := h.w12
    have sg := sign_r r (by omega) fu (v := v) (by omega)
    simp (disch := omega) only [lX9_often_5, gd_t, bd_s, nm_d, jn_d, isZ_0, isZ_1, ↓reduceIte, if_true, if_false, not_true_eq_false, not_false_eq_true, ite_not, inB_I, nI_leI, nI_ltI, nI_clamp, nI_1, many_e h.mc, sg, SG_2 o, cn, e, e2]
    clear ih e2 sg
    rcases Bool.eq_false_or_eq_true (bt (x.2 1 k) v) with hh | hh <;> simp [hh, Int32.add_assoc]
theorem m_often1 {w c fu : Nat} {x z : OS} (h : QR w c x (z.2 1)) (hf : 5000 ≤ fu) {v : Nat} (hv : v < w) : fX9_often fu z (nI v) 1 = some (cn (fun i => bt (x.2 0 i) v) c 0) := by
  have h6 := h.c60
  have := m_often1_l h hf hv (fun v => some v) c 0 fu 0 (by omega) (by omega)
  rw [z_add] at this; exact this
theorem m_often2 {w c fu : Nat} {x z : OS} (h : QR w c x (z.2 1)) (hf : 5000 ≤ fu) {v : Nat} (hv : v < w) : fX9_often fu z (nI v) 2 = some (cn (fun i => bt (x.2 1 i) v) c 0) := by
  have h6 := h.c60
  have := m_often2_l h hf hv (fun v => some v) c 0 fu 0 (by omega) (by omega)
  rw [z_add] at this; exact this
/-- the class's counts of a variable's literals -/
theorem touch_b {x : OS} {w c v : Nat} {m : Nat → Int32} (h : QR w c x m) (hv : v < w) : cn (fun i => !decide ((x.2 0 i &&& ((1 : Int32) <<< (nI v &&& 31))) = 0) || !decide ((x.2 1 i &&& ((1 : Int32) <<< (nI v &&& 31))) = 0)) c 0 = cn (fun i => bt (x.2 0 i) v) c 0 + cn (fun i => bt (x.2 1 i) v) c 0 := by
  have h12 := h.w12
  rw [← cn_or (fun i _ hi => (h.ok (k := i) (by omega)).2.2 v)]
  refine cn_c (fun i _ hi => ?_)
  simp only [and_bit (show v < 32 by omega)]
  cases bt (x.2 0 i) v <;> cases bt (x.2 1 i) v <;> rfl
theorem touch_p {x : OS} {w c v : Nat} {m : Nat → Int32} (h : QR w c x m) (hv : v < w) : cn (fun i => !decide ((x.2 0 i &&& ((1 : Int32) <<< (nI v &&& 31))) = 0) || !decide ((x.2 1 i &&& 0) = 0)) c 0 = cn (fun i => bt (x.2 0 i) v) c 0 := by
  have h12 := h.w12
  refine cn_c (fun i _ hi => ?_)
  have a0 : (x.2 1 i &&& 0) = 0 := by simp
  simp only [and_bit (show v < 32 by omega), a0]
  cases bt (x.2 0 i) v <;> rfl
theorem touch_n {x : OS} {w c v : Nat} {m : Nat → Int32} (h : QR w c x m) (hv : v < w) : cn (fun i => !decide ((x.2 0 i &&& 0) = 0) || !decide ((x.2 1 i &&& ((1 : Int32) <<< (nI v &&& 31))) = 0)) c 0 = cn (fun i => bt (x.2 1 i) v) c 0 := by
  have h12 := h.w12
  refine cn_c (fun i _ hi => ?_)
  have a0 : (x.2 0 i &&& 0) = 0 := by simp
  simp only [and_bit (show v < 32 by omega), a0]
  cases bt (x.2 1 i) v <;> rfl
theorem m_most_l {w c fu : Nat} {x z : OS} (h : QR w c x (z.2 1)) (hf : 5000 ≤ fu) (j : Int32 → Option (Int32 × OS)) : ∀ (d k n : Nat) (b g : Int32), k + d = w → d < n → lX9_mostFrequentVariable_11 fu z j n b g (nI k) = j (mf (fun v => cn (fun i => bt (x.2 0 i) v) c 0 + cn (fun i => bt (x.2 1 i) v) c 0) d k b g) := by
  intro d
  induction d with
  | zero =>
    intro k n b g h1 h2
    obtain ⟨n, rfl⟩ : ∃ m, n = m + 1 := ⟨n - 1, by omega⟩
    have e : w ≤ k := by omega
    have h12 := h.w12
    simp (disch := omega) only [lX9_mostFrequentVariable_11, wide_e h.mw, bd_s, nI_leI, e, mf, if_true]
  | succ d ih =>
    intro k n b g h1 h2
    obtain ⟨n, rfl⟩ : ∃ m, n = m + 1 := ⟨n - 1, by omega⟩
    have e : ¬ w ≤ k := by omega
    have e2 := fun b g => ih (k + 1) n b g (by omega) (by omega)
    have h12 := h.w12
    have o1 := m_often1 h hf (v := k) (by omega)
    have o2 := m_often2 h hf (v := k) (by omega)
    simp (disch := omega) only [lX9_mostFrequentVariable_11, gd_t, bd_s, nm_d, jn_d, isZ_0, isZ_1, ↓reduceIte, if_true, if_false, not_true_eq_false, not_false_eq_true, ite_not, inB_I, nI_leI, nI_ltI, nI_clamp, nI_1, wide_e h.mw, mf, o1, o2, e, e2]
    split <;> rfl
theorem cn_pos {p : Nat → Bool} {d k : Nat} (h : d < 2 ^ 31) : (cn p d k ≤ 0) = (cn p d k = 0) := by
  obtain ⟨t, ht, e⟩ := (cn_0 (p := p) (d := d) (k := k) h).2
  rw [e]
  apply propext
  rw [show (0 : Int32) = nI 0 from rfl, nI_leI (by omega) (by omega), nI_eq (by omega) (by omega)]
  omega
theorem m_pure1_l {w c fu : Nat} {x z : OS} (h : QR w c x (z.2 1)) (hf : 5000 ≤ fu) (j : Int32 → Option Int32) : ∀ (d k n : Nat) (acc : Int32), k + d = w → d < n → lX9_pure_4 fu z 1 j n acc (nI k) = j (acc ||| om (fun v => if (!decide (cn (fun i => bt (x.2 0 i) v) c 0 = 0) && decide (cn (fun i => bt (x.2 1 i) v) c 0 = 0)) = true then (1 : Int32) <<< (nI v &&& 31) else 0) d k) := by
  intro d
  induction d with
  | zero =>
    intro k n acc h1 h2
    obtain ⟨n, rfl⟩ : ∃ m, n = m + 1 := ⟨n - 1, by omega⟩
    have e : w ≤ k := by omega
    have h12 := h.w12
    simp (disch := omega) only [lX9_pure_4, wide_e h.mw, bd_s, nI_leI, e, om, if_true, Int32.or_zero]
  | succ d ih =>
    intro k n acc h1 h2
    obtain ⟨n, rfl⟩ : ∃ m, n = m + 1 := ⟨n - 1, by omega⟩
    have e : ¬ w ≤ k := by omega
    have e2 := fun acc => ih (k + 1) n acc (by omega) (by omega)
    have h12 := h.w12
    have o1 := m_often1 h hf (v := k) (by omega)
    have o2 := m_often2 h hf (v := k) (by omega)
    have h6 := h.c60
    have cp := cn_pos (p := fun i => bt (x.2 0 i) k) (d := c) (k := 0) (by omega)
    simp (disch := omega) only [lX9_pure_4, gd_t, bd_s, nm_d, jn_d, isZ_0, isZ_1, ↓reduceIte, if_true, if_false, not_true_eq_false, not_false_eq_true, ite_not, inB_I, nI_leI, nI_ltI, nI_clamp, nI_1, wide_e h.mw, om, o1, o2, d31, cp, e, e2]
    clear ih e2 o1 o2 cp
    by_cases a : cn (fun i => bt (x.2 0 i) k) c 0 = 0 <;> by_cases b : cn (fun i => bt (x.2 1 i) k) c 0 = 0 <;> simp [a, b, Int32.or_assoc]
theorem m_pure2_l {w c fu : Nat} {x z : OS} (h : QR w c x (z.2 1)) (hf : 5000 ≤ fu) (j : Int32 → Option Int32) : ∀ (d k n : Nat) (acc : Int32), k + d = w → d < n → lX9_pure_4 fu z 2 j n acc (nI k) = j (acc ||| om (fun v => if (!decide (cn (fun i => bt (x.2 1 i) v) c 0 = 0) && decide (cn (fun i => bt (x.2 0 i) v) c 0 = 0)) = true then (1 : Int32) <<< (nI v &&& 31) else 0) d k) := by
  intro d
  induction d with
  | zero =>
    intro k n acc h1 h2
    obtain ⟨n, rfl⟩ : ∃ m, n = m + 1 := ⟨n - 1, by omega⟩
    have e : w ≤ k := by omega
    have h12 := h.w12
    simp (disch := omega) only [lX9_pure_4, wide_e h.mw, bd_s, nI_leI, e, om, if_true, Int32.or_zero]
  | succ d ih =>
    intro k n acc h1 h2
    obtain ⟨n, rfl⟩ : ∃ m, n = m + 1 := ⟨n - 1, by omega⟩
    have e : ¬ w ≤ k := by omega
    have e2 := fun acc => ih (k + 1) n acc (by omega) (by omega)
    have h12 := h.w12
    have o1 := m_often1 h hf (v := k) (by omega)
    have o2 := m_often2 h hf (v := k) (by omega)
    have h6 := h.c60
    have cp := cn_pos (p := fun i => bt (x.2 1 i) k) (d := c) (k := 0) (by omega)
    simp (disch := omega) only [lX9_pure_4, gd_t, bd_s, nm_d, jn_d, isZ_0, isZ_1, ↓reduceIte, if_true, if_false, not_true_eq_false, not_false_eq_true, ite_not, inB_I, nI_leI, nI_ltI, nI_clamp, nI_1, wide_e h.mw, om, o1, o2, d32, cp, e, e2]
    clear ih e2 o1 o2 cp
    by_cases a : cn (fun i => bt (x.2 1 i) k) c 0 = 0 <;> by_cases b : cn (fun i => bt (x.2 0 i) k) c 0 = 0 <;> simp [a, b, Int32.or_assoc]
theorem cn_ex {p : Nat → Bool} {d k : Nat} (h : d < 2 ^ 31) : (cn p d k = 0) = (ex p d k = false) := by
  apply propext
  rw [(cn_0 h).1]
  constructor
  · exact fun g => ex_f g
  · intro g i a b
    rcases Bool.eq_false_or_eq_true (p i) with q | q
    · rw [ex_t.mpr ⟨i, a, b, q⟩] at g; cases g
    · exact q
/-- the pure variables: the class's masks, the reference's counts -/
theorem pure_eq {w c : Nat} {f g : Nat → Int32} (h12 : w ≤ 12) (h6 : c ≤ 60) (hf : ∀ k, k < c → Vm w (f k)) : om (fun v => if (!decide (cn (fun i => bt (f i) v) c 0 = 0) && decide (cn (fun i => bt (g i) v) c 0 = 0)) = true then (1 : Int32) <<< (nI v &&& 31) else 0) w 0 = om f c 0 &&& (om g c 0 ^^^ (-1)) := by
  have vf : Vm w (om f c 0) := fun v hv => by
    rw [om_bt]
    exact ex_f (fun i a b => hf i (by omega) v hv)
  refine om_m (by omega) (vf.andl _) (fun v hv => ?_)
  rw [b_and, b_not _ (by omega), om_bt, om_bt]
  have e1 := cn_ex (p := fun i => bt (f i) v) (d := c) (k := 0) (by omega)
  have e2 := cn_ex (p := fun i => bt (g i) v) (d := c) (k := 0) (by omega)
  simp only [e1, e2]
  cases ex (fun i => bt (f i) v) c 0 <;> cases ex (fun i => bt (g i) v) c 0 <;> rfl
