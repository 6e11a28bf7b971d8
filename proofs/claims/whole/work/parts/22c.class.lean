/-! Part II: the pure functions of the class's clause sets, as counts and searches over the clauses. -/
def mgP (p q p' q' : Int32) : Int32 := (p ||| p') &&& (cm p q p' q' ^^^ (-1))
def mgN (p q p' q' : Int32) : Int32 := (q ||| q') &&& (cm p q p' q' ^^^ (-1))
/-- the first greatest so far -/
def mf (f : Nat → Int32) : Nat → Nat → Int32 → Int32 → Int32
  | 0, _, b, _ => b
  | d + 1, k, b, g => if f k ≤ g then mf f d (k + 1) b g else mf f d (k + 1) (nI k) (f k)
theorem mf_c {f g : Nat → Int32} : ∀ {d k : Nat} {a b : Int32}, (∀ i, k ≤ i → i < k + d → f i = g i) → mf f d k a b = mf g d k a b
  | 0, _, _, _, _ => rfl
  | d + 1, k, a, b, h => by
    rw [mf, mf, h k (by omega) (by omega), mf_c (fun i a b => h i (by omega) (by omega)), mf_c (fun i a b => h i (by omega) (by omega))]
theorem z_add (x : Int32) : 0 + x = x := by simp
theorem q_hasClause {x : OS} {c fu : Nat} (hc : x.1 7 = nI c) (h6 : c ≤ 60) {k : Nat} (hk : k < c) : fX0_hasClause fu x (nI k) = some 1 := by
  have e : ¬ c ≤ k := by omega
  simp (disch := omega) only [fX0_hasClause, nI_lt0, if_false, hc, nI_leI, e, isZ_1, gd_t]
theorem q_hasClauseN {x : OS} {c fu : Nat} (hc : x.1 7 = nI c) {p : Int32} (h : p < 0 ∨ nI c ≤ p) : fX0_hasClause fu x p = some 0 := by
  unfold fX0_hasClause
  rw [hc, isZ_0, gd_t]
  by_cases a : p < 0
  · rw [if_pos a]
  · rw [if_neg a, if_pos (h.resolve_left a)]
theorem q_isFull {x : OS} {c : Nat} (fu : Nat) (hc : x.1 7 = nI c) (h6 : c ≤ 60) : fX0_isFull fu x = some (b2 (decide (c = 60))) := by
  unfold fX0_isFull
  rw [hc, L60, isZ_0, isZ_1, gd_t, gd_t]
  by_cases e : c = 60
  · subst e; rw [if_neg (nI_nlt (Nat.le_refl _) (by omega)), decide_eq_true rfl]; rfl
  · rw [if_pos (nI_lt (by omega) (by omega)), decide_eq_false e]; rfl
theorem q_indexOf_l {x : OS} {c fu : Nat} (hc : x.1 7 = nI c) (h6 : c ≤ 60) (p q : Int32) : ∀ (d k n : Nat), k + d = c → d < n → lX0_indexOf_2 x p q (some (-1)) n (nI k) = some (ff (fun i => decide (x.2 0 i = p) && decide (x.2 1 i = q)) d k) := by
  intro d
  induction d with
  | zero =>
    intro k n h1 h2
    obtain ⟨n, rfl⟩ : ∃ m, n = m + 1 := ⟨n - 1, by omega⟩
    have e : c ≤ k := by omega
    simp (disch := omega) only [lX0_indexOf_2, gd_t, bd_s, nm_d, jn_d, isZ_0, isZ_1, ↓reduceIte, if_true, if_false, not_true_eq_false, not_false_eq_true, ite_not, inB_I, nI_leI, nI_ltI, nI_clamp, nI_1, hc, ff, e]
  | succ d ih =>
    intro k n h1 h2
    obtain ⟨n, rfl⟩ : ∃ m, n = m + 1 := ⟨n - 1, by omega⟩
    have e : ¬ c ≤ k := by omega
    have e2 := ih (k + 1) n (by omega) (by omega)
    simp (disch := omega) only [lX0_indexOf_2, gd_t, bd_s, nm_d, jn_d, isZ_0, isZ_1, ↓reduceIte, if_true, if_false, not_true_eq_false, not_false_eq_true, ite_not, inB_I, nI_leI, nI_ltI, nI_clamp, nI_1, hc, ff, e, e2]
    clear ih e2
    (repeat' split) <;> simp_all [Int32.add_assoc]
theorem q_indexOf {x : OS} {c fu : Nat} (hc : x.1 7 = nI c) (h6 : c ≤ 60) (hf : 5000 ≤ fu) (p q : Int32) : fX0_indexOf fu x p q = some (ff (fun i => decide (x.2 0 i = p) && decide (x.2 1 i = q)) c 0) :=
  q_indexOf_l (fu := fu) hc h6 p q c 0 fu (by omega) (by omega)
theorem q_literalsIn (x : OS) (fu : Nat) {k : Nat} (hk : k < 60) : fX0_literalsIn fu x (nI k) = some (pc (x.2 0 k) + pc (x.2 1 k)) := by
  simp (disch := omega) only [fX0_literalsIn, inB_I, gd_t, nI_clamp, pc_e, bd_s]
theorem q_cwl_l {x : OS} {c fu : Nat} (hc : x.1 7 = nI c) (h6 : c ≤ 60) (hf : 5000 ≤ fu) (s : Int32) (j : Int32 → Option Int32) : ∀ (d k n : Nat) (acc : Int32), k + d = c → d < n → lX0_countWithLiterals_4 fu x s j n acc (nI k) = j (acc + cn (fun i => decide (pc (x.2 0 i) + pc (x.2 1 i) = s)) d k) := by
  intro d
  induction d with
  | zero =>
    intro k n acc h1 h2
    obtain ⟨n, rfl⟩ : ∃ m, n = m + 1 := ⟨n - 1, by omega⟩
    have e : c ≤ k := by omega
    simp (disch := omega) only [lX0_countWithLiterals_4, hc, nI_leI, e, cn, if_true, Int32.add_zero]
  | succ d ih =>
    intro k n acc h1 h2
    obtain ⟨n, rfl⟩ : ∃ m, n = m + 1 := ⟨n - 1, by omega⟩
    have e : ¬ c ≤ k := by omega
    have e2 := fun acc => ih (k + 1) n acc (by omega) (by omega)
    simp (disch := omega) only [lX0_countWithLiterals_4, gd_t, bd_s, nm_d, jn_d, isZ_0, isZ_1, ↓reduceIte, if_true, if_false, not_true_eq_false, not_false_eq_true, ite_not, inB_I, nI_leI, nI_ltI, nI_clamp, nI_1, hc, cn, q_literalsIn, e, e2]
    clear ih e2
    (repeat' split) <;> simp_all [Int32.add_assoc]
theorem q_horn_l {x : OS} {c fu : Nat} (hc : x.1 7 = nI c) (h6 : c ≤ 60) (hf : 5000 ≤ fu) (j : Int32 → Option Int32) : ∀ (d k n : Nat) (acc : Int32), k + d = c → d < n → lX0_countHorn_4 fu x j n acc (nI k) = j (acc + cn (fun i => !decide (1 < pc (x.2 0 i))) d k) := by
  intro d
  induction d with
  | zero =>
    intro k n acc h1 h2
    obtain ⟨n, rfl⟩ : ∃ m, n = m + 1 := ⟨n - 1, by omega⟩
    have e : c ≤ k := by omega
    simp (disch := omega) only [lX0_countHorn_4, hc, nI_leI, e, cn, if_true, Int32.add_zero]
  | succ d ih =>
    intro k n acc h1 h2
    obtain ⟨n, rfl⟩ : ∃ m, n = m + 1 := ⟨n - 1, by omega⟩
    have e : ¬ c ≤ k := by omega
    have e2 := fun acc => ih (k + 1) n acc (by omega) (by omega)
    simp (disch := omega) only [lX0_countHorn_4, gd_t, bd_s, nm_d, jn_d, isZ_0, isZ_1, ↓reduceIte, if_true, if_false, not_true_eq_false, not_false_eq_true, ite_not, inB_I, nI_leI, nI_ltI, nI_clamp, nI_1, hc, cn, pc_e, e, e2]
    clear ih e2
    (repeat' split) <;> simp_all [Int32.add_assoc]
theorem q_touch_l {x : OS} {c : Nat} (hc : x.1 7 = nI c) (h6 : c ≤ 60) (a b : Int32) (j : Int32 → Option Int32) : ∀ (d k n : Nat) (acc : Int32), k + d = c → d < n → lX0_countTouching_5 x a b j n acc (nI k) = j (acc + cn (fun i => !decide ((x.2 0 i &&& a) = 0) || !decide ((x.2 1 i &&& b) = 0)) d k) := by
  intro d
  induction d with
  | zero =>
    intro k n acc h1 h2
    obtain ⟨n, rfl⟩ : ∃ m, n = m + 1 := ⟨n - 1, by omega⟩
    have e : c ≤ k := by omega
    simp (disch := omega) only [lX0_countTouching_5, hc, nI_leI, e, cn, if_true, Int32.add_zero]
  | succ d ih =>
    intro k n acc h1 h2
    obtain ⟨n, rfl⟩ : ∃ m, n = m + 1 := ⟨n - 1, by omega⟩
    have e : ¬ c ≤ k := by omega
    have e2 := fun acc => ih (k + 1) n acc (by omega) (by omega)
    simp (disch := omega) only [lX0_countTouching_5, gd_t, bd_s, nm_d, jn_d, isZ_0, isZ_1, ↓reduceIte, if_true, if_false, not_true_eq_false, not_false_eq_true, ite_not, inB_I, nI_leI, nI_ltI, nI_clamp, nI_1, hc, cn, e, e2]
    clear ih e2
    (repeat' split) <;> simp_all [Int32.add_assoc]
theorem q_cwl {x : OS} {c fu : Nat} (hc : x.1 7 = nI c) (h6 : c ≤ 60) (hf : 5000 ≤ fu) (s : Int32) : fX0_countWithLiterals fu x s = some (cn (fun i => decide (pc (x.2 0 i) + pc (x.2 1 i) = s)) c 0) := by
  have := q_cwl_l hc h6 hf s (fun v => some v) c 0 fu 0 (by omega) (by omega)
  rw [z_add] at this; exact this
theorem q_horn {x : OS} {c fu : Nat} (hc : x.1 7 = nI c) (h6 : c ≤ 60) (hf : 5000 ≤ fu) : fX0_countHorn fu x = some (cn (fun i => !decide (1 < pc (x.2 0 i))) c 0) := by
  have := q_horn_l hc h6 hf (fun v => some v) c 0 fu 0 (by omega) (by omega)
  rw [z_add] at this; exact this
theorem q_touch {x : OS} {c fu : Nat} (hc : x.1 7 = nI c) (h6 : c ≤ 60) (hf : 5000 ≤ fu) (a b : Int32) : fX0_countTouching fu x a b = some (cn (fun i => !decide ((x.2 0 i &&& a) = 0) || !decide ((x.2 1 i &&& b) = 0)) c 0) := by
  have := q_touch_l hc h6 a b (fun v => some v) c 0 fu 0 (by omega) (by omega)
  rw [z_add] at this; exact this
theorem q_most_l {x : OS} {c fu : Nat} (hc : x.1 7 = nI c) (h6 : c ≤ 60) (hf : 5000 ≤ fu) {w : Nat} (hw : x.1 6 = nI w) (h12 : w ≤ 12) (j : Int32 → Option Int32) : ∀ (d k n : Nat) (b g : Int32), k + d = w → d < n → lX0_firstOfMostClauses_6 fu x j n b g (nI k) = j (mf (fun v => cn (fun i => !decide ((x.2 0 i &&& ((1 : Int32) <<< (nI v &&& 31))) = 0) || !decide ((x.2 1 i &&& ((1 : Int32) <<< (nI v &&& 31))) = 0)) c 0) d k b g) := by
  intro d
  induction d with
  | zero =>
    intro k n b g h1 h2
    obtain ⟨n, rfl⟩ : ∃ m, n = m + 1 := ⟨n - 1, by omega⟩
    have e : w ≤ k := by omega
    simp (disch := omega) only [lX0_firstOfMostClauses_6, gd_t, bd_s, nm_d, jn_d, isZ_0, isZ_1, ↓reduceIte, if_true, if_false, not_true_eq_false, not_false_eq_true, ite_not, inB_I, nI_leI, nI_ltI, nI_clamp, nI_1, hw, mf, q_touch hc h6 hf, e]
  | succ d ih =>
    intro k n b g h1 h2
    obtain ⟨n, rfl⟩ : ∃ m, n = m + 1 := ⟨n - 1, by omega⟩
    have e : ¬ w ≤ k := by omega
    have e2 := fun b g => ih (k + 1) n b g (by omega) (by omega)
    simp (disch := omega) only [lX0_firstOfMostClauses_6, gd_t, bd_s, nm_d, jn_d, isZ_0, isZ_1, ↓reduceIte, if_true, if_false, not_true_eq_false, not_false_eq_true, ite_not, inB_I, nI_leI, nI_ltI, nI_clamp, nI_1, hw, mf, q_touch hc h6 hf, e, e2]
    split <;> rfl
theorem q_allP_l {x : OS} {c : Nat} (hc : x.1 7 = nI c) (h6 : c ≤ 60) (j : Int32 → Option Int32) : ∀ (d k n : Nat) (acc : Int32), k + d = c → d < n → lX0_allPositive_4 x j n acc (nI k) = j (acc ||| om (x.2 0) d k) := by
  intro d
  induction d with
  | zero =>
    intro k n acc h1 h2
    obtain ⟨n, rfl⟩ : ∃ m, n = m + 1 := ⟨n - 1, by omega⟩
    have e : c ≤ k := by omega
    simp (disch := omega) only [lX0_allPositive_4, hc, nI_leI, e, om, if_true, Int32.or_zero]
  | succ d ih =>
    intro k n acc h1 h2
    obtain ⟨n, rfl⟩ : ∃ m, n = m + 1 := ⟨n - 1, by omega⟩
    have e : ¬ c ≤ k := by omega
    have e2 := fun acc => ih (k + 1) n acc (by omega) (by omega)
    simp (disch := omega) only [lX0_allPositive_4, gd_t, bd_s, nm_d, jn_d, isZ_0, isZ_1, ↓reduceIte, if_true, if_false, not_true_eq_false, not_false_eq_true, ite_not, inB_I, nI_leI, nI_ltI, nI_clamp, nI_1, hc, om, Int32.or_assoc, e, e2]
theorem q_allN_l {x : OS} {c : Nat} (hc : x.1 7 = nI c) (h6 : c ≤ 60) (j : Int32 → Option Int32) : ∀ (d k n : Nat) (acc : Int32), k + d = c → d < n → lX0_allNegative_4 x j n acc (nI k) = j (acc ||| om (x.2 1) d k) := by
  intro d
  induction d with
  | zero =>
    intro k n acc h1 h2
    obtain ⟨n, rfl⟩ : ∃ m, n = m + 1 := ⟨n - 1, by omega⟩
    have e : c ≤ k := by omega
    simp (disch := omega) only [lX0_allNegative_4, hc, nI_leI, e, om, if_true, Int32.or_zero]
  | succ d ih =>
    intro k n acc h1 h2
    obtain ⟨n, rfl⟩ : ∃ m, n = m + 1 := ⟨n - 1, by omega⟩
    have e : ¬ c ≤ k := by omega
    have e2 := fun acc => ih (k + 1) n acc (by omega) (by omega)
    simp (disch := omega) only [lX0_allNegative_4, gd_t, bd_s, nm_d, jn_d, isZ_0, isZ_1, ↓reduceIte, if_true, if_false, not_true_eq_false, not_false_eq_true, ite_not, inB_I, nI_leI, nI_ltI, nI_clamp, nI_1, hc, om, Int32.or_assoc, e, e2]
theorem q_deep_l {x : OS} {c : Nat} (hc : x.1 7 = nI c) (h6 : c ≤ 60) (j : Int32 → Option Int32) : ∀ (d k n : Nat) (b g : Int32), k + d = c → d < n → lX0_firstOfGreatestDepth_6 x j n b g (nI k) = j (mf (x.2 5) d k b g) := by
  intro d
  induction d with
  | zero =>
    intro k n b g h1 h2
    obtain ⟨n, rfl⟩ : ∃ m, n = m + 1 := ⟨n - 1, by omega⟩
    have e : c ≤ k := by omega
    simp (disch := omega) only [lX0_firstOfGreatestDepth_6, gd_t, bd_s, nm_d, jn_d, isZ_0, isZ_1, ↓reduceIte, if_true, if_false, not_true_eq_false, not_false_eq_true, ite_not, inB_I, nI_leI, nI_ltI, nI_clamp, nI_1, hc, mf, e]
  | succ d ih =>
    intro k n b g h1 h2
    obtain ⟨n, rfl⟩ : ∃ m, n = m + 1 := ⟨n - 1, by omega⟩
    have e : ¬ c ≤ k := by omega
    have e2 := fun b g => ih (k + 1) n b g (by omega) (by omega)
    simp (disch := omega) only [lX0_firstOfGreatestDepth_6, gd_t, bd_s, nm_d, jn_d, isZ_0, isZ_1, ↓reduceIte, if_true, if_false, not_true_eq_false, not_false_eq_true, ite_not, inB_I, nI_leI, nI_ltI, nI_clamp, nI_1, hc, mf, e, e2]
    split <;> rfl
theorem q_most {x : OS} {c fu : Nat} (hc : x.1 7 = nI c) (h6 : c ≤ 60) (hf : 5000 ≤ fu) {w : Nat} (hw : x.1 6 = nI w) (h12 : w ≤ 12) : fX0_firstOfMostClauses fu x = some (mf (fun v => cn (fun i => !decide ((x.2 0 i &&& ((1 : Int32) <<< (nI v &&& 31))) = 0) || !decide ((x.2 1 i &&& ((1 : Int32) <<< (nI v &&& 31))) = 0)) c 0) w 0 0 0) :=
  q_most_l hc h6 hf hw h12 (fun v => some v) w 0 fu 0 0 (by omega) (by omega)
theorem z_or (x : Int32) : 0 ||| x = x := by simp
theorem q_allP {x : OS} {c fu : Nat} (hc : x.1 7 = nI c) (h6 : c ≤ 60) (hf : 5000 ≤ fu) : fX0_allPositive fu x = some (om (x.2 0) c 0) := by
  have := q_allP_l hc h6 (fun v => some v) c 0 fu 0 (by omega) (by omega)
  rw [z_or] at this; exact this
theorem q_allN {x : OS} {c fu : Nat} (hc : x.1 7 = nI c) (h6 : c ≤ 60) (hf : 5000 ≤ fu) : fX0_allNegative fu x = some (om (x.2 1) c 0) := by
  have := q_allN_l hc h6 (fun v => some v) c 0 fu 0 (by omega) (by omega)
  rw [z_or] at this; exact this
theorem q_deep {x : OS} {c fu : Nat} (hc : x.1 7 = nI c) (h6 : c ≤ 60) (hf : 5000 ≤ fu) : fX0_firstOfGreatestDepth fu x = some (mf (x.2 5) c 0 (-1) (-1)) :=
  q_deep_l hc h6 (fun v => some v) c 0 fu (-1) (-1) (by omega) (by omega)
theorem q_isParent_l {x : OS} {c : Nat} (hc : x.1 7 = nI c) (h6 : c ≤ 60) (p : Int32) : ∀ (d k n : Nat), k + d = c → d < n → lX0_isParent_2 x p (some 0) n (nI k) = some (b2 (ex (fun i => decide (x.2 2 i = p) || decide (x.2 3 i = p)) d k)) := by
  intro d
  induction d with
  | zero =>
    intro k n h1 h2
    obtain ⟨n, rfl⟩ : ∃ m, n = m + 1 := ⟨n - 1, by omega⟩
    have e : c ≤ k := by omega
    simp (disch := omega) only [lX0_isParent_2, hc, nI_leI, e, ex, if_true, b2_f]
  | succ d ih =>
    intro k n h1 h2
    obtain ⟨n, rfl⟩ : ∃ m, n = m + 1 := ⟨n - 1, by omega⟩
    have e : ¬ c ≤ k := by omega
    have e2 := ih (k + 1) n (by omega) (by omega)
    simp (disch := omega) only [lX0_isParent_2, gd_t, bd_s, nm_d, jn_d, isZ_0, isZ_1, ↓reduceIte, if_true, if_false, not_true_eq_false, not_false_eq_true, ite_not, inB_I, nI_leI, nI_ltI, nI_clamp, nI_1, hc, ex, e, e2]
    clear ih e2
    by_cases a : x.2 2 k = p <;> by_cases b : x.2 3 k = p <;> simp [a, b, b2]
theorem q_isParent {x : OS} {c fu : Nat} (hc : x.1 7 = nI c) (h6 : c ≤ 60) (hf : 5000 ≤ fu) (p : Int32) : fX0_isParent fu x p = some (b2 (ex (fun i => decide (x.2 2 i = p) || decide (x.2 3 i = p)) c 0)) :=
  q_isParent_l hc h6 p c 0 fu (by omega) (by omega)
theorem q_clashMask (x : OS) (fu : Nat) {i j : Nat} (hi : i < 60) (hj : j < 60) : fX0_clashMask fu x (nI i) (nI j) = some (cm (x.2 0 i) (x.2 1 i) (x.2 0 j) (x.2 1 j)) := by
  simp (disch := omega) only [fX0_clashMask, inB_I, gd_t, nI_clamp, cm]
theorem q_clashOnce (x : OS) (fu : Nat) {i j : Nat} (hi : i < 60) (hj : j < 60) : fX0_clashOnce fu x (nI i) (nI j) = some (b2 (decide (pc (cm (x.2 0 i) (x.2 1 i) (x.2 0 j) (x.2 1 j)) = 1))) := by
  simp (disch := omega) only [fX0_clashOnce, q_clashMask, bd_s, pc_e, isZ_0, isZ_1, gd_t]
  by_cases e : pc (cm (x.2 0 i) (x.2 1 i) (x.2 0 j) (x.2 1 j)) = 1
  · rw [if_neg (fun h => h e), decide_eq_true e]; rfl
  · rw [if_pos e, decide_eq_false e]; rfl
theorem q_mergedP (x : OS) (fu : Nat) {i j : Nat} (hi : i < 60) (hj : j < 60) : fX0_mergedPositive fu x (nI i) (nI j) = some (mgP (x.2 0 i) (x.2 1 i) (x.2 0 j) (x.2 1 j)) := by
  simp (disch := omega) only [fX0_mergedPositive, q_clashMask, bd_s, inB_I, gd_t, nI_clamp, mgP]
theorem q_mergedN (x : OS) (fu : Nat) {i j : Nat} (hi : i < 60) (hj : j < 60) : fX0_mergedNegative fu x (nI i) (nI j) = some (mgN (x.2 0 i) (x.2 1 i) (x.2 0 j) (x.2 1 j)) := by
  simp (disch := omega) only [fX0_mergedNegative, q_clashMask, bd_s, inB_I, gd_t, nI_clamp, mgN]
theorem q_isWithin (x : OS) (fu : Nat) {k : Nat} (hk : k < 60) (p q : Int32) : fX0_isWithin fu x (nI k) p q = some (b2 (wi (x.2 0 k) (x.2 1 k) p q)) := by
  simp (disch := omega) only [fX0_isWithin, inB_I, gd_t, nI_clamp, isZ_0, isZ_1, wi]
  generalize x.2 0 k &&& (p ^^^ (-1)) = u
  generalize x.2 1 k &&& (q ^^^ (-1)) = v
  by_cases a : u = 0 <;> by_cases b : v = 0 <;> simp [a, b, b2]
theorem q_isTrue (x : OS) (fu : Nat) {k : Nat} (hk : k < 60) (a : Int32) : fX0_isTrueUnder fu x (nI k) a = some (b2 (tu (x.2 0 k) (x.2 1 k) a)) := by
  simp (disch := omega) only [fX0_isTrueUnder, jn_d, inB_I, gd_t, nI_clamp, isZ_0, isZ_1, tu]
  generalize x.2 0 k &&& a = u
  generalize x.2 1 k &&& (a ^^^ (-1)) = v
  by_cases b : u = 0 <;> by_cases d : v = 0 <;> simp [b, d, b2]
theorem q_pairs1 {x : OS} {c fu : Nat} (h6 : c ≤ 60) {b : Nat} (hb : b < c) (j : Int32 → Option Int32) : ∀ (d k n : Nat) (acc : Int32), k + d = b → d < n → lX0_countPairsThatClashOnce_14 fu x (nI b) j n acc (nI k) = j (acc + cn (fun i => decide (pc (cm (x.2 0 i) (x.2 1 i) (x.2 0 b) (x.2 1 b)) = 1)) d k) := by
  intro d
  induction d with
  | zero =>
    intro k n acc h1 h2
    obtain ⟨n, rfl⟩ : ∃ m, n = m + 1 := ⟨n - 1, by omega⟩
    have e : b ≤ k := by omega
    simp (disch := omega) only [lX0_countPairsThatClashOnce_14, nI_leI, e, cn, if_true, Int32.add_zero]
  | succ d ih =>
    intro k n acc h1 h2
    obtain ⟨n, rfl⟩ : ∃ m, n = m + 1 := ⟨n - 1, by omega⟩
    have e : ¬ b ≤ k := by omega
    have e2 := fun acc => ih (k + 1) n acc (by omega) (by omega)
    simp (disch := omega) only [lX0_countPairsThatClashOnce_14, gd_t, bd_s, nm_d, jn_d, isZ_0, isZ_1, ↓reduceIte, if_true, if_false, not_true_eq_false, not_false_eq_true, ite_not, inB_I, nI_leI, nI_ltI, nI_clamp, nI_1, cn, q_clashOnce, b2_0, e, e2]
    clear ih e2
    (repeat' split) <;> simp_all [Int32.add_assoc]
def cn2 (f : Nat → Int32) : Nat → Nat → Int32
  | 0, _ => 0
  | d + 1, k => f k + cn2 f d (k + 1)
theorem cn2_c {p q : Nat → Int32} : ∀ {d k : Nat}, (∀ i, k ≤ i → i < k + d → p i = q i) → cn2 p d k = cn2 q d k
  | 0, _, _ => rfl
  | d + 1, k, h => by rw [cn2, cn2, h k (by omega) (by omega), cn2_c (fun i a b => h i (by omega) (by omega))]
theorem q_pairs2 {x : OS} {c fu : Nat} (hc : x.1 7 = nI c) (h6 : c ≤ 60) (hf : 5000 ≤ fu) (j : Int32 → Option Int32) : ∀ (d k n : Nat) (acc : Int32), k + d = c → d < n → lX0_countPairsThatClashOnce_4 fu x j n acc (nI k) = j (acc + cn2 (fun b => cn (fun i => decide (pc (cm (x.2 0 i) (x.2 1 i) (x.2 0 b) (x.2 1 b)) = 1)) b 0) d k) := by
  intro d
  induction d with
  | zero =>
    intro k n acc h1 h2
    obtain ⟨n, rfl⟩ : ∃ m, n = m + 1 := ⟨n - 1, by omega⟩
    have e : c ≤ k := by omega
    simp (disch := omega) only [lX0_countPairsThatClashOnce_4, hc, nI_leI, e, cn2, if_true, Int32.add_zero]
  | succ d ih =>
    intro k n acc h1 h2
    obtain ⟨n, rfl⟩ : ∃ m, n = m + 1 := ⟨n - 1, by omega⟩
    have e : ¬ c ≤ k := by omega
    have e2 := fun acc => ih (k + 1) n acc (by omega) (by omega)
    simp (disch := omega) only [lX0_countPairsThatClashOnce_4, gd_t, bd_s, nm_d, jn_d, isZ_0, isZ_1, ↓reduceIte, if_true, if_false, not_true_eq_false, not_false_eq_true, ite_not, inB_I, nI_leI, nI_ltI, nI_clamp, nI_1, hc, cn2, e, e2]
    rw [L0, q_pairs1 h6 (b := k) (by omega) _ k 0 fu acc (by omega) (by omega)]
    simp only [e2, Int32.add_assoc]
theorem q_pairs {x : OS} {c fu : Nat} (hc : x.1 7 = nI c) (h6 : c ≤ 60) (hf : 5000 ≤ fu) : fX0_countPairsThatClashOnce fu x = some (cn2 (fun b => cn (fun i => decide (pc (cm (x.2 0 i) (x.2 1 i) (x.2 0 b) (x.2 1 b)) = 1)) b 0) c 0) := by
  rcases Nat.eq_zero_or_pos c with h0 | h0
  · subst h0
    obtain ⟨n, rfl⟩ : ∃ m, fu = m + 1 := ⟨fu - 1, by omega⟩
    simp (disch := omega) only [fX0_countPairsThatClashOnce, jn_d, lX0_countPairsThatClashOnce_4, hc, L1, nI_leI, Nat.zero_le, if_true, cn2]
  · have := q_pairs2 hc h6 hf (fun v => some v) (c - 1) 1 fu 0 (by omega) (by omega)
    rw [z_add] at this
    rw [show c = (c - 1) + 1 by omega, cn2, show cn (fun i => decide (pc (cm (x.2 0 i) (x.2 1 i) (x.2 0 0) (x.2 1 0)) = 1)) 0 0 = 0 from rfl, z_add]
    exact this
theorem q_some_l {x : OS} {c fu : Nat} (hc : x.1 7 = nI c) (h6 : c ≤ 60) (hf : 5000 ≤ fu) (p q : Int32) : ∀ (d k n : Nat), k + d = c → d < n → lX0_isSomeWithin_2 fu x p q (some 0) n (nI k) = some (b2 (ex (fun i => wi (x.2 0 i) (x.2 1 i) p q) d k)) := by
  intro d
  induction d with
  | zero =>
    intro k n h1 h2
    obtain ⟨n, rfl⟩ : ∃ m, n = m + 1 := ⟨n - 1, by omega⟩
    have e : c ≤ k := by omega
    simp (disch := omega) only [lX0_isSomeWithin_2, hc, nI_leI, e, ex, if_true, b2_f]
  | succ d ih =>
    intro k n h1 h2
    obtain ⟨n, rfl⟩ : ∃ m, n = m + 1 := ⟨n - 1, by omega⟩
    have e : ¬ c ≤ k := by omega
    have e2 := ih (k + 1) n (by omega) (by omega)
    simp (disch := omega) only [lX0_isSomeWithin_2, gd_t, bd_s, nm_d, jn_d, isZ_0, isZ_1, ↓reduceIte, if_true, if_false, not_true_eq_false, not_false_eq_true, ite_not, inB_I, nI_leI, nI_ltI, nI_clamp, nI_1, hc, ex, q_isWithin, b2_0, e, e2]
    clear ih e2
    rcases Bool.eq_false_or_eq_true (wi (x.2 0 k) (x.2 1 k) p q) with hh | hh <;> simp [hh, b2]
theorem q_subsumer_l {x : OS} {c fu : Nat} (hc : x.1 7 = nI c) (h6 : c ≤ 60) (hf : 5000 ≤ fu) {a : Nat} (ha : a < c) : ∀ (d k n : Nat), k + d = c → d < n → lX0_firstSubsumer_2 fu x (nI a) (some (-1)) n (nI k) = some (ff (fun i => !decide (i = a) && wi (x.2 0 i) (x.2 1 i) (x.2 0 a) (x.2 1 a)) d k) := by
  intro d
  induction d with
  | zero =>
    intro k n h1 h2
    obtain ⟨n, rfl⟩ : ∃ m, n = m + 1 := ⟨n - 1, by omega⟩
    have e : c ≤ k := by omega
    simp (disch := omega) only [lX0_firstSubsumer_2, gd_t, bd_s, nm_d, jn_d, isZ_0, isZ_1, ↓reduceIte, if_true, if_false, not_true_eq_false, not_false_eq_true, ite_not, inB_I, nI_leI, nI_ltI, nI_clamp, nI_1, hc, ff, q_isWithin, b2_0, nI_eq, e]
  | succ d ih =>
    intro k n h1 h2
    obtain ⟨n, rfl⟩ : ∃ m, n = m + 1 := ⟨n - 1, by omega⟩
    have e : ¬ c ≤ k := by omega
    have e2 := ih (k + 1) n (by omega) (by omega)
    simp (disch := omega) only [lX0_firstSubsumer_2, gd_t, bd_s, nm_d, jn_d, isZ_0, isZ_1, ↓reduceIte, if_true, if_false, not_true_eq_false, not_false_eq_true, ite_not, inB_I, nI_leI, nI_ltI, nI_clamp, nI_1, hc, ff, q_isWithin, b2_0, nI_eq, e, e2]
    clear ih e2
    by_cases a2 : k = a
    · simp [a2]
    · rcases Bool.eq_false_or_eq_true (wi (x.2 0 k) (x.2 1 k) (x.2 0 a) (x.2 1 a)) with hh | hh <;> simp [hh, a2]
theorem q_some {x : OS} {c fu : Nat} (hc : x.1 7 = nI c) (h6 : c ≤ 60) (hf : 5000 ≤ fu) (p q : Int32) : fX0_isSomeWithin fu x p q = some (b2 (ex (fun i => wi (x.2 0 i) (x.2 1 i) p q) c 0)) :=
  q_some_l hc h6 hf p q c 0 fu (by omega) (by omega)
theorem q_subsumer {x : OS} {c fu : Nat} (hc : x.1 7 = nI c) (h6 : c ≤ 60) (hf : 5000 ≤ fu) {a : Nat} (ha : a < c) : fX0_firstSubsumer fu x (nI a) = some (ff (fun i => !decide (i = a) && wi (x.2 0 i) (x.2 1 i) (x.2 0 a) (x.2 1 a)) c 0) :=
  q_subsumer_l hc h6 hf ha c 0 fu (by omega) (by omega)
/-- a clause is subsumed by another -/
def sb (x : OS) (c a : Nat) : Bool := ex (fun i => !decide (i = a) && wi (x.2 0 i) (x.2 1 i) (x.2 0 a) (x.2 1 a)) c 0
theorem sb_ff (x : OS) {c : Nat} (h6 : c ≤ 60) (a : Nat) : (ff (fun i => !decide (i = a) && wi (x.2 0 i) (x.2 1 i) (x.2 0 a) (x.2 1 a)) c 0 = -1) = (sb x c a = false) := ff_m1 (by omega)
theorem q_subsumed_l {x : OS} {c fu : Nat} (hc : x.1 7 = nI c) (h6 : c ≤ 60) (hf : 5000 ≤ fu) (j : Int32 → Option Int32) : ∀ (d k n : Nat) (acc : Int32), k + d = c → d < n → lX0_countSubsumed_4 fu x j n acc (nI k) = j (acc + cn (sb x c) d k) := by
  intro d
  induction d with
  | zero =>
    intro k n acc h1 h2
    obtain ⟨n, rfl⟩ : ∃ m, n = m + 1 := ⟨n - 1, by omega⟩
    have e : c ≤ k := by omega
    simp (disch := omega) only [lX0_countSubsumed_4, hc, nI_leI, e, cn, if_true, Int32.add_zero]
  | succ d ih =>
    intro k n acc h1 h2
    obtain ⟨n, rfl⟩ : ∃ m, n = m + 1 := ⟨n - 1, by omega⟩
    have e : ¬ c ≤ k := by omega
    have e2 := fun acc => ih (k + 1) n acc (by omega) (by omega)
    simp (disch := omega) only [lX0_countSubsumed_4, gd_t, bd_s, nm_d, jn_d, isZ_0, isZ_1, ↓reduceIte, if_true, if_false, not_true_eq_false, not_false_eq_true, ite_not, inB_I, nI_leI, nI_ltI, nI_clamp, nI_1, hc, cn, q_subsumer hc h6 hf, sb_ff x h6, e, e2]
    clear ih e2
    rcases Bool.eq_false_or_eq_true (sb x c k) with hh | hh <;> simp [hh, Int32.add_assoc]
theorem q_subsumed {x : OS} {c fu : Nat} (hc : x.1 7 = nI c) (h6 : c ≤ 60) (hf : 5000 ≤ fu) : fX0_countSubsumed fu x = some (cn (sb x c) c 0) := by
  have := q_subsumed_l hc h6 hf (fun v => some v) c 0 fu 0 (by omega) (by omega)
  rw [z_add] at this; exact this
theorem q_hasRoom {x : OS} {c fu : Nat} (hc : x.1 7 = nI c) (h6 : c ≤ 60) (hf : 5000 ≤ fu) {i j : Nat} (hi : i < 60) (hj : j < 60) : fX0_hasRoomForResolvent fu x (nI i) (nI j) = some (b2 (!decide (c = 60) && !ex (fun k => decide (x.2 0 k = mgP (x.2 0 i) (x.2 1 i) (x.2 0 j) (x.2 1 j)) && decide (x.2 1 k = mgN (x.2 0 i) (x.2 1 i) (x.2 0 j) (x.2 1 j))) c 0)) := by
  simp (disch := omega) only [fX0_hasRoomForResolvent, q_mergedP, q_mergedN, bd_s, q_isFull fu hc h6, q_indexOf hc h6 hf, isZ_0, isZ_1, gd_t, b2_0, ff_m1]
  by_cases a : c = 60
  · simp [a, b2]
  · rcases Bool.eq_false_or_eq_true (ex (fun k => decide (x.2 0 k = mgP (x.2 0 i) (x.2 1 i) (x.2 0 j) (x.2 1 j)) && decide (x.2 1 k = mgN (x.2 0 i) (x.2 1 i) (x.2 0 j) (x.2 1 j))) c 0) with hh | hh <;> simp [hh, a, b2]
theorem q_areTrue_l {x : OS} {c fu : Nat} (hc : x.1 7 = nI c) (h6 : c ≤ 60) (hf : 5000 ≤ fu) (a lo : Int32) : ∀ (d k n : Nat), k + d = c → d < n → lX2_areTrue_2 fu x a lo (some 1) n (nI k) = some (b2 (al (fun i => decide (nI i = lo) || tu (x.2 0 i) (x.2 1 i) a) d k)) := by
  intro d
  induction d with
  | zero =>
    intro k n h1 h2
    obtain ⟨n, rfl⟩ : ∃ m, n = m + 1 := ⟨n - 1, by omega⟩
    have e : c ≤ k := by omega
    simp (disch := omega) only [lX2_areTrue_2, hc, nI_leI, e, al, if_true, b2_t]
  | succ d ih =>
    intro k n h1 h2
    obtain ⟨n, rfl⟩ : ∃ m, n = m + 1 := ⟨n - 1, by omega⟩
    have e : ¬ c ≤ k := by omega
    have e2 := ih (k + 1) n (by omega) (by omega)
    simp (disch := omega) only [lX2_areTrue_2, gd_t, bd_s, nm_d, jn_d, isZ_0, isZ_1, ↓reduceIte, if_true, if_false, not_true_eq_false, not_false_eq_true, ite_not, inB_I, nI_leI, nI_ltI, nI_clamp, nI_1, hc, al, q_isTrue, b2_0, e, e2]
    clear ih e2
    by_cases b : nI k = lo
    · simp [b]
    · rcases Bool.eq_false_or_eq_true (tu (x.2 0 k) (x.2 1 k) a) with hh | hh <;> simp [hh, b, b2]
def mo (x : OS) (c : Nat) (lo a : Int32) : Bool := al (fun i => decide (nI i = lo) || tu (x.2 0 i) (x.2 1 i) a) c 0
theorem q_areTrue {x : OS} {c fu : Nat} (hc : x.1 7 = nI c) (h6 : c ≤ 60) (hf : 5000 ≤ fu) (a lo : Int32) : fX2_areTrue fu x a lo = some (b2 (mo x c lo a)) :=
  q_areTrue_l hc h6 hf a lo c 0 fu (by omega) (by omega)
theorem q_allVars {x : OS} {A : Nat} (fu : Nat) (hA : ((1 : Int32) <<< (x.1 6 &&& 31)) - 1 = nI (A - 1)) : fX0_allVariables fu x = some (nI (A - 1)) := by unfold fX0_allVariables; rw [hA]
theorem av_lt2 {A k : Nat} (hA1 : 1 ≤ A) : (A - 1 < k) = (A ≤ k) := propext (by omega)
theorem q_count_l {x : OS} {c fu : Nat} (hc : x.1 7 = nI c) (h6 : c ≤ 60) (hf : 5000 ≤ fu) {A : Nat} (hA : ((1 : Int32) <<< (x.1 6 &&& 31)) - 1 = nI (A - 1)) (hA1 : 1 ≤ A) (h4 : A ≤ 4096) (j : Int32 → Option Int32) : ∀ (d k n : Nat) (acc : Int32), k + d = A → d < n → lX2_count_4 fu x j n acc (nI k) = j (acc + cn (fun a => mo x c (-1) (nI a)) d k) := by
  intro d
  induction d with
  | zero =>
    intro k n acc h1 h2
    obtain ⟨n, rfl⟩ : ∃ m, n = m + 1 := ⟨n - 1, by omega⟩
    have e : A ≤ k := by omega
    simp (disch := omega) only [lX2_count_4, q_allVars fu hA, bd_s, nI_ltI, av_lt2 hA1, e, cn, if_true, Int32.add_zero]
  | succ d ih =>
    intro k n acc h1 h2
    obtain ⟨n, rfl⟩ : ∃ m, n = m + 1 := ⟨n - 1, by omega⟩
    have e : ¬ A ≤ k := by omega
    have e2 := fun acc => ih (k + 1) n acc (by omega) (by omega)
    simp (disch := omega) only [lX2_count_4, gd_t, bd_s, nm_d, jn_d, isZ_0, isZ_1, ↓reduceIte, if_true, if_false, not_true_eq_false, not_false_eq_true, ite_not, inB_I, nI_leI, nI_ltI, nI_clamp, nI_1, q_allVars fu hA, av_lt2 hA1, cn, q_areTrue hc h6 hf, b2_0, e, e2]
    clear ih e2
    rcases Bool.eq_false_or_eq_true (mo x c (-1) (nI k)) with hh | hh <;> simp [hh, Int32.add_assoc]
/-- the place of the model with a given number, counted from acc -/
def fa (p : Nat → Bool) (ix : Int32) : Nat → Nat → Int32 → Int32
  | 0, _, _ => -1
  | d + 1, k, acc => if p k = true then (if acc = ix then nI k else fa p ix d (k + 1) (acc + 1)) else fa p ix d (k + 1) acc
theorem fa_c {p q : Nat → Bool} {ix : Int32} : ∀ {d k : Nat} {acc : Int32}, (∀ i, k ≤ i → i < k + d → p i = q i) → fa p ix d k acc = fa q ix d k acc
  | 0, _, _, _ => rfl
  | d + 1, k, acc, h => by
    rw [fa, fa, h k (by omega) (by omega), fa_c (fun i a b => h i (by omega) (by omega)), fa_c (fun i a b => h i (by omega) (by omega))]
/-- and of masks -/
def am (p : Nat → Bool) (f : Nat → Int32) : Nat → Nat → Int32 → Int32
  | 0, _, acc => acc
  | d + 1, k, acc => if p k = true then am p f d (k + 1) (acc &&& f k) else am p f d (k + 1) acc
theorem am_c {p q : Nat → Bool} {f : Nat → Int32} : ∀ {d k : Nat} {acc : Int32}, (∀ i, k ≤ i → i < k + d → p i = q i) → am p f d k acc = am q f d k acc
  | 0, _, _, _ => rfl
  | d + 1, k, acc, h => by
    rw [am, am, h k (by omega) (by omega), am_c (fun i a b => h i (by omega) (by omega)), am_c (fun i a b => h i (by omega) (by omega))]
theorem q_at_l {x : OS} {c fu : Nat} (hc : x.1 7 = nI c) (h6 : c ≤ 60) (hf : 5000 ≤ fu) {A : Nat} (hA : ((1 : Int32) <<< (x.1 6 &&& 31)) - 1 = nI (A - 1)) (hA1 : 1 ≤ A) (h4 : A ≤ 4096) (ix : Int32) : ∀ (d k n : Nat) (acc : Int32), k + d = A → d < n → lX2_at_4 fu x ix (some (-1)) n acc (nI k) = some (fa (fun a => mo x c (-1) (nI a)) ix d k acc) := by
  intro d
  induction d with
  | zero =>
    intro k n acc h1 h2
    obtain ⟨n, rfl⟩ : ∃ m, n = m + 1 := ⟨n - 1, by omega⟩
    have e : A ≤ k := by omega
    simp (disch := omega) only [lX2_at_4, gd_t, bd_s, nm_d, jn_d, isZ_0, isZ_1, ↓reduceIte, if_true, if_false, not_true_eq_false, not_false_eq_true, ite_not, inB_I, nI_leI, nI_ltI, nI_clamp, nI_1, q_allVars fu hA, av_lt2 hA1, fa, q_areTrue hc h6 hf, b2_0, e]
  | succ d ih =>
    intro k n acc h1 h2
    obtain ⟨n, rfl⟩ : ∃ m, n = m + 1 := ⟨n - 1, by omega⟩
    have e : ¬ A ≤ k := by omega
    have e2 := fun acc => ih (k + 1) n acc (by omega) (by omega)
    simp (disch := omega) only [lX2_at_4, gd_t, bd_s, nm_d, jn_d, isZ_0, isZ_1, ↓reduceIte, if_true, if_false, not_true_eq_false, not_false_eq_true, ite_not, inB_I, nI_leI, nI_ltI, nI_clamp, nI_1, q_allVars fu hA, av_lt2 hA1, fa, q_areTrue hc h6 hf, b2_0, e, e2]
    clear ih e2
    rcases Bool.eq_false_or_eq_true (mo x c (-1) (nI k)) with hh | hh <;> by_cases b : acc = ix <;> simp [hh, b]
theorem q_cf_l {x : OS} {c fu : Nat} (hc : x.1 7 = nI c) (h6 : c ≤ 60) (hf : 5000 ≤ fu) (a : Int32) (j : Int32 → Option Int32) : ∀ (d k n : Nat) (acc : Int32), k + d = c → d < n → lX2_countFalse_4 fu x a j n acc (nI k) = j (acc + cn (fun i => !tu (x.2 0 i) (x.2 1 i) a) d k) := by
  intro d
  induction d with
  | zero =>
    intro k n acc h1 h2
    obtain ⟨n, rfl⟩ : ∃ m, n = m + 1 := ⟨n - 1, by omega⟩
    have e : c ≤ k := by omega
    simp (disch := omega) only [lX2_countFalse_4, hc, nI_leI, e, cn, if_true, Int32.add_zero]
  | succ d ih =>
    intro k n acc h1 h2
    obtain ⟨n, rfl⟩ : ∃ m, n = m + 1 := ⟨n - 1, by omega⟩
    have e : ¬ c ≤ k := by omega
    have e2 := fun acc => ih (k + 1) n acc (by omega) (by omega)
    simp (disch := omega) only [lX2_countFalse_4, gd_t, bd_s, nm_d, jn_d, isZ_0, isZ_1, ↓reduceIte, if_true, if_false, not_true_eq_false, not_false_eq_true, ite_not, inB_I, nI_leI, nI_ltI, nI_clamp, nI_1, hc, cn, q_isTrue, b2_0, e, e2]
    clear ih e2
    rcases Bool.eq_false_or_eq_true (tu (x.2 0 k) (x.2 1 k) a) with hh | hh <;> simp [hh, Int32.add_assoc]
theorem q_count {x : OS} {c fu : Nat} (hc : x.1 7 = nI c) (h6 : c ≤ 60) (hf : 5000 ≤ fu) {A : Nat} (hA : ((1 : Int32) <<< (x.1 6 &&& 31)) - 1 = nI (A - 1)) (hA1 : 1 ≤ A) (h4 : A ≤ 4096) : fX2_count fu x = some (cn (fun a => mo x c (-1) (nI a)) A 0) := by
  have := q_count_l hc h6 hf hA hA1 h4 (fun v => some v) A 0 fu 0 (by omega) (by omega)
  rw [z_add] at this; exact this
theorem q_at {x : OS} {c fu : Nat} (hc : x.1 7 = nI c) (h6 : c ≤ 60) (hf : 5000 ≤ fu) {A : Nat} (hA : ((1 : Int32) <<< (x.1 6 &&& 31)) - 1 = nI (A - 1)) (hA1 : 1 ≤ A) (h4 : A ≤ 4096) (ix : Int32) : fX2_at fu x ix = some (fa (fun a => mo x c (-1) (nI a)) ix A 0 0) :=
  q_at_l hc h6 hf hA hA1 h4 ix A 0 fu 0 (by omega) (by omega)
theorem q_cf {x : OS} {c fu : Nat} (hc : x.1 7 = nI c) (h6 : c ≤ 60) (hf : 5000 ≤ fu) (a : Int32) : fX2_countFalse fu x a = some (cn (fun i => !tu (x.2 0 i) (x.2 1 i) a) c 0) := by
  have := q_cf_l hc h6 hf a (fun v => some v) c 0 fu 0 (by omega) (by omega)
  rw [z_add] at this; exact this
/-- the first least so far -/
def ml (f : Nat → Int32) : Nat → Nat → Int32 → Int32 → Int32
  | 0, _, b, _ => b
  | d + 1, k, b, g => if g ≤ f k then ml f d (k + 1) b g else ml f d (k + 1) (nI k) (f k)
theorem ml_c {f g : Nat → Int32} : ∀ {d k : Nat} {a b : Int32}, (∀ i, k ≤ i → i < k + d → f i = g i) → ml f d k a b = ml g d k a b
  | 0, _, _, _, _ => rfl
  | d + 1, k, a, b, h => by
    rw [ml, ml, h k (by omega) (by omega), ml_c (fun i a b => h i (by omega) (by omega)), ml_c (fun i a b => h i (by omega) (by omega))]
theorem q_flip_l {x : OS} {c fu : Nat} (hc : x.1 7 = nI c) (h6 : c ≤ 60) (hf : 5000 ≤ fu) {w : Nat} (hw : x.1 6 = nI w) (h12 : w ≤ 12) (a : Int32) (j : Int32 → Option Int32) : ∀ (d k n : Nat) (b g : Int32), k + d = w → d < n → lX2_firstBestFlip_8 fu x a j n b g (nI k) = j (ml (fun v => cn (fun i => !tu (x.2 0 i) (x.2 1 i) (a ^^^ ((1 : Int32) <<< (nI v &&& 31)))) c 0) d k b g) := by
  intro d
  induction d with
  | zero =>
    intro k n b g h1 h2
    obtain ⟨n, rfl⟩ : ∃ m, n = m + 1 := ⟨n - 1, by omega⟩
    have e : w ≤ k := by omega
    simp (disch := omega) only [lX2_firstBestFlip_8, gd_t, bd_s, nm_d, jn_d, isZ_0, isZ_1, ↓reduceIte, if_true, if_false, not_true_eq_false, not_false_eq_true, ite_not, inB_I, nI_leI, nI_ltI, nI_clamp, nI_1, hw, ml, q_cf hc h6 hf, e]
  | succ d ih =>
    intro k n b g h1 h2
    obtain ⟨n, rfl⟩ : ∃ m, n = m + 1 := ⟨n - 1, by omega⟩
    have e : ¬ w ≤ k := by omega
    have e2 := fun b g => ih (k + 1) n b g (by omega) (by omega)
    simp (disch := omega) only [lX2_firstBestFlip_8, gd_t, bd_s, nm_d, jn_d, isZ_0, isZ_1, ↓reduceIte, if_true, if_false, not_true_eq_false, not_false_eq_true, ite_not, inB_I, nI_leI, nI_ltI, nI_clamp, nI_1, hw, ml, q_cf hc h6 hf, e, e2]
    split <;> rfl
theorem q_tia_l {x : OS} {c fu : Nat} (hc : x.1 7 = nI c) (h6 : c ≤ 60) (hf : 5000 ≤ fu) {A : Nat} (hA : ((1 : Int32) <<< (x.1 6 &&& 31)) - 1 = nI (A - 1)) (hA1 : 1 ≤ A) (h4 : A ≤ 4096) (j : Int32 → Option Int32) : ∀ (d k n : Nat) (acc : Int32), k + d = A → d < n → lX2_trueInAll_7 fu x j n acc (nI k) = j (am (fun a => mo x c (-1) (nI a)) (fun a => nI a) d k acc) := by
  intro d
  induction d with
  | zero =>
    intro k n acc h1 h2
    obtain ⟨n, rfl⟩ : ∃ m, n = m + 1 := ⟨n - 1, by omega⟩
    have e : A ≤ k := by omega
    simp (disch := omega) only [lX2_trueInAll_7, gd_t, bd_s, nm_d, jn_d, isZ_0, isZ_1, ↓reduceIte, if_true, if_false, not_true_eq_false, not_false_eq_true, ite_not, inB_I, nI_leI, nI_ltI, nI_clamp, nI_1, q_allVars fu hA, av_lt2 hA1, am, q_areTrue hc h6 hf, b2_0, e]
  | succ d ih =>
    intro k n acc h1 h2
    obtain ⟨n, rfl⟩ : ∃ m, n = m + 1 := ⟨n - 1, by omega⟩
    have e : ¬ A ≤ k := by omega
    have e2 := fun acc => ih (k + 1) n acc (by omega) (by omega)
    simp (disch := omega) only [lX2_trueInAll_7, gd_t, bd_s, nm_d, jn_d, isZ_0, isZ_1, ↓reduceIte, if_true, if_false, not_true_eq_false, not_false_eq_true, ite_not, inB_I, nI_leI, nI_ltI, nI_clamp, nI_1, q_allVars fu hA, av_lt2 hA1, am, q_areTrue hc h6 hf, b2_0, e, e2]
    clear ih e2
    rcases Bool.eq_false_or_eq_true (mo x c (-1) (nI k)) with hh | hh <;> simp [hh]
theorem q_fia_l {x : OS} {c fu : Nat} (hc : x.1 7 = nI c) (h6 : c ≤ 60) (hf : 5000 ≤ fu) {A : Nat} (hA : ((1 : Int32) <<< (x.1 6 &&& 31)) - 1 = nI (A - 1)) (hA1 : 1 ≤ A) (h4 : A ≤ 4096) (j : Int32 → Option Int32) : ∀ (d k n : Nat) (acc : Int32), k + d = A → d < n → lX2_falseInAll_7 fu x j n acc (nI k) = j (am (fun a => mo x c (-1) (nI a)) (fun a => nI a ^^^ (-1)) d k acc) := by
  intro d
  induction d with
  | zero =>
    intro k n acc h1 h2
    obtain ⟨n, rfl⟩ : ∃ m, n = m + 1 := ⟨n - 1, by omega⟩
    have e : A ≤ k := by omega
    simp (disch := omega) only [lX2_falseInAll_7, gd_t, bd_s, nm_d, jn_d, isZ_0, isZ_1, ↓reduceIte, if_true, if_false, not_true_eq_false, not_false_eq_true, ite_not, inB_I, nI_leI, nI_ltI, nI_clamp, nI_1, q_allVars fu hA, av_lt2 hA1, am, q_areTrue hc h6 hf, b2_0, e]
  | succ d ih =>
    intro k n acc h1 h2
    obtain ⟨n, rfl⟩ : ∃ m, n = m + 1 := ⟨n - 1, by omega⟩
    have e : ¬ A ≤ k := by omega
    have e2 := fun acc => ih (k + 1) n acc (by omega) (by omega)
    simp (disch := omega) only [lX2_falseInAll_7, gd_t, bd_s, nm_d, jn_d, isZ_0, isZ_1, ↓reduceIte, if_true, if_false, not_true_eq_false, not_false_eq_true, ite_not, inB_I, nI_leI, nI_ltI, nI_clamp, nI_1, q_allVars fu hA, av_lt2 hA1, am, q_areTrue hc h6 hf, b2_0, e, e2]
    clear ih e2
    rcases Bool.eq_false_or_eq_true (mo x c (-1) (nI k)) with hh | hh <;> simp [hh]
theorem q_imply_l {x : OS} {c fu : Nat} (hc : x.1 7 = nI c) (h6 : c ≤ 60) (hf : 5000 ≤ fu) {A : Nat} (hA : ((1 : Int32) <<< (x.1 6 &&& 31)) - 1 = nI (A - 1)) (hA1 : 1 ≤ A) (h4 : A ≤ 4096) (p q lo : Int32) : ∀ (d k n : Nat), k + d = A → d < n → lX2_imply_3 fu x p q lo (some 1) n (nI k) = some (b2 (al (fun a => !(!tu p q (nI a) && mo x c lo (nI a))) d k)) := by
  intro d
  induction d with
  | zero =>
    intro k n h1 h2
    obtain ⟨n, rfl⟩ : ∃ m, n = m + 1 := ⟨n - 1, by omega⟩
    have e : A ≤ k := by omega
    simp (disch := omega) only [lX2_imply_3, q_allVars fu hA, bd_s, nI_ltI, av_lt2 hA1, e, al, if_true, b2_t]
  | succ d ih =>
    intro k n h1 h2
    obtain ⟨n, rfl⟩ : ∃ m, n = m + 1 := ⟨n - 1, by omega⟩
    have e : ¬ A ≤ k := by omega
    have e2 := ih (k + 1) n (by omega) (by omega)
    simp (disch := omega) only [lX2_imply_3, gd_t, bd_s, nm_d, jn_d, isZ_0, isZ_1, ↓reduceIte, if_true, if_false, not_true_eq_false, not_false_eq_true, ite_not, inB_I, nI_leI, nI_ltI, nI_clamp, nI_1, q_allVars fu hA, av_lt2 hA1, al, q_areTrue hc h6 hf, b2_0, i1_ne0, e, e2]
    clear ih e2
    unfold tu
    generalize p &&& nI k = u
    generalize q &&& (nI k ^^^ (-1)) = v
    by_cases b1 : u = 0 <;> by_cases b3 : v = 0 <;> rcases Bool.eq_false_or_eq_true (mo x c lo (nI k)) with hh | hh <;> simp [b1, b3, b2, hh]
theorem q_flip {x : OS} {c fu : Nat} (hc : x.1 7 = nI c) (h6 : c ≤ 60) (hf : 5000 ≤ fu) {w : Nat} (hw : x.1 6 = nI w) (h12 : w ≤ 12) (a : Int32) : fX2_firstBestFlip fu x a = some (ml (fun v => cn (fun i => !tu (x.2 0 i) (x.2 1 i) (a ^^^ ((1 : Int32) <<< (nI v &&& 31)))) c 0) w 0 0 61) :=
  q_flip_l hc h6 hf hw h12 a (fun v => some v) w 0 fu 0 61 (by omega) (by omega)
theorem q_tia {x : OS} {c fu : Nat} (hc : x.1 7 = nI c) (h6 : c ≤ 60) (hf : 5000 ≤ fu) {A : Nat} (hA : ((1 : Int32) <<< (x.1 6 &&& 31)) - 1 = nI (A - 1)) (hA1 : 1 ≤ A) (h4 : A ≤ 4096) : fX2_trueInAll fu x = some (am (fun a => mo x c (-1) (nI a)) (fun a => nI a) A 0 (nI (A - 1))) := by
  unfold fX2_trueInAll
  rw [q_allVars fu hA]
  exact q_tia_l hc h6 hf hA hA1 h4 (fun v => some v) A 0 fu (nI (A - 1)) (by omega) (by omega)
theorem q_fia {x : OS} {c fu : Nat} (hc : x.1 7 = nI c) (h6 : c ≤ 60) (hf : 5000 ≤ fu) {A : Nat} (hA : ((1 : Int32) <<< (x.1 6 &&& 31)) - 1 = nI (A - 1)) (hA1 : 1 ≤ A) (h4 : A ≤ 4096) : fX2_falseInAll fu x = some (am (fun a => mo x c (-1) (nI a)) (fun a => nI a ^^^ (-1)) A 0 (nI (A - 1))) := by
  unfold fX2_falseInAll
  rw [q_allVars fu hA]
  exact q_fia_l hc h6 hf hA hA1 h4 (fun v => some v) A 0 fu (nI (A - 1)) (by omega) (by omega)
theorem q_imply {x : OS} {c fu : Nat} (hc : x.1 7 = nI c) (h6 : c ≤ 60) (hf : 5000 ≤ fu) {A : Nat} (hA : ((1 : Int32) <<< (x.1 6 &&& 31)) - 1 = nI (A - 1)) (hA1 : 1 ≤ A) (h4 : A ≤ 4096) (p q lo : Int32) : fX2_imply fu x p q lo = some (b2 (al (fun a => !(!tu p q (nI a) && mo x c lo (nI a))) A 0)) :=
  q_imply_l hc h6 hf hA hA1 h4 p q lo A 0 fu (by omega) (by omega)
