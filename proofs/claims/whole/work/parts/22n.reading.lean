/-! Part II: the reference's reading of the text; words and numbers on both sides. -/
def ah (B : Nat → Int32) (L p : Nat) : Int32 := if p < L then B p else 0
def MT (L : Nat) (B : Nat → Int32) (z : OS) : Prop := L ≤ 500 ∧ z.1 20 = nI L ∧ ∀ i, i < L → z.2 15 i = B i
theorem m_ahead {L p fu : Nat} {B : Nat → Int32} {z : OS} (h : MT L B z) (hp : z.1 19 = nI p) (h9 : p < 10000) : fX9_ahead fu z = some (ah B L p) := by
  obtain ⟨hL, hl, hb⟩ := h
  unfold fX9_ahead ah
  rw [hl, hp]
  by_cases e : p < L
  · rw [if_neg (nI_ge e (by omega)), inB_I (by omega) (by omega), gd_t, nI_clamp (by omega), hb p e, if_pos e]
  · rw [if_pos (nI_le (by omega) (by omega)), if_neg e]
theorem fw_lt (a b : Int32) : (a.toInt64 < b.toInt64) = (a < b) := propext (by rw [Int64.lt_iff_toInt_lt, Int32.lt_iff_toInt_lt, Int32.toInt_toInt64, Int32.toInt_toInt64])
theorem in_e (fu : Nat) (a b c : Int32) : fX9_in fu a.toInt64 b.toInt64 c.toInt64 = some (b2 (!decide (a < b) && !decide (c < a))) := by
  have e1 : (lg_cmp a.toInt64 b.toInt64 < 0) = (a < b) := (propext (lg_cmp_lt _ _)).trans (fw_lt a b)
  have e2 : (0 < lg_cmp a.toInt64 c.toInt64) = (c < a) := (propext (lg_cmp_gt _ _)).trans (fw_lt c a)
  unfold fX9_in
  simp only [e1, e2, isZ_0, isZ_1, gd_t]
  by_cases h1 : a < b
  · simp [h1, b2]
  · by_cases h2 : c < a <;> simp [h1, h2, b2]
theorem c9 : (9 : Int64) = (9 : Int32).toInt64 := by decide
theorem c10 : (10 : Int64) = (10 : Int32).toInt64 := by decide
theorem c97 : (97 : Int64) = (97 : Int32).toInt64 := by decide
theorem c122 : (122 : Int64) = (122 : Int32).toInt64 := by decide
theorem c48 : (48 : Int64) = (48 : Int32).toInt64 := by decide
theorem c57 : (57 : Int64) = (57 : Int32).toInt64 := by decide
theorem W910 (b : Int32) : (!decide (b < 9) && !decide (10 < b)) = (decide (b = 9) || decide (b = 10)) := by
  have t9 : (9 : Int32).toInt = 9 := by decide
  have t10 : (10 : Int32).toInt = 10 := by decide
  rw [Bool.eq_iff_iff, Bool.and_eq_true, Bool.or_eq_true, Bool.not_eq_true', Bool.not_eq_true', decide_eq_false_iff_not, decide_eq_false_iff_not, decide_eq_true_eq, decide_eq_true_eq, Int32.lt_iff_toInt_lt, Int32.lt_iff_toInt_lt, ← Int32.toInt_inj, ← Int32.toInt_inj, t9, t10]
  omega
theorem m_skips_l {L fu : Nat} {B : Nat → Int32} (j : OS → Option OS) : ∀ (d p n : Nat) (z : OS), p + d = L ∨ (d = 0 ∧ L ≤ p) → d < n → p < 9000 → MT L B z → z.1 19 = nI p → ∃ z', lX9_skips_0 fu j n z = j z' ∧ SJ 19 z z' ∧ z'.1 19 = nI (run isW B L p) := by
  intro d
  induction d with
  | zero =>
    intro p n z h1 h2 h9 hm hp
    obtain ⟨n, rfl⟩ : ∃ m, n = m + 1 := ⟨n - 1, by omega⟩
    refine ⟨z, ?_, SJ.rf, by rw [run_L (by omega)]; exact hp⟩
    have a0 : ah B L p = 0 := by unfold ah; rw [if_neg (by omega)]
    rw [lX9_skips_0, m_ahead hm hp (by omega), a0, bd_s, c9, c10, in_e, bd_s, jn_d, if_neg (by decide), bd_s, if_pos (by decide)]
  | succ d ih =>
    intro p n z h1 h2 h9 hm hp
    obtain ⟨n, rfl⟩ : ∃ m, n = m + 1 := ⟨n - 1, by omega⟩
    have hL := hm.1
    obtain ⟨z', k1, k2, k3⟩ := ih (p + 1) n (sI z 19 (nI (p + 1))) (by omega) (by omega) (by omega) ⟨hm.1, by rw [sI_o _ _ (by omega)]; exact hm.2.1, hm.2.2⟩ (sI_s _ _ _)
    have a0 : ah B L p = B p := by unfold ah; rw [if_pos (by omega)]
    rw [lX9_skips_0, m_ahead hm hp (by omega), a0, bd_s, c9, c10, in_e, bd_s, jn_d, W910, bd_s, nm_d, hp, nI_1, run_s (by omega)]
    unfold isW
    by_cases b1 : B p = 32
    · rw [decide_eq_true b1]
      by_cases q : ¬ b2 (decide (B p = 9) || decide (B p = 10)) = 0
      · rw [if_pos q]
        exact ⟨z', k1, (SJ.si 19 z _).tr k2, k3⟩
      · rw [if_neg q, if_neg (fun g => g b1)]
        exact ⟨z', k1, (SJ.si 19 z _).tr k2, k3⟩
    · rw [decide_eq_false b1, Bool.false_or]
      rcases Bool.eq_false_or_eq_true (decide (B p = 9) || decide (B p = 10)) with q | q
      · rw [q, if_pos (by decide), if_pos rfl]
        exact ⟨z', k1, (SJ.si 19 z _).tr k2, k3⟩
      · rw [q, if_neg (by decide), if_pos b1, if_neg (by decide)]
        exact ⟨z, rfl, SJ.rf, hp⟩
theorem m_skips {L fu p : Nat} {B : Nat → Int32} {z : OS} (hm : MT L B z) (hp : z.1 19 = nI p) (h9 : p < 9000) (hf : 5000 ≤ fu) : ∃ z', fX9_skips fu z = some z' ∧ SJ 19 z z' ∧ z'.1 19 = nI (run isW B L p) :=
  m_skips_l (fu := fu) (fun z => some z) (L - p) p fu z (by omega) (by have := hm.1; omega) h9 hm hp
theorem MT.sj {L : Nat} {B : Nat → Int32} {z z' : OS} (h : MT L B z) (e : z'.2 = z.2) (e20 : z'.1 20 = z.1 20) : MT L B z' := ⟨h.1, e20.trans h.2.1, fun i hi => by rw [e]; exact h.2.2 i hi⟩
theorem m_word_l {L fu : Nat} {B : Nat → Int32} (j : OS → Option OS) : ∀ (d p n : Nat) (z : OS), p + d = L ∨ (d = 0 ∧ L ≤ p) → d < n → p < 9000 → MT L B z → z.1 19 = nI p → ∃ z', lX9_takesWord_12 fu j n z = j z' ∧ SJ 19 z z' ∧ z'.1 19 = nI (run isL B L p) := by
  intro d
  induction d with
  | zero =>
    intro p n z h1 h2 h9 hm hp
    obtain ⟨n, rfl⟩ : ∃ m, n = m + 1 := ⟨n - 1, by omega⟩
    refine ⟨z, ?_, SJ.rf, by rw [run_L (by omega)]; exact hp⟩
    have a0 : ah B L p = 0 := by unfold ah; rw [if_neg (by omega)]
    rw [lX9_takesWord_12, m_ahead hm hp (by omega), a0, bd_s, c97, c122, in_e, bd_s, if_pos (by decide)]
  | succ d ih =>
    intro p n z h1 h2 h9 hm hp
    obtain ⟨n, rfl⟩ : ∃ m, n = m + 1 := ⟨n - 1, by omega⟩
    have hL := hm.1
    obtain ⟨z', k1, k2, k3⟩ := ih (p + 1) n (sI z 19 (nI (p + 1))) (by omega) (by omega) (by omega) ⟨hm.1, by rw [sI_o _ _ (by omega)]; exact hm.2.1, hm.2.2⟩ (sI_s _ _ _)
    have a0 : ah B L p = B p := by unfold ah; rw [if_pos (by omega)]
    rw [lX9_takesWord_12, m_ahead hm hp (by omega), a0, bd_s, c97, c122, in_e, bd_s, nm_d, hp, nI_1, run_s (by omega)]
    have e : isL (B p) = (!decide (B p < 97) && !decide (122 < B p)) := rfl
    rw [← e]
    rcases Bool.eq_false_or_eq_true (isL (B p)) with q | q
    · rw [q, if_neg (by decide), if_pos rfl]
      exact ⟨z', k1, (SJ.si 19 z _).tr k2, k3⟩
    · rw [q, if_pos (by decide), if_neg (by decide)]
      exact ⟨z, rfl, SJ.rf, hp⟩
/-- what reading may change -/
def ZJ (z z' : OS) : Prop := z'.2 = z.2 ∧ ∀ i, (i = 19 ∨ i = 21 ∨ i = 22 ∨ i = 23 ∨ i = 24) ∨ z'.1 i = z.1 i
theorem ZJ.rf {z : OS} : ZJ z z := ⟨rfl, fun _ => Or.inr rfl⟩
theorem ZJ.tr {z z' z'' : OS} (a : ZJ z z') (b : ZJ z' z'') : ZJ z z'' := ⟨b.1.trans a.1, fun i => (a.2 i).elim Or.inl (fun e => (b.2 i).elim Or.inl (fun f => Or.inr (f.trans e)))⟩
theorem ZJ.si (z : OS) (k : Nat) (v : Int32) (h : k = 19 ∨ k = 21 ∨ k = 22 ∨ k = 23 ∨ k = 24) : ZJ z (sI z k v) := ⟨rfl, fun i => by
  by_cases e : i = k
  · subst e; exact Or.inl h
  · exact Or.inr (sI_o z v e)⟩
theorem SJ.zj {k : Nat} {z z' : OS} (a : SJ k z z') (h : k = 19 ∨ k = 21 ∨ k = 22 ∨ k = 23 ∨ k = 24) : ZJ z z' := ⟨a.1, fun i => by
  by_cases e : i = k
  · subst e; exact Or.inl h
  · exact Or.inr (a.2 i e)⟩
theorem ZJ.i {z z' : OS} (a : ZJ z z') (i : Nat) (h : ¬ (i = 19 ∨ i = 21 ∨ i = 22 ∨ i = 23 ∨ i = 24) := by decide) : z'.1 i = z.1 i := (a.2 i).resolve_left h
theorem ZJ.mt {L : Nat} {B : Nat → Int32} {z z' : OS} (a : ZJ z z') (h : MT L B z) : MT L B z' := h.sj a.1 (a.i 20)
theorem m_word {L fu p : Nat} {B : Nat → Int32} {z : OS} (hm : MT L B z) (hp : z.1 19 = nI p) (h9 : p ≤ L) (hf : 5000 ≤ fu) : ∃ z', fX9_takesWord fu z = some z' ∧ ZJ z z' ∧ z'.1 21 = z.1 21 ∧ z'.1 22 = z.1 22 ∧ z'.1 19 = nI (run isL B L (run isW B L p)) ∧ z'.1 23 = nI (run isW B L p) ∧ z'.1 24 = nI (run isL B L (run isW B L p) - run isW B L p) := by
  have hL := hm.1
  obtain ⟨z1, e1, s1, v1⟩ := m_skips hm hp (by omega) hf
  have g1 := run_le (q := isW) (B := B) h9
  generalize run isW B L p = s at *
  have m1 : MT L B (sI z1 23 (nI s)) := (hm.sj s1.1 (s1.2 20 (by omega))).sj rfl (sI_o _ _ (by omega))
  obtain ⟨z2, e2, s2, v2⟩ := m_word_l (fu := fu) (fun (z1_42 : OS) => nm (sI z1_42 24 ((z1_42.1 19) - (z1_42.1 23))) (fun (z_4 : OS) => some z_4)) (L - s) s fu (sI z1 23 (nI s)) (by omega) (by omega) (by omega) m1 (by rw [sI_o _ _ (by omega)]; exact v1)
  have r23 : z2.1 23 = nI s := by rw [s2.2 23 (by omega), sI_s]
  have g2 := run_ge (q := isL) (B := B) (L := L) s
  refine ⟨sI z2 24 (nI (run isL B L s - s)), ?_, ?_, ?_, ?_, ?_, ?_, sI_s _ _ _⟩
  · unfold fX9_takesWord
    rw [e1, bd_s, nm_d, jn_d, v1]
    refine e2.trans ?_
    rw [nm_d, v2, r23, pk_sub g2]
  · exact (((s1.zj (by omega)).tr (ZJ.si _ 23 _ (by omega))).tr (s2.zj (by omega))).tr (ZJ.si _ 24 _ (by omega))
  · rw [sI_o _ _ (by omega), s2.2 21 (by omega), sI_o _ _ (by omega), s1.2 21 (by omega)]
  · rw [sI_o _ _ (by omega), s2.2 22 (by omega), sI_o _ _ (by omega), s1.2 22 (by omega)]
  · rw [sI_o _ _ (by omega)]; exact v2
  · rw [sI_o _ _ (by omega)]; exact r23
/-- the word at s, of n letters, is this one -/
def wd (B : Nat → Int32) (s n : Nat) (tx : List Int32) : Bool := decide (n = tx.length) && al (fun i => decide (B (s + i) = (tx.getD i 0 &&& 255))) tx.length 0
theorem m_isTok_l {z : OS} {B : Nat → Int32} {s L len : Nat} {tx : List Int32} (hL : L ≤ 500) (hb : ∀ i, i < L → z.2 15 i = B i) (h23 : z.1 23 = nI s) (h24 : z.1 24 = nI len) (hs : s + len ≤ L) (hl : len = tx.length) : ∀ (d k n : Nat), k + d = len → d < n → lX9_isToken_15 z tx (some 1) n (nI k) = some (b2 (al (fun i => decide (B (s + i) = (tx.getD i 0 &&& 255))) d k)) := by
  intro d
  induction d with
  | zero =>
    intro k n h1 h2
    obtain ⟨n, rfl⟩ : ∃ m, n = m + 1 := ⟨n - 1, by omega⟩
    have e : len ≤ k := by omega
    simp (disch := omega) only [lX9_isToken_15, h24, nI_leI, e, al, if_true, b2_t]
  | succ d ih =>
    intro k n h1 h2
    obtain ⟨n, rfl⟩ : ∃ m, n = m + 1 := ⟨n - 1, by omega⟩
    have e : ¬ len ≤ k := by omega
    have e2 := ih (k + 1) n (by omega) (by omega)
    have hbk := hb (s + k) (by omega)
    simp (disch := omega) only [lX9_isToken_15, gd_t, bd_s, nm_d, jn_d, isZ_0, isZ_1, ↓reduceIte, if_true, if_false, not_true_eq_false, not_false_eq_true, ite_not, inB_I, nI_leI, nI_ltI, nI_clamp, nI_1, h23, h24, nI_add, al, hbk, e, e2]
    clear ih e2 hbk
    by_cases q : B (s + k) = (tx.getD k 0 &&& 255)
    · rw [if_pos q, decide_eq_true q]; rfl
    · rw [if_neg q, decide_eq_false q]; rfl
theorem t_isWord_l {t : OS} {B : Nat → Int32} {s L len : Nat} {tx : List Int32} (hL : L ≤ 500) (hb : ∀ i, i < L → t.2 0 i = B i) (h1 : t.1 1 = nI L) (h3 : t.1 3 = nI s) (hs : s + len ≤ L) (hl : len = tx.length) : ∀ (d k n : Nat), k + d = len → d < n → lX7_isWord_28 t tx (some 1) n (nI k) = some (b2 (al (fun i => decide (B (s + i) = (tx.getD i 0 &&& 255))) d k)) := by
  intro d
  induction d with
  | zero =>
    intro k n h1 h2
    obtain ⟨n, rfl⟩ : ∃ m, n = m + 1 := ⟨n - 1, by omega⟩
    have e : len ≤ k := by omega
    have el : nI tx.length = nI len := by rw [hl]
    simp (disch := omega) only [lX7_isWord_28, el, nI_leI, e, al, if_true, b2_t]
  | succ d ih =>
    intro k n h1 h2
    obtain ⟨n, rfl⟩ : ∃ m, n = m + 1 := ⟨n - 1, by omega⟩
    have e : ¬ len ≤ k := by omega
    have e2 := ih (k + 1) n (by omega) (by omega)
    have el : nI tx.length = nI len := by rw [hl]
    have h1' : t.1 1 = nI L := ‹t.1 1 = nI L›
    have hlk : ¬ L ≤ s + k := by omega
    have hbk := hb (s + k) (by omega)
    simp (disch := omega) only [lX7_isWord_28, gd_t, bd_s, nm_d, jn_d, isZ_0, isZ_1, ↓reduceIte, if_true, if_false, not_true_eq_false, not_false_eq_true, ite_not, inB_I, nI_leI, nI_ltI, nI_clamp, nI_1, h1', h3, nI_add, al, hbk, el, hlk, e, e2]
    clear ih e2 hbk
    by_cases q : B (s + k) = (tx.getD k 0 &&& 255)
    · rw [if_pos q, decide_eq_true q]; rfl
    · rw [if_neg q, decide_eq_false q]; rfl
theorem m_isTok {z : OS} {B : Nat → Int32} {s L n fu : Nat} {tx : List Int32} (hm : MT L B z) (h23 : z.1 23 = nI s) (h24 : z.1 24 = nI n) (hs : s + n ≤ L) (hx : tx.length < 500) (hf : 5000 ≤ fu) : fX9_isToken fu z tx = some (b2 (wd B s n tx)) := by
  have hL := hm.1
  unfold fX9_isToken wd
  by_cases e : n = tx.length
  · have el : nI tx.length = nI n := by rw [e]
    rw [h24, el, if_pos rfl, decide_eq_true e, Bool.true_and, jn_d, isZ_1, gd_t, ← e]
    exact m_isTok_l hL hm.2.2 h23 h24 hs e n 0 fu (by omega) (by omega)
  · rw [h24, if_neg (nI_ne e (by omega) (by omega)), decide_eq_false e, isZ_0, gd_t]; rfl
theorem tk1 {B : Nat → Int32} {L s : Nat} : tkK B L s = 1 ↔ s < run isL B L s := by
  unfold tkK
  by_cases a : s < run isL B L s
  · rw [if_pos a]; exact ⟨fun _ => a, fun _ => rfl⟩
  · rw [if_neg a]
    refine ⟨fun h => absurd h ?_, fun h => absurd h a⟩
    repeat' split
    all_goals decide
theorem dig_let {b : Int32} (h : isD b = true) : isL b = false := by
  have t57 : (57 : Int32).toInt = 57 := by decide
  have t97 : (97 : Int32).toInt = 97 := by decide
  unfold isD at h
  unfold isL
  rw [Bool.and_eq_true, Bool.not_eq_true', Bool.not_eq_true', decide_eq_false_iff_not, decide_eq_false_iff_not] at h
  have : b < 97 := by
    have := h.2
    rw [Int32.lt_iff_toInt_lt] at this ⊢
    omega
  rw [decide_eq_true this]; rfl
theorem tk2 {B : Nat → Int32} {L s : Nat} (hs : s ≤ L) : tkK B L s = 2 ↔ s < run isD B L s := by
  unfold tkK
  by_cases a : s < run isL B L s
  · rw [if_pos a]
    refine ⟨fun h => absurd h (by decide), fun h => ?_⟩
    have := dig_let ((run_lt hs).mp h).2
    rw [((run_lt hs).mp a).2] at this; cases this
  · rw [if_neg a]
    by_cases b : s < run isD B L s
    · rw [if_pos b]; exact ⟨fun _ => b, fun _ => rfl⟩
    · rw [if_neg b]
      refine ⟨fun h => absurd h ?_, fun h => absurd h b⟩
      repeat' split
      all_goals decide
theorem tk_mark {B : Nat → Int32} {L s : Nat} (hs : s ≤ L) {b : Int32} (hl : isL b = false) (hd : isD b = false) (h : s < L ∧ B s = b) : tkK B L s = if b = 59 then 3 else if b = 45 then 4 else 5 := by
  unfold tkK
  rw [if_neg (fun q => by have := ((run_lt hs).mp q).2; rw [h.2, hl] at this; cases this), if_neg (fun q => by have := ((run_lt hs).mp q).2; rw [h.2, hd] at this; cases this), if_pos h.1, h.2]
theorem tk3 {B : Nat → Int32} {L s : Nat} (hs : s ≤ L) : tkK B L s = 3 ↔ s < L ∧ B s = 59 := by
  constructor
  · intro h
    unfold tkK at h
    by_cases a : s < run isL B L s
    · rw [if_pos a] at h; exact absurd h (by decide)
    · rw [if_neg a] at h
      by_cases b : s < run isD B L s
      · rw [if_pos b] at h; exact absurd h (by decide)
      · rw [if_neg b] at h
        by_cases c : s < L
        · rw [if_pos c] at h
          by_cases d : B s = 59
          · exact ⟨c, d⟩
          · rw [if_neg d] at h
            split at h <;> exact absurd h (by decide)
        · rw [if_neg c] at h; exact absurd h (by decide)
  · intro h
    rw [tk_mark hs (b := 59) (by decide) (by decide) h]; rfl
theorem tk4 {B : Nat → Int32} {L s : Nat} (hs : s ≤ L) : tkK B L s = 4 ↔ s < L ∧ B s = 45 := by
  constructor
  · intro h
    unfold tkK at h
    by_cases a : s < run isL B L s
    · rw [if_pos a] at h; exact absurd h (by decide)
    · rw [if_neg a] at h
      by_cases b : s < run isD B L s
      · rw [if_pos b] at h; exact absurd h (by decide)
      · rw [if_neg b] at h
        by_cases c : s < L
        · rw [if_pos c] at h
          by_cases d : B s = 59
          · rw [if_pos d] at h; exact absurd h (by decide)
          · rw [if_neg d] at h
            by_cases g : B s = 45
            · exact ⟨c, g⟩
            · rw [if_neg g] at h; exact absurd h (by decide)
        · rw [if_neg c] at h; exact absurd h (by decide)
  · intro h
    rw [tk_mark hs (b := 45) (by decide) (by decide) h]; rfl
theorem tk0 {B : Nat → Int32} {L s : Nat} (hs : s ≤ L) : tkK B L s = 0 ↔ ¬ s < L := by
  constructor
  · intro h c
    unfold tkK at h
    rw [if_pos c] at h
    split at h
    · exact absurd h (by decide)
    · split at h
      · exact absurd h (by decide)
      · split at h
        · exact absurd h (by decide)
        · split at h <;> exact absurd h (by decide)
  · intro h
    unfold tkK
    rw [if_neg (fun q => h ((run_lt hs).mp q).1), if_neg (fun q => h ((run_lt hs).mp q).1), if_neg h]
theorem t_isWord {t : OS} {B : Nat → Int32} {s L fu : Nat} {tx : List Int32} (h : TS L B s t) (h0 : 0 < tx.length) (hx : tx.length < 500) (hf : 5000 ≤ fu) : fX7_isWord fu t tx = some (b2 (wd B s (run isL B L s - s) tx)) := by
  obtain ⟨hL, l1, hb, sL, nw, s3, k2, e4⟩ := h
  have g1 := run_ge (q := isL) (B := B) (L := L) s
  have g2 := run_le (q := isL) (B := B) sL
  unfold fX7_isWord
  rw [k2]
  by_cases a : s < run isL B L s
  · rw [if_neg (fun q => q (tk1.mpr a)), e4, s3]
    have eE : tkE B L s = run isL B L s := by unfold tkE; rw [if_pos a]
    rw [eE, pk_sub g1]
    unfold wd
    by_cases e : run isL B L s - s = tx.length
    · have el : nI tx.length = nI (run isL B L s - s) := by rw [e]
      rw [el, if_pos rfl, decide_eq_true e, Bool.true_and, jn_d, isZ_1, gd_t, ← e]
      exact t_isWord_l hL hb l1 s3 (by omega) e _ 0 fu (by omega) (by omega)
    · rw [if_neg (nI_ne e (by omega) (by omega)), decide_eq_false e, isZ_0, gd_t]; rfl
  · rw [if_pos (fun q => a (tk1.mp q)), isZ_0, gd_t]
    unfold wd
    rw [decide_eq_false (by omega)]; rfl
/-- a number's value -/
def nv (B : Nat → Int32) : Nat → Nat → Int32 → Int32
  | 0, _, v => v
  | d + 1, k, v => nv B d (k + 1) (10 * v + B k - 48)
theorem t_num_l {t : OS} {B : Nat → Int32} {L e9 : Nat} (hL : L ≤ 500) (hb : ∀ i, i < L → t.2 0 i = B i) (h4 : t.1 4 = nI e9) (hl1 : t.1 1 = nI L) (h9 : e9 ≤ L) : ∀ (d k n : Nat) (v : Int32), k + d = e9 → d < n → lX7_number_22 t (fun v => some v) n v (nI k) = some (nv B d k v) := by
  intro d
  induction d with
  | zero =>
    intro k n v h1 h2
    obtain ⟨n, rfl⟩ : ∃ m, n = m + 1 := ⟨n - 1, by omega⟩
    have e : e9 ≤ k := by omega
    simp (disch := omega) only [lX7_number_22, h4, nI_leI, e, nv, if_true]
  | succ d ih =>
    intro k n v h1 h2
    obtain ⟨n, rfl⟩ : ∃ m, n = m + 1 := ⟨n - 1, by omega⟩
    have e : ¬ e9 ≤ k := by omega
    have e2 := fun v => ih (k + 1) n v (by omega) (by omega)
    have hlk : ¬ L ≤ k := by omega
    have hbk := hb k (by omega)
    simp (disch := omega) only [lX7_number_22, gd_t, bd_s, nm_d, jn_d, isZ_0, isZ_1, ↓reduceIte, if_true, if_false, not_true_eq_false, not_false_eq_true, ite_not, inB_I, nI_leI, nI_ltI, nI_clamp, nI_1, h4, hl1, nv, hbk, hlk, e, e2]
theorem t_number {t : OS} {B : Nat → Int32} {s L fu : Nat} (h : TS L B s t) (hk : s < run isD B L s) (hf : 5000 ≤ fu) : fX7_number fu t = some (if run isD B L s - s ≤ 4 then nv B (run isD B L s - s) s 0 else -1) := by
  obtain ⟨hL, l1, hb, sL, nw, s3, k2, e4⟩ := h
  have g2 := run_le (q := isD) (B := B) sL
  have na : ¬ s < run isL B L s := fun q => by
    have := dig_let ((run_lt sL).mp hk).2
    rw [((run_lt sL).mp q).2] at this; cases this
  have eE : tkE B L s = run isD B L s := by unfold tkE; rw [if_neg na, if_pos hk]
  rw [eE] at e4
  unfold fX7_number
  rw [e4, s3, pk_sub (by omega)]
  by_cases c : run isD B L s - s ≤ 4
  · rw [if_pos (show nI (run isD B L s - s) ≤ 4 from nI_le (b := 4) c (by omega)), if_pos c, nm_d, jn_d]
    exact t_num_l hL hb e4 l1 g2 (run isD B L s - s) s fu 0 (by omega) (by omega)
  · rw [if_neg (show ¬ nI (run isD B L s - s) ≤ 4 from nI_ge (a := 4) (by omega) (by omega)), if_neg c]
theorem m_num_l {L fu s : Nat} {B : Nat → Int32} (j : Int32 → OS → Option (Int32 × OS)) : ∀ (d p n : Nat) (v : Int32) (z : OS), p + d = L → d < n → s ≤ p → MT L B z → z.1 19 = nI p → z.1 23 = nI s → ∃ v' z', lX9_number_23 fu j n v z = j v' z' ∧ SJ 19 z z' ∧ z'.1 19 = nI (run isD B L p) ∧ (run isD B L p - s ≤ 4 → v' = nv B (run isD B L p - p) p v) := by
  intro d
  induction d with
  | zero =>
    intro p n v z h1 h2 hs hm hp h23
    obtain ⟨n, rfl⟩ : ∃ m, n = m + 1 := ⟨n - 1, by omega⟩
    have hL := hm.1
    refine ⟨v, z, ?_, SJ.rf, by rw [run_L (by omega)]; exact hp, fun _ => by rw [run_L (by omega), Nat.sub_self]; rfl⟩
    have a0 : ah B L p = 0 := by unfold ah; rw [if_neg (by omega)]
    rw [lX9_number_23, m_ahead hm hp (by omega), a0, bd_s, c48, c57, in_e, bd_s, if_pos (by decide)]
  | succ d ih =>
    intro p n v z h1 h2 hs hm hp h23
    obtain ⟨n, rfl⟩ : ∃ m, n = m + 1 := ⟨n - 1, by omega⟩
    have hL := hm.1
    have a0 : ah B L p = B p := by unfold ah; rw [if_pos (by omega)]
    have go : ∀ v2 : Int32, ∃ v' z', lX9_number_23 fu j n v2 (sI z 19 (nI (p + 1))) = j v' z' ∧ SJ 19 (sI z 19 (nI (p + 1))) z' ∧ z'.1 19 = nI (run isD B L (p + 1)) ∧ (run isD B L (p + 1) - s ≤ 4 → v' = nv B (run isD B L (p + 1) - (p + 1)) (p + 1) v2) := fun v2 =>
      ih (p + 1) n v2 (sI z 19 (nI (p + 1))) (by omega) (by omega) (by omega) ⟨hm.1, by rw [sI_o _ _ (by omega)]; exact hm.2.1, hm.2.2⟩ (sI_s _ _ _) (by rw [sI_o _ _ (by omega)]; exact h23)
    have eD : isD (B p) = (!decide (B p < 48) && !decide (57 < B p)) := rfl
    rw [lX9_number_23, m_ahead hm hp (by omega), a0, bd_s, c48, c57, in_e, bd_s, jn_d, hp, h23, pk_sub hs, nI_1, run_s (by omega), ← eD]
    have g := run_ge (q := isD) (B := B) (L := L) (p + 1)
    rcases Bool.eq_false_or_eq_true (isD (B p)) with q | q
    · rw [q, if_neg (by decide), if_pos rfl]
      by_cases c : 4 ≤ p - s
      · rw [if_pos (show (4 : Int32) ≤ nI (p - s) from nI_le (a := 4) c (by omega))]
        simp only [nm_d]
        obtain ⟨v', z', k1, k2, k3, k4⟩ := go v
        exact ⟨v', z', k1, (SJ.si 19 z _).tr k2, k3, fun w => absurd w (by omega)⟩
      · rw [if_neg (show ¬ (4 : Int32) ≤ nI (p - s) from nI_ge (b := 4) (by omega) (by omega)), bd_s]
        simp only [nm_d]
        obtain ⟨v', z', k1, k2, k3, k4⟩ := go (10 * v + B p - 48)
        refine ⟨v', z', k1, (SJ.si 19 z _).tr k2, k3, fun w => ?_⟩
        rw [k4 w, show run isD B L (p + 1) - p = (run isD B L (p + 1) - (p + 1)) + 1 by omega, nv]
    · rw [q, if_pos (by decide), if_neg (by decide)]
      exact ⟨v, z, rfl, SJ.rf, hp, fun _ => by rw [Nat.sub_self]; rfl⟩
