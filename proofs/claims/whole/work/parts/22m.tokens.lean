/-! Part II: the text and its tokens, on both sides. -/
def isW (b : Int32) : Bool := decide (b = 32) || (decide (b = 9) || decide (b = 10))
def isL (b : Int32) : Bool := !decide (b < 97) && !decide (122 < b)
def isD (b : Int32) : Bool := !decide (b < 48) && !decide (57 < b)
def rn (q : Int32 → Bool) (B : Nat → Int32) : Nat → Nat → Nat
  | 0, p => p
  | d + 1, p => if q (B p) = true then rn q B d (p + 1) else p
/-- the first place from p on, within L, that isn't of the kind q -/
def run (q : Int32 → Bool) (B : Nat → Int32) (L p : Nat) : Nat := rn q B (L - p) p
theorem rn_ge {q : Int32 → Bool} {B : Nat → Int32} : ∀ (d p : Nat), p ≤ rn q B d p ∧ rn q B d p ≤ p + d
  | 0, p => ⟨Nat.le_refl p, Nat.le_refl p⟩
  | d + 1, p => by
    have := rn_ge (q := q) (B := B) d (p + 1)
    rw [rn]; split <;> omega
theorem run_L {q : Int32 → Bool} {B : Nat → Int32} {L p : Nat} (h : L ≤ p) : run q B L p = p := by
  unfold run; rw [show L - p = 0 by omega]; rfl
theorem run_s {q : Int32 → Bool} {B : Nat → Int32} {L p : Nat} (h : p < L) : run q B L p = if q (B p) = true then run q B L (p + 1) else p := by
  unfold run; rw [show L - p = (L - (p + 1)) + 1 by omega, rn]
theorem run_ge {q : Int32 → Bool} {B : Nat → Int32} {L : Nat} (p : Nat) : p ≤ run q B L p := (rn_ge (L - p) p).1
theorem run_le {q : Int32 → Bool} {B : Nat → Int32} {L p : Nat} (h : p ≤ L) : run q B L p ≤ L := by
  have := (rn_ge (q := q) (B := B) (L - p) p).2
  unfold run; omega
theorem run_stop {q : Int32 → Bool} {B : Nat → Int32} {L : Nat} : ∀ (d p : Nat), p + d = L → run q B L p < L → q (B (run q B L p)) = false
  | 0, p, h, g => by rw [run_L (by omega)] at g; omega
  | d + 1, p, h, g => by
    rw [run_s (by omega)] at g ⊢
    by_cases e : q (B p) = true
    · rw [if_pos e] at g ⊢; exact run_stop d (p + 1) (by omega) g
    · rw [if_neg e]; exact Bool.eq_false_iff.mpr e
theorem run_in {q : Int32 → Bool} {B : Nat → Int32} {L : Nat} : ∀ (d p : Nat), p + d = L → ∀ i, p ≤ i → i < run q B L p → q (B i) = true
  | 0, p, h, i, a, b => by rw [run_L (by omega)] at b; omega
  | d + 1, p, h, i, a, b => by
    rw [run_s (by omega)] at b
    by_cases e : q (B p) = true
    · rw [if_pos e] at b
      by_cases g : i = p
      · subst g; exact e
      · exact run_in d (p + 1) (by omega) i (by omega) b
    · rw [if_neg e] at b; omega
theorem run_same {q : Int32 → Bool} {B : Nat → Int32} {L s : Nat} (h : s < L → q (B s) = false) : run q B L s = s := by
  rcases Nat.lt_or_ge s L with g | g
  · rw [run_s g, h g]; rfl
  · exact run_L g
theorem run_run {q : Int32 → Bool} {B : Nat → Int32} {L p : Nat} (h : p ≤ L) : run q B L (run q B L p) = run q B L p := run_same (fun g => run_stop (L - p) p (by omega) g)
theorem run_lt {q : Int32 → Bool} {B : Nat → Int32} {L s : Nat} (h : s ≤ L) : s < run q B L s ↔ s < L ∧ q (B s) = true := by
  rcases Nat.lt_or_ge s L with g | g
  · rw [run_s g]
    by_cases e : q (B s) = true
    · rw [if_pos e]
      exact ⟨fun _ => ⟨g, e⟩, fun _ => by have := run_ge (q := q) (B := B) (L := L) (s + 1); omega⟩
    · rw [if_neg e]
      exact ⟨fun h => absurd h (by omega), fun h => absurd h.2 e⟩
  · rw [run_L g]
    exact ⟨fun h => absurd h (by omega), fun h => absurd h.1 (by omega)⟩
/-- the token at s: its kind and its end -/
def tkK (B : Nat → Int32) (L s : Nat) : Int32 := if s < run isL B L s then 1 else if s < run isD B L s then 2 else if s < L then (if B s = 59 then 3 else if B s = 45 then 4 else 5) else 0
def tkE (B : Nat → Int32) (L s : Nat) : Nat := if s < run isL B L s then run isL B L s else if s < run isD B L s then run isD B L s else if s < L then s + 1 else s
/-- ints of the state but one have not changed -/
def SJ (k : Nat) (z z' : OS) : Prop := z'.2 = z.2 ∧ ∀ i, i ≠ k → z'.1 i = z.1 i
theorem SJ.rf {k : Nat} {z : OS} : SJ k z z := ⟨rfl, fun _ _ => rfl⟩
theorem SJ.tr {k : Nat} {z z' z'' : OS} (a : SJ k z z') (b : SJ k z' z'') : SJ k z z'' := ⟨b.1.trans a.1, fun i h => (b.2 i h).trans (a.2 i h)⟩
theorem SJ.si (k : Nat) (z : OS) (v : Int32) : SJ k z (sI z k v) := ⟨rfl, fun _ h => sI_o z v h⟩
theorem t_white {L : Nat} {B : Nat → Int32} (hL : L ≤ 500) (j : OS → Option OS) : ∀ (d p n : Nat) (z : OS), p + d = L → d < n → z.1 1 = nI L → (∀ i, i < L → z.2 0 i = B i) → z.1 3 = nI p → ∃ z', lX7_advance_8 j n z = j z' ∧ SJ 3 z z' ∧ z'.1 3 = nI (run isW B L p) := by
  intro d
  induction d with
  | zero =>
    intro p n z h1 h2 hl hb hp
    obtain ⟨n, rfl⟩ : ∃ m, n = m + 1 := ⟨n - 1, by omega⟩
    refine ⟨z, ?_, SJ.rf, by rw [run_L (by omega)]; exact hp⟩
    rw [lX7_advance_8, hl, hp, if_pos (nI_le (by omega) (by omega))]
  | succ d ih =>
    intro p n z h1 h2 hl hb hp
    obtain ⟨n, rfl⟩ : ∃ m, n = m + 1 := ⟨n - 1, by omega⟩
    obtain ⟨z', k1, k2, k3⟩ := ih (p + 1) n (sI z 3 (nI (p + 1))) (by omega) (by omega) (by rw [sI_o _ _ (by omega)]; exact hl) hb (sI_s _ _ _)
    have e : ¬ L ≤ p := by omega
    rw [lX7_advance_8]
    simp (disch := omega) only [hl, hp, nI_leI, e, if_false, inB_I, gd_t, jn_d, nm_d, nI_clamp, hb p (by omega), nI_1]
    rw [run_s (by omega)]
    unfold isW
    by_cases b1 : B p = 32
    · rw [if_pos b1, decide_eq_true b1]
      exact ⟨z', k1, (SJ.si 3 z _).tr k2, k3⟩
    · rw [if_neg b1, decide_eq_false b1]
      by_cases b2' : B p = 9
      · rw [if_pos b2', decide_eq_true b2']
        exact ⟨z', k1, (SJ.si 3 z _).tr k2, k3⟩
      · rw [if_neg b2', decide_eq_false b2']
        by_cases b3 : B p = 10
        · rw [if_neg (fun q => q b3), decide_eq_true b3]
          exact ⟨z', k1, (SJ.si 3 z _).tr k2, k3⟩
        · rw [if_pos b3, decide_eq_false b3]
          exact ⟨z, rfl, SJ.rf, hp⟩
theorem t_let {L : Nat} {B : Nat → Int32} (hL : L ≤ 500) (j : OS → Option OS) : ∀ (d p n : Nat) (z : OS), p + d = L → d < n → z.1 1 = nI L → (∀ i, i < L → z.2 0 i = B i) → z.1 4 = nI p → ∃ z', lX7_advance_87 j n z = j z' ∧ SJ 4 z z' ∧ z'.1 4 = nI (run isL B L p) := by
  intro d
  induction d with
  | zero =>
    intro p n z h1 h2 hl hb hp
    obtain ⟨n, rfl⟩ : ∃ m, n = m + 1 := ⟨n - 1, by omega⟩
    refine ⟨z, ?_, SJ.rf, by rw [run_L (by omega)]; exact hp⟩
    rw [lX7_advance_87, hl, hp, if_pos (nI_le (by omega) (by omega))]
  | succ d ih =>
    intro p n z h1 h2 hl hb hp
    obtain ⟨n, rfl⟩ : ∃ m, n = m + 1 := ⟨n - 1, by omega⟩
    obtain ⟨z', k1, k2, k3⟩ := ih (p + 1) n (sI z 4 (nI (p + 1))) (by omega) (by omega) (by rw [sI_o _ _ (by omega)]; exact hl) hb (sI_s _ _ _)
    have e : ¬ L ≤ p := by omega
    rw [lX7_advance_87]
    simp (disch := omega) only [hl, hp, nI_leI, e, if_false, inB_I, gd_t, jn_d, nm_d, nI_clamp, hb p (by omega), nI_1]
    rw [run_s (by omega)]
    unfold isL
    by_cases b1 : B p < 97
    · rw [if_pos b1, decide_eq_true b1]
      exact ⟨z, rfl, SJ.rf, hp⟩
    · rw [if_neg b1, decide_eq_false b1]
      by_cases b2' : 122 < B p
      · rw [if_pos b2', decide_eq_true b2']
        exact ⟨z, rfl, SJ.rf, hp⟩
      · rw [if_neg b2', decide_eq_false b2']
        exact ⟨z', k1, (SJ.si 4 z _).tr k2, k3⟩
theorem t_dig {L : Nat} {B : Nat → Int32} (hL : L ≤ 500) (j : OS → Option OS) : ∀ (d p n : Nat) (z : OS), p + d = L → d < n → z.1 1 = nI L → (∀ i, i < L → z.2 0 i = B i) → z.1 4 = nI p → ∃ z', lX7_advance_156 j n z = j z' ∧ SJ 4 z z' ∧ z'.1 4 = nI (run isD B L p) := by
  intro d
  induction d with
  | zero =>
    intro p n z h1 h2 hl hb hp
    obtain ⟨n, rfl⟩ : ∃ m, n = m + 1 := ⟨n - 1, by omega⟩
    refine ⟨z, ?_, SJ.rf, by rw [run_L (by omega)]; exact hp⟩
    rw [lX7_advance_156, hl, hp, if_pos (nI_le (by omega) (by omega))]
  | succ d ih =>
    intro p n z h1 h2 hl hb hp
    obtain ⟨n, rfl⟩ : ∃ m, n = m + 1 := ⟨n - 1, by omega⟩
    obtain ⟨z', k1, k2, k3⟩ := ih (p + 1) n (sI z 4 (nI (p + 1))) (by omega) (by omega) (by rw [sI_o _ _ (by omega)]; exact hl) hb (sI_s _ _ _)
    have e : ¬ L ≤ p := by omega
    rw [lX7_advance_156]
    simp (disch := omega) only [hl, hp, nI_leI, e, if_false, inB_I, gd_t, jn_d, nm_d, nI_clamp, hb p (by omega), nI_1]
    rw [run_s (by omega)]
    unfold isD
    by_cases b1 : B p < 48
    · rw [if_pos b1, decide_eq_true b1]
      exact ⟨z, rfl, SJ.rf, hp⟩
    · rw [if_neg b1, decide_eq_false b1]
      by_cases b2' : 57 < B p
      · rw [if_pos b2', decide_eq_true b2']
        exact ⟨z, rfl, SJ.rf, hp⟩
      · rw [if_neg b2', decide_eq_false b2']
        exact ⟨z', k1, (SJ.si 4 z _).tr k2, k3⟩
/-- the class's token state, at s -/
def TS (L : Nat) (B : Nat → Int32) (s : Nat) (t : OS) : Prop := L ≤ 500 ∧ t.1 1 = nI L ∧ (∀ i, i < L → t.2 0 i = B i) ∧ s ≤ L ∧ (s < L → isW (B s) = false) ∧ t.1 3 = nI s ∧ t.1 2 = tkK B L s ∧ t.1 4 = nI (tkE B L s)
def aC3 (z_5 : OS) : Option OS := (if (z_5.1 1) ≤ (z_5.1 3) then some z_5 else gd (inB (z_5.1 3) 500) (nm (z_5.2 0 ((z_5.1 3)).toNatClampNeg) (fun (v1_6 : Int32) => jn (κ := Int32 → OS → Option ((OS))) (fun (t1_268 : Int32) (z1_268 : OS) => nm (sI z1_268 2 t1_268) (fun (z_7 : OS) => nm (sI z_7 4 ((z_7.1 3) + (1 : Int32))) (fun (z_8 : OS) => some z_8))) (fun j268 => (if ¬ v1_6 = (59 : Int32) then (if ¬ v1_6 = (45 : Int32) then j268 (5 : Int32) z_5 else j268 (4 : Int32) z_5) else j268 (3 : Int32) z_5)))))
def aC2 (z1_208 : OS) : Option OS := if (z1_208.1 4) ≤ (z1_208.1 3) then nm (sI z1_208 2 (0 : Int32)) (fun z => aC3 z) else some z1_208
def aC1 (fu : Nat) (z1_139 : OS) : Option OS := if (z1_139.1 4) ≤ (z1_139.1 3) then nm (sI z1_139 2 (2 : Int32)) (fun (z_4 : OS) => lX7_advance_156 aC2 fu z_4) else some z1_139
def aC0 (fu : Nat) (z1_74 : OS) : Option OS := nm (sI z1_74 4 (z1_74.1 3)) (fun (z_2 : OS) => nm (sI z_2 2 (1 : Int32)) (fun (z_3 : OS) => lX7_advance_87 (aC1 fu) fu z_3))
theorem adv_eq (fu : Nat) (z : OS) : fX7_advance fu z = lX7_advance_8 (aC0 fu) fu (sI z 3 (z.1 4)) := rfl
theorem t_advance {L : Nat} {B : Nat → Int32} {t : OS} {fu e : Nat} (hL : L ≤ 500) (hl : t.1 1 = nI L) (hb : ∀ i, i < L → t.2 0 i = B i) (he : e ≤ L) (h4 : t.1 4 = nI e) (hf : 5000 ≤ fu) : ∃ t', fX7_advance fu t = some t' ∧ TS L B (run isW B L e) t' ∧ t'.2 = t.2 := by
  have sL := run_le (q := isW) (B := B) he
  obtain ⟨t1, e1, s1, v1⟩ := t_white hL (aC0 fu) (L - e) e fu (sI t 3 (nI e)) (by omega) (by omega) (by rw [sI_o _ _ (by omega)]; exact hl) hb (sI_s _ _ _)
  rw [adv_eq, h4, e1]
  clear e1
  generalize hs : run isW B L e = s at *
  have hnw : s < L → isW (B s) = false := fun g => by rw [← hs] at g ⊢; exact run_stop (L - e) e (by omega) g
  have l1 : t1.1 1 = nI L := by rw [s1.2 1 (by omega), sI_o _ _ (by omega)]; exact hl
  have a1 : t1.2 = t.2 := s1.1
  obtain ⟨t2, e2, s2, v2⟩ := t_let hL (aC1 fu) (L - s) s fu (sI (sI t1 4 (nI s)) 2 1) (by omega) (by omega) (by rw [sI_o _ _ (by omega), sI_o _ _ (by omega)]; exact l1) (by rw [show (sI (sI t1 4 (nI s)) 2 1).2 = t.2 from a1]; exact hb) (by rw [sI_o _ _ (by omega), sI_s])
  rw [show aC0 fu t1 = lX7_advance_87 (aC1 fu) fu (sI (sI t1 4 (t1.1 3)) 2 1) from rfl, v1, e2]
  clear e2
  have l2 : t2.1 1 = nI L := by rw [s2.2 1 (by omega), sI_o _ _ (by omega), sI_o _ _ (by omega)]; exact l1
  have r2 : t2.1 3 = nI s := by rw [s2.2 3 (by omega), sI_o _ _ (by omega), sI_o _ _ (by omega)]; exact v1
  have k2 : t2.1 2 = 1 := by rw [s2.2 2 (by omega), sI_s]
  have a2 : t2.2 = t.2 := s2.1.trans a1
  have g1 := run_ge (q := isL) (B := B) (L := L) s
  have g2 := run_le (q := isL) (B := B) sL
  unfold aC1
  rw [v2, r2]
  by_cases c1 : s < run isL B L s
  · rw [if_neg (nI_ge c1 (by omega))]
    refine ⟨t2, rfl, ⟨hL, l2, by rw [a2]; exact hb, sL, hnw, r2, ?_, ?_⟩, a2⟩
    · unfold tkK; rw [if_pos c1]; exact k2
    · unfold tkE; rw [if_pos c1]; exact v2
  · rw [if_pos (nI_le (by omega) (by omega)), nm_d]
    obtain ⟨t3, e3, s3, v3⟩ := t_dig hL aC2 (L - s) s fu (sI t2 2 2) (by omega) (by omega) (by rw [sI_o _ _ (by omega)]; exact l2) (by rw [show (sI t2 2 2).2 = t.2 from a2]; exact hb) (by rw [sI_o _ _ (by omega), v2, show run isL B L s = s by omega])
    rw [e3]
    clear e3
    have l3 : t3.1 1 = nI L := by rw [s3.2 1 (by omega), sI_o _ _ (by omega)]; exact l2
    have r3 : t3.1 3 = nI s := by rw [s3.2 3 (by omega), sI_o _ _ (by omega)]; exact r2
    have k3 : t3.1 2 = 2 := by rw [s3.2 2 (by omega), sI_s]
    have a3 : t3.2 = t.2 := s3.1.trans a2
    have g3 := run_ge (q := isD) (B := B) (L := L) s
    have g4 := run_le (q := isD) (B := B) sL
    unfold aC2
    rw [v3, r3]
    by_cases c2 : s < run isD B L s
    · rw [if_neg (nI_ge c2 (by omega))]
      refine ⟨t3, rfl, ⟨hL, l3, by rw [a3]; exact hb, sL, hnw, r3, ?_, ?_⟩, a3⟩
      · unfold tkK; rw [if_neg c1, if_pos c2]; exact k3
      · unfold tkE; rw [if_neg c1, if_pos c2]; exact v3
    · rw [if_pos (nI_le (by omega) (by omega)), nm_d]
      have l4 : (sI t3 2 0).1 1 = nI L := by rw [sI_o _ _ (by omega)]; exact l3
      have r4 : (sI t3 2 0).1 3 = nI s := by rw [sI_o _ _ (by omega)]; exact r3
      have a4 : (sI t3 2 0).2 = t.2 := a3
      unfold aC3
      rw [l4, r4]
      by_cases c3 : s < L
      · rw [if_neg (nI_ge c3 (by omega)), inB_I (by omega) (by omega), gd_t, nI_clamp (by omega), show (sI t3 2 0).2 0 s = B s by rw [a4]; exact hb s c3, nm_d, jn_d]
        have key : ∀ kd : Int32, kd = tkK B L s → ∃ t', (nm (sI (sI t3 2 0) 2 kd) (fun (z_7 : OS) => nm (sI z_7 4 ((z_7.1 3) + (1 : Int32))) (fun (z_8 : OS) => some z_8))) = some t' ∧ TS L B s t' ∧ t'.2 = t.2 := fun kd hkd => by
          refine ⟨_, rfl, ⟨hL, ?_, by rw [show (sI (sI (sI t3 2 0) 2 kd) 4 (((sI (sI t3 2 0) 2 kd).1 3) + 1)).2 = t.2 from a4]; exact hb, sL, hnw, ?_, ?_, ?_⟩, a4⟩
          · rw [sI_o _ _ (by omega), sI_o _ _ (by omega)]; exact l4
          · rw [sI_o _ _ (by omega), sI_o _ _ (by omega)]; exact r4
          · rw [sI_o _ _ (by omega), sI_s]; exact hkd
          · rw [sI_s, sI_o _ _ (by omega), r4, nI_1]
            unfold tkE; rw [if_neg c1, if_neg c2, if_pos c3]
        by_cases m1 : B s = 59
        · rw [if_neg (fun q => q m1)]
          exact key 3 (by unfold tkK; rw [if_neg c1, if_neg c2, if_pos c3, if_pos m1])
        · rw [if_pos m1]
          by_cases m2 : B s = 45
          · rw [if_neg (fun q => q m2)]
            exact key 4 (by unfold tkK; rw [if_neg c1, if_neg c2, if_pos c3, if_neg m1, if_pos m2])
          · rw [if_pos m2]
            exact key 5 (by unfold tkK; rw [if_neg c1, if_neg c2, if_pos c3, if_neg m1, if_neg m2])
      · rw [if_pos (nI_le (by omega) (by omega))]
        refine ⟨_, rfl, ⟨hL, l4, by rw [a4]; exact hb, sL, hnw, r4, ?_, ?_⟩, a4⟩
        · rw [sI_s]; unfold tkK; rw [if_neg c1, if_neg c2, if_neg c3]
        · rw [sI_o _ _ (by omega), v3]; unfold tkE; rw [if_neg c1, if_neg c2, if_neg c3, show run isD B L s = s by omega]
