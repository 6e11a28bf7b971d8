/-! Part II: unit propagation on both sides. -/
def upP (P N F : Int32) : Int32 := if pc P + pc N = 1 then P else P &&& (F ^^^ (-1))
def upN (P N T : Int32) : Int32 := if pc P + pc N = 1 then N else N &&& (T ^^^ (-1))
def hit (P N T F : Int32) : Bool := decide (pc (upP P N F) + pc (upN P N T) = 1)
def nwb (P N T F : Int32) : Bool := hit P N T F && (!decide ((upP P N F &&& (T ^^^ (-1))) = 0) || !decide ((upN P N T &&& (F ^^^ (-1))) = 0))
def nT (P N T F : Int32) : Int32 := if hit P N T F = true then T ||| upP P N F else T
def nF (P N T F : Int32) : Int32 := if hit P N T F = true then F ||| upN P N T else F
theorem b2_or (a b : Bool) : b2 a ||| b2 b = b2 (a || b) := by cases a <;> cases b <;> decide
theorem b2_o1 (a : Bool) : b2 a ||| 1 = b2 (a || true) := b2_or a true
theorem b2_o0 (a : Bool) : b2 a ||| 0 = b2 (a || false) := b2_or a false
theorem up_ok {w : Nat} {P N T F : Int32} (ok : OKm w P N) : OKm w (upP P N F) (upN P N T) := by
  unfold upP upN
  by_cases e : pc P + pc N = 1
  · rw [if_pos e, if_pos e]; exact ok
  · rw [if_neg e, if_neg e]
    refine ⟨ok.1.andl _, ok.2.1.andl _, fun v hv => ?_⟩
    rw [b_and, Bool.and_eq_true] at hv
    rw [b_and, ok.2.2 v hv.1]; rfl
theorem nT_v {w : Nat} {P N T F : Int32} (ok : OKm w P N) (hT : Vm w T) : Vm w (nT P N T F) := by
  unfold nT
  by_cases e : hit P N T F = true
  · rw [if_pos e]; exact hT.or (up_ok (T := T) (F := F) ok).1
  · rw [if_neg e]; exact hT
theorem nF_v {w : Nat} {P N T F : Int32} (ok : OKm w P N) (hF : Vm w F) : Vm w (nF P N T F) := by
  unfold nF
  by_cases e : hit P N T F = true
  · rw [if_pos e]; exact hF.or (up_ok (T := T) (F := F) ok).2.1
  · rw [if_neg e]; exact hF
/-- the class's round, one clause -/
theorem q_round1 {x z1 : OS} {c fu : Nat} (hc : x.1 7 = nI c) (h6 : c ≤ 60) {k : Nat} (hk : k < c) (J : Int32 → OS → Option (Int32 × OS)) (n : Nat) (nw : Bool) (T F : Int32) (hT : z1.1 0 = T) (hF : z1.1 1 = F) :
    ∃ z1', lX4_runRound_4 fu x J (n + 1) (b2 nw) (nI k) z1 = lX4_runRound_4 fu x J n (b2 (nw || nwb (x.2 0 k) (x.2 1 k) T F)) (nI (k + 1)) z1' ∧ z1'.1 0 = nT (x.2 0 k) (x.2 1 k) T F ∧ z1'.1 1 = nF (x.2 0 k) (x.2 1 k) T F := by
  have e : ¬ c ≤ k := by omega
  rw [lX4_runRound_4]
  simp (disch := omega) only [hc, nI_leI, e, if_false, inB_I, gd_t, nI_clamp, nm_d, jn_d, bd_s, q_literalsIn, pc_e, nI_1, hT, hF, sI_o, ne_eq, not_false_eq_true]
  generalize hP : x.2 0 k = P
  generalize hN : x.2 1 k = N
  have fin : ∀ u v : Int32, u = upP P N F → v = upN P N T → ∃ z1', (if ¬ (pc u + pc v) = 1 then lX4_runRound_4 fu x J n (b2 nw) (nI (k + 1)) z1 else if ¬ (u &&& (T ^^^ (-1))) = 0 then lX4_runRound_4 fu x J n (b2 nw ||| 1) (nI (k + 1)) (sI (sI z1 0 (T ||| u)) 1 (F ||| v)) else if (v &&& (F ^^^ (-1))) = 0 then lX4_runRound_4 fu x J n (b2 nw ||| 0) (nI (k + 1)) (sI (sI z1 0 (T ||| u)) 1 (F ||| v)) else lX4_runRound_4 fu x J n (b2 nw ||| 1) (nI (k + 1)) (sI (sI z1 0 (T ||| u)) 1 (F ||| v))) = lX4_runRound_4 fu x J n (b2 (nw || nwb P N T F)) (nI (k + 1)) z1' ∧ z1'.1 0 = nT P N T F ∧ z1'.1 1 = nF P N T F := by
    intro u v hu hv
    unfold nwb nT nF hit
    rw [← hu, ← hv]
    have s0 : (sI (sI z1 0 (T ||| u)) 1 (F ||| v)).1 0 = T ||| u := by rw [sI_o _ _ (by omega), sI_s]
    have s1 : (sI (sI z1 0 (T ||| u)) 1 (F ||| v)).1 1 = F ||| v := sI_s _ _ _
    by_cases h1 : pc u + pc v = 1
    · rw [decide_eq_true h1, if_neg (fun q => q h1), if_pos rfl, if_pos rfl]
      by_cases h2 : (u &&& (T ^^^ (-1))) = 0
      · rw [if_neg (fun q => q h2), decide_eq_true h2]
        by_cases h3 : (v &&& (F ^^^ (-1))) = 0
        · rw [if_pos h3, decide_eq_true h3, b2_o0]
          exact ⟨_, rfl, s0, s1⟩
        · rw [if_neg h3, decide_eq_false h3, b2_o1]
          exact ⟨_, rfl, s0, s1⟩
      · rw [if_pos h2, decide_eq_false h2, b2_o1]
        exact ⟨_, rfl, s0, s1⟩
    · rw [decide_eq_false h1, if_pos h1, if_neg (by decide), if_neg (by decide), Bool.false_and, Bool.or_false]
      exact ⟨_, rfl, hT, hF⟩
  by_cases hl : pc P + pc N = 1
  · rw [if_pos hl]
    exact fin P N (by unfold upP; rw [if_pos hl]) (by unfold upN; rw [if_pos hl])
  · rw [if_neg hl]
    exact fin _ _ (by unfold upP; rw [if_neg hl]) (by unfold upN; rw [if_neg hl])
/-! the reference -/
theorem m_isFixed1 {z : OS} (fu : Nat) {v : Nat} (hv : v < 12) : fX9_isFixed fu z (nI v) 1 = some (b2 (bt (z.1 12) v)) := by
  unfold fX9_isFixed
  rw [jn_d, if_neg (fun q => q rfl)]
  show (if ¬ ((z.1 12 >>> (nI v &&& 31)) &&& 1) = 1 then gd (isZ 0) (some 0) else gd (isZ 1) (some 1)) = _
  rw [sh_bit _ (by omega), isZ_0, isZ_1, gd_t, gd_t]
  cases bt (z.1 12) v <;> rfl
theorem m_isFixed2 {z : OS} (fu : Nat) {v : Nat} (hv : v < 12) : fX9_isFixed fu z (nI v) 2 = some (b2 (bt (z.1 13) v)) := by
  unfold fX9_isFixed
  rw [jn_d, if_pos (by decide)]
  show (if ¬ ((z.1 13 >>> (nI v &&& 31)) &&& 1) = 1 then gd (isZ 0) (some 0) else gd (isZ 1) (some 1)) = _
  rw [sh_bit _ (by omega), isZ_0, isZ_1, gd_t, gd_t]
  cases bt (z.1 13) v <;> rfl
def li (p : Nat → Bool) : Nat → Nat → Int32 → Int32
  | 0, _, l => l
  | d + 1, k, l => li p d (k + 1) (if p k = true then nI k else l)
theorem li_no {p : Nat → Bool} : ∀ {d k : Nat} {l : Int32}, (∀ i, k ≤ i → i < k + d → p i = false) → li p d k l = l
  | 0, _, _, _ => rfl
  | d + 1, k, l, h => by
    rw [li, h k (by omega) (by omega), if_neg (by decide)]
    exact li_no (fun i a b => h i (by omega) (by omega))
theorem li_one {p : Nat → Bool} {t : Nat} (ht : p t = true) : ∀ {d k : Nat} {l : Int32}, k ≤ t → t < k + d → (∀ i, k ≤ i → i < k + d → i ≠ t → p i = false) → li p d k l = nI t
  | 0, k, l, h1, h2, _ => absurd h2 (by omega)
  | d + 1, k, l, h1, h2, h => by
    rw [li]
    by_cases e : k = t
    · subst e
      rw [if_pos ht]
      exact li_no (fun i a b => h i (by omega) (by omega) (by omega))
    · exact li_one ht (by omega) (by omega) (fun i a b c => h i (by omega) (by omega) c)
theorem d31 : (3 : Int32) - 1 = 2 := by decide
theorem d32 : (3 : Int32) - 2 = 1 := by decide
theorem m_fix_l {z : OS} {w a fu : Nat} {P N : Int32} (hw : z.2 1 0 = nI w) (h12 : w ≤ 12) (hr : Row (z.2 1) a P N) (ha : a ≤ 60) (ok : OKm w P N) (j : Int32 → Int32 → Option (Int32 × OS)) : ∀ (d k n : Nat) (op l : Int32), k + d = w → d < n → lX9_fixes_7 fu z (nI a) j n op l (nI k) = j (op + cn (fun v => (bt P v && !bt (z.1 13) v) || (bt N v && !bt (z.1 12) v)) d k) (li (fun v => (bt P v && !bt (z.1 13) v) || (bt N v && !bt (z.1 12) v)) d k l) := by
  intro d
  induction d with
  | zero =>
    intro k n op l h1 h2
    obtain ⟨n, rfl⟩ : ∃ m, n = m + 1 := ⟨n - 1, by omega⟩
    rw [lX9_fixes_7, wide_e hw, bd_s, if_pos (nI_le (by omega) (by omega)), cn, li, Int32.add_zero]
  | succ d ih =>
    intro k n op l h1 h2
    obtain ⟨n, rfl⟩ : ∃ m, n = m + 1 := ⟨n - 1, by omega⟩
    have o := ok.2.2 k
    rw [lX9_fixes_7, wide_e hw, bd_s, if_neg (nI_ge (by omega) (by omega)), sign_r hr ha fu (by omega), bd_s, jn_d, cn, li]
    have f1 := m_isFixed1 (z := z) fu (v := k) (by omega)
    have f2 := m_isFixed2 (z := z) fu (v := k) (by omega)
    simp only [nm_d, nI_1]
    rcases Bool.eq_false_or_eq_true (bt P k) with a1 | a1
    · have a2 := o a1
      have s : SG P N k = 1 := by unfold SG; rw [a1]; rfl
      rw [s, if_neg (by decide), d31, f2, bd_s, a1, a2]
      rcases Bool.eq_false_or_eq_true (bt (z.1 13) k) with b | b
      · rw [b, if_pos (by decide), ih (k + 1) n _ _ (by omega) (by omega)]; simp
      · rw [b, if_neg (by decide), ih (k + 1) n _ _ (by omega) (by omega)]; simp [Int32.add_assoc]
    · rcases Bool.eq_false_or_eq_true (bt N k) with a2 | a2
      · have s : SG P N k = 2 := by unfold SG; rw [a1, a2]; rfl
        rw [s, if_neg (by decide), d32, f1, bd_s, a1, a2]
        rcases Bool.eq_false_or_eq_true (bt (z.1 12) k) with b | b
        · rw [b, if_pos (by decide), ih (k + 1) n _ _ (by omega) (by omega)]; simp
        · rw [b, if_neg (by decide), ih (k + 1) n _ _ (by omega) (by omega)]; simp [Int32.add_assoc]
      · have s : SG P N k = 0 := by unfold SG; rw [a1, a2]; rfl
        rw [s, if_pos rfl, a1, a2, ih (k + 1) n _ _ (by omega) (by omega)]; simp
theorem m_only_l {z : OS} {a fu : Nat} {P N : Int32} (hr : Row (z.2 1) a P N) (ha : a ≤ 60) {t : Nat} (ht : t < 12) (h1 : SG P N t ≠ 0) (hn : ∀ i, i < t → SG P N i = 0) : ∀ (d k n : Nat), k + d = t → d < n → lX9_onlyVariable_2 fu z (nI a) (fun v => some v) n (nI k) = some (nI t) := by
  intro d
  induction d with
  | zero =>
    intro k n e1 e2
    obtain ⟨n, rfl⟩ : ∃ m, n = m + 1 := ⟨n - 1, by omega⟩
    have e1 : k = t := e1
    subst e1
    rw [lX9_onlyVariable_2, sign_r hr ha fu ht, bd_s, if_pos h1]
  | succ d ih =>
    intro k n e1 e2
    obtain ⟨n, rfl⟩ : ∃ m, n = m + 1 := ⟨n - 1, by omega⟩
    rw [lX9_onlyVariable_2, sign_r hr ha fu (by omega), bd_s, if_neg (fun q => q (hn k (by omega))), nm_d, nI_1]
    exact ih (k + 1) n (by omega) (by omega)
theorem unit1 {w : Nat} {u v : Int32} (ok : OKm w u v) (h12 : w ≤ 12) (h : pc u + pc v = 1) : ∃ t, t < w ∧ ((u = bit t ∧ v = 0) ∨ (u = 0 ∧ v = bit t)) ∧ (bt u t || bt v t) = true ∧ ∀ i, i ≠ t → (bt u i || bt v i) = false := by
  rw [← lit_cn ok h12] at h
  obtain ⟨t, a, b, c1, f⟩ := cn_1 (by omega) h
  have ff' : ∀ i, i ≠ t → (bt u i || bt v i) = false := fun i hi => by
    rcases Nat.lt_or_ge i w with g | g
    · exact f i (by omega) (by omega) hi
    · rw [ok.1 i g, ok.2.1 i g]; rfl
  refine ⟨t, by omega, ?_, c1, ff'⟩
  have vb : Vm w (bit t) := Vm.bit (by omega) (by omega)
  rcases Bool.eq_false_or_eq_true (bt u t) with g | g
  · left
    refine ⟨ok.1.ext vb (fun i hi => ?_), (ok.2.1.z).mpr (fun i hi => ?_)⟩
    · unfold bit
      rw [bt_bit (by omega)]
      by_cases e : i = t
      · subst e; rw [g, decide_eq_true rfl]
      · have := ff' i e
        rw [Bool.or_eq_false_iff] at this
        rw [this.1, decide_eq_false e]
    · by_cases e : i = t
      · subst e; exact ok.2.2 i g
      · have := ff' i e
        rw [Bool.or_eq_false_iff] at this
        exact this.2
  · right
    rw [g, Bool.false_or] at c1
    refine ⟨(ok.1.z).mpr (fun i hi => ?_), ok.2.1.ext vb (fun i hi => ?_)⟩
    · by_cases e : i = t
      · subst e; exact g
      · have := ff' i e
        rw [Bool.or_eq_false_iff] at this
        exact this.1
    · unfold bit
      rw [bt_bit (by omega)]
      by_cases e : i = t
      · subst e; rw [c1, decide_eq_true rfl]
      · have := ff' i e
        rw [Bool.or_eq_false_iff] at this
        rw [this.2, decide_eq_false e]
theorem bit_in {T : Int32} {t : Nat} (ht : t < 32) : ((bit t &&& (T ^^^ (-1))) = 0) ↔ bt T t = true := by
  have vb : Vm (t + 1) (bit t) := Vm.bit (by omega) (by omega)
  rw [sub_z vb (by omega)]
  constructor
  · intro h
    exact h t (by omega) (by unfold bit; rw [bt_bit ht, decide_eq_true rfl])
  · intro h v hv g
    unfold bit at g
    rw [bt_bit ht, decide_eq_true_eq] at g
    subst g; exact h
theorem or_in {T : Int32} {t : Nat} (ht : t < 32) (h : bt T t = true) : T ||| bit t = T := b_ext (fun i hi => by
  unfold bit
  rw [b_or, bt_bit ht]
  by_cases e : i = t
  · subst e; rw [h]; rfl
  · rw [decide_eq_false e, Bool.or_false])
/-- what the reference's fixes does with the one open literal -/
def tailF (fu : Nat) (z1 : OS) (a t : Nat) : Option (Int32 × OS) := bd (fX9_sign fu z1 (nI a) (nI t)) (fun (r_4 : Int32) => bd (fX9_isFixed fu z1 (nI t) r_4) (fun (r_6 : Int32) => (if r_6 = (0 : Int32) then bd (fX9_sign fu z1 (nI a) (nI t)) (fun (r_8 : Int32) => (if ¬ r_8 = (1 : Int32) then nm (sI z1 13 ((z1.1 13) ||| ((1 : Int32) <<< (nI t &&& (31 : Int32))))) (fun (z_10 : OS) => gd (isZ (1 : Int32)) (some ((1 : Int32), z_10))) else nm (sI z1 12 ((z1.1 12) ||| ((1 : Int32) <<< (nI t &&& (31 : Int32))))) (fun (z_11 : OS) => gd (isZ (1 : Int32)) (some ((1 : Int32), z_11))))) else gd (isZ (0 : Int32)) (some ((0 : Int32), z1)))))
theorem m_tail {z1 : OS} {w a fu : Nat} {P N T F : Int32} (hr : Row (z1.2 1) a P N) (ha : a ≤ 60) (ok : OKm w P N) (h12 : w ≤ 12) (hT : z1.1 12 = T) (hF : z1.1 13 = F) {t : Nat} (ht : t < w) (hh : hit P N T F = true) (hu : (upP P N F = bit t ∧ upN P N T = 0 ∧ bt P t = true) ∨ (upP P N F = 0 ∧ upN P N T = bit t ∧ bt N t = true)) :
    ∃ z', tailF fu z1 a t = some (b2 (nwb P N T F), z') ∧ z'.2 = z1.2 ∧ (∀ i, (i = 12 ∨ i = 13) ∨ z'.1 i = z1.1 i) ∧ z'.1 12 = nT P N T F ∧ z'.1 13 = nF P N T F := by
  have f1 := m_isFixed1 (z := z1) fu (v := t) (by omega)
  have f2 := m_isFixed2 (z := z1) fu (v := t) (by omega)
  rw [hT] at f1
  rw [hF] at f2
  have z0 : ∀ q : Int32, ((0 : Int32) &&& q) = 0 := fun q => by simp
  have o0 : ∀ q : Int32, (q ||| (0 : Int32)) = q := fun q => by simp
  unfold tailF nwb nT nF
  rw [sign_r hr ha fu (by omega), bd_s, hh, isZ_0, isZ_1, hT, hF]
  simp only [gd_t, bd_s, nm_d, if_true, Bool.true_and]
  rcases hu with ⟨u1, u2, b⟩ | ⟨u1, u2, b⟩
  · have s : SG P N t = 1 := by unfold SG; rw [b]; rfl
    rw [s, f1, bd_s, u1, u2, z0, o0]
    rcases Bool.eq_false_or_eq_true (bt T t) with g | g
    · rw [g, if_neg (by decide), decide_eq_true ((bit_in (by omega)).mpr g), or_in (by omega) g]
      exact ⟨z1, rfl, rfl, fun _ => Or.inr rfl, hT, hF⟩
    · rw [g, if_pos (by decide), if_neg (by decide), decide_eq_false (fun q => by rw [(bit_in (by omega)).mp q] at g; cases g)]
      refine ⟨_, rfl, rfl, fun i => ?_, ?_, ?_⟩
      · by_cases e : i = 12
        · exact Or.inl (Or.inl e)
        · exact Or.inr (sI_o _ _ e)
      · rw [sI_s]; rfl
      · rw [sI_o _ _ (by omega), hF]
  · have s : SG P N t = 2 := (SG_2 ok t).mpr b
    rw [s, f2, bd_s, u1, u2, z0, o0]
    rcases Bool.eq_false_or_eq_true (bt F t) with g | g
    · rw [g, if_neg (by decide), decide_eq_true ((bit_in (by omega)).mpr g), or_in (by omega) g]
      exact ⟨z1, rfl, rfl, fun _ => Or.inr rfl, hT, hF⟩
    · rw [g, if_pos (by decide), if_pos (by decide), decide_eq_false (show ¬ ((bit t &&& (F ^^^ (-1))) = 0) from fun q => by rw [(bit_in (by omega)).mp q] at g; cases g)]
      refine ⟨_, rfl, rfl, fun i => ?_, ?_, ?_⟩
      · by_cases e : i = 13
        · exact Or.inl (Or.inr e)
        · exact Or.inr (sI_o _ _ e)
      · rw [sI_o _ _ (by omega), hT]
      · rw [sI_s]; rfl
theorem open_cn {w : Nat} {P N T F : Int32} (ok : OKm w P N) (h12 : w ≤ 12) : cn (fun v => (bt P v && !bt F v) || (bt N v && !bt T v)) w 0 = pc (P &&& (F ^^^ (-1))) + pc (N &&& (T ^^^ (-1))) := by
  have ok2 : OKm w (P &&& (F ^^^ (-1))) (N &&& (T ^^^ (-1))) := ⟨ok.1.andl _, ok.2.1.andl _, fun v hv => by
    rw [b_and, Bool.and_eq_true] at hv
    rw [b_and, ok.2.2 v hv.1]; rfl⟩
  rw [← lit_cn ok2 h12]
  refine cn_c (fun i _ hi => ?_)
  rw [b_and, b_and, b_not _ (by omega), b_not _ (by omega)]
theorem open_0 {w : Nat} {P N T F : Int32} (ok : OKm w P N) (h12 : w ≤ 12) : (pc (P &&& (F ^^^ (-1))) + pc (N &&& (T ^^^ (-1))) = 0) ↔ wi P N F T = true := by
  have ok2 : OKm w (P &&& (F ^^^ (-1))) (N &&& (T ^^^ (-1))) := ⟨ok.1.andl _, ok.2.1.andl _, fun v hv => by
    rw [b_and, Bool.and_eq_true] at hv
    rw [b_and, ok.2.2 v hv.1]; rfl⟩
  rw [lit_0 ok2 h12]
  unfold wi
  rw [Bool.and_eq_true, decide_eq_true_eq, decide_eq_true_eq]
/-- the rest of the reference's fixes, behind its loop -/
def contF (fu : Nat) (z : OS) (a : Nat) (o l cc : Int32) : Option (Int32 × OS) := nm (sI z 14 cc) (fun (z_1 : OS) => bd (fX9_literals fu z_1 (nI a)) (fun (r_2 : Int32) => jn (κ := Int32 → Int32 → Option (Int32 × (OS))) (fun (v2_90 : Int32) (v3_90 : Int32) => (if ¬ v2_90 = (1 : Int32) then gd (isZ (0 : Int32)) (some ((0 : Int32), z_1)) else bd (fX9_sign fu z_1 (nI a) v3_90) (fun (r_4 : Int32) => bd (fX9_isFixed fu z_1 v3_90 r_4) (fun (r_6 : Int32) => (if r_6 = (0 : Int32) then bd (fX9_sign fu z_1 (nI a) v3_90) (fun (r_8 : Int32) => (if ¬ r_8 = (1 : Int32) then nm (sI z_1 13 ((z_1.1 13) ||| ((1 : Int32) <<< (v3_90 &&& (31 : Int32))))) (fun (z_10 : OS) => gd (isZ (1 : Int32)) (some ((1 : Int32), z_10))) else nm (sI z_1 12 ((z_1.1 12) ||| ((1 : Int32) <<< (v3_90 &&& (31 : Int32))))) (fun (z_11 : OS) => gd (isZ (1 : Int32)) (some ((1 : Int32), z_11))))) else gd (isZ (0 : Int32)) (some ((0 : Int32), z_1))))))) (fun j90 => (if ¬ r_2 = (1 : Int32) then j90 o l else bd (fX9_onlyVariable fu z_1 (nI a)) (fun (r_12 : Int32) => j90 (1 : Int32) r_12)))))
theorem contF_j (fu : Nat) (z : OS) (a : Nat) (o l cc : Int32) : contF fu z a o l cc = bd (fX9_literals fu (sI z 14 cc) (nI a)) (fun r => if ¬ r = 1 then (if ¬ o = 1 then gd (isZ 0) (some (0, sI z 14 cc)) else bd (some l) (fun l => bd (fX9_sign fu (sI z 14 cc) (nI a) l) (fun (r_4 : Int32) => bd (fX9_isFixed fu (sI z 14 cc) l r_4) (fun (r_6 : Int32) => (if r_6 = (0 : Int32) then bd (fX9_sign fu (sI z 14 cc) (nI a) l) (fun (r_8 : Int32) => (if ¬ r_8 = (1 : Int32) then nm (sI (sI z 14 cc) 13 (((sI z 14 cc).1 13) ||| ((1 : Int32) <<< (l &&& (31 : Int32))))) (fun (z_10 : OS) => gd (isZ (1 : Int32)) (some ((1 : Int32), z_10))) else nm (sI (sI z 14 cc) 12 (((sI z 14 cc).1 12) ||| ((1 : Int32) <<< (l &&& (31 : Int32))))) (fun (z_11 : OS) => gd (isZ (1 : Int32)) (some ((1 : Int32), z_11))))) else gd (isZ (0 : Int32)) (some ((0 : Int32), sI z 14 cc))))))) else bd (fX9_onlyVariable fu (sI z 14 cc) (nI a)) (fun l => bd (fX9_sign fu (sI z 14 cc) (nI a) l) (fun (r_4 : Int32) => bd (fX9_isFixed fu (sI z 14 cc) l r_4) (fun (r_6 : Int32) => (if r_6 = (0 : Int32) then bd (fX9_sign fu (sI z 14 cc) (nI a) l) (fun (r_8 : Int32) => (if ¬ r_8 = (1 : Int32) then nm (sI (sI z 14 cc) 13 (((sI z 14 cc).1 13) ||| ((1 : Int32) <<< (l &&& (31 : Int32))))) (fun (z_10 : OS) => gd (isZ (1 : Int32)) (some ((1 : Int32), z_10))) else nm (sI (sI z 14 cc) 12 (((sI z 14 cc).1 12) ||| ((1 : Int32) <<< (l &&& (31 : Int32))))) (fun (z_11 : OS) => gd (isZ (1 : Int32)) (some ((1 : Int32), z_11))))) else gd (isZ (0 : Int32)) (some ((0 : Int32), sI z 14 cc))))))) := rfl
theorem m_cont {z : OS} {w a fu : Nat} {P N T F cc : Int32} {q : Nat → Bool} (hw : z.2 1 0 = nI w) (hr : Row (z.2 1) a P N) (ha : a ≤ 60) (ok : OKm w P N) (h12 : w ≤ 12) (hf : 5000 ≤ fu) (hT : z.1 12 = T) (hF : z.1 13 = F) (hq : ∀ i, i < w → q i = ((bt P i && !bt F i) || (bt N i && !bt T i))) :
    ∃ z', contF fu z a (pc (P &&& (F ^^^ (-1))) + pc (N &&& (T ^^^ (-1)))) (li q w 0 (-1)) cc = some (b2 (nwb P N T F), z') ∧ z'.2 = z.2 ∧ (∀ i, (i = 12 ∨ i = 13 ∨ i = 14) ∨ z'.1 i = z.1 i) ∧ z'.1 12 = nT P N T F ∧ z'.1 13 = nF P N T F ∧ z'.1 14 = cc := by
  have ml := m_lit (z := sI z 14 cc) (fu := fu) hw h12 hr ha ok hf
  have sT : (sI z 14 cc).1 12 = T := by rw [sI_o _ _ (by omega)]; exact hT
  have sF : (sI z 14 cc).1 13 = F := by rw [sI_o _ _ (by omega)]; exact hF
  have lift : ∀ t : Nat, (∃ z', tailF fu (sI z 14 cc) a t = some (b2 (nwb P N T F), z') ∧ z'.2 = (sI z 14 cc).2 ∧ (∀ i, (i = 12 ∨ i = 13) ∨ z'.1 i = (sI z 14 cc).1 i) ∧ z'.1 12 = nT P N T F ∧ z'.1 13 = nF P N T F) → ∃ z', tailF fu (sI z 14 cc) a t = some (b2 (nwb P N T F), z') ∧ z'.2 = z.2 ∧ (∀ i, (i = 12 ∨ i = 13 ∨ i = 14) ∨ z'.1 i = z.1 i) ∧ z'.1 12 = nT P N T F ∧ z'.1 13 = nF P N T F ∧ z'.1 14 = cc := by
    intro t ⟨z', g1, g2, g3, g4, g5⟩
    refine ⟨z', g1, g2, fun i => ?_, g4, g5, ?_⟩
    · by_cases e : i = 14
      · exact Or.inl (Or.inr (Or.inr e))
      · rcases g3 i with g | g
        · exact Or.inl (by omega)
        · exact Or.inr (by rw [g, sI_o _ _ e])
    · rcases g3 14 with g | g
      · omega
      · rw [g, sI_s]
  rw [contF_j, ml, bd_s]
  by_cases hl : pc P + pc N = 1
  · have eP : upP P N F = P := if_pos hl
    have eN : upN P N T = N := if_pos hl
    have hh : hit P N T F = true := by unfold hit; rw [eP, eN]; exact decide_eq_true hl
    obtain ⟨t, ht, hu, h1, hn⟩ := unit1 ok h12 hl
    have ov : fX9_onlyVariable fu (sI z 14 cc) (nI a) = some (nI t) := m_only_l (z := sI z 14 cc) hr ha (t := t) (by omega) (fun e => by rw [(SG_0 P N t).mp e] at h1; cases h1) (fun i hi => (SG_0 P N i).mpr (hn i (by omega))) t 0 fu (by omega) (by omega)
    rw [if_neg (fun g => g hl), ov]
    refine lift t (m_tail (z1 := sI z 14 cc) hr ha ok h12 sT sF ht hh ?_)
    rw [eP, eN]
    rcases hu with ⟨u1, u2⟩ | ⟨u1, u2⟩
    · exact Or.inl ⟨u1, u2, by rw [u1]; unfold bit; rw [bt_bit (by omega), decide_eq_true rfl]⟩
    · exact Or.inr ⟨u1, u2, by rw [u2]; unfold bit; rw [bt_bit (by omega), decide_eq_true rfl]⟩
  · have eP : upP P N F = P &&& (F ^^^ (-1)) := if_neg hl
    have eN : upN P N T = N &&& (T ^^^ (-1)) := if_neg hl
    rw [if_pos hl]
    by_cases ho : pc (P &&& (F ^^^ (-1))) + pc (N &&& (T ^^^ (-1))) = 1
    · have hh : hit P N T F = true := by unfold hit; rw [eP, eN]; exact decide_eq_true ho
      obtain ⟨t, ht, hu, h1, hn⟩ := unit1 (up_ok (T := T) (F := F) ok) h12 (by rw [eP, eN]; exact ho)
      have q1 : ∀ i, i < w → q i = (bt (upP P N F) i || bt (upN P N T) i) := fun i hi => by
        rw [hq i hi, eP, eN, b_and, b_and, b_not _ (by omega), b_not _ (by omega)]
      have hl2 : li q w 0 (-1) = nI t := li_one (by rw [q1 t ht]; exact h1) (by omega) (by omega) (fun i _ hi e => by rw [q1 i (by omega)]; exact hn i e)
      rw [if_neg (fun g => g ho), hl2, bd_s]
      refine lift t (m_tail (z1 := sI z 14 cc) hr ha ok h12 sT sF ht hh ?_)
      rcases hu with ⟨u1, u2⟩ | ⟨u1, u2⟩
      · refine Or.inl ⟨u1, u2, ?_⟩
        have : bt (upP P N F) t = true := by rw [u1]; unfold bit; rw [bt_bit (by omega), decide_eq_true rfl]
        rw [eP, b_and, Bool.and_eq_true] at this; exact this.1
      · refine Or.inr ⟨u1, u2, ?_⟩
        have : bt (upN P N T) t = true := by rw [u2]; unfold bit; rw [bt_bit (by omega), decide_eq_true rfl]
        rw [eN, b_and, Bool.and_eq_true] at this; exact this.1
    · have hh : hit P N T F = false := by unfold hit; rw [eP, eN]; exact decide_eq_false ho
      have e1 : nwb P N T F = false := by unfold nwb; rw [hh]; rfl
      have e2 : nT P N T F = T := by unfold nT; rw [hh]; rfl
      have e3 : nF P N T F = F := by unfold nF; rw [hh]; rfl
      rw [if_pos ho, e1, e2, e3, isZ_0, gd_t]
      refine ⟨_, rfl, rfl, fun i => ?_, sT, sF, sI_s _ _ _⟩
      by_cases e : i = 14
      · exact Or.inl (Or.inr (Or.inr e))
      · exact Or.inr (sI_o _ _ e)
theorem m_fixes {w c fu : Nat} {x z : OS} (h : QR w c x (z.2 1)) (hf : 5000 ≤ fu) {k : Nat} (hk : k < c) {T F : Int32} {C : Bool} (hT : z.1 12 = T) (hF : z.1 13 = F) (hC : z.1 14 = b2 C) :
    ∃ z', fX9_fixes fu z (nI k) = some (b2 (nwb (x.2 0 k) (x.2 1 k) T F), z') ∧ z'.2 = z.2 ∧ (∀ i, (i = 12 ∨ i = 13 ∨ i = 14) ∨ z'.1 i = z.1 i) ∧ z'.1 12 = nT (x.2 0 k) (x.2 1 k) T F ∧ z'.1 13 = nF (x.2 0 k) (x.2 1 k) T F ∧ z'.1 14 = b2 (C || wi (x.2 0 k) (x.2 1 k) F T) := by
  have h6 := h.c60
  have h12 := h.w12
  have ok := h.ok hk
  have hr := h.row hk
  have hw := h.mw
  generalize x.2 0 k = P at *
  generalize x.2 1 k = N at *
  have L := m_fix_l (fu := fu) hw h12 hr (by omega) ok (fun (v2_55 : Int32) (v3_55 : Int32) => jn (κ := Int32 → Int32 → Int32 → Int32 → Option (Int32 × (OS))) (fun (v2_69 : Int32) (v3_69 : Int32) (t1_69 : Int32) (t2_69 : Int32) => gd (isZ (t1_69 ||| t2_69)) (nm (sI z 14 (t1_69 ||| t2_69)) (fun (z_1 : OS) => bd (fX9_literals fu z_1 (nI k)) (fun (r_2 : Int32) => jn (κ := Int32 → Int32 → Option (Int32 × (OS))) (fun (v2_90 : Int32) (v3_90 : Int32) => (if ¬ v2_90 = (1 : Int32) then gd (isZ (0 : Int32)) (some ((0 : Int32), z_1)) else bd (fX9_sign fu z_1 (nI k) v3_90) (fun (r_4 : Int32) => bd (fX9_isFixed fu z_1 v3_90 r_4) (fun (r_6 : Int32) => (if r_6 = (0 : Int32) then bd (fX9_sign fu z_1 (nI k) v3_90) (fun (r_8 : Int32) => (if ¬ r_8 = (1 : Int32) then nm (sI z_1 13 ((z_1.1 13) ||| ((1 : Int32) <<< (v3_90 &&& (31 : Int32))))) (fun (z_10 : OS) => gd (isZ (1 : Int32)) (some ((1 : Int32), z_10))) else nm (sI z_1 12 ((z_1.1 12) ||| ((1 : Int32) <<< (v3_90 &&& (31 : Int32))))) (fun (z_11 : OS) => gd (isZ (1 : Int32)) (some ((1 : Int32), z_11))))) else gd (isZ (0 : Int32)) (some ((0 : Int32), z_1))))))) (fun j90 => (if ¬ r_2 = (1 : Int32) then j90 v2_69 v3_69 else bd (fX9_onlyVariable fu z_1 (nI k)) (fun (r_12 : Int32) => j90 (1 : Int32) r_12))))))) (fun j69 => (if ¬ v2_55 = (0 : Int32) then j69 v2_55 v3_55 (z.1 14) (0 : Int32) else j69 v2_55 v3_55 (z.1 14) (1 : Int32)))) w 0 fu 0 (-1) (by omega) (by omega)
  rw [z_add, hT, hF, open_cn ok h12] at L
  have L' : fX9_fixes fu z (nI k) = (if ¬ (pc (P &&& (F ^^^ (-1))) + pc (N &&& (T ^^^ (-1)))) = 0 then gd (isZ (z.1 14 ||| 0)) (contF fu z k (pc (P &&& (F ^^^ (-1))) + pc (N &&& (T ^^^ (-1)))) (li (fun v => (bt P v && !bt F v) || (bt N v && !bt T v)) w 0 (-1)) (z.1 14 ||| 0)) else gd (isZ (z.1 14 ||| 1)) (contF fu z k (pc (P &&& (F ^^^ (-1))) + pc (N &&& (T ^^^ (-1)))) (li (fun v => (bt P v && !bt F v) || (bt N v && !bt T v)) w 0 (-1)) (z.1 14 ||| 1))) := L
  clear L
  rw [L', hC, b2_o0, b2_o1, isZ_b, isZ_b, gd_t, gd_t]
  by_cases ho : pc (P &&& (F ^^^ (-1))) + pc (N &&& (T ^^^ (-1))) = 0
  · have := (open_0 ok h12).mp ho
    rw [if_neg (fun g => g ho), this]
    exact m_cont hw hr (by omega) ok h12 hf hT hF (fun i _ => rfl)
  · have : wi P N F T = false := Bool.eq_false_iff.mpr (fun g => ho ((open_0 ok h12).mpr g))
    rw [if_pos ho, this]
    exact m_cont hw hr (by omega) ok h12 hf hT hF (fun i _ => rfl)
