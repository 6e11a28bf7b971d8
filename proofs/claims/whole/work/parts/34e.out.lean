/-! Part II: writing a clause. -/
/-- the class's bytes y beside the reference's -/
def OB (n : Nat) (y z : OS) : Prop := y.1 1 = nI n ∧ z.1 26 = nI n ∧ n ≤ 35 ∧ ∀ i, i < n → y.2 0 i = z.2 25 i
def ZO (z z' : OS) : Prop := (∀ i, i ≠ 26 → z'.1 i = z.1 i) ∧ ∀ j, j ≠ 25 → z'.2 j = z.2 j
theorem ZO.rf {z : OS} : ZO z z := ⟨fun _ _ => rfl, fun _ _ => rfl⟩
theorem ZO.tr {z z' z'' : OS} (a : ZO z z') (b : ZO z' z'') : ZO z z'' := ⟨fun i h => (b.1 i h).trans (a.1 i h), fun j h => (b.2 j h).trans (a.2 j h)⟩
theorem ob_put {n fu : Nat} {y z : OS} (h : OB n y z) (hn : n < 35) (ch : Int32) : ∃ y' z', fX3_put fu y ch = some y' ∧ fX9_prints fu z ch = some z' ∧ OB (n + 1) y' z' ∧ ZO z z' := by
  obtain ⟨h1, h2, h3, h4⟩ := h
  have g : ¬ (35 : Int32) ≤ nI n := by rw [show (35 : Int32) = nI 35 from rfl, nI_leI (by omega) (by omega)]; omega
  have cl : (nI n).toNatClampNeg = n := nI_clamp (by omega)
  refine ⟨sI (sA y 0 (upd (y.2 0) n (vp_nar .byte (ch.toInt8.toInt32)))) 1 ((sA y 0 (upd (y.2 0) n (vp_nar .byte (ch.toInt8.toInt32)))).1 1 + 1), sI (sA z 25 (upd (z.2 25) n (vp_nar .byte (ch.toInt8.toInt32)))) 26 ((sA z 25 (upd (z.2 25) n (vp_nar .byte (ch.toInt8.toInt32)))).1 26 + 1), ?_, ?_, ⟨?_, ?_, by omega, ?_⟩, ?_, ?_⟩
  · unfold fX3_put
    rw [h1, if_neg g, inB_I hn (by omega), gd_t, nm_d, nm_d, cl]
  · unfold fX9_prints
    rw [h2, inB_I (by omega) (by omega), gd_t, nm_d, nm_d, cl]
  · rw [sI_s, sA_1, h1, nI_1]
  · rw [sI_s, sA_1, h2, nI_1]
  · intro i hi
    rw [sI_2, sI_2, sA_s, sA_s]
    by_cases q : i = n
    · subst q
      show (if i = i then _ else _) = (if i = i then _ else _)
      rw [if_pos rfl, if_pos rfl]
    · show (if i = n then _ else _) = (if i = n then _ else _)
      rw [if_neg q, if_neg q]
      exact h4 i (by omega)
  · intro i hi; rw [sI_o _ _ hi, sA_1]
  · intro j hj; rw [sI_2, sA_o _ _ hj]
/-- a byte that is put only where there is ground to -/
theorem ob_if {n fu : Nat} {y z : OS} (h : OB n y z) (hn : n < 35) (ch : Int32) (b : Prop) [Decidable b] : ∃ y' z' n', (∀ (e : Prop) [Decidable e] (J : OS → Option OS), (e ↔ ¬ b) → (if e then J y else bd (fX3_put fu y ch) J) = J y') ∧ (∀ (e : Prop) [Decidable e] (J : OS → Option (Int32 × OS)), (e ↔ ¬ b) → (if e then J z else bd (fX9_prints fu z ch) J) = J z') ∧ OB n' y' z' ∧ (¬ b → n' = n) ∧ n' ≤ n + 1 ∧ ZO z z' := by
  by_cases q : b
  · obtain ⟨y', z', e1, e2, o, s⟩ := ob_put (fu := fu) h hn ch
    exact ⟨y', z', n + 1, fun e _ J i => by rw [if_neg (fun t => (i.mp t) q), e1, bd_s], fun e _ J i => by rw [if_neg (fun t => (i.mp t) q), e2, bd_s], o, fun t => absurd q t, Nat.le_refl _, s⟩
  · exact ⟨y, z, n, fun e _ J i => by rw [if_pos (i.mpr q)], fun e _ J i => by rw [if_pos (i.mpr q)], h, fun _ => rfl, by omega, ZO.rf⟩
theorem q_wtail {w fu : Nat} {p q : Int32} (vm : Vm w (p ||| q)) (y : OS) (J : OS → Option OS) : ∀ (d v n : Nat), v + d = 12 → d < n → w ≤ v → lX3_write_7 fu p q J n (nI v) y = J y := by
  intro d
  induction d with
  | zero =>
    intro v n h1 h2 h3
    obtain ⟨n, rfl⟩ : ∃ m, n = m + 1 := ⟨n - 1, by omega⟩
    have hv : v = 12 := by omega
    subst hv
    rw [lX3_write_7, if_pos (by decide)]
  | succ d ih =>
    intro v n h1 h2 h3
    obtain ⟨n, rfl⟩ : ∃ m, n = m + 1 := ⟨n - 1, by omega⟩
    have g : ¬ (12 : Int32) ≤ nI v := by rw [L12, nI_leI (by omega) (by omega)]; omega
    have c0 : ((p ||| q) &&& ((1 : Int32) <<< (nI v &&& 31))) = 0 := by
      rw [and_bit (by omega)]; exact vm v h3
    rw [lX3_write_7, if_neg g, nm_d, jn_d, if_pos c0]
    have := ih (v + 1) n (by omega) (by omega) (by omega)
    rw [← nI_1] at this
    exact this
theorem p_wr {w a fu : Nat} {p q : Int32} (h12 : w ≤ 12) (ha : a ≤ 60) (ok : OKm w p q) (hf : 5000 ≤ fu) : ∀ (d v n1 n2 n : Nat) (y z : OS), v + d = w → 13 - v < n1 → d < n2 → z.2 1 0 = nI w → Row (z.2 1) a p q → OB n y z → (n = 0 ∨ n + 1 ≤ 3 * v) → ∃ y' z' n', (∀ J, lX3_write_7 fu p q J n1 (nI v) y = J y') ∧ (∀ J, lX9_writeClause_22 fu (nI a) J n2 (nI v) z = J z') ∧ OB n' y' z' ∧ ZO z z' := by
  intro d
  induction d with
  | zero =>
    intro v n1 n2 n y z h1 h2 h3 hw hr ob hn
    obtain ⟨n2, rfl⟩ : ∃ m, n2 = m + 1 := ⟨n2 - 1, by omega⟩
    have hv : v = w := by omega
    subst hv
    refine ⟨y, z, n, fun J => q_wtail (ok.1.or ok.2.1) y J (12 - v) v n1 (by omega) (by omega) (Nat.le_refl _), fun J => ?_, ob, ZO.rf⟩
    rw [lX9_writeClause_22, wide_e hw, bd_s, if_pos ((nI_leI (by omega) (by omega)).mpr (Nat.le_refl v))]
  | succ d ih =>
    intro v n1 n2 n y z h1 h2 h3 hw hr ob hn
    obtain ⟨n1, rfl⟩ : ∃ m, n1 = m + 1 := ⟨n1 - 1, by omega⟩
    obtain ⟨n2, rfl⟩ : ∃ m, n2 = m + 1 := ⟨n2 - 1, by omega⟩
    have g : ¬ (12 : Int32) ≤ nI v := by rw [L12, nI_leI (by omega) (by omega)]; omega
    have gw : ¬ nI w ≤ nI v := by rw [nI_leI (by omega) (by omega)]; omega
    have s0 := fun (z' : OS) (k : Row (z'.2 1) a p q) => sign_r k ha fu (v := v) (by omega)
    have c0 : (((p ||| q) &&& ((1 : Int32) <<< (nI v &&& 31))) = 0) = ((bt p v || bt q v) = false) := by
      rw [and_bit (by omega), b_or]
    by_cases k : (bt p v || bt q v) = false
    · obtain ⟨y', z', n', e1, e2, o', s'⟩ := ih (v + 1) n1 n2 n y z (by omega) (by omega) (by omega) hw hr ob (by omega)
      refine ⟨y', z', n', fun J => ?_, fun J => ?_, o', s'⟩
      · rw [lX3_write_7, if_neg g, nm_d, jn_d, if_pos (c0.mpr k)]
        have := e1 J
        rw [← nI_1] at this
        exact this
      · rw [lX9_writeClause_22, wide_e hw, bd_s, if_neg gw, s0 z hr, bd_s, jn_d, if_neg (fun t => t ((SG_0 p q v).mpr k))]
        have := e2 J
        rw [← nI_1] at this
        exact this
    · have obn := ob
      obtain ⟨o1, o2, o3, o4⟩ := obn
      obtain ⟨y1, z1, n1', a1, b1, ob1, i1, j1, s1⟩ := ob_if (fu := fu) ob (by omega) 32 (0 < n)
      have r1 : Row (z1.2 1) a p q := by rw [s1.2 1 (by decide)]; exact hr
      obtain ⟨y2, z2, n2', a2, b2', ob2, i2, j2, s2⟩ := ob_if (fu := fu) ob1 (by omega) 45 (bt q v = true)
      obtain ⟨y3, z3, a3, b3, ob3, s3⟩ := ob_put (fu := fu) ob2 (by omega) (97 + nI v)
      have s13 := (s1.tr s2).tr s3
      obtain ⟨y', z', n', e1, e2, o', s'⟩ := ih (v + 1) n1 n2 (n2' + 1) y3 z3 (by omega) (by omega) (by omega) (by rw [s13.2 1 (by decide)]; exact hw) (by rw [s13.2 1 (by decide)]; exact hr) ob3 (by omega)
      have l0 : ∀ t : Int32, t = nI n → (t ≤ 0 ↔ ¬ 0 < n) := by
        intro t e
        rw [e, show (0 : Int32) = nI 0 from rfl, nI_leI (by omega) (by omega)]; omega
      refine ⟨y', z', n', fun J => ?_, fun J => ?_, o', s13.tr s'⟩
      · rw [lX3_write_7, if_neg g, nm_d, jn_d, if_neg (fun t => k (c0.mp t))]
        have e3 : bd (fX3_put fu y2 (97 + nI v)) (fun z1_61 => lX3_write_7 fu p q J n1 (nI v + 1) z1_61) = J y' := by
          rw [a3, bd_s, nI_1]; exact e1 J
        have e2 := a2 ((q &&& ((1 : Int32) <<< (nI v &&& 31))) = 0) (fun z1_53 => bd (fX3_put fu z1_53 (97 + nI v)) (fun z1_61 => lX3_write_7 fu p q J n1 (nI v + 1) z1_61)) (by rw [and_bit (by omega)]; cases bt q v <;> simp)
        have e1 := a1 (y.1 1 ≤ 0) (fun z1_40 => if (q &&& ((1 : Int32) <<< (nI v &&& 31))) = 0 then (fun z1_53 => bd (fX3_put fu z1_53 (97 + nI v)) (fun z1_61 => lX3_write_7 fu p q J n1 (nI v + 1) z1_61)) z1_40 else bd (fX3_put fu z1_40 45) (fun z1_53 => bd (fX3_put fu z1_53 (97 + nI v)) (fun z1_61 => lX3_write_7 fu p q J n1 (nI v + 1) z1_61))) (l0 _ o1)
        exact e1.trans (e2.trans e3)
      · rw [lX9_writeClause_22, wide_e hw, bd_s, if_neg gw, s0 z hr, bd_s, jn_d, if_pos (fun t => k ((SG_0 p q v).mp t))]
        have e3 : bd (fX9_prints fu z2 (97 + nI v)) (fun z1_79 => lX9_writeClause_22 fu (nI a) J n2 (nI v + 1) z1_79) = J z' := by
          rw [b3, bd_s, nI_1]; exact e2 J
        have e2 := b2' (¬ SG p q v = 2) (fun z1_71 => bd (fX9_prints fu z1_71 (97 + nI v)) (fun z1_79 => lX9_writeClause_22 fu (nI a) J n2 (nI v + 1) z1_79)) (by rw [SG_2 ok])
        have e0 : bd (fX9_sign fu z1 (nI a) (nI v)) (fun r_14 => if ¬ r_14 = 2 then (fun z1_71 => bd (fX9_prints fu z1_71 (97 + nI v)) (fun z1_79 => lX9_writeClause_22 fu (nI a) J n2 (nI v + 1) z1_79)) z1 else bd (fX9_prints fu z1 45) (fun z1_71 => bd (fX9_prints fu z1_71 (97 + nI v)) (fun z1_79 => lX9_writeClause_22 fu (nI a) J n2 (nI v + 1) z1_79))) = J z' := by
          rw [s0 z1 r1, bd_s]; exact e2.trans e3
        have e1 := b1 (z.1 26 ≤ 0) (fun z1_55 => bd (fX9_sign fu z1_55 (nI a) (nI v)) (fun r_14 => if ¬ r_14 = 2 then (fun z1_71 => bd (fX9_prints fu z1_71 (97 + nI v)) (fun z1_79 => lX9_writeClause_22 fu (nI a) J n2 (nI v + 1) z1_79)) z1_55 else bd (fX9_prints fu z1_55 45) (fun z1_71 => bd (fX9_prints fu z1_71 (97 + nI v)) (fun z1_79 => lX9_writeClause_22 fu (nI a) J n2 (nI v + 1) z1_79)))) (l0 _ o2)
        exact e1.trans e0
theorem p_write {w c a fu : Nat} {x z y : OS} (h : QR w c x (z.2 1)) (hf : 5000 ≤ fu) (ha : a < c) : ∃ y' z' n, fX3_write fu y (x.2 0 a) (x.2 1 a) = some y' ∧ lX9_writeClause_22 fu (nI a) (fun z1_85 => jn (κ := OS → Option (Int32 × OS)) (fun z1_98 => some ((z1_98.1 26), z1_98)) (fun j98 => (if ¬ (z1_85.1 26) = 0 then j98 z1_85 else bd (fX9_prints fu z1_85 35) (fun z_7 => j98 z_7)))) fu 0 (sI z 26 0) = some (nI n, z') ∧ OB n y' z' ∧ ZO z z' := by
  have h6 := h.c60
  have h12 := h.w12
  have z0 : ZO z (sI z 26 0) := ⟨fun i hi => sI_o _ _ hi, fun _ _ => rfl⟩
  have ob0 : OB 0 (sI y 1 0) (sI z 26 0) := ⟨sI_s _ _ _, sI_s _ _ _, by omega, fun i hi => absurd hi (by omega)⟩
  obtain ⟨y', z', n, e1, e2, ob, s⟩ := p_wr (fu := fu) h12 (by omega) (h.ok ha) hf w 0 fu fu 0 (sI y 1 0) (sI z 26 0) (by omega) (by omega) (by omega) h.mw (h.row ha) ob0 (Or.inl rfl)
  have e1' : ∀ J, lX3_write_7 fu (x.2 0 a) (x.2 1 a) J fu 0 (sI y 1 0) = J y' := e1
  have e2' : ∀ J, lX9_writeClause_22 fu (nI a) J fu 0 (sI z 26 0) = J z' := e2
  unfold fX3_write
  rw [nm_d, jn_d, e1', e2']
  obtain ⟨o1, o2, o3, o4⟩ := id ob
  by_cases n0 : n = 0
  · subst n0
    obtain ⟨y3, z3, a3, b3, ob3, s3⟩ := ob_put (fu := fu) ob (by omega) 35
    refine ⟨y3, z3, 1, ?_, ?_, ob3, (z0.tr s).tr s3⟩
    · rw [if_neg (fun t => t o1), a3, bd_s]
    · rw [jn_d, if_neg (fun t => t o2), b3, bd_s]
      show some (z3.1 26, z3) = _
      rw [ob3.2.1]
  · have g : ¬ nI n = 0 := fun t => n0 ((nI_eq (b := 0) (by omega) (by omega)).mp t)
    refine ⟨y', z', n, ?_, ?_, ob, z0.tr s⟩
    · rw [o1, if_pos g]
    · rw [jn_d, o2, if_pos g]
      show some (z'.1 26, z') = _
      rw [o2]
