/-! Part II: a whole script, the two readers in step. -/
abbrev O5 : Type := OS × OS × OS × OS × OS
/-- the class, behind a command -/
def j2c (fu : Nat) (J : OS → OS → OS → OS → OS → Option O5) (nC : Nat) (v1 : Int32) (z1_214 z2_214 z3_214 z4_214 z5_214 : OS) : Option O5 := bd (fX6_readSemicolon fu z1_214 z2_214 z3_214 z4_214 z5_214) (fun (w_7 : OS × OS) => nm w_7.1 (fun (z_5 : OS) => nm w_7.2 (fun (z_6 : OS) => nm (sI z_5 6 ((z_5.1 6) + (1 : Int32))) (fun (z_9 : OS) => nm (v1 + (1 : Int32)) (fun (v1_10 : Int32) => lX6_readCommands_2 fu J nC v1_10 z_9 z_6 z3_214 z4_214 z5_214)))))
theorem cmds_eq (fu : Nat) (J : OS → OS → OS → OS → OS → Option O5) (nC : Nat) (v1 : Int32) (x3 t y sat pr : OS) : lX6_readCommands_2 fu J (nC + 1) v1 x3 t y sat pr = (if (500 : Int32) ≤ v1 then J x3 t y sat pr else bd (fX6_isFailed fu x3 t y sat pr) (fun (r_1 : Int32) => (if ¬ r_1 = (0 : Int32) then J x3 t y sat pr else (if (t.1 2) = (0 : Int32) then J x3 t y sat pr else bd (fX7_isWord fu t (lt 1)) (fun (r_3 : Int32) => ((if r_3 = (0 : Int32) then bd (fX7_isWord fu t (lt 2)) (fun (r_11 : Int32) => (if r_11 = (0 : Int32) then bd (fX7_isWord fu t (lt 3)) (fun (r_13 : Int32) => (if r_13 = (0 : Int32) then bd (fX7_isWord fu t (lt 4)) (fun (r_15 : Int32) => (if r_15 = (0 : Int32) then bd (fX7_isWord fu t (lt 5)) (fun (r_17 : Int32) => (if r_17 = (0 : Int32) then bd (fX7_isWord fu t (lt 6)) (fun (r_19 : Int32) => (if r_19 = (0 : Int32) then bd (fX7_isWord fu t (lt 7)) (fun (r_21 : Int32) => (if r_21 = (0 : Int32) then bd (fX7_isWord fu t (lt 8)) (fun (r_23 : Int32) => (if r_23 = (0 : Int32) then bd (fX6_fail fu x3 t y sat pr (1 : Int32) (t.1 3)) (fun (z_25 : OS) => j2c fu J nC v1 z_25 t y sat pr) else nm (t.1 3) (fun (v2_27 : Int32) => bd (fX7_advance fu t) (fun (z_28 : OS) => bd (fX6_readCondition fu x3 z_28 y sat pr) (fun (w_34 : Int32 × OS × OS × OS) => nm w_34.1 (fun (r_30 : Int32) => nm w_34.2.1 (fun (z_31 : OS) => nm w_34.2.2.1 (fun (z_32 : OS) => nm w_34.2.2.2 (fun (z_33 : OS) => jn (κ := OS → Option ((OS) × (OS) × (OS) × (OS) × (OS))) (fun (z1_199 : OS) => j2c fu J nC v1 z1_199 z_32 y sat z_33) (fun j199 => (if ¬ r_30 = (0 : Int32) then j199 z_31 else bd (fX6_fail fu z_31 z_32 y sat z_33 (5 : Int32) v2_27) (fun (z_36 : OS) => j199 z_36)))))))))))) else bd (fX6_readReduce fu x3 t y sat pr) (fun (w_40 : OS × OS) => nm w_40.1 (fun (z_38 : OS) => nm w_40.2 (fun (z_39 : OS) => j2c fu J nC v1 x3 z_38 z_39 sat pr))))) else bd (fX6_readInvert fu x3 t y sat pr) (fun (w_44 : OS × OS) => nm w_44.1 (fun (z_42 : OS) => nm w_44.2 (fun (z_43 : OS) => j2c fu J nC v1 x3 z_42 z_43 sat pr))))) else bd (fX6_readNegate fu x3 t y sat pr) (fun (w_49 : OS × OS × OS) => nm w_49.1 (fun (z_46 : OS) => nm w_49.2.1 (fun (z_47 : OS) => nm w_49.2.2 (fun (z_48 : OS) => j2c fu J nC v1 z_46 z_47 z_48 sat pr)))))) else bd (fX6_readDrop fu x3 t y sat pr) (fun (w_54 : OS × OS × OS) => nm w_54.1 (fun (z_51 : OS) => nm w_54.2.1 (fun (z_52 : OS) => nm w_54.2.2 (fun (z_53 : OS) => j2c fu J nC v1 z_51 z_52 z_53 sat pr)))))) else bd (fX6_readSaturate fu x3 t y sat pr) (fun (w_60 : OS × OS × OS × OS) => nm w_60.1 (fun (z_56 : OS) => nm w_60.2.1 (fun (z_57 : OS) => nm w_60.2.2.1 (fun (z_58 : OS) => nm w_60.2.2.2 (fun (z_59 : OS) => j2c fu J nC v1 z_56 z_57 z_58 z_59 pr))))))) else bd (fX6_readResolve fu x3 t y sat pr) (fun (w_65 : OS × OS × OS) => nm w_65.1 (fun (z_62 : OS) => nm w_65.2.1 (fun (z_63 : OS) => nm w_65.2.2 (fun (z_64 : OS) => j2c fu J nC v1 z_62 z_63 z_64 sat pr)))))) else bd (fX6_readClause fu x3 t y sat pr) (fun (w_70 : OS × OS × OS) => nm w_70.1 (fun (z_67 : OS) => nm w_70.2.1 (fun (z_68 : OS) => nm w_70.2.2 (fun (z_69 : OS) => j2c fu J nC v1 z_67 z_68 z_69 sat pr))))))))))) := rfl
def JT : OS → OS → OS → OS → OS → Option O5 := fun a b c d e => some (a, b, c, d, e)
/-- how a script has ended -/
def DONE (w : Nat) (x3' y' z z' : OS) (n' : Nat) : Prop := ((OKx x3' ∧ OKz z' ∧ x3'.1 6 = nI n' ∧ ∃ c', QR w c' y' (z'.2 1)) ∨ FL x3' z') ∧ FQ z z' ∧ n' < 1000
theorem p_cmds {L w fu : Nat} {B : Nat → Int32} (hf : 5000 ≤ fu) : ∀ (d s k nC nM c : Nat) (x3 t y sat pr z : OS), L - s < d → d < nC → d < nM → k ≤ s → SY L B s x3 t z → z.1 19 = nI s → QR w c y (z.2 1) → x3.1 6 = nI k →
    ∃ x3' t' y' sat' pr' z' n', lX6_readCommands_2 fu JT nC (nI k) x3 t y sat pr = some (x3', t', y', sat', pr') ∧ lX9_takesCommands_6 fu (fun v z => some (v, z)) nM (nI k) z = some (nI n', z') ∧ DONE w x3' y' z z' n' := by
  intro d
  induction d with
  | zero => intro s k nC nM c x3 t y sat pr z h; omega
  | succ d ih =>
    intro s k nC nM c x3 t y sat pr z hd hC hM hk sy hp qr h6x
    obtain ⟨nC, rfl⟩ : ∃ m, nC = m + 1 := ⟨nC - 1, by omega⟩
    obtain ⟨nM, rfl⟩ : ∃ m, nM = m + 1 := ⟨nM - 1, by omega⟩
    have sy0 := sy
    obtain ⟨ox, oz, ts, mt, p, ps, hp0, rp⟩ := sy0
    have ts' := ts
    obtain ⟨hL, l1, hb, sL, nw, s3, k2, e4⟩ := ts'
    have h6 := qr.c60
    by_cases hlt : s < L
    · -- what follows a command
      have go : ∀ (xa ta ya sa pa x3' t' z2 : OS), fX6_readSemicolon fu xa ta ya sa pa = some (x3', t') → RES L B w s x3 x3' t' ya z z2 →
          ∃ x3' t' y' sat' pr' z' n', j2c fu JT nC (nI k) xa ta ya sa pa = some (x3', t', y', sat', pr') ∧ (bd (fX9_skips fu z2) (fun z_7 => lX9_takesCommands_6 fu (fun v z => some (v, z)) nM (nI (k + 1)) z_7)) = some (nI n', z') ∧ DONE w x3' y' z z' n' := by
        intro xa ta ya sa pa x3' t' z2 hs ⟨hr, xc, fq⟩
        have x6 : (sI x3' 6 (nI (k + 1))).1 6 = nI (k + 1) := sI_s _ _ _
        have e6 : x3'.1 6 = nI k := Eq.trans xc h6x
        unfold j2c
        rw [hs, bd_s]
        simp only [nm_d, e6, nI_1]
        rcases hr with ⟨s', sy', lt', c', qr'⟩ | fl
        · obtain ⟨ox', oz', ts2, mt2, p2, ps2, hp2, rp2⟩ := sy'
          have sL2 := ts2.2.2.2.1
          obtain ⟨z3, e3, sj3, v3⟩ := m_skips mt2 hp2 (by omega) hf
          rw [rp2] at v3
          have zj3 : ZJ z2 z3 := sj3.zj (by omega)
          have sy3 : SY L B s' (sI x3' 6 (nI (k + 1))) t' z3 := ⟨⟨by rw [sI_o _ _ (by omega)]; exact ox'.1, by rw [sI_o _ _ (by omega)]; exact ox'.2⟩, oz'.of (sj3.2 21 (by omega)) (sj3.2 22 (by omega)), ts2, zj3.mt mt2, s', Nat.le_refl _, v3, run_same ts2.2.2.2.2.1⟩
          obtain ⟨x4, t4, y4, sa4, pr4, z4, n4, a1, a2, a3⟩ := ih s' (k + 1) nC nM c' (sI x3' 6 (nI (k + 1))) t' ya sa pa z3 (by omega) (by omega) (by omega) (by omega) sy3 v3 (by rw [zj3.1]; exact qr') x6
          refine ⟨x4, t4, y4, sa4, pr4, z4, n4, a1, ?_, a3.1, (fq.tr zj3.fq).tr a3.2.1, a3.2.2⟩
          rw [e3, bd_s]; exact a2
        · obtain ⟨z3, e3, sj3, fl3⟩ := fl.skips (fq.mt mt) hf
          obtain ⟨nC2, rfl⟩ : ∃ m, nC = m + 1 := ⟨nC - 1, by omega⟩
          obtain ⟨nM2, rfl⟩ : ∃ m, nM = m + 1 := ⟨nM - 1, by omega⟩
          have fl4 : FL (sI x3' 6 (nI (k + 1))) z3 := by
            obtain ⟨a, b, c, d, e⟩ := fl3
            exact ⟨by rw [sI_o _ _ (by omega)]; exact a, by rw [sI_o _ _ (by omega)]; exact b, by rw [sI_o _ _ (by omega)]; exact c, d, e⟩
          refine ⟨sI x3' 6 (nI (k + 1)), t', ya, sa, pa, z3, k + 1, ?_, ?_, Or.inr fl4, fq.tr (sj3.zj (by omega)).fq, by omega⟩
          · rw [cmds_eq]
            by_cases q : (500 : Int32) ≤ nI (k + 1)
            · rw [if_pos q]; rfl
            · rw [if_neg q, c_bad fl4.2.2.1, bd_s, if_pos (by decide)]; rfl
          · rw [e3, bd_s, lX9_takesCommands_6, m_bad fl3.2.2.2.1, bd_s, if_pos (by decide)]
      obtain ⟨z1, e1, zj, v21, v22, v19, v23, v24⟩ := m_word mt hp sL hf
      have rs : run isW B L s = s := run_same nw
      rw [rs] at v19 v23 v24
      have oz1 : OKz z1 := oz.of v21 v22
      have mt1 := zj.mt mt
      have g1 := run_ge (q := isL) (B := B) (L := L) s
      have g2 := run_le (q := isL) (B := B) sL
      have qr1 : QR w c y (z1.2 1) := by rw [zj.1]; exact qr
      have TK : ∀ tx : List Int32, tx.length < 500 → fX9_isToken fu z1 tx = some (b2 (wd B s (run isL B L s - s) tx)) := fun tx hx => m_isTok mt1 v23 v24 (by omega) hx hf
      have WK : ∀ tx : List Int32, 0 < tx.length → tx.length < 500 → fX7_isWord fu t tx = some (b2 (wd B s (run isL B L s - s) tx)) := fun tx h0 hx => t_isWord ts h0 hx hf
      have NO : ∀ tx : List Int32, 0 < tx.length → tx.length < 500 → wd B s (run isL B L s - s) tx = false → fX9_isToken fu z1 tx = some 0 ∧ fX7_isWord fu t tx = some 0 := fun tx h0 hx h => by
        have a := TK tx hx
        have b := WK tx h0 hx
        rw [h] at a b
        exact ⟨a, b⟩
      have YES : ∀ tx : List Int32, 0 < tx.length → tx.length < 500 → wd B s (run isL B L s - s) tx = true → ∃ t2, fX9_isToken fu z1 tx = some 1 ∧ fX7_isWord fu t tx = some 1 ∧ fX7_advance fu t = some t2 ∧ SY L B (run isW B L (run isL B L s)) x3 t2 z1 ∧ s < run isW B L (run isL B L s) := fun tx h0 hx h => by
        have a := TK tx hx
        have b := WK tx h0 hx
        rw [h] at a b
        have l : run isL B L s - s = tx.length := by
          unfold wd at h
          rw [Bool.and_eq_true, decide_eq_true_eq] at h; exact h.1
        have a9 : s < run isL B L s := by omega
        have eE : tkE B L s = run isL B L s := by unfold tkE; rw [if_pos a9]
        rw [eE] at e4
        obtain ⟨t2, f1, f2, f3⟩ := t_advance hL l1 hb g2 e4 hf
        have gg := run_ge (q := isW) (B := B) (L := L) (run isL B L s)
        exact ⟨t2, a, b, f1, ⟨ox, oz1, f2, mt1, _, gg, v19, rfl⟩, by omega⟩
      have kd : ¬ t.1 2 = 0 := fun q => ((tk0 sL).mp (k2.symm.trans q)) hlt
      have RS : ∀ {x3' t' y' z' : OS}, RES L B w s x3 x3' t' y' z1 z' → RES L B w s x3 x3' t' y' z z' := fun h => ⟨h.1, h.2.1, zj.fq.tr h.2.2⟩
      have l20 : z.1 20 = nI L := mt.2.1
      -- the command itself
      have main : ∃ xa ta ya sa pa x3' t' z2, (∀ Y : Option O5, Y = j2c fu JT nC (nI k) xa ta ya sa pa → lX6_readCommands_2 fu JT (nC + 1) (nI k) x3 t y sat pr = Y) ∧ fX6_readSemicolon fu xa ta ya sa pa = some (x3', t') ∧ fX9_takesCommand fu z = some z2 ∧ RES L B w s x3 x3' t' ya z z2 := by
        unfold fX9_takesCommand
        rw [e1, bd_s, nm_d, v23]
        rw [cmds_eq, if_neg (show ¬ (500 : Int32) ≤ nI k from nI_ge (b := 500) (by omega) (by omega)), c_ok ox, bd_s, if_neg (fun q => q rfl), if_neg kd]
        rcases Bool.eq_false_or_eq_true (wd B s (run isL B L s - s) (lt 1)) with h1 | h1
        · obtain ⟨t2, y1, y2, y3, S2, lt2⟩ := YES (lt 1) (by decide) (by decide) h1
          obtain ⟨xa, ta, ya, x3', t', z2, a1, a2, a3, rs'⟩ := p_newClause sat pr hf ts y3 S2 lt2 qr1
          refine ⟨xa, ta, ya, sat, pr, x3', t', z2, fun Y hY => ?_, a2, ?_, RS rs'⟩
          · simp only [y2, bd_s, if_true, i1_ne0, if_false, a1, nm_d, jn_d]
            exact hY.symm
          · simp only [y1, bd_s, if_true, i1_ne0, if_false]
            first | exact a3 | (rw [a3]; rfl)
        · have n1 := NO (lt 1) (by decide) (by decide) h1
          rcases Bool.eq_false_or_eq_true (wd B s (run isL B L s - s) (lt 2)) with h2 | h2
          · obtain ⟨t2, y1, y2, y3, S2, lt2⟩ := YES (lt 2) (by decide) (by decide) h2
            obtain ⟨xa, ta, ya, x3', t', z2, a1, a2, a3, rs'⟩ := p_resolve sat pr hf y3 S2 lt2 qr1
            refine ⟨xa, ta, ya, sat, pr, x3', t', z2, fun Y hY => ?_, a2, ?_, RS rs'⟩
            · simp only [n1.2, y2, bd_s, if_true, i1_ne0, if_false, a1, nm_d, jn_d]
              exact hY.symm
            · simp only [n1.1, y1, bd_s, if_true, i1_ne0, if_false]
              first | exact a3 | (rw [a3]; rfl)
          · have n2 := NO (lt 2) (by decide) (by decide) h2
            rcases Bool.eq_false_or_eq_true (wd B s (run isL B L s - s) (lt 3)) with h3 | h3
            · obtain ⟨t2, y1, y2, y3, S2, lt2⟩ := YES (lt 3) (by decide) (by decide) h3
              obtain ⟨xa, ta, ya, sa, x3', t', z2, a1, a2, a3, rs'⟩ := p_saturate sat pr hf y3 S2 lt2 qr1
              refine ⟨xa, ta, ya, sa, pr, x3', t', z2, fun Y hY => ?_, a2, ?_, RS rs'⟩
              · simp only [n1.2, n2.2, y2, bd_s, if_true, i1_ne0, if_false, a1, nm_d, jn_d]
                exact hY.symm
              · simp only [n1.1, n2.1, y1, bd_s, if_true, i1_ne0, if_false]
                first | exact a3 | (rw [a3]; rfl)
            · have n3 := NO (lt 3) (by decide) (by decide) h3
              rcases Bool.eq_false_or_eq_true (wd B s (run isL B L s - s) (lt 4)) with h4 | h4
              · obtain ⟨t2, y1, y2, y3, S2, lt2⟩ := YES (lt 4) (by decide) (by decide) h4
                obtain ⟨xa, ta, ya, x3', t', z2, a1, a2, a3, rs'⟩ := p_drop sat pr hf y3 S2 lt2 qr1
                refine ⟨xa, ta, ya, sat, pr, x3', t', z2, fun Y hY => ?_, a2, ?_, RS rs'⟩
                · simp only [n1.2, n2.2, n3.2, y2, bd_s, if_true, i1_ne0, if_false, a1, nm_d, jn_d]
                  exact hY.symm
                · simp only [n1.1, n2.1, n3.1, y1, bd_s, if_true, i1_ne0, if_false]
                  first | exact a3 | (rw [a3]; rfl)
              · have n4 := NO (lt 4) (by decide) (by decide) h4
                rcases Bool.eq_false_or_eq_true (wd B s (run isL B L s - s) (lt 5)) with h5 | h5
                · obtain ⟨t2, y1, y2, y3, S2, lt2⟩ := YES (lt 5) (by decide) (by decide) h5
                  obtain ⟨xa, ta, ya, x3', t', z2, a1, a2, a3, rs'⟩ := p_negate sat pr hf y3 S2 lt2 qr1
                  refine ⟨xa, ta, ya, sat, pr, x3', t', z2, fun Y hY => ?_, a2, ?_, RS rs'⟩
                  · simp only [n1.2, n2.2, n3.2, n4.2, y2, bd_s, if_true, i1_ne0, if_false, a1, nm_d, jn_d]
                    exact hY.symm
                  · simp only [n1.1, n2.1, n3.1, n4.1, y1, bd_s, if_true, i1_ne0, if_false]
                    first | exact a3 | (rw [a3]; rfl)
                · have n5 := NO (lt 5) (by decide) (by decide) h5
                  rcases Bool.eq_false_or_eq_true (wd B s (run isL B L s - s) (lt 6)) with h6 | h6
                  · obtain ⟨t2, y1, y2, y3, S2, lt2⟩ := YES (lt 6) (by decide) (by decide) h6
                    obtain ⟨ta, ya, x3', t', z2, a1, a2, a3, rs'⟩ := p_invert sat pr hf y3 S2 lt2 qr1
                    refine ⟨x3, ta, ya, sat, pr, x3', t', z2, fun Y hY => ?_, a2, ?_, RS rs'⟩
                    · simp only [n1.2, n2.2, n3.2, n4.2, n5.2, y2, bd_s, if_true, i1_ne0, if_false, a1, nm_d, jn_d]
                      exact hY.symm
                    · simp only [n1.1, n2.1, n3.1, n4.1, n5.1, y1, bd_s, if_true, i1_ne0, if_false]
                      first | exact a3 | (rw [a3]; rfl)
                  · have n6 := NO (lt 6) (by decide) (by decide) h6
                    rcases Bool.eq_false_or_eq_true (wd B s (run isL B L s - s) (lt 7)) with h7 | h7
                    · obtain ⟨t2, y1, y2, y3, S2, lt2⟩ := YES (lt 7) (by decide) (by decide) h7
                      obtain ⟨ta, ya, x3', t', z2, a1, a2, a3, rs'⟩ := p_reduce sat pr hf y3 S2 lt2 qr1
                      refine ⟨x3, ta, ya, sat, pr, x3', t', z2, fun Y hY => ?_, a2, ?_, RS rs'⟩
                      · simp only [n1.2, n2.2, n3.2, n4.2, n5.2, n6.2, y2, bd_s, if_true, i1_ne0, if_false, a1, nm_d, jn_d]
                        exact hY.symm
                      · simp only [n1.1, n2.1, n3.1, n4.1, n5.1, n6.1, y1, bd_s, if_true, i1_ne0, if_false]
                        first | exact a3 | (rw [a3]; rfl)
                    · have n7 := NO (lt 7) (by decide) (by decide) h7
                      rcases Bool.eq_false_or_eq_true (wd B s (run isL B L s - s) (lt 8)) with h8 | h8
                      · obtain ⟨t2, y1, y2, y3, S2, lt2⟩ := YES (lt 8) (by decide) (by decide) h8
                        obtain ⟨r, xa, ta, pa, v, za, c1, c2, xb, x3', t', z2, d1, d2, d3, d4, d5⟩ := p_expect sat pr hf S2 lt2 qr1
                        refine ⟨xb, ta, y, sat, pa, x3', t', z2, fun Y hY => ?_, d3, ?_, RS d5⟩
                        · by_cases q : r = 0
                          · have d2 := d2 q
                            simp only [n1.2, n2.2, n3.2, n4.2, n5.2, n6.2, n7.2, y2, bd_s, if_true, i1_ne0, if_false, y3, c1, nm_d, jn_d, s3, q, not_true_eq_false, d2]
                            exact hY.symm
                          · have d1 := d1 q
                            subst d1
                            simp only [n1.2, n2.2, n3.2, n4.2, n5.2, n6.2, n7.2, y2, bd_s, if_true, i1_ne0, if_false, y3, c1, nm_d, jn_d, s3, q, not_false_eq_true]
                            exact hY.symm
                        · simp only [n1.1, n2.1, n3.1, n4.1, n5.1, n6.1, n7.1, y1, bd_s, if_true, i1_ne0, if_false, c2, d4]
                      · have n8 := NO (lt 8) (by decide) (by decide) h8
                        have fl : FL (sI (sI x3 4 1) 5 (nI s)) (sI (sI z1 21 (nI s)) 22 1) := FL.mk (by decide) (by omega) v19 (by omega)
                        refine ⟨_, t, y, sat, pr, _, t, _, fun Y hY => ?_, semi_f fl.2.2.1 _ _ _ _ _, ?_, Or.inr fl, XC.fail _ _ _, zj.fq.tr (ZJ.fail _ _ _).fq⟩
                        · simp only [n1.2, n2.2, n3.2, n4.2, n5.2, n6.2, n7.2, n8.2, bd_s, if_true, s3, c_fail ox]
                          exact hY.symm
                        · simp only [n1.1, n2.1, n3.1, n4.1, n5.1, n6.1, n7.1, n8.1, bd_s, if_true, m_fails oz1]
      obtain ⟨xa, ta, ya, sa, pa, x3', t', z2, m1, m2, m3, m4⟩ := main
      obtain ⟨x4, t4, y4, sa4, pr4, z4, n4, a1, a2, a3⟩ := go xa ta ya sa pa x3' t' z2 m2 m4
      refine ⟨x4, t4, y4, sa4, pr4, z4, n4, (m1 _ rfl).trans a1, ?_, a3⟩
      rw [lX9_takesCommands_6, m_ok oz, bd_s, if_neg (fun q => q rfl), l20, hp, if_neg (nI_ge hlt (by omega)), m3, bd_s]
      simp only [nm_d, nI_1]
      exact a2
    · have k0 : t.1 2 = 0 := by rw [k2]; exact (tk0 sL).mpr hlt
      refine ⟨x3, t, y, sat, pr, z, k, ?_, ?_, Or.inl ⟨ox, oz, h6x, c, qr⟩, FQ.rf, by omega⟩
      · rw [cmds_eq]
        by_cases q : (500 : Int32) ≤ nI k
        · rw [if_pos q]; rfl
        · rw [if_neg q, c_ok ox, bd_s, if_neg (fun q => q rfl), if_pos k0]; rfl
      · rw [lX9_takesCommands_6, m_ok oz, bd_s, if_neg (fun q => q rfl), mt.2.1, hp, if_pos (nI_le (by omega) (by omega))]
/-- all commands of a script -/
theorem p_run {L s w c fu : Nat} {B : Nat → Int32} {x3 t y z : OS} (sat pr : OS) (hf : 5000 ≤ fu) (sy : SY L B s x3 t z) (qr : QR w c y (z.2 1)) (h0 : x3.1 6 = 0) :
    ∃ x3' t' y' sat' pr' z' n', fX6_readCommands fu x3 t y sat pr = some (x3', t', y', sat', pr') ∧ fX9_takesCommands fu z = some (nI n', z') ∧ DONE w x3' y' z z' n' := by
  obtain ⟨ox, oz, ts, mt, p, ps, hp, rp⟩ := sy
  have hL := ts.1
  have sL := ts.2.2.2.1
  obtain ⟨z1, e1, sj1, v1⟩ := m_skips mt hp (by omega) hf
  rw [rp] at v1
  have zj : ZJ z z1 := sj1.zj (by omega)
  have sy1 : SY L B s x3 t z1 := ⟨ox, oz.of (sj1.2 21 (by omega)) (sj1.2 22 (by omega)), ts, zj.mt mt, s, Nat.le_refl s, v1, run_same ts.2.2.2.2.1⟩
  obtain ⟨x4, t4, y4, sa4, pr4, z4, n4, a1, a2, a3⟩ := p_cmds hf (L - s + 1) s 0 fu fu c x3 t y sat pr z1 (by omega) (by omega) (by omega) (by omega) sy1 v1 (by rw [zj.1]; exact qr) h0
  refine ⟨x4, t4, y4, sa4, pr4, z4, n4, a1, ?_, a3.1, zj.fq.tr a3.2.1, a3.2.2⟩
  unfold fX9_takesCommands
  rw [e1, bd_s]
  exact a2
