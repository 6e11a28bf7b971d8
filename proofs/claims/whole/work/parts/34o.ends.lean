/-! Part II: the start and the end of a script; play. -/
theorem p_begin {L fu : Nat} {x3 x4 z : OS} (hT : TB L x4 z) (hf : 5000 ≤ fu) (x5 x6 x7 : OS) : ∃ x3' t z' s, fX6_begin fu x3 x4 x5 x6 x7 = some (x3', t) ∧ fX9_opensTape fu z = some z' ∧ SY L (z.2 15) s x3' t z' ∧ x3'.1 6 = 0 ∧ (∀ i, ¬ (i = 16 ∨ i = 19 ∨ i = 20 ∨ i = 21 ∨ i = 22) → z'.1 i = z.1 i) ∧ z'.1 16 = 0 ∧ (∀ j, j ≠ 2 → z'.2 j = z.2 j) ∧ ∀ i, i < 917 → z'.2 2 i = z.2 1 i := by
  obtain ⟨h1, h2, h3, h4⟩ := hT
  obtain ⟨t, et, ts, _⟩ := t_advance (t := sI x4 4 0) (fu := fu) (e := 0) (B := z.2 15) h3 (by rw [sI_o _ _ (by decide)]; exact h1) (fun i hi => h4 i hi) (Nat.zero_le _) (sI_s _ _ _) hf
  obtain ⟨z', ek, sk, kk⟩ := m_keeps (fu := fu) hf (sI (sI (sI (sI (sI z 20 (z.1 16)) 16 0) 19 0) 21 (-1)) 22 0)
  refine ⟨sI (sI (sI x3 4 0) 5 (-1)) 6 0, t, z', run isW (z.2 15) L 0, ?_, ?_, ⟨⟨rfl, rfl⟩, ⟨by rw [sk.1]; rfl, by rw [sk.1]; rfl⟩, ts, ⟨h3, by rw [sk.1]; exact h2, fun i hi => by rw [sk.2 15 (by decide)]; rfl⟩, 0, Nat.zero_le _, by rw [sk.1]; rfl, rfl⟩, rfl, fun i hi => ?_, by rw [sk.1]; rfl, fun j hj => by rw [sk.2 j hj]; rfl, fun i hi => kk i hi⟩
  · unfold fX6_begin fX7_begin
    simp only [nm_d, et, bd_s]
  · unfold fX9_opensTape
    simp only [nm_d]
    rw [ek, bd_s]
  · rw [sk.1, sI_o _ _ (by omega), sI_o _ _ (by omega), sI_o _ _ (by omega), sI_o _ _ (by omega), sI_o _ _ (by omega)]
theorem p_end_ok {z : OS} {fu : Nat} (h : OKz z) (h0 : z.1 0 = 0) : fX9_hasEnded fu z = some (0, sI (sI z 17 (z.1 21)) 18 (z.1 22)) := by
  have hF : fX9_hasFailed fu (sI (sI z 17 (z.1 21)) 18 (z.1 22)) = some 0 := by
    unfold fX9_hasFailed
    have e : (sI (sI z 17 (z.1 21)) 18 (z.1 22)).1 21 = -1 := h.1
    simp [e, isZ_0, isZ_1, gd_t]
  have t : (sI (sI z 17 (z.1 21)) 18 (z.1 22)).1 0 = 0 := h0
  have e22 : (sI z 17 (z.1 21)).1 22 = z.1 22 := rfl
  unfold fX9_hasEnded
  simp only [nm_d, bd_s, jn_d, e22, hF, ti_0 t, if_true, isZ_0, gd_t]
theorem p_end_bad {z : OS} {fu : Nat} (hf : 5000 ≤ fu) (h : z.1 21 ≠ -1) (h0 : z.1 0 = 0) : ∃ y, fX9_hasEnded fu z = some (1, sI (sA (sI (sI z 17 (z.1 21)) 18 (z.1 22)) 1 y) 0 1) ∧ ∀ i, i < 917 → y i = z.2 2 i := by
  obtain ⟨y, e, y1, y2⟩ := m_copy (m1 := 917) (m2 := 917) (a := 0) (b := 0) (fu := fu) (z.2 2) (z.2 1) (by omega) (by omega) (by omega) (by omega) hf
  have e' : fX9_copies_two fu 917 ((sI (sI z 17 (z.1 21)) 18 (z.1 22)).2 2) 917 ((sI (sI z 17 (z.1 21)) 18 (z.1 22)).2 1) 0 0 = some y := e
  have hF : ∀ f : OS, f.1 21 = z.1 21 → fX9_hasFailed fu f = some 1 := by
    intro f ef
    have : ¬ f.1 21 = -1 := by rw [ef]; exact h
    unfold fX9_hasFailed
    simp [this, isZ_0, isZ_1, gd_t]
  have t : (sA (sI (sI z 17 (z.1 21)) 18 (z.1 22)) 1 y).1 0 = 0 := h0
  refine ⟨y, ?_, fun i hi => ?_⟩
  · have e22 : (sI z 17 (z.1 21)).1 22 = z.1 22 := rfl
    have hF1 := hF (sI (sI z 17 (z.1 21)) 18 (z.1 22)) rfl
    have hF2 := hF (sA (sI (sI z 17 (z.1 21)) 18 (z.1 22)) 1 y) rfl
    unfold fX9_hasEnded
    simp only [nm_d, bd_s, jn_d, e22, hF1, hF2, e', ti_1 t fu (show (1 : Int32) ≠ 0 by decide), i1_ne0, if_false, isZ_1, gd_t]
  · have := y1 i hi
    rw [Nat.zero_mul, Nat.zero_add] at this
    exact this
def P15 (X : Nat → OS) (x1 x3 x4 x5 x6 x7 x8 : OS) (H : Nat → OS) : Nat → OS := upX (upX (upX (upX (upX (upX (upX (upX (upX (upX (upX (upX (upX (upX (upX X 1 x1) 3 x3) 4 x4) 5 x5) 6 x6) 7 x7) 8 x8) 9 (H 0)) 10 (H 1)) 11 (H 2)) 12 (H 3)) 13 (H 4)) 14 (H 5)) 15 (H 6)) 16 (H 7)
theorem Inv.p15 {X H : Nat → OS} {z z' x1 x3 x4 x5 x6 x7 x8 : OS} {w c : Nat} (h : Inv X z) (hQ : QR w c x1 (z'.2 1)) (hT : TB 0 x4 z') (hE : x3.1 4 = z'.1 18 ∧ x3.1 5 = z'.1 17) (hH : HI x8 H z') (e5 : z'.2 5 = z.2 5) (e6 : z'.2 6 = z.2 6) (e26 : z'.1 26 = z.1 26) (e25 : z'.2 25 = z.2 25) : Inv (P15 X x1 x3 x4 x5 x6 x7 x8 H) z' := by
  obtain ⟨_, _, _, _, hS, ⟨n, hO⟩⟩ := h
  obtain ⟨d, nx, hd, hn, r1, r2, r3, hr⟩ := hH
  have oH : ∀ k, k < 8 → P15 X x1 x3 x4 x5 x6 x7 x8 H (9 + k) = H k := by
    intro k hk
    have cs : k = 0 ∨ k = 1 ∨ k = 2 ∨ k = 3 ∨ k = 4 ∨ k = 5 ∨ k = 6 ∨ k = 7 := by omega
    rcases cs with rfl | rfl | rfl | rfl | rfl | rfl | rfl | rfl <;> rfl
  refine ⟨⟨w, c, hQ⟩, ⟨0, hT⟩, hE, ⟨d, nx, hd, hn, r1, r2, r3, fun j hj => ?_⟩, fun k hk => ?_, ⟨n, ?_⟩⟩
  · have := hr j hj
    show ∃ w c, QR w c (P15 X x1 x3 x4 x5 x6 x7 x8 H (9 + (nx + 8 - d + j) % 8)) _
    rw [oH _ (Nat.mod_lt _ (by omega))]; exact this
  · have s := hS k hk
    have o20 : P15 X x1 x3 x4 x5 x6 x7 x8 H 20 = X 20 := rfl
    have o18 : P15 X x1 x3 x4 x5 x6 x7 x8 H (18 + k) = X (18 + k) := by
      have cs : k = 0 ∨ k = 1 := by omega
      rcases cs with rfl | rfl <;> rfl
    unfold SL
    rw [o20, o18, e5, e6]; exact s
  · have o23 : P15 X x1 x3 x4 x5 x6 x7 x8 H 23 = X 23 := rfl
    rw [o23]
    exact ⟨hO.1, e26.trans hO.2.1, hO.2.2.1, fun i hi => by rw [e25]; exact hO.2.2.2 i hi⟩
