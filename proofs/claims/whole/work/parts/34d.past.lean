/-! Part II: the history ring of the class beside the shifted past of the reference. -/
theorem reg_lt {c i : Nat} (h6 : c ≤ 60) (h : reg c i) : i < 917 := by unfold reg at h; omega
def SR (z z' : OS) : Prop := (∀ i, i ≠ 7 → z'.1 i = z.1 i) ∧ ∀ j, j ≠ 4 → z'.2 j = z.2 j
theorem m_rec_j {fu d : Nat} (hf : 5000 ≤ fu) (z : OS) (hd : d < 8) (h7 : z.1 7 = nI d) (r : Int32) : ∃ z', bd (fX9_copies_two fu 917 (z.2 2) 7336 (z.2 4) 0 (z.1 7)) (fun x => nm (sA z 4 x) (fun z_3 => nm (sI z_3 7 ((z_3.1 7) + 1)) (fun z_4 => some (r, z_4)))) = some (r, z') ∧ SR z z' ∧ z'.1 7 = nI (d + 1) ∧ (∀ i, (i < d * 917 ∨ d * 917 + 917 ≤ i) → z'.2 4 i = z.2 4 i) ∧ ∀ t, t < 917 → z'.2 4 (d * 917 + t) = z.2 2 t := by
  obtain ⟨y, e, y1, y2⟩ := m_copy (m1 := 917) (m2 := 7336) (a := 0) (b := d) (fu := fu) (z.2 2) (z.2 4) (by omega) (by omega) (by omega) (by omega) hf
  have e' : fX9_copies_two fu 917 (z.2 2) 7336 (z.2 4) 0 (nI d) = some y := e
  rw [h7, e', bd_s, nm_d, nm_d]
  refine ⟨_, rfl, ⟨fun i hi => ?_, fun j hj => ?_⟩, ?_, fun i hi => ?_, fun t ht => ?_⟩
  · rw [sI_o _ _ hi, sA_1]
  · rw [sI_2, sA_o _ _ hj]
  · rw [sI_s, sA_1, h7, nI_1]
  · rw [sI_2, sA_s]; exact y2 i hi
  · rw [sI_2, sA_s, y1 t ht, Nat.zero_mul, Nat.zero_add]
theorem m_shift {fu : Nat} (hf : 5000 ≤ fu) (z : OS) : ∀ (d u n : Nat) (z1 : OS), u + 1 + d = 8 → d < n → SK 4 z z1 → (∀ j t, j < u → t < 917 → z1.2 4 (j * 917 + t) = z.2 4 ((j + 1) * 917 + t)) → (∀ i, u * 917 ≤ i → z1.2 4 i = z.2 4 i) → ∃ z2, (∀ J : OS → Option (Int32 × OS), lX9_records_11 fu J n (nI (u + 1)) z1 = J z2) ∧ SK 4 z z2 ∧ ∀ j t, j < 7 → t < 917 → z2.2 4 (j * 917 + t) = z.2 4 ((j + 1) * 917 + t) := by
  intro d
  induction d with
  | zero =>
    intro u n z1 h1 h2 s a b
    obtain ⟨n, rfl⟩ : ∃ m, n = m + 1 := ⟨n - 1, by omega⟩
    have hu : u = 7 := by omega
    subst hu
    exact ⟨z1, fun J => by rw [lX9_records_11, if_pos (by decide)], s, a⟩
  | succ d ih =>
    intro u n z1 h1 h2 s a b
    obtain ⟨n, rfl⟩ : ∃ m, n = m + 1 := ⟨n - 1, by omega⟩
    obtain ⟨y, e, y1, y2⟩ := m_same_copy (m1 := 7336) (a := u + 1) (b := u) (fu := fu) (z1.2 4) (by omega) (by omega) (by omega) hf
    have g : ¬ (8 : Int32) ≤ nI (u + 1) := by
      rw [show (8 : Int32) = nI 8 from rfl, nI_leI (by omega) (by omega)]; omega
    have m : nI (u + 1) - 1 = nI u := pk_sub (a := u + 1) (b := 1) (by omega)
    have a' : ∀ j t, j < u + 1 → t < 917 → (sA z1 4 y).2 4 (j * 917 + t) = z.2 4 ((j + 1) * 917 + t) := by
      intro j t hj ht
      rw [sA_s]
      by_cases q : j = u
      · subst q; rw [y1 t ht]; exact b _ (by omega)
      · rw [y2 _ (Or.inl (by omega))]; exact a j t (by omega) ht
    have b' : ∀ i, (u + 1) * 917 ≤ i → (sA z1 4 y).2 4 i = z.2 4 i := by
      intro i hi
      have hu : u * 917 ≤ i := Nat.le_trans (Nat.mul_le_mul_right 917 (Nat.le_succ u)) hi
      have hu2 : u * 917 + 917 ≤ i := by rw [← Nat.succ_mul]; exact hi
      rw [sA_s, y2 _ (Or.inr hu2)]; exact b i hu
    obtain ⟨z2, f, s2, a2⟩ := ih (u + 1) n (sA z1 4 y) (by omega) (by omega) (s.tr (SK.sa 4 z1 y)) a' b'
    refine ⟨z2, fun J => ?_, s2, a2⟩
    rw [lX9_records_11, if_neg g, m, e, bd_s, nm_d, nm_d, nI_1]
    exact f J
theorem m_rec {fu d : Nat} (hf : 5000 ≤ fu) (z : OS) (hd : d ≤ 8) (h7 : z.1 7 = nI d) (r : Int32) : ∃ z', fX9_records fu z r = some (r, z') ∧ SR z z' ∧ ((d < 8 ∧ z'.1 7 = nI (d + 1) ∧ (∀ j t, j < d → t < 917 → z'.2 4 (j * 917 + t) = z.2 4 (j * 917 + t)) ∧ ∀ t, t < 917 → z'.2 4 (d * 917 + t) = z.2 2 t) ∨ (d = 8 ∧ z'.1 7 = nI 8 ∧ (∀ j t, j < 7 → t < 917 → z'.2 4 (j * 917 + t) = z.2 4 ((j + 1) * 917 + t)) ∧ ∀ t, t < 917 → z'.2 4 (7 * 917 + t) = z.2 2 t)) := by
  rcases Nat.lt_or_ge d 8 with g | g
  · obtain ⟨z', e, sr, k7, k1, k2⟩ := m_rec_j hf z g h7 r
    refine ⟨z', ?_, sr, Or.inl ⟨g, k7, fun j t hj ht => k1 _ (Or.inl (by omega)), k2⟩⟩
    have n8 : ¬ z.1 7 = 8 := by
      rw [h7, show (8 : Int32) = nI 8 from rfl, nI_eq (by omega) (by omega)]; omega
    unfold fX9_records
    rw [jn_d, if_pos n8]
    exact e
  · have g8 : d = 8 := by omega
    subst g8
    obtain ⟨z2, f, s2, a2⟩ := m_shift hf z 7 0 fu z (by omega) (by omega) SK.rf (fun j t q => absurd q (by omega)) (fun _ _ => rfl)
    have f' : ∀ J : OS → Option (Int32 × OS), lX9_records_11 fu J fu 1 z = J z2 := f
    have w7 : (sI z2 7 (z2.1 7 - 1)).1 7 = nI 7 := by
      rw [sI_s, s2.1, h7]; rfl
    obtain ⟨z', e, sr, k7, k1, k2⟩ := m_rec_j hf (sI z2 7 (z2.1 7 - 1)) (d := 7) (by omega) w7 r
    refine ⟨z', ?_, ⟨fun i hi => ?_, fun j hj => ?_⟩, Or.inr ⟨rfl, k7, fun j t hj ht => ?_, fun t ht => ?_⟩⟩
    · unfold fX9_records
      rw [jn_d, if_neg (fun q => q h7), jn_d, f']
      exact e
    · rw [sr.1 i hi, sI_o _ _ hi, s2.1]
    · rw [sr.2 j hj, sI_2, s2.2 j hj]
    · rw [k1 _ (Or.inl (by omega)), sI_2, a2 j t hj ht]
    · rw [k2 t ht, sI_2, s2.2 2 (by decide)]
theorem cnt8 : ∀ d, d < 9 → (if (8 : Int32) < nI d + 1 then (8 : Int32) else nI d + 1) = nI (if d = 8 then 8 else d + 1) := by decide
theorem q_push {c fu nx d : Nat} {x8 y : OS} (H : Nat → OS) (hc : y.1 7 = nI c) (h6 : c ≤ 60) (hn : nx < 8) (hd : d ≤ 8) (e1 : x8.1 1 = nI nx) (e2 : x8.1 2 = nI d) : ∃ x8' y', fX1_push fu x8 (H 0) (H 1) (H 2) (H 3) (H 4) (H 5) (H 6) (H 7) y = some (x8', upX H nx y' 0, upX H nx y' 1, upX H nx y' 2, upX H nx y' 3, upX H nx y' 4, upX H nx y' 5, upX H nx y' 6, upX H nx y' 7) ∧ SX c y y' ∧ x8'.1 1 = nI ((nx + 1) % 8) ∧ x8'.1 2 = nI (if d = 8 then 8 else d + 1) := by
  have cs : nx = 0 ∨ nx = 1 ∨ nx = 2 ∨ nx = 3 ∨ nx = 4 ∨ nx = 5 ∨ nx = 6 ∨ nx = 7 := by omega
  rcases cs with rfl | rfl | rfl | rfl | rfl | rfl | rfl | rfl
  · obtain ⟨y', ec, s⟩ := q_copy fu hc h6 (H 0)
    have c0 : x8.1 1 = 0 := e1
    have c7 : ¬ x8.1 1 = 7 := by rw [e1]; decide
    have E : fX1_push fu x8 (H 0) (H 1) (H 2) (H 3) (H 4) (H 5) (H 6) (H 7) y = some (sI (sI x8 1 (x8.1 1 + 1)) 2 (if (8 : Int32) < (sI x8 1 (x8.1 1 + 1)).1 2 + 1 then 8 else (sI x8 1 (x8.1 1 + 1)).1 2 + 1), y', H 1, H 2, H 3, H 4, H 5, H 6, H 7) := by
      unfold fX1_push
      simp only [eq_true c0, eq_false c7, ec, bd_s, jn_d, nm_d, if_true, if_false, not_true_eq_false, not_false_eq_true] <;> rfl
    refine ⟨_, y', E, s, ?_, ?_⟩
    · rw [sI_o _ _ (by decide), sI_s]; rw [e1]; decide
    · rw [sI_s, sI_o _ _ (by decide), e2]; exact cnt8 d (by omega)
  · obtain ⟨y', ec, s⟩ := q_copy fu hc h6 (H 1)
    have c0 : ¬ x8.1 1 = 0 := by rw [e1]; decide
    have c1 : x8.1 1 = 1 := e1
    have c7 : ¬ x8.1 1 = 7 := by rw [e1]; decide
    have E : fX1_push fu x8 (H 0) (H 1) (H 2) (H 3) (H 4) (H 5) (H 6) (H 7) y = some (sI (sI x8 1 (x8.1 1 + 1)) 2 (if (8 : Int32) < (sI x8 1 (x8.1 1 + 1)).1 2 + 1 then 8 else (sI x8 1 (x8.1 1 + 1)).1 2 + 1), H 0, y', H 2, H 3, H 4, H 5, H 6, H 7) := by
      unfold fX1_push
      simp only [eq_false c0, eq_true c1, eq_false c7, ec, bd_s, jn_d, nm_d, if_true, if_false, not_true_eq_false, not_false_eq_true] <;> rfl
    refine ⟨_, y', E, s, ?_, ?_⟩
    · rw [sI_o _ _ (by decide), sI_s]; rw [e1]; decide
    · rw [sI_s, sI_o _ _ (by decide), e2]; exact cnt8 d (by omega)
  · obtain ⟨y', ec, s⟩ := q_copy fu hc h6 (H 2)
    have c0 : ¬ x8.1 1 = 0 := by rw [e1]; decide
    have c1 : ¬ x8.1 1 = 1 := by rw [e1]; decide
    have c2 : x8.1 1 = 2 := e1
    have c7 : ¬ x8.1 1 = 7 := by rw [e1]; decide
    have E : fX1_push fu x8 (H 0) (H 1) (H 2) (H 3) (H 4) (H 5) (H 6) (H 7) y = some (sI (sI x8 1 (x8.1 1 + 1)) 2 (if (8 : Int32) < (sI x8 1 (x8.1 1 + 1)).1 2 + 1 then 8 else (sI x8 1 (x8.1 1 + 1)).1 2 + 1), H 0, H 1, y', H 3, H 4, H 5, H 6, H 7) := by
      unfold fX1_push
      simp only [eq_false c0, eq_false c1, eq_true c2, eq_false c7, ec, bd_s, jn_d, nm_d, if_true, if_false, not_true_eq_false, not_false_eq_true] <;> rfl
    refine ⟨_, y', E, s, ?_, ?_⟩
    · rw [sI_o _ _ (by decide), sI_s]; rw [e1]; decide
    · rw [sI_s, sI_o _ _ (by decide), e2]; exact cnt8 d (by omega)
  · obtain ⟨y', ec, s⟩ := q_copy fu hc h6 (H 3)
    have c0 : ¬ x8.1 1 = 0 := by rw [e1]; decide
    have c1 : ¬ x8.1 1 = 1 := by rw [e1]; decide
    have c2 : ¬ x8.1 1 = 2 := by rw [e1]; decide
    have c3 : x8.1 1 = 3 := e1
    have c7 : ¬ x8.1 1 = 7 := by rw [e1]; decide
    have E : fX1_push fu x8 (H 0) (H 1) (H 2) (H 3) (H 4) (H 5) (H 6) (H 7) y = some (sI (sI x8 1 (x8.1 1 + 1)) 2 (if (8 : Int32) < (sI x8 1 (x8.1 1 + 1)).1 2 + 1 then 8 else (sI x8 1 (x8.1 1 + 1)).1 2 + 1), H 0, H 1, H 2, y', H 4, H 5, H 6, H 7) := by
      unfold fX1_push
      simp only [eq_false c0, eq_false c1, eq_false c2, eq_true c3, eq_false c7, ec, bd_s, jn_d, nm_d, if_true, if_false, not_true_eq_false, not_false_eq_true] <;> rfl
    refine ⟨_, y', E, s, ?_, ?_⟩
    · rw [sI_o _ _ (by decide), sI_s]; rw [e1]; decide
    · rw [sI_s, sI_o _ _ (by decide), e2]; exact cnt8 d (by omega)
  · obtain ⟨y', ec, s⟩ := q_copy fu hc h6 (H 4)
    have c0 : ¬ x8.1 1 = 0 := by rw [e1]; decide
    have c1 : ¬ x8.1 1 = 1 := by rw [e1]; decide
    have c2 : ¬ x8.1 1 = 2 := by rw [e1]; decide
    have c3 : ¬ x8.1 1 = 3 := by rw [e1]; decide
    have c4 : x8.1 1 = 4 := e1
    have c7 : ¬ x8.1 1 = 7 := by rw [e1]; decide
    have E : fX1_push fu x8 (H 0) (H 1) (H 2) (H 3) (H 4) (H 5) (H 6) (H 7) y = some (sI (sI x8 1 (x8.1 1 + 1)) 2 (if (8 : Int32) < (sI x8 1 (x8.1 1 + 1)).1 2 + 1 then 8 else (sI x8 1 (x8.1 1 + 1)).1 2 + 1), H 0, H 1, H 2, H 3, y', H 5, H 6, H 7) := by
      unfold fX1_push
      simp only [eq_false c0, eq_false c1, eq_false c2, eq_false c3, eq_true c4, eq_false c7, ec, bd_s, jn_d, nm_d, if_true, if_false, not_true_eq_false, not_false_eq_true] <;> rfl
    refine ⟨_, y', E, s, ?_, ?_⟩
    · rw [sI_o _ _ (by decide), sI_s]; rw [e1]; decide
    · rw [sI_s, sI_o _ _ (by decide), e2]; exact cnt8 d (by omega)
  · obtain ⟨y', ec, s⟩ := q_copy fu hc h6 (H 5)
    have c0 : ¬ x8.1 1 = 0 := by rw [e1]; decide
    have c1 : ¬ x8.1 1 = 1 := by rw [e1]; decide
    have c2 : ¬ x8.1 1 = 2 := by rw [e1]; decide
    have c3 : ¬ x8.1 1 = 3 := by rw [e1]; decide
    have c4 : ¬ x8.1 1 = 4 := by rw [e1]; decide
    have c5 : x8.1 1 = 5 := e1
    have c7 : ¬ x8.1 1 = 7 := by rw [e1]; decide
    have E : fX1_push fu x8 (H 0) (H 1) (H 2) (H 3) (H 4) (H 5) (H 6) (H 7) y = some (sI (sI x8 1 (x8.1 1 + 1)) 2 (if (8 : Int32) < (sI x8 1 (x8.1 1 + 1)).1 2 + 1 then 8 else (sI x8 1 (x8.1 1 + 1)).1 2 + 1), H 0, H 1, H 2, H 3, H 4, y', H 6, H 7) := by
      unfold fX1_push
      simp only [eq_false c0, eq_false c1, eq_false c2, eq_false c3, eq_false c4, eq_true c5, eq_false c7, ec, bd_s, jn_d, nm_d, if_true, if_false, not_true_eq_false, not_false_eq_true] <;> rfl
    refine ⟨_, y', E, s, ?_, ?_⟩
    · rw [sI_o _ _ (by decide), sI_s]; rw [e1]; decide
    · rw [sI_s, sI_o _ _ (by decide), e2]; exact cnt8 d (by omega)
  · obtain ⟨y', ec, s⟩ := q_copy fu hc h6 (H 6)
    have c0 : ¬ x8.1 1 = 0 := by rw [e1]; decide
    have c1 : ¬ x8.1 1 = 1 := by rw [e1]; decide
    have c2 : ¬ x8.1 1 = 2 := by rw [e1]; decide
    have c3 : ¬ x8.1 1 = 3 := by rw [e1]; decide
    have c4 : ¬ x8.1 1 = 4 := by rw [e1]; decide
    have c5 : ¬ x8.1 1 = 5 := by rw [e1]; decide
    have c6 : x8.1 1 = 6 := e1
    have c7 : ¬ x8.1 1 = 7 := by rw [e1]; decide
    have E : fX1_push fu x8 (H 0) (H 1) (H 2) (H 3) (H 4) (H 5) (H 6) (H 7) y = some (sI (sI x8 1 (x8.1 1 + 1)) 2 (if (8 : Int32) < (sI x8 1 (x8.1 1 + 1)).1 2 + 1 then 8 else (sI x8 1 (x8.1 1 + 1)).1 2 + 1), H 0, H 1, H 2, H 3, H 4, H 5, y', H 7) := by
      unfold fX1_push
      simp only [eq_false c0, eq_false c1, eq_false c2, eq_false c3, eq_false c4, eq_false c5, eq_true c6, eq_false c7, ec, bd_s, jn_d, nm_d, if_true, if_false, not_true_eq_false, not_false_eq_true] <;> rfl
    refine ⟨_, y', E, s, ?_, ?_⟩
    · rw [sI_o _ _ (by decide), sI_s]; rw [e1]; decide
    · rw [sI_s, sI_o _ _ (by decide), e2]; exact cnt8 d (by omega)
  · obtain ⟨y', ec, s⟩ := q_copy fu hc h6 (H 7)
    have c0 : ¬ x8.1 1 = 0 := by rw [e1]; decide
    have c1 : ¬ x8.1 1 = 1 := by rw [e1]; decide
    have c2 : ¬ x8.1 1 = 2 := by rw [e1]; decide
    have c3 : ¬ x8.1 1 = 3 := by rw [e1]; decide
    have c4 : ¬ x8.1 1 = 4 := by rw [e1]; decide
    have c5 : ¬ x8.1 1 = 5 := by rw [e1]; decide
    have c6 : ¬ x8.1 1 = 6 := by rw [e1]; decide
    have c7 : x8.1 1 = 7 := e1
    have E : fX1_push fu x8 (H 0) (H 1) (H 2) (H 3) (H 4) (H 5) (H 6) (H 7) y = some (sI (sI x8 1 (0)) 2 (if (8 : Int32) < (sI x8 1 (0)).1 2 + 1 then 8 else (sI x8 1 (0)).1 2 + 1), H 0, H 1, H 2, H 3, H 4, H 5, H 6, y') := by
      unfold fX1_push
      simp only [eq_false c0, eq_false c1, eq_false c2, eq_false c3, eq_false c4, eq_false c5, eq_false c6, eq_true c7, ec, bd_s, jn_d, nm_d, if_true, if_false, not_true_eq_false, not_false_eq_true] <;> rfl
    refine ⟨_, y', E, s, ?_, ?_⟩
    · rw [sI_o _ _ (by decide), sI_s]; decide
    · rw [sI_s, sI_o _ _ (by decide), e2]; exact cnt8 d (by omega)
theorem q_unpast {c fu nx d : Nat} {x8 x1 : OS} (H : Nat → OS) (hn : nx < 8) (hd : 1 ≤ d) (e1 : x8.1 1 = nI nx) (e2 : x8.1 2 = nI d) (hc : (H ((nx + 7) % 8)).1 7 = nI c) (h6 : c ≤ 60) : ∃ x8' y', fX1_pop fu x8 (H 0) (H 1) (H 2) (H 3) (H 4) (H 5) (H 6) (H 7) x1 = some (x8', y') ∧ SX c (H ((nx + 7) % 8)) y' ∧ x8'.1 1 = nI ((nx + 7) % 8) ∧ x8'.1 2 = nI (d - 1) := by
  have cs : nx = 0 ∨ nx = 1 ∨ nx = 2 ∨ nx = 3 ∨ nx = 4 ∨ nx = 5 ∨ nx = 6 ∨ nx = 7 := by omega
  have m1 : nI d - 1 = nI (d - 1) := pk_sub (a := d) (b := 1) hd
  rcases cs with rfl | rfl | rfl | rfl | rfl | rfl | rfl | rfl
  · obtain ⟨y', ec, s⟩ := q_copy (y := H 7) fu hc h6 x1
    have t : (sI (sI x8 1 (7)) 2 ((sI x8 1 (7)).1 2 - 1)).1 1 = nI 7 := by rw [sI_o _ _ (by decide), sI_s]; decide
    have c :  x8.1 1 = 0 := by rw [e1]; decide
    have c0 : ¬ (sI (sI x8 1 (7)) 2 ((sI x8 1 (7)).1 2 - 1)).1 1 = 0 := by rw [t]; decide
    have c1 : ¬ (sI (sI x8 1 (7)) 2 ((sI x8 1 (7)).1 2 - 1)).1 1 = 1 := by rw [t]; decide
    have c2 : ¬ (sI (sI x8 1 (7)) 2 ((sI x8 1 (7)).1 2 - 1)).1 1 = 2 := by rw [t]; decide
    have c3 : ¬ (sI (sI x8 1 (7)) 2 ((sI x8 1 (7)).1 2 - 1)).1 1 = 3 := by rw [t]; decide
    have c4 : ¬ (sI (sI x8 1 (7)) 2 ((sI x8 1 (7)).1 2 - 1)).1 1 = 4 := by rw [t]; decide
    have c5 : ¬ (sI (sI x8 1 (7)) 2 ((sI x8 1 (7)).1 2 - 1)).1 1 = 5 := by rw [t]; decide
    have c6 : ¬ (sI (sI x8 1 (7)) 2 ((sI x8 1 (7)).1 2 - 1)).1 1 = 6 := by rw [t]; decide
    have c7 : (sI (sI x8 1 (7)) 2 ((sI x8 1 (7)).1 2 - 1)).1 1 = 7 := t
    have E : fX1_pop fu x8 (H 0) (H 1) (H 2) (H 3) (H 4) (H 5) (H 6) (H 7) x1 = some (sI (sI x8 1 (7)) 2 ((sI x8 1 (7)).1 2 - 1), y') := by
      unfold fX1_pop
      simp only [eq_true c, eq_false c0, eq_false c1, eq_false c2, eq_false c3, eq_false c4, eq_false c5, eq_false c6, eq_true c7, ec, bd_s, jn_d, nm_d, if_true, if_false, not_true_eq_false, not_false_eq_true] <;> rfl
    refine ⟨_, y', E, s, t, ?_⟩
    rw [sI_s, sI_o _ _ (by decide), e2, m1]
  · obtain ⟨y', ec, s⟩ := q_copy (y := H 0) fu hc h6 x1
    have t : (sI (sI x8 1 (x8.1 1 - 1)) 2 ((sI x8 1 (x8.1 1 - 1)).1 2 - 1)).1 1 = nI 0 := by rw [sI_o _ _ (by decide), sI_s]; rw [e1]; decide
    have c : ¬ x8.1 1 = 0 := by rw [e1]; decide
    have c0 : (sI (sI x8 1 (x8.1 1 - 1)) 2 ((sI x8 1 (x8.1 1 - 1)).1 2 - 1)).1 1 = 0 := t
    have E : fX1_pop fu x8 (H 0) (H 1) (H 2) (H 3) (H 4) (H 5) (H 6) (H 7) x1 = some (sI (sI x8 1 (x8.1 1 - 1)) 2 ((sI x8 1 (x8.1 1 - 1)).1 2 - 1), y') := by
      unfold fX1_pop
      simp only [eq_false c, eq_true c0, ec, bd_s, jn_d, nm_d, if_true, if_false, not_true_eq_false, not_false_eq_true] <;> rfl
    refine ⟨_, y', E, s, t, ?_⟩
    rw [sI_s, sI_o _ _ (by decide), e2, m1]
  · obtain ⟨y', ec, s⟩ := q_copy (y := H 1) fu hc h6 x1
    have t : (sI (sI x8 1 (x8.1 1 - 1)) 2 ((sI x8 1 (x8.1 1 - 1)).1 2 - 1)).1 1 = nI 1 := by rw [sI_o _ _ (by decide), sI_s]; rw [e1]; decide
    have c : ¬ x8.1 1 = 0 := by rw [e1]; decide
    have c0 : ¬ (sI (sI x8 1 (x8.1 1 - 1)) 2 ((sI x8 1 (x8.1 1 - 1)).1 2 - 1)).1 1 = 0 := by rw [t]; decide
    have c1 : (sI (sI x8 1 (x8.1 1 - 1)) 2 ((sI x8 1 (x8.1 1 - 1)).1 2 - 1)).1 1 = 1 := t
    have E : fX1_pop fu x8 (H 0) (H 1) (H 2) (H 3) (H 4) (H 5) (H 6) (H 7) x1 = some (sI (sI x8 1 (x8.1 1 - 1)) 2 ((sI x8 1 (x8.1 1 - 1)).1 2 - 1), y') := by
      unfold fX1_pop
      simp only [eq_false c, eq_false c0, eq_true c1, ec, bd_s, jn_d, nm_d, if_true, if_false, not_true_eq_false, not_false_eq_true] <;> rfl
    refine ⟨_, y', E, s, t, ?_⟩
    rw [sI_s, sI_o _ _ (by decide), e2, m1]
  · obtain ⟨y', ec, s⟩ := q_copy (y := H 2) fu hc h6 x1
    have t : (sI (sI x8 1 (x8.1 1 - 1)) 2 ((sI x8 1 (x8.1 1 - 1)).1 2 - 1)).1 1 = nI 2 := by rw [sI_o _ _ (by decide), sI_s]; rw [e1]; decide
    have c : ¬ x8.1 1 = 0 := by rw [e1]; decide
    have c0 : ¬ (sI (sI x8 1 (x8.1 1 - 1)) 2 ((sI x8 1 (x8.1 1 - 1)).1 2 - 1)).1 1 = 0 := by rw [t]; decide
    have c1 : ¬ (sI (sI x8 1 (x8.1 1 - 1)) 2 ((sI x8 1 (x8.1 1 - 1)).1 2 - 1)).1 1 = 1 := by rw [t]; decide
    have c2 : (sI (sI x8 1 (x8.1 1 - 1)) 2 ((sI x8 1 (x8.1 1 - 1)).1 2 - 1)).1 1 = 2 := t
    have E : fX1_pop fu x8 (H 0) (H 1) (H 2) (H 3) (H 4) (H 5) (H 6) (H 7) x1 = some (sI (sI x8 1 (x8.1 1 - 1)) 2 ((sI x8 1 (x8.1 1 - 1)).1 2 - 1), y') := by
      unfold fX1_pop
      simp only [eq_false c, eq_false c0, eq_false c1, eq_true c2, ec, bd_s, jn_d, nm_d, if_true, if_false, not_true_eq_false, not_false_eq_true] <;> rfl
    refine ⟨_, y', E, s, t, ?_⟩
    rw [sI_s, sI_o _ _ (by decide), e2, m1]
  · obtain ⟨y', ec, s⟩ := q_copy (y := H 3) fu hc h6 x1
    have t : (sI (sI x8 1 (x8.1 1 - 1)) 2 ((sI x8 1 (x8.1 1 - 1)).1 2 - 1)).1 1 = nI 3 := by rw [sI_o _ _ (by decide), sI_s]; rw [e1]; decide
    have c : ¬ x8.1 1 = 0 := by rw [e1]; decide
    have c0 : ¬ (sI (sI x8 1 (x8.1 1 - 1)) 2 ((sI x8 1 (x8.1 1 - 1)).1 2 - 1)).1 1 = 0 := by rw [t]; decide
    have c1 : ¬ (sI (sI x8 1 (x8.1 1 - 1)) 2 ((sI x8 1 (x8.1 1 - 1)).1 2 - 1)).1 1 = 1 := by rw [t]; decide
    have c2 : ¬ (sI (sI x8 1 (x8.1 1 - 1)) 2 ((sI x8 1 (x8.1 1 - 1)).1 2 - 1)).1 1 = 2 := by rw [t]; decide
    have c3 : (sI (sI x8 1 (x8.1 1 - 1)) 2 ((sI x8 1 (x8.1 1 - 1)).1 2 - 1)).1 1 = 3 := t
    have E : fX1_pop fu x8 (H 0) (H 1) (H 2) (H 3) (H 4) (H 5) (H 6) (H 7) x1 = some (sI (sI x8 1 (x8.1 1 - 1)) 2 ((sI x8 1 (x8.1 1 - 1)).1 2 - 1), y') := by
      unfold fX1_pop
      simp only [eq_false c, eq_false c0, eq_false c1, eq_false c2, eq_true c3, ec, bd_s, jn_d, nm_d, if_true, if_false, not_true_eq_false, not_false_eq_true] <;> rfl
    refine ⟨_, y', E, s, t, ?_⟩
    rw [sI_s, sI_o _ _ (by decide), e2, m1]
  · obtain ⟨y', ec, s⟩ := q_copy (y := H 4) fu hc h6 x1
    have t : (sI (sI x8 1 (x8.1 1 - 1)) 2 ((sI x8 1 (x8.1 1 - 1)).1 2 - 1)).1 1 = nI 4 := by rw [sI_o _ _ (by decide), sI_s]; rw [e1]; decide
    have c : ¬ x8.1 1 = 0 := by rw [e1]; decide
    have c0 : ¬ (sI (sI x8 1 (x8.1 1 - 1)) 2 ((sI x8 1 (x8.1 1 - 1)).1 2 - 1)).1 1 = 0 := by rw [t]; decide
    have c1 : ¬ (sI (sI x8 1 (x8.1 1 - 1)) 2 ((sI x8 1 (x8.1 1 - 1)).1 2 - 1)).1 1 = 1 := by rw [t]; decide
    have c2 : ¬ (sI (sI x8 1 (x8.1 1 - 1)) 2 ((sI x8 1 (x8.1 1 - 1)).1 2 - 1)).1 1 = 2 := by rw [t]; decide
    have c3 : ¬ (sI (sI x8 1 (x8.1 1 - 1)) 2 ((sI x8 1 (x8.1 1 - 1)).1 2 - 1)).1 1 = 3 := by rw [t]; decide
    have c4 : (sI (sI x8 1 (x8.1 1 - 1)) 2 ((sI x8 1 (x8.1 1 - 1)).1 2 - 1)).1 1 = 4 := t
    have E : fX1_pop fu x8 (H 0) (H 1) (H 2) (H 3) (H 4) (H 5) (H 6) (H 7) x1 = some (sI (sI x8 1 (x8.1 1 - 1)) 2 ((sI x8 1 (x8.1 1 - 1)).1 2 - 1), y') := by
      unfold fX1_pop
      simp only [eq_false c, eq_false c0, eq_false c1, eq_false c2, eq_false c3, eq_true c4, ec, bd_s, jn_d, nm_d, if_true, if_false, not_true_eq_false, not_false_eq_true] <;> rfl
    refine ⟨_, y', E, s, t, ?_⟩
    rw [sI_s, sI_o _ _ (by decide), e2, m1]
  · obtain ⟨y', ec, s⟩ := q_copy (y := H 5) fu hc h6 x1
    have t : (sI (sI x8 1 (x8.1 1 - 1)) 2 ((sI x8 1 (x8.1 1 - 1)).1 2 - 1)).1 1 = nI 5 := by rw [sI_o _ _ (by decide), sI_s]; rw [e1]; decide
    have c : ¬ x8.1 1 = 0 := by rw [e1]; decide
    have c0 : ¬ (sI (sI x8 1 (x8.1 1 - 1)) 2 ((sI x8 1 (x8.1 1 - 1)).1 2 - 1)).1 1 = 0 := by rw [t]; decide
    have c1 : ¬ (sI (sI x8 1 (x8.1 1 - 1)) 2 ((sI x8 1 (x8.1 1 - 1)).1 2 - 1)).1 1 = 1 := by rw [t]; decide
    have c2 : ¬ (sI (sI x8 1 (x8.1 1 - 1)) 2 ((sI x8 1 (x8.1 1 - 1)).1 2 - 1)).1 1 = 2 := by rw [t]; decide
    have c3 : ¬ (sI (sI x8 1 (x8.1 1 - 1)) 2 ((sI x8 1 (x8.1 1 - 1)).1 2 - 1)).1 1 = 3 := by rw [t]; decide
    have c4 : ¬ (sI (sI x8 1 (x8.1 1 - 1)) 2 ((sI x8 1 (x8.1 1 - 1)).1 2 - 1)).1 1 = 4 := by rw [t]; decide
    have c5 : (sI (sI x8 1 (x8.1 1 - 1)) 2 ((sI x8 1 (x8.1 1 - 1)).1 2 - 1)).1 1 = 5 := t
    have E : fX1_pop fu x8 (H 0) (H 1) (H 2) (H 3) (H 4) (H 5) (H 6) (H 7) x1 = some (sI (sI x8 1 (x8.1 1 - 1)) 2 ((sI x8 1 (x8.1 1 - 1)).1 2 - 1), y') := by
      unfold fX1_pop
      simp only [eq_false c, eq_false c0, eq_false c1, eq_false c2, eq_false c3, eq_false c4, eq_true c5, ec, bd_s, jn_d, nm_d, if_true, if_false, not_true_eq_false, not_false_eq_true] <;> rfl
    refine ⟨_, y', E, s, t, ?_⟩
    rw [sI_s, sI_o _ _ (by decide), e2, m1]
  · obtain ⟨y', ec, s⟩ := q_copy (y := H 6) fu hc h6 x1
    have t : (sI (sI x8 1 (x8.1 1 - 1)) 2 ((sI x8 1 (x8.1 1 - 1)).1 2 - 1)).1 1 = nI 6 := by rw [sI_o _ _ (by decide), sI_s]; rw [e1]; decide
    have c : ¬ x8.1 1 = 0 := by rw [e1]; decide
    have c0 : ¬ (sI (sI x8 1 (x8.1 1 - 1)) 2 ((sI x8 1 (x8.1 1 - 1)).1 2 - 1)).1 1 = 0 := by rw [t]; decide
    have c1 : ¬ (sI (sI x8 1 (x8.1 1 - 1)) 2 ((sI x8 1 (x8.1 1 - 1)).1 2 - 1)).1 1 = 1 := by rw [t]; decide
    have c2 : ¬ (sI (sI x8 1 (x8.1 1 - 1)) 2 ((sI x8 1 (x8.1 1 - 1)).1 2 - 1)).1 1 = 2 := by rw [t]; decide
    have c3 : ¬ (sI (sI x8 1 (x8.1 1 - 1)) 2 ((sI x8 1 (x8.1 1 - 1)).1 2 - 1)).1 1 = 3 := by rw [t]; decide
    have c4 : ¬ (sI (sI x8 1 (x8.1 1 - 1)) 2 ((sI x8 1 (x8.1 1 - 1)).1 2 - 1)).1 1 = 4 := by rw [t]; decide
    have c5 : ¬ (sI (sI x8 1 (x8.1 1 - 1)) 2 ((sI x8 1 (x8.1 1 - 1)).1 2 - 1)).1 1 = 5 := by rw [t]; decide
    have c6 : (sI (sI x8 1 (x8.1 1 - 1)) 2 ((sI x8 1 (x8.1 1 - 1)).1 2 - 1)).1 1 = 6 := t
    have E : fX1_pop fu x8 (H 0) (H 1) (H 2) (H 3) (H 4) (H 5) (H 6) (H 7) x1 = some (sI (sI x8 1 (x8.1 1 - 1)) 2 ((sI x8 1 (x8.1 1 - 1)).1 2 - 1), y') := by
      unfold fX1_pop
      simp only [eq_false c, eq_false c0, eq_false c1, eq_false c2, eq_false c3, eq_false c4, eq_false c5, eq_true c6, ec, bd_s, jn_d, nm_d, if_true, if_false, not_true_eq_false, not_false_eq_true] <;> rfl
    refine ⟨_, y', E, s, t, ?_⟩
    rw [sI_s, sI_o _ _ (by decide), e2, m1]
/-- the class's ring x8, H beside the reference's past -/
def HI (x8 : OS) (H : Nat → OS) (z : OS) : Prop := ∃ d nx, d ≤ 8 ∧ nx < 8 ∧ x8.1 1 = nI nx ∧ x8.1 2 = nI d ∧ z.1 7 = nI d ∧ ∀ j, j < d → ∃ w c, QR w c (H ((nx + 8 - d + j) % 8)) (fun i => z.2 4 (j * 917 + i))
theorem HI.fr {x8 z z' : OS} {H : Nat → OS} (h : HI x8 H z) (e : z'.1 7 = z.1 7) (e4 : z'.2 4 = z.2 4) : HI x8 H z' := by
  unfold HI; rw [e, e4]; exact h
theorem upX_s (X : Nat → OS) (k : Nat) (y : OS) : upX X k y k = y := if_pos rfl
theorem upX_o (X : Nat → OS) {k j : Nat} (y : OS) (h : j ≠ k) : upX X k y j = X j := if_neg h
theorem HI_push {c fu : Nat} {x8 y z : OS} {H : Nat → OS} (hf : 5000 ≤ fu) (hi : HI x8 H z) (hc : y.1 7 = nI c) (h6 : c ≤ 60) : ∃ n x8' y', n < 8 ∧ fX1_push fu x8 (H 0) (H 1) (H 2) (H 3) (H 4) (H 5) (H 6) (H 7) y = some (x8', upX H n y' 0, upX H n y' 1, upX H n y' 2, upX H n y' 3, upX H n y' 4, upX H n y' 5, upX H n y' 6, upX H n y' 7) ∧ ∀ (z1 : OS) (r : Int32) (w : Nat), z1.1 7 = z.1 7 → z1.2 4 = z.2 4 → QR w c y (z1.2 2) → ∃ z', fX9_records fu z1 r = some (r, z') ∧ SR z1 z' ∧ HI x8' (upX H n y') z' := by
  obtain ⟨d, nx, hd, hn, e1, e2, e3, hr⟩ := hi
  obtain ⟨x8', y', e, s, f1, f2⟩ := q_push (fu := fu) H hc h6 hn hd e1 e2
  refine ⟨nx, x8', y', hn, e, fun z1 r w g7 g4 hq => ?_⟩
  obtain ⟨z', ez, sr, cs⟩ := m_rec hf z1 hd (g7.trans e3) r
  refine ⟨z', ez, sr, ?_⟩
  rcases cs with ⟨h8, k7, k1, k2⟩ | ⟨h8, k7, k1, k2⟩
  · rw [if_neg (show ¬ d = 8 by omega)] at f2
    refine ⟨d + 1, (nx + 1) % 8, by omega, by omega, f1, f2, k7, fun j hj => ?_⟩
    by_cases q : j = d
    · subst q
      refine ⟨w, c, ?_⟩
      rw [show ((nx + 1) % 8 + 8 - (j + 1) + j) % 8 = nx by omega, upX_s]
      exact (hq.sx s).cong (fun i hi => k2 i (reg_lt h6 hi))
    · obtain ⟨w', c', h'⟩ := hr j (by omega)
      refine ⟨w', c', ?_⟩
      rw [show ((nx + 1) % 8 + 8 - (d + 1) + j) % 8 = (nx + 8 - d + j) % 8 by omega, upX_o _ _ (by omega)]
      exact h'.cong (fun i hi => by
        show z'.2 4 (j * 917 + i) = z.2 4 (j * 917 + i)
        rw [k1 j i (by omega) (reg_lt h'.c60 hi), g4])
  · subst h8
    rw [if_pos rfl] at f2
    refine ⟨8, (nx + 1) % 8, by omega, by omega, f1, f2, k7, fun j hj => ?_⟩
    by_cases q : j = 7
    · subst q
      refine ⟨w, c, ?_⟩
      rw [show ((nx + 1) % 8 + 8 - 8 + 7) % 8 = nx by omega, upX_s]
      exact (hq.sx s).cong (fun i hi => k2 i (reg_lt h6 hi))
    · obtain ⟨w', c', h'⟩ := hr (j + 1) (by omega)
      refine ⟨w', c', ?_⟩
      rw [show ((nx + 1) % 8 + 8 - 8 + j) % 8 = (nx + 8 - 8 + (j + 1)) % 8 by omega, upX_o _ _ (by omega)]
      exact h'.cong (fun i hi => by
        show z'.2 4 (j * 917 + i) = z.2 4 ((j + 1) * 917 + i)
        rw [k1 j i (by omega) (reg_lt h'.c60 hi), g4])
theorem HI_pop {fu : Nat} {x8 x1 z : OS} {H : Nat → OS} (hf : 5000 ≤ fu) (hi : HI x8 H z) (hne : ¬ z.1 7 = 0) : ¬ x8.1 2 = 0 ∧ ∃ x8' y' d w c y, fX1_pop fu x8 (H 0) (H 1) (H 2) (H 3) (H 4) (H 5) (H 6) (H 7) x1 = some (x8', y') ∧ x8'.1 2 = nI d ∧ z.1 7 - 1 = nI d ∧ fX9_copies_two fu 7336 (z.2 4) 917 (z.2 1) (nI d) 0 = some y ∧ QR w c y' y ∧ ∀ z', z'.1 7 = nI d → z'.2 4 = z.2 4 → HI x8' H z' := by
  obtain ⟨d, nx, hd, hn, e1, e2, e3, hr⟩ := hi
  have d0 : d ≠ 0 := fun q => hne (by rw [e3, q]; rfl)
  obtain ⟨u, rfl⟩ : ∃ u, d = u + 1 := ⟨d - 1, by omega⟩
  obtain ⟨w, c, hq⟩ := hr u (by omega)
  rw [show (nx + 8 - (u + 1) + u) % 8 = (nx + 7) % 8 by omega] at hq
  obtain ⟨x8', y', e, s, f1, f2⟩ := q_unpast (fu := fu) (x1 := x1) H hn (by omega) e1 e2 hq.xc hq.c60
  obtain ⟨y, ey, y1, y2⟩ := m_copy (m1 := 7336) (m2 := 917) (a := u) (b := 0) (fu := fu) (z.2 4) (z.2 1) (by omega) (by omega) (by omega) (by omega) hf
  refine ⟨by rw [e2, ← e3]; exact hne, x8', y', u, w, c, y, e, f2, ?_, ey, ?_, fun z' h7 h4 => ?_⟩
  · rw [e3]; exact pk_sub (a := u + 1) (b := 1) (by omega)
  · refine (hq.sx s).cong (fun i hi => ?_)
    have := y1 i (reg_lt hq.c60 hi)
    rw [Nat.zero_mul, Nat.zero_add] at this
    exact this
  · refine ⟨u, (nx + 7) % 8, by omega, by omega, f1, f2, h7, fun j hj => ?_⟩
    obtain ⟨w', c', h'⟩ := hr j (by omega)
    refine ⟨w', c', ?_⟩
    rw [h4, show ((nx + 7) % 8 + 8 - u + j) % 8 = (nx + 8 - (u + 1) + j) % 8 by omega]
    exact h'
