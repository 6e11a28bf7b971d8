/-! Part II: the reduction, a variable negated, rows copied, on both sides. -/
def vk (k : Nat) : Int32 := nI k - 1
theorem vk_s (k : Nat) : vk (k + 1) = nI k := nI_pred k
theorem vk_0 : vk 0 = -1 := by decide
theorem vk_p (k : Nat) : nI k + (-1) = vk k := by unfold vk; rw [Int32.sub_eq_add_neg]
def red (x : OS) (c k : Nat) : Bool := !par x c k && sb x c k
def lr (p : Nat → Bool) : Nat → Int32
  | 0 => -1
  | k + 1 => if p k = true then nI k else lr p k
theorem q_last_l {x : OS} {c fu : Nat} (hc : x.1 7 = nI c) (h6 : c ≤ 60) (hf : 5000 ≤ fu) : ∀ (k n : Nat), k ≤ c → k < n → lX0_lastToReduce_7 fu x (some (-1)) n (vk k) = some (lr (red x c) k) := by
  intro k
  induction k with
  | zero =>
    intro n h1 h2
    obtain ⟨n, rfl⟩ : ∃ m, n = m + 1 := ⟨n - 1, by omega⟩
    rw [lX0_lastToReduce_7, vk_0, if_pos (by decide)]; rfl
  | succ k ih =>
    intro n h1 h2
    obtain ⟨n, rfl⟩ : ∃ m, n = m + 1 := ⟨n - 1, by omega⟩
    have ih := ih n (by omega) (by omega)
    rw [lX0_lastToReduce_7, vk_s, if_neg (nI_pos (by omega)), q_isParent hc h6 hf, bd_s, jn_d, nm_d, vk_p, ih, q_subsumer hc h6 hf (a := k) (by omega), bd_s]
    simp only [b2_0, sb_ff x h6]
    show _ = some (if (!par x c k && sb x c k) = true then nI k else lr (red x c) k)
    unfold par
    rcases Bool.eq_false_or_eq_true (ex (fun i => decide (x.2 2 i = nI k) || decide (x.2 3 i = nI k)) c 0) with hh | hh
    · simp [hh]
    · rcases Bool.eq_false_or_eq_true (sb x c k) with h3 | h3 <;> simp [hh, h3]
theorem q_last {x : OS} {c fu : Nat} (hc : x.1 7 = nI c) (h6 : c ≤ 60) (hf : 5000 ≤ fu) : fX0_lastToReduce fu x = some (lr (red x c) c) := by
  unfold fX0_lastToReduce
  rw [hc]
  exact q_last_l hc h6 hf c fu (Nat.le_refl c) (by omega)
theorem lr_down {p : Nat → Bool} {k : Nat} : ∀ {c : Nat}, k ≤ c → (∀ i, k ≤ i → i < c → p i = false) → lr p c = lr p k
  | 0, h, _ => by rw [show k = 0 by omega]
  | c + 1, h, f => by
    by_cases e : k = c + 1
    · rw [e]
    · rw [lr, f c (by omega) (by omega)]
      exact lr_down (by omega) (fun i a b => f i a (by omega))
/-- reductions of both sides, in step -/
theorem q_reduce_l {w fu : Nat} (hf : 5000 ≤ fu) : ∀ (nM c k dr nC : Nat) (x z : OS), QR w c x (z.2 1) → k ≤ c → (∀ i, k ≤ i → i < c → red x c i = false) → k + c * 61 < nM → c < nC → dr + c ≤ 60 →
    ∃ r c' x' z', lX0_removeSubsumed_7 fu (fun a b => some (a, b)) nC (nI dr) (lr (red x c) c) x = some (nI r, x') ∧ lX9_reduces_9 fu (fun a b => some (a, b)) nM (nI dr) (vk k) z = some (nI r, z') ∧ JA z z' ∧ QR w c' x' (z'.2 1) := by
  intro nM
  induction nM with
  | zero => intro c k dr nC x z h1 h2 h3 h4; omega
  | succ nM ih =>
    intro c k dr nC x z h hk hr hM hC hdr
    have h6 := h.c60
    cases k with
    | zero =>
      obtain ⟨nC, rfl⟩ : ∃ m, nC = m + 1 := ⟨nC - 1, by omega⟩
      refine ⟨dr, c, x, z, ?_, ?_, JA.rf, h⟩
      · rw [lr_down (k := 0) (by omega) (fun i a b => hr i a b), lX0_removeSubsumed_7, show lr (red x c) 0 = -1 from rfl, if_pos rfl]
      · rw [lX9_reduces_9, vk_0, if_pos (by decide)]
    | succ k =>
      have ip := m_isParent h hf (a := k) (by omega)
      have isb := m_isSubsumed h hf (a := k) (by omega)
      have stay : red x c k = false → ∃ r c' x' z', lX0_removeSubsumed_7 fu (fun a b => some (a, b)) nC (nI dr) (lr (red x c) c) x = some (nI r, x') ∧ lX9_reduces_9 fu (fun a b => some (a, b)) nM (nI dr) (vk k) z = some (nI r, z') ∧ JA z z' ∧ QR w c' x' (z'.2 1) :=
        fun hk2 => ih c k dr nC x z h (by omega) (fun i a b => by
          by_cases g : i = k
          · subst g; exact hk2
          · exact hr i (by omega) b) (by omega) hC hdr
      rw [lX9_reduces_9, vk_s, if_neg (nI_pos (by omega)), ip, bd_s, jn_d]
      simp only [b2_0, nm_d, vk_p, isb, bd_s]
      rcases Bool.eq_false_or_eq_true (par x c k) with hh | hh
      · have hh' := hh
        unfold par at hh'
        simp only [hh', Bool.true_eq_false, not_false_eq_true, if_true]
        exact stay (by unfold red; rw [hh]; rfl)
      · have hh' := hh
        unfold par at hh'
        simp only [hh', not_true_eq_false, if_false]
        rcases Bool.eq_false_or_eq_true (sb x c k) with h3 | h3
        · simp only [h3, Bool.true_eq_false, if_false]
          have hrd : red x c k = true := by unfold red; rw [hh, h3]; rfl
          obtain ⟨x1, z1, e1, e2, j1, rl1⟩ := RL_drop h hf (a := k) (by omega) hh
          obtain ⟨nC, rfl⟩ : ∃ m, nC = m + 1 := ⟨nC - 1, by omega⟩
          obtain ⟨r, c', x', z', g1, g2, g3, g4⟩ := ih (c - 1) (c - 1) (dr + 1) nC x1 z1 rl1 (Nat.le_refl _) (fun i a b => absurd b (by omega)) (by omega) (by omega) (by omega)
          refine ⟨r, c', x', z', ?_, ?_, j1.tr g3, g4⟩
          · have hl : lr (red x c) c = nI k := by
              rw [lr_down (k := k + 1) (by omega) hr, lr, if_pos hrd]
            rw [hl, lX0_removeSubsumed_7, if_neg (fun e => (nI_m1 (a := k) (by omega)).mp e), L60, if_neg (nI_ge (by omega) (by omega)), e1, bd_s, nm_d, nI_1, q_last rl1.xc rl1.c60 hf, bd_s]
            exact g1
          · rw [e2]
            simp only [bd_s, many_e rl1.mc, nI_1, vk_p]
            exact g2
        · simp only [h3, if_true]
          exact stay (by unfold red; rw [h3, Bool.and_false])
theorem q_reduce {w c fu : Nat} {x z : OS} (h : QR w c x (z.2 1)) (hf : 5000 ≤ fu) : ∃ r c' x' z', fX0_removeSubsumed fu x = some (nI r, x') ∧ fX9_reduces fu z = some (nI r, z') ∧ JA z z' ∧ QR w c' x' (z'.2 1) := by
  have h6 := h.c60
  obtain ⟨r, c', x', z', g1, g2, g3, g4⟩ := q_reduce_l hf fu c c 0 fu x z h (Nat.le_refl c) (fun i a b => absurd b (by omega)) (by omega) (by omega) (by omega)
  refine ⟨r, c', x', z', ?_, ?_, g3, g4⟩
  · unfold fX0_removeSubsumed
    rw [q_last h.xc h6 hf]
    exact g1
  · unfold fX9_reduces
    rw [many_e h.mc]
    exact g2
/-! a variable negated -/
def ngP (b p q : Int32) : Int32 := p ^^^ ((p ^^^ q) &&& b)
def ngQ (b p q : Int32) : Int32 := q ^^^ ((p ^^^ q) &&& b)
def bit (v : Nat) : Int32 := (1 : Int32) <<< (nI v &&& 31)
theorem ngP_bt {p q : Int32} {v u : Nat} (hv : v < 32) : bt (ngP (bit v) p q) u = if u = v then bt q u else bt p u := by
  unfold ngP bit
  rw [b_xor, b_and, b_xor, bt_bit hv]
  by_cases e : u = v
  · subst e; rw [if_pos rfl, decide_eq_true rfl]; cases bt p u <;> cases bt q u <;> rfl
  · rw [if_neg e, decide_eq_false e]; cases bt p u <;> cases bt q u <;> rfl
theorem ngQ_bt {p q : Int32} {v u : Nat} (hv : v < 32) : bt (ngQ (bit v) p q) u = if u = v then bt p u else bt q u := by
  unfold ngQ bit
  rw [b_xor, b_and, b_xor, bt_bit hv]
  by_cases e : u = v
  · subst e; rw [if_pos rfl, decide_eq_true rfl]; cases bt p u <;> cases bt q u <;> rfl
  · rw [if_neg e, decide_eq_false e]; cases bt p u <;> cases bt q u <;> rfl
theorem ng_ok {w v : Nat} {p q : Int32} (ok : OKm w p q) (hv : v < w) (h12 : w ≤ 12) : OKm w (ngP (bit v) p q) (ngQ (bit v) p q) := by
  refine ⟨fun u hu => ?_, fun u hu => ?_, fun u hu => ?_⟩
  · rw [ngP_bt (by omega), if_neg (by omega)]; exact ok.1 u hu
  · rw [ngQ_bt (by omega), if_neg (by omega)]; exact ok.2.1 u hu
  · rw [ngP_bt (by omega)] at hu
    rw [ngQ_bt (by omega)]
    have := ok.2.2 u
    by_cases e : u = v
    · rw [if_pos e] at hu ⊢
      cases a : bt p u
      · rfl
      · rw [this a] at hu; cases hu
    · rw [if_neg e] at hu ⊢; exact this hu
theorem SG_ng {w v : Nat} {p q : Int32} (ok : OKm w p q) (hv : v < 32) (u : Nat) : SG (ngP (bit v) p q) (ngQ (bit v) p q) u = if u = v then (if SG p q u = 0 then 0 else 3 - SG p q u) else SG p q u := by
  have o := ok.2.2 u
  unfold SG
  rw [ngP_bt hv, ngQ_bt hv]
  by_cases e : u = v
  · simp only [e, if_true]
    rw [e] at o
    cases a1 : bt p v <;> cases a2 : bt q v <;> simp_all
  · simp only [e, if_false]
def XN (x : OS) (v k : Nat) (z : OS) : Prop := z.1 6 = x.1 6 ∧ z.1 7 = x.1 7 ∧ (∀ i, i < k → z.2 0 i = ngP (bit v) (x.2 0 i) (x.2 1 i) ∧ z.2 1 i = ngQ (bit v) (x.2 0 i) (x.2 1 i) ∧ z.2 2 i = (if x.2 4 i = nI v then x.2 3 i else x.2 2 i) ∧ z.2 3 i = (if x.2 4 i = nI v then x.2 2 i else x.2 3 i) ∧ z.2 4 i = x.2 4 i ∧ z.2 5 i = x.2 5 i) ∧ ∀ i, k ≤ i → z.2 0 i = x.2 0 i ∧ z.2 1 i = x.2 1 i ∧ z.2 2 i = x.2 2 i ∧ z.2 3 i = x.2 3 i ∧ z.2 4 i = x.2 4 i ∧ z.2 5 i = x.2 5 i
theorem q_negate_l {x : OS} {c v : Nat} (hc : x.1 7 = nI c) (h6 : c ≤ 60) : ∀ (d k n : Nat) (z : OS), k + d = c → d < n → XN x v k z → ∃ z', lX0_negate_6 (nI v) (bit v) (fun z => some z) n (nI k) z = some z' ∧ XN x v c z' := by
  intro d
  induction d with
  | zero =>
    intro k n z h1 h2 h3
    obtain ⟨n, rfl⟩ : ∃ m, n = m + 1 := ⟨n - 1, by omega⟩
    have h1 : k = c := h1
    subst h1
    refine ⟨z, ?_, h3⟩
    rw [lX0_negate_6, h3.2.1, hc, if_pos (nI_le (by omega) (by omega))]
  | succ d ih =>
    intro k n z h1 h2 ⟨i6, i7, ia, ib⟩
    obtain ⟨n, rfl⟩ : ∃ m, n = m + 1 := ⟨n - 1, by omega⟩
    obtain ⟨b0, b1, b2', b3, b4, b5⟩ := ib k (by omega)
    have e : ¬ c ≤ k := by omega
    have key : ∀ z2 : OS, z2.1 = z.1 → z2.2 0 = upd (z.2 0) k (ngP (bit v) (x.2 0 k) (x.2 1 k)) → z2.2 1 = upd (z.2 1) k (ngQ (bit v) (x.2 0 k) (x.2 1 k)) → z2.2 2 k = (if x.2 4 k = nI v then x.2 3 k else x.2 2 k) → z2.2 3 k = (if x.2 4 k = nI v then x.2 2 k else x.2 3 k) → (∀ i, i ≠ k → z2.2 2 i = z.2 2 i ∧ z2.2 3 i = z.2 3 i) → z2.2 4 = z.2 4 → z2.2 5 = z.2 5 → ∃ z', lX0_negate_6 (nI v) (bit v) (fun z => some z) n (nI (k + 1)) z2 = some z' ∧ XN x v c z' := by
      intro z2 e1 f0 f1 f2 f3 f23 f4 f5
      refine ih (k + 1) n z2 (by omega) (by omega) ⟨by rw [e1]; exact i6, by rw [e1]; exact i7, fun i hi => ?_, fun i hi => ?_⟩
      · rw [f0, f1, f4, f5]
        by_cases g : i = k
        · subst g
          rw [pk_us, pk_us, f2, f3]
          exact ⟨rfl, rfl, rfl, rfl, b4, b5⟩
        · rw [pk_un g, pk_un g, (f23 i g).1, (f23 i g).2]
          exact ia i (by omega)
      · rw [f0, f1, f4, f5, pk_un (by omega), pk_un (by omega), (f23 i (by omega)).1, (f23 i (by omega)).2]
        exact ib i (by omega)
    rw [lX0_negate_6]
    simp (disch := omega) only [i7, hc, nI_leI, e, if_false, inB_I, gd_t, nI_clamp, nm_d, jn_d, sA_s, sA_o, sA_1, b0, b1, b2', b3, b4, b5, nI_1, ne_eq, not_false_eq_true]
    by_cases g1 : x.2 4 k = nI v
    · simp (disch := omega) only [g1, not_true_eq_false, if_false, sA_s, sA_o, sA_1, ne_eq, not_false_eq_true]
      apply key
      · rfl
      · simp (disch := omega) only [sA_s, sA_o, ne_eq, not_false_eq_true]; rfl
      · simp (disch := omega) only [sA_s, sA_o, ne_eq, not_false_eq_true]; rfl
      · simp (disch := omega) only [sA_s, sA_o, ne_eq, not_false_eq_true, pk_us, g1, if_true]
      · simp (disch := omega) only [sA_s, sA_o, ne_eq, not_false_eq_true, pk_us, g1, if_true]
      · intro i hi
        simp (disch := omega) only [sA_s, sA_o, ne_eq, not_false_eq_true, pk_un hi, and_self]
      · simp (disch := omega) only [sA_s, sA_o, ne_eq, not_false_eq_true]
      · simp (disch := omega) only [sA_s, sA_o, ne_eq, not_false_eq_true]
    · simp (disch := omega) only [g1, if_true, not_false_eq_true]
      apply key
      · rfl
      · simp (disch := omega) only [sA_s, sA_o, ne_eq, not_false_eq_true]; rfl
      · simp (disch := omega) only [sA_s, sA_o, ne_eq, not_false_eq_true]; rfl
      · simp (disch := omega) only [sA_s, sA_o, ne_eq, not_false_eq_true, g1, if_false, b2']
      · simp (disch := omega) only [sA_s, sA_o, ne_eq, not_false_eq_true, g1, if_false, b3]
      · intro i hi
        simp (disch := omega) only [sA_s, sA_o, ne_eq, not_false_eq_true, and_self]
      · simp (disch := omega) only [sA_s, sA_o, ne_eq, not_false_eq_true]
      · simp (disch := omega) only [sA_s, sA_o, ne_eq, not_false_eq_true]
theorem q_negate {x : OS} {c v fu : Nat} (hc : x.1 7 = nI c) (h6 : c ≤ 60) (hf : 5000 ≤ fu) : ∃ z', fX0_negate fu x (nI v) = some z' ∧ XN x v c z' :=
  q_negate_l hc h6 c 0 fu x (by omega) (by omega) ⟨rfl, rfl, fun i hi => absurd hi (by omega), fun i _ => ⟨rfl, rfl, rfl, rfl, rfl, rfl⟩⟩
/-- the reference's numbers, k clauses done -/
def MN (x : OS) (m : Nat → Int32) (c v k : Nat) (m' : Nat → Int32) : Prop := m' 0 = m 0 ∧ m' 1 = m 1 ∧ (∀ i, i < k → Row m' i (ngP (bit v) (x.2 0 i) (x.2 1 i)) (ngQ (bit v) (x.2 0 i) (x.2 1 i)) ∧ m' (734 + i) = (if x.2 4 i = nI v then x.2 3 i else x.2 2 i) ∧ m' (795 + i) = (if x.2 4 i = nI v then x.2 2 i else x.2 3 i)) ∧ (∀ i, k ≤ i → i < c → Row m' i (x.2 0 i) (x.2 1 i) ∧ m' (734 + i) = x.2 2 i ∧ m' (795 + i) = x.2 3 i) ∧ ∀ i, i < c → m' (856 + i) = x.2 4 i
theorem m_negates_l {w c v fu : Nat} {x z : OS} (h : QR w c x (z.2 1)) (hf : 5000 ≤ fu) (hv : v < w) : ∀ (d k n : Nat) (acc : Int32) (z1 : OS), k + d = c → d < n → JA z z1 → MN x (z.2 1) c v k (z1.2 1) → ∃ z', lX9_negates_4 fu (nI v) (fun a b => some (a, b)) n acc (nI k) z1 = some (acc + cn (fun i => bt (x.2 0 i) v || bt (x.2 1 i) v) d k, z') ∧ JA z z' ∧ MN x (z.2 1) c v c (z'.2 1) := by
  have h6 := h.c60
  have h12 := h.w12
  intro d
  induction d with
  | zero =>
    intro k n acc z1 h1 h2 h3 h4
    obtain ⟨n, rfl⟩ : ∃ m, n = m + 1 := ⟨n - 1, by omega⟩
    have h1 : k = c := h1
    subst h1
    refine ⟨z1, ?_, h3, h4⟩
    rw [lX9_negates_4, many_e (h4.2.1.trans h.mc), bd_s, if_pos (nI_le (by omega) (by omega)), cn, Int32.add_zero]
  | succ d ih =>
    intro k n acc z1 h1 h2 h3 ⟨m0, m1, ma, mb, m856⟩
    obtain ⟨n, rfl⟩ : ∃ m, n = m + 1 := ⟨n - 1, by omega⟩
    have e : ¬ c ≤ k := by omega
    obtain ⟨rk, f1, f2⟩ := mb k (by omega) (by omega)
    have f3 := m856 k (by omega)
    have ok := h.ok (k := k) (by omega)
    have key : ∀ (z2 : OS) (acc2 : Int32), JA z1 z2 → acc2 = acc + (if (bt (x.2 0 k) v || bt (x.2 1 k) v) = true then 1 else 0) → z2.2 1 (2 + k * 12 + v) = SG (ngP (bit v) (x.2 0 k) (x.2 1 k)) (ngQ (bit v) (x.2 0 k) (x.2 1 k)) v → z2.2 1 (734 + k) = (if x.2 4 k = nI v then x.2 3 k else x.2 2 k) → z2.2 1 (795 + k) = (if x.2 4 k = nI v then x.2 2 k else x.2 3 k) → (∀ i, i ≠ 2 + k * 12 + v → i ≠ 734 + k → i ≠ 795 + k → z2.2 1 i = z1.2 1 i) → ∃ z', lX9_negates_4 fu (nI v) (fun a b => some (a, b)) n acc2 (nI (k + 1)) z2 = some (acc + cn (fun i => bt (x.2 0 i) v || bt (x.2 1 i) v) (d + 1) k, z') ∧ JA z z' ∧ MN x (z.2 1) c v c (z'.2 1) := by
      intro z2 acc2 j2 ea g1 g2 g3 g4
      subst ea
      have A : ∀ i, i < k + 1 → Row (z2.2 1) i (ngP (bit v) (x.2 0 i) (x.2 1 i)) (ngQ (bit v) (x.2 0 i) (x.2 1 i)) ∧ z2.2 1 (734 + i) = (if x.2 4 i = nI v then x.2 3 i else x.2 2 i) ∧ z2.2 1 (795 + i) = (if x.2 4 i = nI v then x.2 2 i else x.2 3 i) := by
        intro i hi
        by_cases g : i = k
        · subst g
          refine ⟨fun u hu => ?_, g2, g3⟩
          by_cases g5 : u = v
          · subst g5; exact g1
          · rw [g4 _ (by omega) (by omega) (by omega), rk u hu, SG_ng ok (by omega), if_neg g5]
        · obtain ⟨q1, q2, q3⟩ := ma i (by omega)
          refine ⟨fun u hu => ?_, ?_, ?_⟩
          · rw [g4 _ (by omega) (by omega) (by omega)]; exact q1 u hu
          · rw [g4 _ (by omega) (by omega) (by omega)]; exact q2
          · rw [g4 _ (by omega) (by omega) (by omega)]; exact q3
      have B : ∀ i, k + 1 ≤ i → i < c → Row (z2.2 1) i (x.2 0 i) (x.2 1 i) ∧ z2.2 1 (734 + i) = x.2 2 i ∧ z2.2 1 (795 + i) = x.2 3 i := by
        intro i hi hi2
        obtain ⟨q1, q2, q3⟩ := mb i (by omega) hi2
        refine ⟨fun u hu => ?_, ?_, ?_⟩
        · rw [g4 _ (by omega) (by omega) (by omega)]; exact q1 u hu
        · rw [g4 _ (by omega) (by omega) (by omega)]; exact q2
        · rw [g4 _ (by omega) (by omega) (by omega)]; exact q3
      have C : ∀ i, i < c → z2.2 1 (856 + i) = x.2 4 i := fun i hi => by rw [g4 _ (by omega) (by omega) (by omega)]; exact m856 i hi
      obtain ⟨z', k1, k2⟩ := ih (k + 1) n (acc + (if (bt (x.2 0 k) v || bt (x.2 1 k) v) = true then 1 else 0)) z2 (by omega) (by omega) (h3.tr j2) ⟨by rw [g4 0 (by omega) (by omega) (by omega)]; exact m0, by rw [g4 1 (by omega) (by omega) (by omega)]; exact m1, A, B, C⟩
      refine ⟨z', ?_, k2⟩
      rw [k1, cn, Int32.add_assoc]
    have sgv := SG_ng ok (v := v) (by omega) v
    rw [if_pos rfl] at sgv
    have s0 := SG_0 (x.2 0 k) (x.2 1 k) v
    rw [lX9_negates_4]
    simp (disch := omega) only [many_e (m1.trans h.mc), bd_s, nI_leI, e, if_false, sign_r rk, jn_d, nm_d, puts_e, L734, L795, L856, nI_add, inB_I, gd_t, nI_clamp, sA_s, pk_un, f1, f2, f3, nI_1]
    by_cases a1 : SG (x.2 0 k) (x.2 1 k) v = 0
    · have a2 := s0.mp a1
      rw [if_pos a1] at sgv
      simp only [a1, not_true_eq_false, if_false]
      by_cases g1 : x.2 4 k = nI v
      · simp only [g1, not_true_eq_false, if_false]
        apply key
        · exact ((JA.sa _ _).tr (JA.sa _ _)).tr (JA.sa _ _)
        · rw [a2, if_neg (by decide)]
        · simp (disch := omega) only [sA_s, pk_un, pk_us, sgv]
        · simp (disch := omega) only [sA_s, pk_un, pk_us, g1, if_true]
        · simp (disch := omega) only [sA_s, pk_un, pk_us, g1, if_true]
        · intro i i1 i2 i3
          simp only [sA_s, pk_un i1, pk_un i2, pk_un i3]
      · simp only [g1, not_false_eq_true, if_true]
        apply key
        · exact JA.sa _ _
        · rw [a2, if_neg (by decide)]
        · simp (disch := omega) only [sA_s, pk_un, pk_us, sgv]
        · simp (disch := omega) only [sA_s, pk_un, pk_us, g1, if_false, f1]
        · simp (disch := omega) only [sA_s, pk_un, pk_us, g1, if_false, f2]
        · intro i i1 i2 i3
          simp only [sA_s, pk_un i1]
    · have a2 : (bt (x.2 0 k) v || bt (x.2 1 k) v) = true := by
        rcases Bool.eq_false_or_eq_true (bt (x.2 0 k) v || bt (x.2 1 k) v) with q | q
        · exact q
        · exact absurd (s0.mpr q) a1
      rw [if_neg a1] at sgv
      simp only [a1, not_false_eq_true, if_true]
      by_cases g1 : x.2 4 k = nI v
      · simp only [g1, not_true_eq_false, if_false]
        apply key
        · exact ((JA.sa _ _).tr (JA.sa _ _)).tr (JA.sa _ _)
        · rw [a2, if_pos rfl]
        · simp (disch := omega) only [sA_s, pk_un, pk_us, sgv]
        · simp (disch := omega) only [sA_s, pk_un, pk_us, g1, if_true]
        · simp (disch := omega) only [sA_s, pk_un, pk_us, g1, if_true]
        · intro i i1 i2 i3
          simp only [sA_s, pk_un i1, pk_un i2, pk_un i3]
      · simp only [g1, not_false_eq_true, if_true]
        apply key
        · exact JA.sa _ _
        · rw [a2, if_pos rfl]
        · simp (disch := omega) only [sA_s, pk_un, pk_us, sgv]
        · simp (disch := omega) only [sA_s, pk_un, pk_us, g1, if_false, f1]
        · simp (disch := omega) only [sA_s, pk_un, pk_us, g1, if_false, f2]
        · intro i i1 i2 i3
          simp only [sA_s, pk_un i1]
theorem RL_negate {w c v fu : Nat} {x z : OS} (h : QR w c x (z.2 1)) (hf : 5000 ≤ fu) (hv : v < w) : ∃ x' z', fX0_negate fu x (nI v) = some x' ∧ fX9_negates fu z (nI v) = some (cn (fun i => bt (x.2 0 i) v || bt (x.2 1 i) v) c 0, z') ∧ JA z z' ∧ QR w c x' (z'.2 1) ∧ XN x v c x' := by
  have h6 := h.c60
  obtain ⟨x', e1, xn⟩ := q_negate (v := v) h.xc h6 hf
  obtain ⟨z', e2, j, mn⟩ := m_negates_l h hf hv c 0 fu 0 z (by omega) (by omega) JA.rf ⟨rfl, rfl, fun i hi => absurd hi (by omega), fun i _ hi => ⟨h.row hi, h.fst hi, h.snd hi⟩, fun i hi => h.by hi⟩
  rw [z_add] at e2
  refine ⟨x', z', e1, e2, j, ?_, xn⟩
  obtain ⟨x6, x7, k, -⟩ := xn
  obtain ⟨m0, m1, ma, -, m8⟩ := mn
  refine ⟨⟨h.w1, h.w12, h6, x6.trans h.xw, x7.trans h.xc, m0.trans h.mw, m1.trans h.mc⟩, fun i hi => ?_, fun i hi => ?_, fun i hi => ?_, fun i hi => ?_⟩
  · rw [(k i hi).1, (k i hi).2.1]; exact ng_ok (h.ok hi) hv h.w12
  · rw [(k i hi).1, (k i hi).2.1]; exact (ma i hi).1
  · rw [(ma i hi).2.1, (ma i hi).2.2, m8 i hi, (k i hi).2.2.1, (k i hi).2.2.2.1, (k i hi).2.2.2.2.1]; exact ⟨rfl, rfl, rfl⟩
  · obtain ⟨-, -, k2, k3, k4, k5⟩ := k i hi
    rcases h.pw hi with ⟨p1, p2, p3, p4⟩ | ⟨u, A, B, hu, hA, hB, p1, p2, p3, p4⟩
    · left
      rw [k2, k3, k4, k5, p1, p2, p3, p4, if_neg (fun e => (nI_m1 (a := v) (by have := h.w12; omega)).mp e.symm)]
      exact ⟨rfl, rfl, rfl, rfl⟩
    · right
      by_cases g : x.2 4 i = nI v
      · rw [if_pos g] at k2 k3
        refine ⟨u, B, A, hu, hB, hA, k4.trans p1, k2.trans p3, k3.trans p2, ?_⟩
        rw [k5, p4, (k A (by omega)).2.2.2.2.2, (k B (by omega)).2.2.2.2.2, max_sym]
      · rw [if_neg g] at k2 k3
        refine ⟨u, A, B, hu, hA, hB, k4.trans p1, k2.trans p2, k3.trans p3, ?_⟩
        rw [k5, p4, (k A (by omega)).2.2.2.2.2, (k B (by omega)).2.2.2.2.2]
/-- the class counts what the reference counted -/
theorem q_negCount {w c v : Nat} {x x' : OS} {m : Nat → Int32} (h : QR w c x m) (hv : v < w) (xn : XN x v c x') : cn (fun i => !decide ((x'.2 0 i &&& bit v) = 0) || !decide ((x'.2 1 i &&& bit v) = 0)) c 0 = cn (fun i => bt (x.2 0 i) v || bt (x.2 1 i) v) c 0 := by
  have h12 := h.w12
  refine cn_c (fun i _ hi => ?_)
  obtain ⟨k0, k1, -⟩ := xn.2.2.1 i (by omega)
  unfold bit at k0 k1 ⊢
  simp only [and_bit (show v < 32 by omega)]
  have e0 : bt (x'.2 0 i) v = bt (x.2 1 i) v := by
    have := ngP_bt (p := x.2 0 i) (q := x.2 1 i) (v := v) (u := v) (by omega)
    rw [if_pos rfl] at this
    rw [k0]; exact this
  have e1 : bt (x'.2 1 i) v = bt (x.2 0 i) v := by
    have := ngQ_bt (p := x.2 0 i) (q := x.2 1 i) (v := v) (u := v) (by omega)
    rw [if_pos rfl] at this
    rw [k1]; exact this
  rw [e0, e1]
  cases bt (x.2 0 i) v <;> cases bt (x.2 1 i) v <;> rfl
/-! copies -/
theorem q_copy {y : OS} {c : Nat} (fu : Nat) (hc : y.1 7 = nI c) (h6 : c ≤ 60) (x : OS) : ∃ x', fX0_copyFrom fu x y = some x' ∧ SX c y x' := by
  have g : acB 0 0 (nI c) 60 60 = true := by
    unfold acB
    rw [nI_clamp (by omega)]
    have : ¬ nI c < 0 := nI_pos (by omega)
    simp [this, h6]
  have e0 : (0 : Int32).toNatClampNeg = 0 := by decide
  unfold fX0_copyFrom
  simp (disch := omega) only [nm_d, sI_s, sI_o, sI_2, sA_1, hc, g, gd_t, e0, nI_clamp, ne_eq, not_false_eq_true]
  refine ⟨_, rfl, ?_⟩
  unfold SX
  simp (disch := omega) only [sI_s, sI_o, sI_2, sA_s, sA_o, sA_1, ne_eq, not_false_eq_true, hc, true_and]
  intro k hk
  have e : ∀ f g : Nat → Int32, va_cpy f g 0 0 c k = f k := fun f g => by
    unfold va_cpy
    rw [if_pos ⟨by omega, by omega⟩]
    congr 1; omega
  simp only [e, and_self]
theorem m_copy_l {m1 m2 a b : Nat} {f g : Nat → Int32} (ha : (a + 1) * 917 ≤ m1) (hb : (b + 1) * 917 ≤ m2) (h1 : m1 < 100000) (h2 : m2 < 100000) : ∀ (d k n : Nat) (y : Nat → Int32), k + d = 917 → d < n → (∀ i, i < k → y (b * 917 + i) = f (a * 917 + i)) → (∀ i, (i < b * 917 ∨ b * 917 + k ≤ i) → y i = g i) → ∃ y', lX9_copies_two_3 f m1 m2 (nI a) (nI b) (fun z => some z) n (nI k) y = some y' ∧ (∀ i, i < 917 → y' (b * 917 + i) = f (a * 917 + i)) ∧ ∀ i, (i < b * 917 ∨ b * 917 + 917 ≤ i) → y' i = g i := by
  intro d
  induction d with
  | zero =>
    intro k n y q1 q2 q3 q4
    obtain ⟨n, rfl⟩ : ∃ m, n = m + 1 := ⟨n - 1, by omega⟩
    have q1 : k = 917 := q1
    subst q1
    refine ⟨y, ?_, q3, q4⟩
    rw [lX9_copies_two_3, if_pos (by rw [L917]; exact nI_le (Nat.le_refl 917) (by omega))]
  | succ d ih =>
    intro k n y q1 q2 q3 q4
    obtain ⟨n, rfl⟩ : ∃ m, n = m + 1 := ⟨n - 1, by omega⟩
    have e : ¬ 917 ≤ k := by omega
    rw [lX9_copies_two_3]
    simp (disch := omega) only [L917, nI_leI, e, if_false, pk_mul, nI_add, inB_I, gd_t, nI_clamp, nm_d, L1]
    refine ih (k + 1) n _ (by omega) (by omega) (fun i hi => ?_) (fun i hi => ?_)
    · by_cases g : i = k
      · subst g; exact pk_us
      · rw [pk_un (by omega)]; exact q3 i (by omega)
    · rw [pk_un (by omega)]; exact q4 i (by omega)
theorem m_copy {m1 m2 a b fu : Nat} (f g : Nat → Int32) (ha : (a + 1) * 917 ≤ m1) (hb : (b + 1) * 917 ≤ m2) (h1 : m1 < 100000) (h2 : m2 < 100000) (hf : 5000 ≤ fu) : ∃ y, fX9_copies_two fu m1 f m2 g (nI a) (nI b) = some y ∧ (∀ i, i < 917 → y (b * 917 + i) = f (a * 917 + i)) ∧ ∀ i, (i < b * 917 ∨ b * 917 + 917 ≤ i) → y i = g i :=
  m_copy_l ha hb h1 h2 917 0 fu g (by omega) (by omega) (fun i hi => absurd hi (by omega)) (fun _ _ => rfl)
theorem m_same_copy_l {m1 a b : Nat} {g : Nat → Int32} (hab : b + 1 ≤ a) (ha : (a + 1) * 917 ≤ m1) (h1 : m1 < 100000) : ∀ (d k n : Nat) (y : Nat → Int32), k + d = 917 → d < n → (∀ i, i < k → y (b * 917 + i) = g (a * 917 + i)) → (∀ i, (i < b * 917 ∨ b * 917 + k ≤ i) → y i = g i) → ∃ y', lX9_copies_same_3 m1 (nI a) (nI b) (fun z => some z) n (nI k) y = some y' ∧ (∀ i, i < 917 → y' (b * 917 + i) = g (a * 917 + i)) ∧ ∀ i, (i < b * 917 ∨ b * 917 + 917 ≤ i) → y' i = g i := by
  have hab2 : (b + 1) * 917 ≤ a * 917 := Nat.mul_le_mul_right 917 hab
  intro d
  induction d with
  | zero =>
    intro k n y q1 q2 q3 q4
    obtain ⟨n, rfl⟩ : ∃ m, n = m + 1 := ⟨n - 1, by omega⟩
    have q1 : k = 917 := q1
    subst q1
    refine ⟨y, ?_, q3, q4⟩
    rw [lX9_copies_same_3, if_pos (by rw [L917]; exact nI_le (Nat.le_refl 917) (by omega))]
  | succ d ih =>
    intro k n y q1 q2 q3 q4
    obtain ⟨n, rfl⟩ : ∃ m, n = m + 1 := ⟨n - 1, by omega⟩
    have e : ¬ 917 ≤ k := by omega
    have r := q4 (a * 917 + k) (by omega)
    rw [lX9_copies_same_3]
    simp (disch := omega) only [L917, nI_leI, e, if_false, pk_mul, nI_add, inB_I, gd_t, nI_clamp, nm_d, L1, r]
    refine ih (k + 1) n _ (by omega) (by omega) (fun i hi => ?_) (fun i hi => ?_)
    · by_cases g : i = k
      · subst g; exact pk_us
      · rw [pk_un (by omega)]; exact q3 i (by omega)
    · rw [pk_un (by omega)]; exact q4 i (by omega)
theorem m_same_copy {m1 a b fu : Nat} (g : Nat → Int32) (hab : b + 1 ≤ a) (ha : (a + 1) * 917 ≤ m1) (h1 : m1 < 100000) (hf : 5000 ≤ fu) : ∃ y, fX9_copies_same fu m1 g (nI a) (nI b) = some y ∧ (∀ i, i < 917 → y (b * 917 + i) = g (a * 917 + i)) ∧ ∀ i, (i < b * 917 ∨ b * 917 + 917 ≤ i) → y i = g i :=
  m_same_copy_l hab ha h1 917 0 fu g (by omega) (by omega) (fun i hi => absurd hi (by omega)) (fun _ _ => rfl)
