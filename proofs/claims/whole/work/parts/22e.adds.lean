/-! Part II: a clause added, a resolvent added, on both sides. -/
theorem sA_s (z : OS) (k : Nat) (f : Nat → Int32) : (sA z k f).2 k = f := if_pos rfl
theorem sA_o (z : OS) {k j : Nat} (f : Nat → Int32) (h : j ≠ k) : (sA z k f).2 j = z.2 j := if_neg h
theorem sA_1 (z : OS) (k : Nat) (f : Nat → Int32) : (sA z k f).1 = z.1 := rfl
theorem sI_s (z : OS) (k : Nat) (v : Int32) : (sI z k v).1 k = v := if_pos rfl
theorem sI_o (z : OS) {k j : Nat} (v : Int32) (h : j ≠ k) : (sI z k v).1 j = z.1 j := if_neg h
theorem sI_2 (z : OS) (k : Nat) (v : Int32) : (sI z k v).2 = z.2 := rfl
/-- the numbers of a row that say a state of c clauses -/
def reg (c i : Nat) : Prop := i < 2 + c * 12 ∨ (734 ≤ i ∧ i < 734 + c) ∨ (795 ≤ i ∧ i < 795 + c) ∨ (856 ≤ i ∧ i < 856 + c)
theorem QR.cong {w c : Nat} {x : OS} {m m' : Nat → Int32} (h : QR w c x m) (e : ∀ i, reg c i → m' i = m i) : QR w c x m' := by
  have h6 := h.c60
  refine ⟨⟨h.w1, h.w12, h.c60, h.xw, h.xc, ?_, ?_⟩, h.2.1, fun k hk v hv => ?_, fun k hk => ⟨?_, ?_, ?_⟩, h.2.2.2.2⟩
  · rw [e 0 (Or.inl (by omega))]; exact h.mw
  · rw [e 1 (Or.inl (by omega))]; exact h.mc
  · rw [e _ (Or.inl (by omega))]; exact h.row hk v hv
  · rw [e _ (Or.inr (Or.inl ⟨by omega, by omega⟩))]; exact h.fst hk
  · rw [e _ (Or.inr (Or.inr (Or.inl ⟨by omega, by omega⟩)))]; exact h.snd hk
  · rw [e _ (Or.inr (Or.inr (Or.inr ⟨by omega, by omega⟩)))]; exact h.by hk
/-- the same state on the class's side -/
def SX (c : Nat) (x x' : OS) : Prop := x'.1 6 = x.1 6 ∧ x'.1 7 = x.1 7 ∧ ∀ k, k < c → x'.2 0 k = x.2 0 k ∧ x'.2 1 k = x.2 1 k ∧ x'.2 2 k = x.2 2 k ∧ x'.2 3 k = x.2 3 k ∧ x'.2 4 k = x.2 4 k ∧ x'.2 5 k = x.2 5 k
theorem PW.cong {w c : Nat} {x x' : OS} {k : Nat} (h : PW w x k) (hk : k < c) (e : ∀ i, i < c → x'.2 2 i = x.2 2 i ∧ x'.2 3 i = x.2 3 i ∧ x'.2 4 i = x.2 4 i ∧ x'.2 5 i = x.2 5 i) : PW w x' k := by
  obtain ⟨e2, e3, e4, e5⟩ := e k hk
  rcases h with h | ⟨v, a, b, h1, h2, h3, h⟩
  · left; rw [e2, e3, e4, e5]; exact h
  · right
    refine ⟨v, a, b, h1, h2, h3, ?_⟩
    rw [e2, e3, e4, e5, (e a (by omega)).2.2.2, (e b (by omega)).2.2.2]
    exact h
theorem QR.sx {w c : Nat} {x x' : OS} {m : Nat → Int32} (h : QR w c x m) (e : SX c x x') : QR w c x' m := by
  refine ⟨⟨h.w1, h.w12, h.c60, e.1.trans h.xw, e.2.1.trans h.xc, h.mw, h.mc⟩, fun k hk => ?_, fun k hk => ?_, fun k hk => ?_, fun k hk => ?_⟩
  · rw [(e.2.2 k hk).1, (e.2.2 k hk).2.1]; exact h.ok hk
  · rw [(e.2.2 k hk).1, (e.2.2 k hk).2.1]; exact h.row hk
  · rw [(e.2.2 k hk).2.2.1, (e.2.2 k hk).2.2.2.1, (e.2.2 k hk).2.2.2.2.1]; exact h.2.2.2.1 k hk
  · exact (h.pw hk).cong hk (fun i hi => (e.2.2 i hi).2.2)
/-- what the reference's reading methods leave as it was -/
def SF0 (z z' : OS) : Prop := (∀ i, (i = 8 ∨ i = 9 ∨ i = 12 ∨ i = 13 ∨ i = 14) ∨ z'.1 i = z.1 i) ∧ ∀ j, (j = 1 ∨ j = 10 ∨ j = 11) ∨ z'.2 j = z.2 j
def SF (c : Nat) (z z' : OS) : Prop := SF0 z z' ∧ ∀ i, reg c i → z'.2 1 i = z.2 1 i
theorem SF0.rf {z : OS} : SF0 z z := ⟨fun _ => Or.inr rfl, fun _ => Or.inr rfl⟩
theorem SF0.tr {z z' z'' : OS} (a : SF0 z z') (b : SF0 z' z'') : SF0 z z'' :=
  ⟨fun i => (a.1 i).elim Or.inl (fun e => (b.1 i).elim Or.inl (fun f => Or.inr (f.trans e))), fun i => (a.2 i).elim Or.inl (fun e => (b.2 i).elim Or.inl (fun f => Or.inr (f.trans e)))⟩
theorem SF.rf {c : Nat} {z : OS} : SF c z z := ⟨SF0.rf, fun _ _ => rfl⟩
theorem SF.tr {c : Nat} {z z' z'' : OS} (a : SF c z z') (b : SF c z' z'') : SF c z z'' := ⟨a.1.tr b.1, fun i h => (b.2 i h).trans (a.2 i h)⟩
theorem SF.rl {w c : Nat} {x z z' : OS} (a : SF c z z') (h : QR w c x (z.2 1)) : QR w c x (z'.2 1) := h.cong a.2
theorem SF0.i {z z' : OS} (a : SF0 z z') (i : Nat) (h : ¬ (i = 8 ∨ i = 9 ∨ i = 12 ∨ i = 13 ∨ i = 14) := by decide) : z'.1 i = z.1 i := (a.1 i).resolve_left h
theorem SF0.a {z z' : OS} (a : SF0 z z') (j : Nat) (h : ¬ (j = 1 ∨ j = 10 ∨ j = 11) := by decide) : z'.2 j = z.2 j := (a.2 j).resolve_left h
theorem SF0.si (z : OS) (k : Nat) (v : Int32) (h : k = 8 ∨ k = 9 ∨ k = 12 ∨ k = 13 ∨ k = 14) : SF0 z (sI z k v) :=
  ⟨fun i => by
    by_cases e : i = k
    · subst e; exact Or.inl h
    · exact Or.inr (sI_o z v e), fun _ => Or.inr rfl⟩
theorem SF0.sa (z : OS) (k : Nat) (f : Nat → Int32) (h : k = 1 ∨ k = 10 ∨ k = 11) : SF0 z (sA z k f) :=
  ⟨fun _ => Or.inr rfl, fun i => by
    by_cases e : i = k
    · subst e; exact Or.inl h
    · exact Or.inr (sA_o z f e)⟩
theorem SF.si {c : Nat} (z : OS) (k : Nat) (v : Int32) (h : k = 8 ∨ k = 9 ∨ k = 12 ∨ k = 13 ∨ k = 14) : SF c z (sI z k v) := ⟨SF0.si z k v h, fun _ _ => rfl⟩
theorem SF.sa {c : Nat} (z : OS) (k : Nat) (f : Nat → Int32) (h : k = 10 ∨ k = 11) : SF c z (sA z k f) := ⟨SF0.sa z k f (Or.inr h), fun i _ => by rw [sA_o z f (by omega)]⟩
theorem SF.put {c : Nat} (hc : c ≤ 60) (z : OS) {v : Nat} (hv : v < 12) (s : Int32) : SF c z (sA z 1 (upd (z.2 1) (2 + c * 12 + v) s)) := by
  refine ⟨SF0.sa z 1 _ (Or.inl rfl), fun i hi => ?_⟩
  rw [sA_s, pk_un]
  rcases hi with h | h | h | h <;> omega
/-- nothing but the row behind the last clause has changed -/
def SA (c : Nat) (z z' : OS) : Prop := z'.1 = z.1 ∧ (∀ j, j ≠ 1 → z'.2 j = z.2 j) ∧ ∀ i, reg c i → z'.2 1 i = z.2 1 i
theorem SA.rf {c : Nat} {z : OS} : SA c z z := ⟨rfl, fun _ _ => rfl, fun _ _ => rfl⟩
theorem SA.tr {c : Nat} {z z' z'' : OS} (a : SA c z z') (b : SA c z' z'') : SA c z z'' := ⟨b.1.trans a.1, fun j h => (b.2.1 j h).trans (a.2.1 j h), fun i h => (b.2.2 i h).trans (a.2.2 i h)⟩
theorem SA.rl {w c : Nat} {x z z' : OS} (a : SA c z z') (h : QR w c x (z.2 1)) : QR w c x (z'.2 1) := h.cong a.2.2
theorem SA.sf {c : Nat} {z z' : OS} (a : SA c z z') : SF c z z' := ⟨⟨fun i => Or.inr (by rw [a.1]), fun j => by
  by_cases e : j = 1
  · exact Or.inl (Or.inl e)
  · exact Or.inr (a.2.1 j e)⟩, a.2.2⟩
theorem SA.put {c : Nat} (hc : c ≤ 60) (z : OS) {v : Nat} (hv : v < 12) (s : Int32) : SA c z (sA z 1 (upd (z.2 1) (2 + c * 12 + v) s)) :=
  ⟨rfl, fun j h => sA_o z _ h, (SF.put hc z hv s).2⟩
theorem puts_e (z : OS) (fu : Nat) {k v : Nat} (hk : k ≤ 60) (hv : v < 12) (s : Int32) : fX9_puts fu z (nI k) (nI v) s = some (sA z 1 (upd (z.2 1) (2 + k * 12 + v) s)) := by
  unfold fX9_puts
  rw [sign_ix, inB_I (by omega) (by omega), gd_t, nI_clamp (by omega)]; rfl
/-! lays -/
theorem m_lays_l {c fu : Nat} {z : OS} {p q : Int32} (h6 : c ≤ 60) (hm : z.2 1 1 = nI c) : ∀ (d v n : Nat) (z1 : OS), v + d = 12 → d < n → SA c z z1 → (∀ u, u < v → z1.2 1 (2 + c * 12 + u) = SG p q u) → ∃ z', lX9_lays_2 fu p q (fun z => some z) n (nI v) z1 = some z' ∧ SA c z z' ∧ Row (z'.2 1) c p q := by
  intro d
  induction d with
  | zero =>
    intro v n z1 h1 h2 h3 h4
    obtain ⟨n, rfl⟩ : ∃ m, n = m + 1 := ⟨n - 1, by omega⟩
    have h1 : v = 12 := h1
    subst h1
    refine ⟨z1, ?_, h3, h4⟩
    unfold lX9_lays_2
    rw [if_pos (show (12 : Int32) ≤ nI 12 from nI_le (Nat.le_refl 12) (by omega))]
  | succ d ih =>
    intro v n z1 h1 h2 h3 h4
    obtain ⟨n, rfl⟩ : ∃ m, n = m + 1 := ⟨n - 1, by omega⟩
    have hm1 : z1.2 1 1 = nI c := by rw [h3.2.2 1 (Or.inl (by omega))]; exact hm
    obtain ⟨z', e, k1, k2⟩ := ih (v + 1) n (sA z1 1 (upd (z1.2 1) (2 + c * 12 + v) (SG p q v))) (by omega) (by omega) (h3.tr (SA.put h6 z1 (by omega) _)) (fun u hu => by
      rw [sA_s]
      by_cases g : u = v
      · subst g; exact pk_us
      · rw [pk_un (by omega)]; exact h4 u (by omega))
    refine ⟨z', ?_, k1, k2⟩
    have e12 : ¬ 12 ≤ v := by omega
    simp (disch := omega) only [lX9_lays_2, L12, nI_leI, e12, if_false, jn_d, nm_d, many_e hm1, bd_s, puts_e, nI_1, sh_bit, b2_1]
    rw [← e]
    unfold SG
    cases bt p v <;> cases bt q v <;> rfl
theorem m_lays {c fu : Nat} {z : OS} (p q : Int32) (h6 : c ≤ 60) (hm : z.2 1 1 = nI c) (hf : 5000 ≤ fu) : ∃ z', fX9_lays fu z p q = some z' ∧ SA c z z' ∧ Row (z'.2 1) c p q :=
  m_lays_l h6 hm 12 0 fu z (by omega) (by omega) SA.rf (fun u hu => absurd hu (by omega))
/-! resolves -/
theorem mgP_bt {p q p' q' : Int32} {v : Nat} (hv : v < 32) : bt (mgP p q p' q') v = ((bt p v || bt p' v) && !bt (cm p q p' q') v) := by
  unfold mgP; rw [b_and, b_or, b_not _ hv]
theorem mgN_bt {p q p' q' : Int32} {v : Nat} (hv : v < 32) : bt (mgN p q p' q') v = ((bt q v || bt q' v) && !bt (cm p q p' q') v) := by
  unfold mgN; rw [b_and, b_or, b_not _ hv]
theorem mg_ok {w : Nat} {p q p' q' : Int32} (ok : OKm w p q) (ok' : OKm w p' q') : OKm w (mgP p q p' q') (mgN p q p' q') := by
  refine ⟨(ok.1.or ok'.1).andl _, (ok.2.1.or ok'.2.1).andl _, fun v hv => ?_⟩
  rcases Nat.lt_or_ge v 32 with h | h
  · rw [mgP_bt h, cm_bt] at hv
    rw [mgN_bt h, cm_bt]
    have o1 := ok.2.2 v
    have o2 := ok'.2.2 v
    cases a1 : bt p v <;> cases a2 : bt q v <;> cases a3 : bt p' v <;> cases a4 : bt q' v <;> simp_all
  · exact b_big h
theorem SG_res {w : Nat} {p q p' q' : Int32} (ok : OKm w p q) (ok' : OKm w p' q') {v : Nat} (hv : v < 32) (hc : bt (cm p q p' q') v = false) : SG p q v ||| SG p' q' v = SG (mgP p q p' q') (mgN p q p' q') v := by
  unfold SG
  rw [mgP_bt hv, mgN_bt hv, hc]
  rw [cm_bt] at hc
  have o1 := ok.2.2 v
  have o2 := ok'.2.2 v
  cases a1 : bt p v <;> cases a2 : bt q v <;> cases a3 : bt p' v <;> cases a4 : bt q' v <;> simp_all
theorem SG_res0 {p q p' q' : Int32} {v : Nat} (hv : v < 32) (hc : bt (cm p q p' q') v = true) : SG (mgP p q p' q') (mgN p q p' q') v = 0 := by
  unfold SG
  rw [mgP_bt hv, mgN_bt hv, hc]; simp
theorem SG_far {w : Nat} {p q : Int32} (ok : OKm w p q) {v : Nat} (hv : w ≤ v) : SG p q v = 0 := by
  unfold SG
  rw [ok.1 v hv, ok.2.1 v hv]; rfl
theorem cn_1 {p : Nat → Bool} : ∀ {d k : Nat}, d < 2 ^ 31 → cn p d k = 1 → ∃ t, k ≤ t ∧ t < k + d ∧ p t = true ∧ ∀ i, k ≤ i → i < k + d → i ≠ t → p i = false
  | 0, k, _, h => (i0_ne1.mp h).elim
  | d + 1, k, h0, h => by
    rw [cn] at h
    cases e : p k
    · rw [e] at h
      have h : cn p d (k + 1) = 1 := by simpa using h
      obtain ⟨t, a, b, c, f⟩ := cn_1 (by omega) h
      refine ⟨t, by omega, by omega, c, fun i h1 h2 h3 => ?_⟩
      by_cases g : i = k
      · subst g; exact e
      · exact f i (by omega) (by omega) h3
    · rw [e, if_pos rfl] at h
      obtain ⟨h1, t, ht, h2⟩ := cn_0 (p := p) (d := d) (k := k + 1) (by omega)
      have : cn p d (k + 1) = 0 := by
        rw [h2] at h ⊢
        rw [Int32.add_comm, nI_1] at h
        have h' : nI (t + 1) = nI 1 := h
        have := (nI_eq (by omega) (by omega)).mp h'
        have : t = 0 := by omega
        subst this; rfl
      have := h1.mp this
      exact ⟨k, by omega, by omega, e, fun i a b g => this i (by omega) (by omega)⟩
theorem pc_one {w : Nat} {p : Int32} (hp : Vm w p) (h12 : w ≤ 12) (h : pc p = 1) : ∃ t, t < w ∧ bt p t = true ∧ ∀ i, i ≠ t → bt p i = false := by
  rw [pc_v hp h12] at h
  obtain ⟨t, a, b, c, f⟩ := cn_1 (by omega) h
  refine ⟨t, by omega, c, fun i hi => ?_⟩
  rcases Nat.lt_or_ge i w with g | g
  · exact f i (by omega) (by omega) hi
  · exact hp i g
theorem ff_at {p : Nat → Bool} {t : Nat} (ht : p t = true) (hn : ∀ i, i < t → p i = false) : ∀ {d k : Nat}, k ≤ t → t < k + d → ff p d k = nI t
  | 0, k, h1, h2 => absurd h2 (by omega)
  | d + 1, k, h1, h2 => by
    by_cases e : k = t
    · subst e; rw [ff, if_pos ht]
    · rw [ff, hn k (by omega)]
      exact ff_at ht hn (by omega) (by omega)
theorem fa_twice (f : Nat → Int32) (i : Nat) (x y : Int32) : upd (upd f i x) i y = upd f i y := by
  funext k
  by_cases e : k = i
  · subst e; rw [pk_us, pk_us]
  · rw [pk_un e, pk_un e, pk_un e]
theorem m_resolves_l {w c fu : Nat} {x z : OS} (h : QR w c x (z.2 1)) (hf : 5000 ≤ fu) {a b : Nat} (ha : a < c) (hb : b < c) {t : Nat} (ht : t < w) (hc : bt (cm (x.2 0 a) (x.2 1 a) (x.2 0 b) (x.2 1 b)) t = true) (hn : ∀ i, i ≠ t → bt (cm (x.2 0 a) (x.2 1 a) (x.2 0 b) (x.2 1 b)) i = false) : ∀ (d v n : Nat) (z1 : OS), v + d = 12 → d < n → SA c z z1 → (∀ u, u < v → z1.2 1 (2 + c * 12 + u) = SG (mgP (x.2 0 a) (x.2 1 a) (x.2 0 b) (x.2 1 b)) (mgN (x.2 0 a) (x.2 1 a) (x.2 0 b) (x.2 1 b)) u) → ∃ z', lX9_resolves_10 fu (nI a) (nI b) (nI t) (fun z => some z) n (nI v) z1 = some z' ∧ SA c z z' ∧ Row (z'.2 1) c (mgP (x.2 0 a) (x.2 1 a) (x.2 0 b) (x.2 1 b)) (mgN (x.2 0 a) (x.2 1 a) (x.2 0 b) (x.2 1 b)) := by
  have h6 := h.c60
  have h12 := h.w12
  intro d
  induction d with
  | zero =>
    intro v n z1 h1 h2 h3 h4
    obtain ⟨n, rfl⟩ : ∃ m, n = m + 1 := ⟨n - 1, by omega⟩
    have h1 : v = 12 := h1
    subst h1
    refine ⟨z1, ?_, h3, h4⟩
    unfold lX9_resolves_10
    rw [if_pos (show (12 : Int32) ≤ nI 12 from nI_le (Nat.le_refl 12) (by omega))]
  | succ d ih =>
    intro v n z1 h1 h2 h3 h4
    obtain ⟨n, rfl⟩ : ∃ m, n = m + 1 := ⟨n - 1, by omega⟩
    have r1 := h3.rl h
    obtain ⟨z', e, k1, k2⟩ := ih (v + 1) n (sA z1 1 (upd (z1.2 1) (2 + c * 12 + v) (SG (mgP (x.2 0 a) (x.2 1 a) (x.2 0 b) (x.2 1 b)) (mgN (x.2 0 a) (x.2 1 a) (x.2 0 b) (x.2 1 b)) v))) (by omega) (by omega) (h3.tr (SA.put h6 z1 (by omega) _)) (fun u hu => by
      rw [sA_s]
      by_cases g : u = v
      · subst g; exact pk_us
      · rw [pk_un (by omega)]; exact h4 u (by omega))
    refine ⟨z', ?_, k1, k2⟩
    have e12 : ¬ 12 ≤ v := by omega
    simp (disch := omega) only [lX9_resolves_10, L12, nI_leI, nI_eq, e12, if_false, jn_d, nm_d, wide_e r1.mw, many_e r1.mc, bd_s, puts_e, nI_1, sign_r (r1.row ha), sign_r (r1.row hb)]
    rw [← e]
    by_cases g1 : w ≤ v
    · rw [if_pos g1, SG_far (mg_ok (h.ok ha) (h.ok hb)) g1]
    · rw [if_neg g1]
      by_cases g2 : v = t
      · subst g2
        rw [if_neg (fun q => q rfl), SG_res0 (by omega) hc]
      · rw [if_pos g2, SG_res (h.ok ha) (h.ok hb) (by omega) (hn v g2)]
theorem m_clashOf' {w c fu : Nat} {x z : OS} (h : QR w c x (z.2 1)) (hf : 5000 ≤ fu) {a b : Nat} (ha : a < c) (hb : b < c) {t : Nat} (ht : t < w) (hc : bt (cm (x.2 0 a) (x.2 1 a) (x.2 0 b) (x.2 1 b)) t = true) (hn : ∀ i, i ≠ t → bt (cm (x.2 0 a) (x.2 1 a) (x.2 0 b) (x.2 1 b)) i = false) : fX9_clashOf fu z (nI a) (nI b) = some (nI t) :=
  m_clashOf h.mw h.w12 (h.row ha) (by have := h.c60; omega) (h.ok ha) (h.row hb) (by have := h.c60; omega) (h.ok hb) hf (by have := h.w12; omega) hc (fun i hi => hn i (by omega))
theorem m_resolves {w c fu : Nat} {x z : OS} (h : QR w c x (z.2 1)) (hf : 5000 ≤ fu) {a b : Nat} (ha : a < c) (hb : b < c) {t : Nat} (ht : t < w) (hc : bt (cm (x.2 0 a) (x.2 1 a) (x.2 0 b) (x.2 1 b)) t = true) (hn : ∀ i, i ≠ t → bt (cm (x.2 0 a) (x.2 1 a) (x.2 0 b) (x.2 1 b)) i = false) : ∃ z', fX9_resolves fu z (nI a) (nI b) = some z' ∧ SA c z z' ∧ Row (z'.2 1) c (mgP (x.2 0 a) (x.2 1 a) (x.2 0 b) (x.2 1 b)) (mgN (x.2 0 a) (x.2 1 a) (x.2 0 b) (x.2 1 b)) := by
  unfold fX9_resolves
  rw [m_clashOf' h hf ha hb ht hc hn, bd_s]
  exact m_resolves_l h hf ha hb ht hc hn 12 0 fu z (by omega) (by omega) SA.rf (fun u hu => absurd hu (by omega))
/-- a clause is put behind the last one, on the class's side -/
def XA (x : OS) (c : Nat) (p q a b v d : Int32) (x' : OS) : Prop := x'.1 6 = x.1 6 ∧ x'.1 7 = nI (c + 1) ∧ x'.2 0 = upd (x.2 0) c p ∧ x'.2 1 = upd (x.2 1) c q ∧ x'.2 2 = upd (x.2 2) c a ∧ x'.2 3 = upd (x.2 3) c b ∧ x'.2 4 = upd (x.2 4) c v ∧ x'.2 5 = upd (x.2 5) c d
theorem q_addGiven {x : OS} {c : Nat} (fu : Nat) (hc : x.1 7 = nI c) (h6 : c < 60) (p q : Int32) : ∃ x', fX0_addGiven fu x p q = some (nI c, x') ∧ XA x c p q (-1) (-1) (-1) 0 x' := by
  have e : decide (c = 60) = false := decide_eq_false (by omega)
  unfold fX0_addGiven
  rw [q_isFull fu hc (by omega), e]
  simp (disch := omega) only [bd_s, b2_f, if_true, nm_d, hc, inB_I, gd_t, nI_clamp, sA_s, sA_o, sA_1, nI_1, ne_eq, not_false_eq_true]
  refine ⟨_, rfl, ?_⟩
  unfold XA
  simp (disch := omega) only [sI_s, sI_o, sI_2, sA_s, sA_o, sA_1, and_self, ne_eq, not_false_eq_true]
theorem q_addRes {w c : Nat} {x : OS} {m : Nat → Int32} (h : QR w c x m) (fu : Nat) (h6 : c < 60) {a b : Nat} (ha : a < c) (hb : b < c) {t : Nat} (ht : t < w) (hc : bt (cm (x.2 0 a) (x.2 1 a) (x.2 0 b) (x.2 1 b)) t = true) (hn : ∀ i, i ≠ t → bt (cm (x.2 0 a) (x.2 1 a) (x.2 0 b) (x.2 1 b)) i = false) :
    ∃ x', fX0_addResolvent fu x (nI a) (nI b) = some (nI c, x') ∧ XA x c (mgP (x.2 0 a) (x.2 1 a) (x.2 0 b) (x.2 1 b)) (mgN (x.2 0 a) (x.2 1 a) (x.2 0 b) (x.2 1 b)) (if bt (x.2 0 a) t = true then nI a else nI b) (if bt (x.2 0 a) t = true then nI b else nI a) (nI t) (1 + (if x.2 5 a < x.2 5 b then x.2 5 b else x.2 5 a)) x' := by
  obtain ⟨x1, e1, k6, k7, k0, k1, k2, k3, k4, k5⟩ := q_addGiven fu h.xc h6 (mgP (x.2 0 a) (x.2 1 a) (x.2 0 b) (x.2 1 b)) (mgN (x.2 0 a) (x.2 1 a) (x.2 0 b) (x.2 1 b))
  have hv : Vm w (cm (x.2 0 a) (x.2 1 a) (x.2 0 b) (x.2 1 b)) := (h.ok ha).cm
  have hnz : cm (x.2 0 a) (x.2 1 a) (x.2 0 b) (x.2 1 b) ≠ 0 := fun e => by rw [e, b_0] at hc; cases hc
  have e2 := nz_v hv h.w12 hnz fu
  rw [ff_at hc (fun i hi => hn i (by omega)) (by omega) (by omega)] at e2
  have e3 : ((x.2 0 a &&& cm (x.2 0 a) (x.2 1 a) (x.2 0 b) (x.2 1 b)) = 0) = (bt (x.2 0 a) t = false) := by
    apply propext
    rw [(((h.ok ha).1).andl _).z]
    constructor
    · intro f
      have := f t ht
      rw [b_and, hc, Bool.and_true] at this; exact this
    · intro f v hv
      rw [b_and]
      by_cases g : v = t
      · subst g; rw [f]; rfl
      · rw [hn v g, Bool.and_false]
  unfold fX0_addResolvent
  simp (disch := omega) only [q_clashMask, bd_s, inB_I, gd_t, jn_d, nI_clamp, nm_d, q_mergedP, q_mergedN, e1, nI_m1, not_false_eq_true, if_true, e2, e3, sA_s, sA_o, ne_eq]
  unfold XA
  cases g : bt (x.2 0 a) t
  · simp (disch := omega) only [if_true, inB_I, gd_t, nI_clamp, i1_ne0, if_false, Bool.false_eq_true]
    refine ⟨_, rfl, ?_⟩
    simp (disch := omega) only [sA_s, sA_o, sA_1, k0, k1, k2, k3, k4, k5, k6, k7, fa_twice, and_self, ne_eq, not_false_eq_true]
  · simp (disch := omega) only [if_true, inB_I, gd_t, nI_clamp, i1_ne0, if_false, Bool.true_eq_false]
    refine ⟨_, rfl, ?_⟩
    simp (disch := omega) only [sA_s, sA_o, sA_1, k0, k1, k2, k3, k4, k5, k6, k7, fa_twice, and_self, ne_eq, not_false_eq_true]
theorem max_sym (u v : Int32) : (1 : Int32) + (if u < v then v else u) = 1 + (if v < u then u else v) := by
  congr 1
  by_cases a : u < v
  · rw [if_pos a, if_neg]
    intro b
    rw [Int32.lt_iff_toInt_lt] at a b; omega
  · by_cases b : v < u
    · rw [if_neg a, if_pos b]
    · rw [if_neg a, if_neg b]
      apply Int32.toInt_inj.mp
      rw [Int32.lt_iff_toInt_lt] at a b; omega
/-! both sides at once -/
theorem RL_add {w c : Nat} {x x' : OS} {m m' : Nat → Int32} {p q a b v d : Int32} (h : QR w c x m) (hc : c < 60) (hx : XA x c p q a b v d x') (ok : OKm w p q) (hr : Row m' c p q) (hm : ∀ i, reg c i → i ≠ 1 → m' i = m i) (h1 : m' 1 = nI (c + 1)) (ha : m' (734 + c) = a) (hb : m' (795 + c) = b) (hv : m' (856 + c) = v) (pw : PW w x' c) : QR w (c + 1) x' m' := by
  obtain ⟨k6, k7, k0, k1, k2, k3, k4, k5⟩ := hx
  refine ⟨⟨h.w1, h.w12, by omega, k6.trans h.xw, k7, by rw [hm 0 (Or.inl (by omega)) (by omega)]; exact h.mw, h1⟩, fun k hk => ?_, fun k hk => ?_, fun k hk => ?_, fun k hk => ?_⟩
  · rw [k0, k1]
    by_cases e : k = c
    · subst e; rw [pk_us, pk_us]; exact ok
    · rw [pk_un e, pk_un e]; exact h.ok (by omega)
  · rw [k0, k1]
    by_cases e : k = c
    · subst e; rw [pk_us, pk_us]; exact hr
    · rw [pk_un e, pk_un e]
      intro v hv
      rw [hm _ (Or.inl (by omega)) (by omega)]
      exact h.row (by omega) v hv
  · rw [k2, k3, k4]
    by_cases e : k = c
    · subst e; rw [pk_us, pk_us, pk_us]; exact ⟨ha, hb, hv⟩
    · rw [pk_un e, pk_un e, pk_un e, hm (734 + k) (Or.inr (Or.inl ⟨by omega, by omega⟩)) (by omega), hm (795 + k) (Or.inr (Or.inr (Or.inl ⟨by omega, by omega⟩))) (by omega), hm (856 + k) (Or.inr (Or.inr (Or.inr ⟨by omega, by omega⟩))) (by omega)]
      exact ⟨h.fst (by omega), h.snd (by omega), h.by (by omega)⟩
  · by_cases e : k = c
    · subst e; exact pw
    · exact (h.pw (k := k) (by omega)).cong (c := c) (by omega) (fun i hi => by rw [k2, k3, k4, k5, pk_un (by omega), pk_un (by omega), pk_un (by omega), pk_un (by omega)]; exact ⟨rfl, rfl, rfl, rfl⟩)
def madd (m : Nat → Int32) (c : Nat) (a b v : Int32) : Nat → Int32 := upd (upd (upd (upd m (734 + c) a) (795 + c) b) (856 + c) v) 1 (nI (c + 1))
theorem m_adds {z : OS} {c : Nat} (fu : Nat) (hm : z.2 1 1 = nI c) (h6 : c < 60) (a b v : Int32) : ∃ z', fX9_adds fu z a b v = some (nI c, z') ∧ SF0 z z' ∧ z'.2 1 = madd (z.2 1) c a b v := by
  have g1 : ∀ f : Nat → Int32, f 1 = nI c → ∀ i u, i ≠ 1 → upd f i u 1 = nI c := fun f hf i u hi => by rw [pk_un (by omega)]; exact hf
  have m1 : (sA z 1 (upd (z.2 1) (734 + c) a)).2 1 1 = nI c := by rw [sA_s]; exact g1 _ hm _ _ (by omega)
  have m2 : (sA (sA z 1 (upd (z.2 1) (734 + c) a)) 1 (upd (upd (z.2 1) (734 + c) a) (795 + c) b)).2 1 1 = nI c := by rw [sA_s]; exact g1 _ (g1 _ hm _ _ (by omega)) _ _ (by omega)
  have m3 : upd (upd (upd (z.2 1) (734 + c) a) (795 + c) b) (856 + c) v 1 = nI c := g1 _ (g1 _ (g1 _ hm _ _ (by omega)) _ _ (by omega)) _ _ (by omega)
  have m4 : (sA (sA (sA (sA z 1 (upd (z.2 1) (734 + c) a)) 1 (upd (upd (z.2 1) (734 + c) a) (795 + c) b)) 1 (upd (upd (upd (z.2 1) (734 + c) a) (795 + c) b) (856 + c) v)) 1 (madd (z.2 1) c a b v)).2 1 1 = nI (c + 1) := by rw [sA_s]; exact pk_us
  refine ⟨sA (sA (sA (sA z 1 (upd (z.2 1) (734 + c) a)) 1 (upd (upd (z.2 1) (734 + c) a) (795 + c) b)) 1 (upd (upd (upd (z.2 1) (734 + c) a) (795 + c) b) (856 + c) v)) 1 (madd (z.2 1) c a b v), ?_, ?_, sA_s _ 1 _⟩
  · unfold fX9_adds
    simp (disch := omega) only [many_e hm, bd_s, L734, L795, L856, nI_add, inB_I, gd_t, nm_d, nI_clamp, many_e m1, sA_s, many_e m2, L1, m3]
    have e : upd (upd (upd (upd (z.2 1) (734 + c) a) (795 + c) b) (856 + c) v) 1 (nI (c + 1)) = madd (z.2 1) c a b v := rfl
    rw [e, many_e m4, bd_s, pk_sub (by omega)]; rfl
  · exact (((SF0.sa z 1 _ (Or.inl rfl)).tr (SF0.sa _ 1 _ (Or.inl rfl))).tr (SF0.sa _ 1 _ (Or.inl rfl))).tr (SF0.sa _ 1 _ (Or.inl rfl))
theorem madd_reg {m : Nat → Int32} {c : Nat} {a b v : Int32} (h6 : c < 60) : ∀ i, reg c i → i ≠ 1 → madd m c a b v i = m i := by
  intro i hi h1
  unfold madd
  rcases hi with h | h | h | h <;> rw [pk_un (by omega), pk_un (by omega), pk_un (by omega), pk_un (by omega)]
theorem madd_row {m : Nat → Int32} {c : Nat} {a b v p q : Int32} (h6 : c < 60) (h : Row m c p q) : Row (madd m c a b v) c p q := by
  intro u hu
  unfold madd
  rw [pk_un (by omega), pk_un (by omega), pk_un (by omega), pk_un (by omega)]
  exact h u hu
theorem madd_v {m : Nat → Int32} {c : Nat} {a b v : Int32} (h6 : c < 60) : madd m c a b v 1 = nI (c + 1) ∧ madd m c a b v (734 + c) = a ∧ madd m c a b v (795 + c) = b ∧ madd m c a b v (856 + c) = v := by
  unfold madd
  refine ⟨pk_us, ?_, ?_, ?_⟩
  · rw [pk_un (by omega), pk_un (by omega), pk_un (by omega), pk_us]
  · rw [pk_un (by omega), pk_un (by omega), pk_us]
  · rw [pk_un (by omega), pk_us]
/-- a given clause -/
theorem RL_given {w c fu : Nat} {x z : OS} (h : QR w c x (z.2 1)) (h6 : c < 60) {p q : Int32} (hr : Row (z.2 1) c p q) (ok : OKm w p q) : ∃ x' z', fX0_addGiven fu x p q = some (nI c, x') ∧ fX9_adds fu z (-1) (-1) (-1) = some (nI c, z') ∧ SF0 z z' ∧ QR w (c + 1) x' (z'.2 1) ∧ XA x c p q (-1) (-1) (-1) 0 x' := by
  obtain ⟨x', e1, k⟩ := q_addGiven fu h.xc h6 p q
  obtain ⟨z', e2, s, e3⟩ := m_adds fu h.mc h6 (-1) (-1) (-1)
  refine ⟨x', z', e1, e2, s, ?_, k⟩
  rw [e3]
  obtain ⟨v1, v2, v3, v4⟩ := madd_v (m := z.2 1) (a := -1) (b := -1) (v := -1) h6
  refine RL_add h h6 k ok (madd_row h6 hr) (madd_reg h6) v1 v2 v3 v4 ?_
  obtain ⟨k6, k7, k0, k1, k2, k3, k4, k5⟩ := k
  left
  rw [k2, k3, k4, k5, pk_us, pk_us, pk_us, pk_us]
  exact ⟨rfl, rfl, rfl, rfl⟩
/-- a resolvent -/
theorem RL_res {w c fu : Nat} {x z : OS} (h : QR w c x (z.2 1)) (hf : 5000 ≤ fu) (h6 : c < 60) {a b : Nat} (ha : a < c) (hb : b < c) (h1 : pc (cm (x.2 0 a) (x.2 1 a) (x.2 0 b) (x.2 1 b)) = 1) : ∃ x' z' v d, fX0_addResolvent fu x (nI a) (nI b) = some (nI c, x') ∧ fX9_addsResolvent fu z (nI a) (nI b) = some (nI c, z') ∧ SF0 z z' ∧ QR w (c + 1) x' (z'.2 1) ∧ ∃ u u2, XA x c (mgP (x.2 0 a) (x.2 1 a) (x.2 0 b) (x.2 1 b)) (mgN (x.2 0 a) (x.2 1 a) (x.2 0 b) (x.2 1 b)) u u2 v d x' := by
  obtain ⟨t, ht, hc, hn⟩ := pc_one (h.ok ha).cm h.w12 h1
  obtain ⟨x', e1, k⟩ := q_addRes h fu h6 ha hb ht hc hn
  obtain ⟨z1, e2, s1, r1⟩ := m_resolves h hf ha hb ht hc hn
  have rl1 := s1.rl h
  have g0 := h.c60
  have g1 := h.w12
  obtain ⟨z', e3, s2, e4⟩ := m_adds fu rl1.mc h6 (if bt (x.2 0 a) t = true then nI a else nI b) (if bt (x.2 0 a) t = true then nI b else nI a) (nI t)
  refine ⟨x', z', _, _, e1, ?_, s1.sf.1.tr s2, ?_, _, _, k⟩
  · unfold fX9_addsResolvent
    simp (disch := omega) only [m_clashOf' h hf ha hb ht hc hn, bd_s, sign_r (h.row ha), SG_1, jn_d, e2]
    cases g : bt (x.2 0 a) t
    · rw [g] at e3
      simp only [if_true, Bool.false_eq_true, if_false, not_false_eq_true] at e3 ⊢
      rw [e3]; rfl
    · rw [g] at e3
      simp only [if_true, not_true_eq_false, i1_ne0, if_false] at e3 ⊢
      rw [e3]; rfl
  · rw [e4]
    obtain ⟨v1, v2, v3, v4⟩ := madd_v (m := z1.2 1) (a := (if bt (x.2 0 a) t = true then nI a else nI b)) (b := (if bt (x.2 0 a) t = true then nI b else nI a)) (v := nI t) h6
    refine RL_add rl1 h6 k (mg_ok (h.ok ha) (h.ok hb)) (madd_row h6 r1) (madd_reg h6) v1 v2 v3 v4 ?_
    obtain ⟨k6, k7, k0, k1, k2, k3, k4, k5⟩ := k
    right
    rw [k2, k3, k4, k5, pk_us, pk_us, pk_us, pk_us]
    cases g : bt (x.2 0 a) t
    · refine ⟨t, b, a, ht, hb, ha, rfl, rfl, rfl, ?_⟩
      rw [pk_un (by omega), pk_un (by omega), max_sym]
    · refine ⟨t, a, b, ht, ha, hb, rfl, rfl, rfl, ?_⟩
      rw [pk_un (by omega), pk_un (by omega)]
