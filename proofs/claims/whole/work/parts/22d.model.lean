/-! Part II: the pure functions of the reference that read, in the words of the class's clause sets. -/
def Row (m : Nat → Int32) (k : Nat) (p q : Int32) : Prop := ∀ v, v < 12 → m (2 + k * 12 + v) = SG p q v
theorem many_e {z : OS} {c : Nat} (hm : z.2 1 1 = nI c) (fu : Nat) : fX9_many fu z = some (nI c) := by
  unfold fX9_many
  rw [L1, inB_I (by omega) (by omega), gd_t, nI_clamp (by omega), hm]
theorem wide_e {z : OS} {w : Nat} (hw : z.2 1 0 = nI w) (fu : Nat) : fX9_wide fu z = some (nI w) := by
  unfold fX9_wide
  rw [L0, inB_I (by omega) (by omega), gd_t, nI_clamp (by omega), hw]
theorem sign_ix {k v : Nat} : (2 : Int32) + nI k * 12 + nI v = nI (2 + k * 12 + v) := by rw [L2, L12, pk_mul, nI_add, nI_add]
theorem sign_e (z : OS) (fu : Nat) {k v : Nat} (hk : k ≤ 60) (hv : v < 12) : fX9_sign fu z (nI k) (nI v) = some (z.2 1 (2 + k * 12 + v)) := by
  unfold fX9_sign
  rw [sign_ix, inB_I (by omega) (by omega), gd_t, nI_clamp (by omega)]
theorem sign_r {z : OS} {a : Nat} {p q : Int32} (hr : Row (z.2 1) a p q) (ha : a ≤ 60) (fu : Nat) {v : Nat} (hv : v < 12) : fX9_sign fu z (nI a) (nI v) = some (SG p q v) := by
  rw [sign_e z fu ha hv, hr v hv]
theorem sh_bit (x : Int32) {v : Nat} (hv : v < 31) : ((x >>> (nI v &&& 31)) &&& 1) = b2 (bt x v) := by
  apply b_ext
  intro i hi
  rw [b_and, b_sshr v (by omega) x hi]
  have h1 : ∀ j, j < 32 → bt 1 j = decide (j = 0) := by decide +kernel
  rw [h1 i hi]
  by_cases e : i = 0
  · subst e
    rw [if_pos (by omega), decide_eq_true rfl, Bool.and_true, Nat.add_zero]
    cases bt x v <;> decide +kernel
  · rw [decide_eq_false e, Bool.and_false]
    cases bt x v
    · exact (b_0 i).symm
    · show false = bt 1 i
      rw [h1 i hi, decide_eq_false e]
/-- a state of the class beside a row of the reference's numbers -/
def PW (w : Nat) (x : OS) (k : Nat) : Prop := (x.2 4 k = -1 ∧ x.2 2 k = -1 ∧ x.2 3 k = -1 ∧ x.2 5 k = 0) ∨ ∃ v a b, v < w ∧ a < k ∧ b < k ∧ x.2 4 k = nI v ∧ x.2 2 k = nI a ∧ x.2 3 k = nI b ∧ x.2 5 k = 1 + (if x.2 5 a < x.2 5 b then x.2 5 b else x.2 5 a)
def QR (w c : Nat) (x : OS) (m : Nat → Int32) : Prop := (1 ≤ w ∧ w ≤ 12 ∧ c ≤ 60 ∧ x.1 6 = nI w ∧ x.1 7 = nI c ∧ m 0 = nI w ∧ m 1 = nI c) ∧ (∀ k, k < c → OKm w (x.2 0 k) (x.2 1 k)) ∧ (∀ k, k < c → Row m k (x.2 0 k) (x.2 1 k)) ∧ (∀ k, k < c → m (734 + k) = x.2 2 k ∧ m (795 + k) = x.2 3 k ∧ m (856 + k) = x.2 4 k) ∧ ∀ k, k < c → PW w x k
section QRs
variable {w c : Nat} {x : OS} {m : Nat → Int32} (h : QR w c x m)
theorem QR.w1 (h : QR w c x m) : 1 ≤ w := h.1.1
theorem QR.w12 (h : QR w c x m) : w ≤ 12 := h.1.2.1
theorem QR.c60 (h : QR w c x m) : c ≤ 60 := h.1.2.2.1
theorem QR.xw (h : QR w c x m) : x.1 6 = nI w := h.1.2.2.2.1
theorem QR.xc (h : QR w c x m) : x.1 7 = nI c := h.1.2.2.2.2.1
theorem QR.mw (h : QR w c x m) : m 0 = nI w := h.1.2.2.2.2.2.1
theorem QR.mc (h : QR w c x m) : m 1 = nI c := h.1.2.2.2.2.2.2
theorem QR.ok (h : QR w c x m) {k : Nat} (hk : k < c) : OKm w (x.2 0 k) (x.2 1 k) := h.2.1 k hk
theorem QR.row (h : QR w c x m) {k : Nat} (hk : k < c) : Row m k (x.2 0 k) (x.2 1 k) := h.2.2.1 k hk
theorem QR.fst (h : QR w c x m) {k : Nat} (hk : k < c) : m (734 + k) = x.2 2 k := (h.2.2.2.1 k hk).1
theorem QR.snd (h : QR w c x m) {k : Nat} (hk : k < c) : m (795 + k) = x.2 3 k := (h.2.2.2.1 k hk).2.1
theorem QR.by (h : QR w c x m) {k : Nat} (hk : k < c) : m (856 + k) = x.2 4 k := (h.2.2.2.1 k hk).2.2
theorem QR.pw (h : QR w c x m) {k : Nat} (hk : k < c) : PW w x k := h.2.2.2.2 k hk
end QRs
theorem m_lit_l {z : OS} {w a fu : Nat} {p q : Int32} (hw : z.2 1 0 = nI w) (h12 : w ≤ 12) (hr : Row (z.2 1) a p q) (ha : a ≤ 60) (ok : OKm w p q) (j : Int32 → Option Int32) : ∀ (d k n : Nat) (acc : Int32), k + d = w → d < n → lX9_literals_4 fu z (nI a) j n acc (nI k) = j (acc + cn (fun v => bt p v || bt q v) d k) := by
  intro d
  induction d with
  | zero =>
    intro k n acc h1 h2
    obtain ⟨n, rfl⟩ : ∃ m, n = m + 1 := ⟨n - 1, by omega⟩
    have e : w ≤ k := by omega
    simp (disch := omega) only [lX9_literals_4, wide_e hw, bd_s, nI_leI, e, cn, if_true, Int32.add_zero]
  | succ d ih =>
    intro k n acc h1 h2
    obtain ⟨n, rfl⟩ : ∃ m, n = m + 1 := ⟨n - 1, by omega⟩
    have e : ¬ w ≤ k := by omega
    have e2 := fun acc => ih (k + 1) n acc (by omega) (by omega)
    simp (disch := omega) only [lX9_literals_4, gd_t, bd_s, nm_d, jn_d, isZ_0, isZ_1, ↓reduceIte, if_true, if_false, not_true_eq_false, not_false_eq_true, ite_not, inB_I, nI_leI, nI_ltI, nI_clamp, nI_1, wide_e hw, sign_r hr ha, SG_0, cn, e, e2]
    clear ih e2
    rcases Bool.eq_false_or_eq_true (bt p k) with h3 | h3 <;> rcases Bool.eq_false_or_eq_true (bt q k) with hh | hh <;> simp [hh, h3, Int32.add_assoc]
theorem m_lit {z : OS} {w a fu : Nat} {p q : Int32} (hw : z.2 1 0 = nI w) (h12 : w ≤ 12) (hr : Row (z.2 1) a p q) (ha : a ≤ 60) (ok : OKm w p q) (hf : 5000 ≤ fu) : fX9_literals fu z (nI a) = some (pc p + pc q) := by
  have := m_lit_l (fu := fu) hw h12 hr ha ok (fun v => some v) w 0 fu 0 (by omega) (by omega)
  rw [z_add, lit_cn ok h12] at this; exact this
theorem m_maskP_l {z : OS} {w a fu : Nat} {p q : Int32} (hw : z.2 1 0 = nI w) (h12 : w ≤ 12) (hr : Row (z.2 1) a p q) (ha : a ≤ 60) (ok : OKm w p q) (j : Int32 → Option Int32) : ∀ (d k n : Nat) (acc : Int32), k + d = w → d < n → lX9_mask_5 fu z (nI a) 1 j n acc (nI k) = j (acc ||| om (fun v => if bt p v = true then (1 : Int32) <<< (nI v &&& 31) else 0) d k) := by
  intro d
  induction d with
  | zero =>
    intro k n acc h1 h2
    obtain ⟨n, rfl⟩ : ∃ m, n = m + 1 := ⟨n - 1, by omega⟩
    have e : w ≤ k := by omega
    simp (disch := omega) only [lX9_mask_5, wide_e hw, bd_s, nI_leI, e, om, if_true, Int32.or_zero]
  | succ d ih =>
    intro k n acc h1 h2
    obtain ⟨n, rfl⟩ : ∃ m, n = m + 1 := ⟨n - 1, by omega⟩
    have e : ¬ w ≤ k := by omega
    have e2 := fun acc => ih (k + 1) n acc (by omega) (by omega)
    simp (disch := omega) only [lX9_mask_5, gd_t, bd_s, nm_d, jn_d, isZ_0, isZ_1, ↓reduceIte, if_true, if_false, not_true_eq_false, not_false_eq_true, ite_not, inB_I, nI_leI, nI_ltI, nI_clamp, nI_1, wide_e hw, sign_r hr ha, SG_1, om, e, e2]
    clear ih e2
    rcases Bool.eq_false_or_eq_true (bt p k) with hh | hh <;> simp [hh, Int32.or_assoc]
theorem m_maskN_l {z : OS} {w a fu : Nat} {p q : Int32} (hw : z.2 1 0 = nI w) (h12 : w ≤ 12) (hr : Row (z.2 1) a p q) (ha : a ≤ 60) (ok : OKm w p q) (j : Int32 → Option Int32) : ∀ (d k n : Nat) (acc : Int32), k + d = w → d < n → lX9_mask_5 fu z (nI a) 2 j n acc (nI k) = j (acc ||| om (fun v => if bt q v = true then (1 : Int32) <<< (nI v &&& 31) else 0) d k) := by
  intro d
  induction d with
  | zero =>
    intro k n acc h1 h2
    obtain ⟨n, rfl⟩ : ∃ m, n = m + 1 := ⟨n - 1, by omega⟩
    have e : w ≤ k := by omega
    simp (disch := omega) only [lX9_mask_5, wide_e hw, bd_s, nI_leI, e, om, if_true, Int32.or_zero]
  | succ d ih =>
    intro k n acc h1 h2
    obtain ⟨n, rfl⟩ : ∃ m, n = m + 1 := ⟨n - 1, by omega⟩
    have e : ¬ w ≤ k := by omega
    have e2 := fun acc => ih (k + 1) n acc (by omega) (by omega)
    simp (disch := omega) only [lX9_mask_5, gd_t, bd_s, nm_d, jn_d, isZ_0, isZ_1, ↓reduceIte, if_true, if_false, not_true_eq_false, not_false_eq_true, ite_not, inB_I, nI_leI, nI_ltI, nI_clamp, nI_1, wide_e hw, sign_r hr ha, SG_2 ok, om, e, e2]
    clear ih e2
    rcases Bool.eq_false_or_eq_true (bt q k) with hh | hh <;> simp [hh, Int32.or_assoc]
theorem m_maskP {z : OS} {w a fu : Nat} {p q : Int32} (hw : z.2 1 0 = nI w) (h12 : w ≤ 12) (hr : Row (z.2 1) a p q) (ha : a ≤ 60) (ok : OKm w p q) (hf : 5000 ≤ fu) : fX9_mask fu z (nI a) 1 = some p := by
  have := m_maskP_l (fu := fu) hw h12 hr ha ok (fun v => some v) w 0 fu 0 (by omega) (by omega)
  rw [z_or, om_m (by omega) ok.1 (fun v _ => rfl)] at this; exact this
theorem m_maskN {z : OS} {w a fu : Nat} {p q : Int32} (hw : z.2 1 0 = nI w) (h12 : w ≤ 12) (hr : Row (z.2 1) a p q) (ha : a ≤ 60) (ok : OKm w p q) (hf : 5000 ≤ fu) : fX9_mask fu z (nI a) 2 = some q := by
  have := m_maskN_l (fu := fu) hw h12 hr ha ok (fun v => some v) w 0 fu 0 (by omega) (by omega)
  rw [z_or, om_m (by omega) ok.2.1 (fun v _ => rfl)] at this; exact this
theorem m_within_l {z : OS} {w a b fu : Nat} {p q p' q' : Int32} (hw : z.2 1 0 = nI w) (h12 : w ≤ 12) (hr : Row (z.2 1) a p q) (ha : a ≤ 60) (ok : OKm w p q) (hr' : Row (z.2 1) b p' q') (hb : b ≤ 60) (ok' : OKm w p' q') : ∀ (d k n : Nat), k + d = w → d < n → lX9_isWithin_2 fu z (nI a) (nI b) (some 1) n (nI k) = some (b2 (al (fun v => (!bt p v || bt p' v) && (!bt q v || bt q' v)) d k)) := by
  intro d
  induction d with
  | zero =>
    intro k n h1 h2
    obtain ⟨n, rfl⟩ : ∃ m, n = m + 1 := ⟨n - 1, by omega⟩
    have e : w ≤ k := by omega
    simp (disch := omega) only [lX9_isWithin_2, wide_e hw, bd_s, nI_leI, e, al, if_true, b2_t]
  | succ d ih =>
    intro k n h1 h2
    obtain ⟨n, rfl⟩ : ∃ m, n = m + 1 := ⟨n - 1, by omega⟩
    have e : ¬ w ≤ k := by omega
    have e2 := ih (k + 1) n (by omega) (by omega)
    simp (disch := omega) only [lX9_isWithin_2, gd_t, bd_s, nm_d, jn_d, isZ_0, isZ_1, ↓reduceIte, if_true, if_false, not_true_eq_false, not_false_eq_true, ite_not, inB_I, nI_leI, nI_ltI, nI_clamp, nI_1, wide_e hw, sign_r hr ha, sign_r hr' hb, al, e, e2]
    clear ih e2
    have o1 := ok.2.2 k
    have o2 := ok'.2.2 k
    unfold SG
    cases a1 : bt p k <;> cases a2 : bt q k <;> cases a3 : bt p' k <;> cases a4 : bt q' k <;> simp_all [b2]
theorem m_within {z : OS} {w a b fu : Nat} {p q p' q' : Int32} (hw : z.2 1 0 = nI w) (h12 : w ≤ 12) (hr : Row (z.2 1) a p q) (ha : a ≤ 60) (ok : OKm w p q) (hr' : Row (z.2 1) b p' q') (hb : b ≤ 60) (ok' : OKm w p' q') (hf : 5000 ≤ fu) : fX9_isWithin fu z (nI a) (nI b) = some (b2 (wi p q p' q')) := by
  have := m_within_l (fu := fu) hw h12 hr ha ok hr' hb ok' w 0 fu (by omega) (by omega)
  rw [wi_al ok h12] at this; exact this
/-- two signs clash -/
theorem SG_clash {w : Nat} {p q p' q' : Int32} (ok : OKm w p q) (ok' : OKm w p' q') (v : Nat) : (((SG p q v + SG p' q' v = 3) ∧ ¬ SG p q v = 0 ∧ ¬ SG p' q' v = 0) ↔ ((bt p v && bt q' v) || (bt q v && bt p' v)) = true) := by
  have o1 := ok.2.2 v
  have o2 := ok'.2.2 v
  unfold SG
  cases a1 : bt p v <;> cases a2 : bt q v <;> cases a3 : bt p' v <;> cases a4 : bt q' v <;> simp_all <;> decide
theorem m_clash_l {z : OS} {w a b fu : Nat} {p q p' q' : Int32} (hw : z.2 1 0 = nI w) (h12 : w ≤ 12) (hr : Row (z.2 1) a p q) (ha : a ≤ 60) (ok : OKm w p q) (hr' : Row (z.2 1) b p' q') (hb : b ≤ 60) (ok' : OKm w p' q') (j : Int32 → Option Int32) : ∀ (d k n : Nat) (acc : Int32), k + d = w → d < n → lX9_clashing_5 fu z (nI a) (nI b) j n acc (nI k) = j (acc + cn (fun v => (bt p v && bt q' v) || (bt q v && bt p' v)) d k) := by
  intro d
  induction d with
  | zero =>
    intro k n acc h1 h2
    obtain ⟨n, rfl⟩ : ∃ m, n = m + 1 := ⟨n - 1, by omega⟩
    have e : w ≤ k := by omega
    simp (disch := omega) only [lX9_clashing_5, wide_e hw, bd_s, nI_leI, e, cn, if_true, Int32.add_zero]
  | succ d ih =>
    intro k n acc h1 h2
    obtain ⟨n, rfl⟩ : ∃ m, n = m + 1 := ⟨n - 1, by omega⟩
    have e : ¬ w ≤ k := by omega
    have e2 := fun acc => ih (k + 1) n acc (by omega) (by omega)
    simp (disch := omega) only [lX9_clashing_5, gd_t, bd_s, nm_d, jn_d, isZ_0, isZ_1, ↓reduceIte, if_true, if_false, not_true_eq_false, not_false_eq_true, ite_not, inB_I, nI_leI, nI_ltI, nI_clamp, nI_1, wide_e hw, sign_r hr ha, sign_r hr' hb, cn, e, e2]
    clear ih e2
    have o := SG_clash ok ok' k
    by_cases a1 : SG p q k + SG p' q' k = 3
    · by_cases a2 : SG p q k = 0
      · rw [if_pos a1, if_pos a2, if_neg (fun h => (o.mpr h).2.1 a2), Int32.add_zero, z_add]
      · by_cases a3 : SG p' q' k = 0
        · rw [if_pos a1, if_neg a2, if_pos a3, if_neg (fun h => (o.mpr h).2.2 a3), Int32.add_zero, z_add]
        · rw [if_pos a1, if_neg a2, if_neg a3, if_pos (o.mp ⟨a1, a2, a3⟩), Int32.add_assoc]
    · rw [if_neg a1, if_neg (fun h => a1 (o.mpr h).1), Int32.add_zero, z_add]
theorem m_clash {z : OS} {w a b fu : Nat} {p q p' q' : Int32} (hw : z.2 1 0 = nI w) (h12 : w ≤ 12) (hr : Row (z.2 1) a p q) (ha : a ≤ 60) (ok : OKm w p q) (hr' : Row (z.2 1) b p' q') (hb : b ≤ 60) (ok' : OKm w p' q') (hf : 5000 ≤ fu) : fX9_clashing fu z (nI a) (nI b) = some (pc (cm p q p' q')) := by
  have := m_clash_l (fu := fu) hw h12 hr ha ok hr' hb ok' (fun v => some v) w 0 fu 0 (by omega) (by omega)
  rw [z_add, cl_cn ok h12] at this; exact this
theorem m_clashOf_l {z : OS} {w a b fu : Nat} {p q p' q' : Int32} (hw : z.2 1 0 = nI w) (h12 : w ≤ 12) (hr : Row (z.2 1) a p q) (ha : a ≤ 60) (ok : OKm w p q) (hr' : Row (z.2 1) b p' q') (hb : b ≤ 60) (ok' : OKm w p' q') {t : Nat} (ht : t < 12) (hc : bt (cm p q p' q') t = true) (hn : ∀ i, i < t → bt (cm p q p' q') i = false) : ∀ (d k n : Nat), k + d = t → d < n → lX9_clashOf_2 fu z (nI a) (nI b) (fun v => some v) n (nI k) = some (nI t) := by
  intro d
  induction d with
  | zero =>
    intro k n h1 h2
    obtain ⟨n, rfl⟩ : ∃ m, n = m + 1 := ⟨n - 1, by omega⟩
    have h1 : k = t := h1
    subst h1
    rw [cm_bt] at hc
    obtain ⟨a1, a2, a3⟩ := (SG_clash ok ok' k).mpr hc
    simp (disch := omega) only [lX9_clashOf_2, sign_r hr ha, sign_r hr' hb, bd_s, jn_d, nm_d, a1, a2, a3, not_true_eq_false, not_false_eq_true, if_true, if_false]
  | succ d ih =>
    intro k n h1 h2
    obtain ⟨n, rfl⟩ : ∃ m, n = m + 1 := ⟨n - 1, by omega⟩
    have e2 := ih (k + 1) n (by omega) (by omega)
    have hn1 := hn k (by omega)
    rw [cm_bt] at hn1
    have o := SG_clash ok ok' k
    rw [hn1] at o
    simp (disch := omega) only [lX9_clashOf_2, sign_r hr ha, sign_r hr' hb, bd_s, jn_d, nm_d, nI_1, e2]
    by_cases a1 : SG p q k + SG p' q' k = 3
    · by_cases a2 : SG p q k = 0
      · simp [a1, a2]
      · by_cases a3 : SG p' q' k = 0
        · simp [a1, a2, a3]
        · exact absurd (o.mp ⟨a1, a2, a3⟩) (by decide)
    · simp [a1]
theorem Vm.first {w : Nat} {p : Int32} (hp : Vm w p) (h0 : p ≠ 0) : ∃ t, t < w ∧ bt p t = true ∧ (∀ i, i < t → bt p i = false) ∧ ff (bt p) w 0 = nI t := by
  rcases ff_or (p := bt p) w 0 with ⟨-, h2⟩ | ⟨i, a, b, h1, h2, h3⟩
  · exact absurd (hp.z.mpr (fun v hv => h2 v (by omega) (by omega))) h0
  · exact ⟨i, by omega, h1, fun j hj => h3 j (by omega) hj, h2⟩
theorem m_clashOf {z : OS} {w a b fu : Nat} {p q p' q' : Int32} (hw : z.2 1 0 = nI w) (h12 : w ≤ 12) (hr : Row (z.2 1) a p q) (ha : a ≤ 60) (ok : OKm w p q) (hr' : Row (z.2 1) b p' q') (hb : b ≤ 60) (ok' : OKm w p' q') (hf : 5000 ≤ fu) {t : Nat} (ht : t < 12) (hc : bt (cm p q p' q') t = true) (hn : ∀ i, i < t → bt (cm p q p' q') i = false) : fX9_clashOf fu z (nI a) (nI b) = some (nI t) :=
  m_clashOf_l (fu := fu) hw h12 hr ha ok hr' hb ok' ht hc hn t 0 fu (by omega) (by omega)
theorem m_holds_l {z : OS} {w a fu : Nat} {p q : Int32} (hw : z.2 1 0 = nI w) (h12 : w ≤ 12) (hr : Row (z.2 1) a p q) (ha : a ≤ 60) (ok : OKm w p q) (s : Int32) : ∀ (d k n : Nat), k + d = w → d < n → lX9_holds_2 fu z (nI a) s (some 0) n (nI k) = some (b2 (ex (fun v => (bt p v && bt s v) || (bt q v && !bt s v)) d k)) := by
  intro d
  induction d with
  | zero =>
    intro k n h1 h2
    obtain ⟨n, rfl⟩ : ∃ m, n = m + 1 := ⟨n - 1, by omega⟩
    have e : w ≤ k := by omega
    simp (disch := omega) only [lX9_holds_2, wide_e hw, bd_s, nI_leI, e, ex, if_true, b2_f]
  | succ d ih =>
    intro k n h1 h2
    obtain ⟨n, rfl⟩ : ∃ m, n = m + 1 := ⟨n - 1, by omega⟩
    have e : ¬ w ≤ k := by omega
    have e2 := ih (k + 1) n (by omega) (by omega)
    simp (disch := omega) only [lX9_holds_2, gd_t, bd_s, nm_d, jn_d, isZ_0, isZ_1, ↓reduceIte, if_true, if_false, not_true_eq_false, not_false_eq_true, ite_not, inB_I, nI_leI, nI_ltI, nI_clamp, nI_1, wide_e hw, sign_r hr ha, ex, sh_bit, e, e2]
    clear ih e2
    have o1 := ok.2.2 k
    unfold SG
    cases a1 : bt p k <;> cases a2 : bt q k <;> cases a3 : bt s k <;> simp_all [b2]
theorem m_holds {z : OS} {w a fu : Nat} {p q : Int32} (hw : z.2 1 0 = nI w) (h12 : w ≤ 12) (hr : Row (z.2 1) a p q) (ha : a ≤ 60) (ok : OKm w p q) (hf : 5000 ≤ fu) (s : Int32) : fX9_holds fu z (nI a) s = some (b2 (tu p q s)) := by
  have := m_holds_l (fu := fu) hw h12 hr ha ok s w 0 fu (by omega) (by omega)
  rw [tu_ex ok h12] at this; exact this
theorem wi_iff {w : Nat} {p q p' q' : Int32} (ok : OKm w p q) (h12 : w ≤ 12) : wi p q p' q' = true ↔ (∀ v, v < w → bt p v = true → bt p' v = true) ∧ ∀ v, v < w → bt q v = true → bt q' v = true := by
  unfold wi
  rw [Bool.and_eq_true, decide_eq_true_eq, decide_eq_true_eq, sub_z ok.1 (by omega), sub_z ok.2.1 (by omega)]
theorem wi_eq {w : Nat} {p q p' q' : Int32} (h12 : w ≤ 12) (ok : OKm w p q) (ok' : OKm w p' q') : (wi p q p' q' && wi p' q' p q) = (decide (p = p') && decide (q = q')) := by
  rw [Bool.eq_iff_iff, Bool.and_eq_true, Bool.and_eq_true, decide_eq_true_eq, decide_eq_true_eq, wi_iff ok h12, wi_iff ok' h12]
  constructor
  · intro ⟨⟨a, b⟩, c, d⟩
    refine ⟨ok.1.ext ok'.1 (fun v hv => ?_), ok.2.1.ext ok'.2.1 (fun v hv => ?_)⟩
    · have := a v hv
      have := c v hv
      cases e1 : bt p v <;> cases e2 : bt p' v <;> simp_all
    · have := b v hv
      have := d v hv
      cases e1 : bt q v <;> cases e2 : bt q' v <;> simp_all
  · intro ⟨a, b⟩
    subst a; subst b
    exact ⟨⟨fun _ _ h => h, fun _ _ h => h⟩, fun _ _ h => h, fun _ _ h => h⟩
theorem m_same_l {w c fu : Nat} {x z : OS} (h : QR w c x (z.2 1)) (hf : 5000 ≤ fu) {p q : Int32} (hr : Row (z.2 1) c p q) (ok : OKm w p q) : ∀ (d k n : Nat), k + d = c → d < n → lX9_same_2 fu z (some (-1)) n (nI k) = some (ff (fun i => decide (x.2 0 i = p) && decide (x.2 1 i = q)) d k) := by
  intro d
  induction d with
  | zero =>
    intro k n h1 h2
    obtain ⟨n, rfl⟩ : ∃ m, n = m + 1 := ⟨n - 1, by omega⟩
    have e : c ≤ k := by omega
    have h6 := h.c60
    simp (disch := omega) only [lX9_same_2, many_e h.mc, bd_s, nI_leI, e, ff, if_true, if_false]
  | succ d ih =>
    intro k n h1 h2
    obtain ⟨n, rfl⟩ : ∃ m, n = m + 1 := ⟨n - 1, by omega⟩
    have e : ¬ c ≤ k := by omega
    have e2 := ih (k + 1) n (by omega) (by omega)
    have r := h.row (k := k) (by omega)
    have o := h.ok (k := k) (by omega)
    have h6 := h.c60
    have w1 := m_within (fu := fu) h.mw h.w12 r (by omega) o hr h6 ok hf
    have w2 := m_within (fu := fu) h.mw h.w12 hr h6 ok r (by omega) o hf
    simp (disch := omega) only [lX9_same_2, gd_t, bd_s, nm_d, jn_d, isZ_0, isZ_1, ↓reduceIte, if_true, if_false, not_true_eq_false, not_false_eq_true, ite_not, inB_I, nI_leI, nI_ltI, nI_clamp, nI_1, many_e h.mc, w1, w2, ff, b2_0, e, e2]
    clear ih e2 w1 w2
    have e3 := wi_eq h.w12 o ok
    rcases Bool.eq_false_or_eq_true (wi (x.2 0 k) (x.2 1 k) p q) with a1 | a1 <;> rcases Bool.eq_false_or_eq_true (wi p q (x.2 0 k) (x.2 1 k)) with a2 | a2 <;> (rw [a1, a2] at e3; simp only [a1, a2, ← e3]; simp)
theorem m_any_l {w c fu : Nat} {x z : OS} (h : QR w c x (z.2 1)) (hf : 5000 ≤ fu) {p q : Int32} (hr : Row (z.2 1) c p q) (ok : OKm w p q) : ∀ (d k n : Nat), k + d = c → d < n → lX9_isAnyWithinTried_2 fu z (some 0) n (nI k) = some (b2 (ex (fun i => wi (x.2 0 i) (x.2 1 i) p q) d k)) := by
  intro d
  induction d with
  | zero =>
    intro k n h1 h2
    obtain ⟨n, rfl⟩ : ∃ m, n = m + 1 := ⟨n - 1, by omega⟩
    have e : c ≤ k := by omega
    have h6 := h.c60
    simp (disch := omega) only [lX9_isAnyWithinTried_2, many_e h.mc, bd_s, nI_leI, e, ex, if_true, b2_f]
  | succ d ih =>
    intro k n h1 h2
    obtain ⟨n, rfl⟩ : ∃ m, n = m + 1 := ⟨n - 1, by omega⟩
    have e : ¬ c ≤ k := by omega
    have e2 := ih (k + 1) n (by omega) (by omega)
    have r := h.row (k := k) (by omega)
    have o := h.ok (k := k) (by omega)
    have h6 := h.c60
    have w1 := m_within (fu := fu) h.mw h.w12 r (by omega) o hr h6 ok hf
    simp (disch := omega) only [lX9_isAnyWithinTried_2, gd_t, bd_s, nm_d, jn_d, isZ_0, isZ_1, ↓reduceIte, if_true, if_false, not_true_eq_false, not_false_eq_true, ite_not, inB_I, nI_leI, nI_ltI, nI_clamp, nI_1, many_e h.mc, w1, ex, b2_0, e, e2]
    clear ih e2 w1
    rcases Bool.eq_false_or_eq_true (wi (x.2 0 k) (x.2 1 k) p q) with hh | hh <;> simp [hh, b2]
theorem m_empty_l {w c fu : Nat} {x z : OS} (h : QR w c x (z.2 1)) (hf : 5000 ≤ fu) : ∀ (d k n : Nat), k + d = c → d < n → lX9_empty_2 fu z (some (-1)) n (nI k) = some (ff (fun i => decide (pc (x.2 0 i) + pc (x.2 1 i) = 0)) d k) := by
  intro d
  induction d with
  | zero =>
    intro k n h1 h2
    obtain ⟨n, rfl⟩ : ∃ m, n = m + 1 := ⟨n - 1, by omega⟩
    have e : c ≤ k := by omega
    have h6 := h.c60
    simp (disch := omega) only [lX9_empty_2, many_e h.mc, bd_s, nI_leI, e, ff, if_true, if_false]
  | succ d ih =>
    intro k n h1 h2
    obtain ⟨n, rfl⟩ : ∃ m, n = m + 1 := ⟨n - 1, by omega⟩
    have e : ¬ c ≤ k := by omega
    have e2 := ih (k + 1) n (by omega) (by omega)
    have r := h.row (k := k) (by omega)
    have o := h.ok (k := k) (by omega)
    have h6 := h.c60
    have w1 := m_lit (fu := fu) h.mw h.w12 r (by omega) o hf
    simp (disch := omega) only [lX9_empty_2, gd_t, bd_s, nm_d, jn_d, isZ_0, isZ_1, ↓reduceIte, if_true, if_false, not_true_eq_false, not_false_eq_true, ite_not, inB_I, nI_leI, nI_ltI, nI_clamp, nI_1, many_e h.mc, w1, ff, e, e2]
    clear ih e2 w1
    by_cases a : pc (x.2 0 k) + pc (x.2 1 k) = 0 <;> simp [a]
theorem m_same {w c fu : Nat} {x z : OS} (h : QR w c x (z.2 1)) (hf : 5000 ≤ fu) {p q : Int32} (hr : Row (z.2 1) c p q) (ok : OKm w p q) : fX9_same fu z = some (ff (fun i => decide (x.2 0 i = p) && decide (x.2 1 i = q)) c 0) :=
  m_same_l h hf hr ok c 0 fu (by omega) (by have := h.c60; omega)
theorem m_any {w c fu : Nat} {x z : OS} (h : QR w c x (z.2 1)) (hf : 5000 ≤ fu) {p q : Int32} (hr : Row (z.2 1) c p q) (ok : OKm w p q) : fX9_isAnyWithinTried fu z = some (b2 (ex (fun i => wi (x.2 0 i) (x.2 1 i) p q) c 0)) :=
  m_any_l h hf hr ok c 0 fu (by omega) (by have := h.c60; omega)
theorem cn_0 {p : Nat → Bool} : ∀ {d k : Nat}, d < 2 ^ 31 → (cn p d k = 0 ↔ ∀ i, k ≤ i → i < k + d → p i = false) ∧ ∃ t, t ≤ d ∧ cn p d k = nI t
  | 0, k, _ => ⟨⟨fun _ i a b => absurd b (by omega), fun _ => rfl⟩, 0, by omega, rfl⟩
  | d + 1, k, h => by
    obtain ⟨h1, t, ht, h2⟩ := cn_0 (p := p) (d := d) (k := k + 1) (by omega)
    cases e : p k
    · have e2 : cn p (d + 1) k = cn p d (k + 1) := by rw [cn, e]; simp
      rw [e2]
      refine ⟨h1.trans ⟨fun f i a b => ?_, fun f i a b => f i (by omega) (by omega)⟩, t, by omega, h2⟩
      by_cases g : i = k
      · subst g; exact e
      · exact f i (by omega) (by omega)
    · have e2 : cn p (d + 1) k = nI (t + 1) := by rw [cn, e, if_pos rfl, h2, Int32.add_comm, nI_1]
      rw [e2]
      refine ⟨⟨fun f => absurd f (nI_ne (b := 0) (by omega) (by omega) (by omega)), fun f => ?_⟩, t + 1, by omega, rfl⟩
      rw [f k (by omega) (by omega)] at e; cases e
theorem lit_0 {w : Nat} {p q : Int32} (ok : OKm w p q) (h12 : w ≤ 12) : (pc p + pc q = 0) ↔ (p = 0 ∧ q = 0) := by
  rw [← lit_cn ok h12, (cn_0 (by omega)).1, ok.1.z, ok.2.1.z]
  constructor
  · intro h
    refine ⟨fun v hv => ?_, fun v hv => ?_⟩
    · have := h v (by omega) (by omega)
      rw [Bool.or_eq_false_iff] at this; exact this.1
    · have := h v (by omega) (by omega)
      rw [Bool.or_eq_false_iff] at this; exact this.2
  · intro ⟨a, b⟩ v _ hv
    rw [a v (by omega), b v (by omega)]; rfl
theorem m_empty {w c fu : Nat} {x z : OS} (h : QR w c x (z.2 1)) (hf : 5000 ≤ fu) : fX9_empty fu z = some (ff (fun i => decide (x.2 0 i = 0) && decide (x.2 1 i = 0)) c 0) := by
  have := m_empty_l h hf c 0 fu (by omega) (by have := h.c60; omega)
  rw [ff_c (q := fun i => decide (x.2 0 i = 0) && decide (x.2 1 i = 0)) (fun i _ hi => by
    rw [Bool.eq_iff_iff, Bool.and_eq_true, decide_eq_true_eq, decide_eq_true_eq, decide_eq_true_eq, lit_0 (h.ok (by omega)) h.w12])] at this
  exact this
theorem m_isParent_l {w c fu : Nat} {x z : OS} (h : QR w c x (z.2 1)) (hf : 5000 ≤ fu) {a : Nat} (ha : a < 60) : ∀ (d k n : Nat), k + d = c → d < n → lX9_isParent_2 fu z (nI a) (some 0) n (nI k) = some (b2 (ex (fun i => decide (x.2 2 i = nI a) || decide (x.2 3 i = nI a)) d k)) := by
  intro d
  induction d with
  | zero =>
    intro k n h1 h2
    obtain ⟨n, rfl⟩ : ∃ m, n = m + 1 := ⟨n - 1, by omega⟩
    have e : c ≤ k := by omega
    have h6 := h.c60
    simp (disch := omega) only [lX9_isParent_2, many_e h.mc, bd_s, nI_leI, e, ex, if_true, b2_f]
  | succ d ih =>
    intro k n h1 h2
    obtain ⟨n, rfl⟩ : ∃ m, n = m + 1 := ⟨n - 1, by omega⟩
    have e : ¬ c ≤ k := by omega
    have e2 := ih (k + 1) n (by omega) (by omega)
    have h6 := h.c60
    have a1 := h.fst (k := k) (by omega)
    have a2 := h.snd (k := k) (by omega)
    have a3 := h.by (k := k) (by omega)
    simp (disch := omega) only [lX9_isParent_2, gd_t, bd_s, nm_d, jn_d, isZ_0, isZ_1, ↓reduceIte, if_true, if_false, not_true_eq_false, not_false_eq_true, ite_not, inB_I, nI_leI, nI_ltI, nI_clamp, nI_1, many_e h.mc, ex, L734, L795, L856, nI_add, a1, a2, a3, e, e2]
    clear ih e2 a1 a2 a3
    rcases h.pw (k := k) (by omega) with ⟨b1, b2', b3, -⟩ | ⟨v, a', b', hv, h1, h2, b1, b2', b3, -⟩
    · rw [b1, b2', b3]
      have : ¬ ((-1 : Int32) = nI a) := fun e => by have := nI_m1 (a := a) (by omega); rw [e] at this; exact (this.mp rfl).elim
      simp [this]
    · rw [b1, b2', b3]
      have : ¬ (nI v = (-1 : Int32)) := fun e => (nI_m1 (a := v) (by have := h.w12; omega)).mp e
      by_cases c1 : nI a' = nI a <;> by_cases c2 : nI b' = nI a <;> simp [this, c1, c2, b2]
theorem m_subsumer_l {w c fu : Nat} {x z : OS} (h : QR w c x (z.2 1)) (hf : 5000 ≤ fu) {a : Nat} (ha : a < c) : ∀ (d k n : Nat), k + d = c → d < n → lX9_subsumer_2 fu z (nI a) (some (-1)) n (nI k) = some (ff (fun i => !decide (i = a) && wi (x.2 0 i) (x.2 1 i) (x.2 0 a) (x.2 1 a)) d k) := by
  intro d
  induction d with
  | zero =>
    intro k n h1 h2
    obtain ⟨n, rfl⟩ : ∃ m, n = m + 1 := ⟨n - 1, by omega⟩
    have e : c ≤ k := by omega
    have h6 := h.c60
    simp (disch := omega) only [lX9_subsumer_2, many_e h.mc, bd_s, nI_leI, e, ff, if_true, if_false]
  | succ d ih =>
    intro k n h1 h2
    obtain ⟨n, rfl⟩ : ∃ m, n = m + 1 := ⟨n - 1, by omega⟩
    have e : ¬ c ≤ k := by omega
    have e2 := ih (k + 1) n (by omega) (by omega)
    have r := h.row (k := k) (by omega)
    have o := h.ok (k := k) (by omega)
    have h6 := h.c60
    have w1 := m_within (fu := fu) h.mw h.w12 r (by omega) o (h.row ha) (by omega) (h.ok ha) hf
    simp (disch := omega) only [lX9_subsumer_2, gd_t, bd_s, nm_d, jn_d, isZ_0, isZ_1, ↓reduceIte, if_true, if_false, not_true_eq_false, not_false_eq_true, ite_not, inB_I, nI_leI, nI_ltI, nI_clamp, nI_1, many_e h.mc, w1, ff, b2_0, nI_eq, e, e2]
    clear ih e2 w1
    by_cases a2 : k = a
    · simp [a2]
    · rcases Bool.eq_false_or_eq_true (wi (x.2 0 k) (x.2 1 k) (x.2 0 a) (x.2 1 a)) with hh | hh <;> simp [hh, a2]
theorem m_isParent {w c fu : Nat} {x z : OS} (h : QR w c x (z.2 1)) (hf : 5000 ≤ fu) {a : Nat} (ha : a < 60) : fX9_isParent fu z (nI a) = some (b2 (ex (fun i => decide (x.2 2 i = nI a) || decide (x.2 3 i = nI a)) c 0)) :=
  m_isParent_l h hf ha c 0 fu (by omega) (by have := h.c60; omega)
theorem m_subsumer {w c fu : Nat} {x z : OS} (h : QR w c x (z.2 1)) (hf : 5000 ≤ fu) {a : Nat} (ha : a < c) : fX9_subsumer fu z (nI a) = some (ff (fun i => !decide (i = a) && wi (x.2 0 i) (x.2 1 i) (x.2 0 a) (x.2 1 a)) c 0) :=
  m_subsumer_l h hf ha c 0 fu (by omega) (by have := h.c60; omega)
theorem m_isSubsumed {w c fu : Nat} {x z : OS} (h : QR w c x (z.2 1)) (hf : 5000 ≤ fu) {a : Nat} (ha : a < c) : fX9_isSubsumed fu z (nI a) = some (b2 (sb x c a)) := by
  simp only [fX9_isSubsumed, m_subsumer h hf ha, bd_s, sb_ff x h.c60, isZ_0, isZ_1, gd_t]
  cases sb x c a <;> rfl
theorem m_subsumed_l {w c fu : Nat} {x z : OS} (h : QR w c x (z.2 1)) (hf : 5000 ≤ fu) (j : Int32 → Option Int32) : ∀ (d k n : Nat) (acc : Int32), k + d = c → d < n → lX9_subsumed_4 fu z j n acc (nI k) = j (acc + cn (sb x c) d k) := by
  intro d
  induction d with
  | zero =>
    intro k n acc h1 h2
    obtain ⟨n, rfl⟩ : ∃ m, n = m + 1 := ⟨n - 1, by omega⟩
    have e : c ≤ k := by omega
    have h6 := h.c60
    simp (disch := omega) only [lX9_subsumed_4, many_e h.mc, bd_s, nI_leI, e, cn, if_true, Int32.add_zero]
  | succ d ih =>
    intro k n acc h1 h2
    obtain ⟨n, rfl⟩ : ∃ m, n = m + 1 := ⟨n - 1, by omega⟩
    have e : ¬ c ≤ k := by omega
    have e2 := fun acc => ih (k + 1) n acc (by omega) (by omega)
    have h6 := h.c60
    have w1 := m_isSubsumed (fu := fu) h hf (a := k) (by omega)
    simp (disch := omega) only [lX9_subsumed_4, gd_t, bd_s, nm_d, jn_d, isZ_0, isZ_1, ↓reduceIte, if_true, if_false, not_true_eq_false, not_false_eq_true, ite_not, inB_I, nI_leI, nI_ltI, nI_clamp, nI_1, many_e h.mc, w1, cn, b2_0, e, e2]
    clear ih e2 w1
    rcases Bool.eq_false_or_eq_true (sb x c k) with hh | hh <;> simp [hh, Int32.add_assoc]
theorem m_isModel_l {w c fu : Nat} {x z : OS} (h : QR w c x (z.2 1)) (hf : 5000 ≤ fu) (s lo : Int32) : ∀ (d k n : Nat), k + d = c → d < n → lX9_isModel_2 fu z s lo (some 1) n (nI k) = some (b2 (al (fun i => decide (nI i = lo) || tu (x.2 0 i) (x.2 1 i) s) d k)) := by
  intro d
  induction d with
  | zero =>
    intro k n h1 h2
    obtain ⟨n, rfl⟩ : ∃ m, n = m + 1 := ⟨n - 1, by omega⟩
    have e : c ≤ k := by omega
    have h6 := h.c60
    simp (disch := omega) only [lX9_isModel_2, many_e h.mc, bd_s, nI_leI, e, al, if_true, b2_t]
  | succ d ih =>
    intro k n h1 h2
    obtain ⟨n, rfl⟩ : ∃ m, n = m + 1 := ⟨n - 1, by omega⟩
    have e : ¬ c ≤ k := by omega
    have e2 := ih (k + 1) n (by omega) (by omega)
    have r := h.row (k := k) (by omega)
    have o := h.ok (k := k) (by omega)
    have h6 := h.c60
    have w1 := m_holds (fu := fu) h.mw h.w12 r (by omega) o hf s
    simp (disch := omega) only [lX9_isModel_2, gd_t, bd_s, nm_d, jn_d, isZ_0, isZ_1, ↓reduceIte, if_true, if_false, not_true_eq_false, not_false_eq_true, ite_not, inB_I, nI_leI, nI_ltI, nI_clamp, nI_1, many_e h.mc, w1, al, b2_0, e, e2]
    clear ih e2 w1
    by_cases b : nI k = lo
    · simp [b]
    · rcases Bool.eq_false_or_eq_true (tu (x.2 0 k) (x.2 1 k) s) with hh | hh <;> simp [hh, b, b2]
theorem m_false_l {w c fu : Nat} {x z : OS} (h : QR w c x (z.2 1)) (hf : 5000 ≤ fu) (s : Int32) (j : Int32 → Option Int32) : ∀ (d k n : Nat) (acc : Int32), k + d = c → d < n → lX9_falseUnder_4 fu z s j n acc (nI k) = j (acc + cn (fun i => !tu (x.2 0 i) (x.2 1 i) s) d k) := by
  intro d
  induction d with
  | zero =>
    intro k n acc h1 h2
    obtain ⟨n, rfl⟩ : ∃ m, n = m + 1 := ⟨n - 1, by omega⟩
    have e : c ≤ k := by omega
    have h6 := h.c60
    simp (disch := omega) only [lX9_falseUnder_4, many_e h.mc, bd_s, nI_leI, e, cn, if_true, Int32.add_zero]
  | succ d ih =>
    intro k n acc h1 h2
    obtain ⟨n, rfl⟩ : ∃ m, n = m + 1 := ⟨n - 1, by omega⟩
    have e : ¬ c ≤ k := by omega
    have e2 := fun acc => ih (k + 1) n acc (by omega) (by omega)
    have r := h.row (k := k) (by omega)
    have o := h.ok (k := k) (by omega)
    have h6 := h.c60
    have w1 := m_holds (fu := fu) h.mw h.w12 r (by omega) o hf s
    simp (disch := omega) only [lX9_falseUnder_4, gd_t, bd_s, nm_d, jn_d, isZ_0, isZ_1, ↓reduceIte, if_true, if_false, not_true_eq_false, not_false_eq_true, ite_not, inB_I, nI_leI, nI_ltI, nI_clamp, nI_1, many_e h.mc, w1, cn, b2_0, e, e2]
    clear ih e2 w1
    rcases Bool.eq_false_or_eq_true (tu (x.2 0 k) (x.2 1 k) s) with hh | hh <;> simp [hh, Int32.add_assoc]
theorem m_subsumed {w c fu : Nat} {x z : OS} (h : QR w c x (z.2 1)) (hf : 5000 ≤ fu) : fX9_subsumed fu z = some (cn (sb x c) c 0) := by
  have := m_subsumed_l h hf (fun v => some v) c 0 fu 0 (by omega) (by have := h.c60; omega)
  rw [z_add] at this; exact this
theorem m_isModel {w c fu : Nat} {x z : OS} (h : QR w c x (z.2 1)) (hf : 5000 ≤ fu) (s lo : Int32) : fX9_isModel fu z s lo = some (b2 (mo x c lo s)) :=
  m_isModel_l h hf s lo c 0 fu (by omega) (by have := h.c60; omega)
theorem m_false {w c fu : Nat} {x z : OS} (h : QR w c x (z.2 1)) (hf : 5000 ≤ fu) (s : Int32) : fX9_falseUnder fu z s = some (cn (fun i => !tu (x.2 0 i) (x.2 1 i) s) c 0) := by
  have := m_false_l h hf s (fun v => some v) c 0 fu 0 (by omega) (by have := h.c60; omega)
  rw [z_add] at this; exact this
theorem sh_w : ∀ w, w < 13 → ((1 : Int32) <<< (nI w &&& 31)) = nI (2 ^ w) := by decide +kernel
theorem pw12 {w : Nat} (h : w ≤ 12) : 1 ≤ 2 ^ w ∧ 2 ^ w ≤ 4096 := ⟨Nat.one_le_two_pow, by have := Nat.pow_le_pow_right (n := 2) (by omega) h; omega⟩
theorem QR.av {w c : Nat} {x : OS} {m : Nat → Int32} (h : QR w c x m) : ((1 : Int32) <<< (x.1 6 &&& 31)) - 1 = nI (2 ^ w - 1) := by
  rw [h.xw, sh_w w (by have := h.w12; omega), L1, pk_sub (pw12 h.w12).1]
theorem m_asg {z : OS} {w : Nat} (hw : z.2 1 0 = nI w) (h12 : w ≤ 12) (fu : Nat) : fX9_assignments fu z = some (nI (2 ^ w)) := by
  unfold fX9_assignments
  rw [wide_e hw, bd_s, sh_w w (by omega)]
theorem m_models_l {w c fu : Nat} {x z : OS} (h : QR w c x (z.2 1)) (hf : 5000 ≤ fu) (j : Int32 → Option Int32) : ∀ (d k n : Nat) (acc : Int32), k + d = 2 ^ w → d < n → lX9_models_4 fu z j n acc (nI k) = j (acc + cn (fun a => mo x c (-1) (nI a)) d k) := by
  intro d
  induction d with
  | zero =>
    intro k n acc h1 h2
    obtain ⟨n, rfl⟩ : ∃ m, n = m + 1 := ⟨n - 1, by omega⟩
    have e : 2 ^ w ≤ k := by omega
    have p12 := (pw12 h.w12).2
    simp (disch := omega) only [lX9_models_4, m_asg h.mw h.w12, bd_s, nI_leI, e, cn, if_true, Int32.add_zero]
  | succ d ih =>
    intro k n acc h1 h2
    obtain ⟨n, rfl⟩ : ∃ m, n = m + 1 := ⟨n - 1, by omega⟩
    have e : ¬ 2 ^ w ≤ k := by omega
    have e2 := fun acc => ih (k + 1) n acc (by omega) (by omega)
    have p12 := (pw12 h.w12).2
    simp (disch := omega) only [lX9_models_4, gd_t, bd_s, nm_d, jn_d, isZ_0, isZ_1, ↓reduceIte, if_true, if_false, not_true_eq_false, not_false_eq_true, ite_not, inB_I, nI_leI, nI_ltI, nI_clamp, nI_1, m_asg h.mw h.w12, m_isModel h hf, cn, b2_0, e, e2]
    clear ih e2
    rcases Bool.eq_false_or_eq_true (mo x c (-1) (nI k)) with hh | hh <;> simp [hh, Int32.add_assoc]
theorem m_follows_l {w c fu : Nat} {x z : OS} (h : QR w c x (z.2 1)) (hf : 5000 ≤ fu) {a : Nat} {p q : Int32} (hr : Row (z.2 1) a p q) (ha : a ≤ 60) (ok : OKm w p q) (lo : Int32) : ∀ (d k n : Nat), k + d = 2 ^ w → d < n → lX9_follows_2 fu z (nI a) lo (some 1) n (nI k) = some (b2 (al (fun a => !(!tu p q (nI a) && mo x c lo (nI a))) d k)) := by
  intro d
  induction d with
  | zero =>
    intro k n h1 h2
    obtain ⟨n, rfl⟩ : ∃ m, n = m + 1 := ⟨n - 1, by omega⟩
    have e : 2 ^ w ≤ k := by omega
    have p12 := (pw12 h.w12).2
    simp (disch := omega) only [lX9_follows_2, m_asg h.mw h.w12, bd_s, nI_leI, e, al, if_true, b2_t]
  | succ d ih =>
    intro k n h1 h2
    obtain ⟨n, rfl⟩ : ∃ m, n = m + 1 := ⟨n - 1, by omega⟩
    have e : ¬ 2 ^ w ≤ k := by omega
    have e2 := ih (k + 1) n (by omega) (by omega)
    have p12 := (pw12 h.w12).2
    simp (disch := omega) only [lX9_follows_2, gd_t, bd_s, nm_d, jn_d, isZ_0, isZ_1, ↓reduceIte, if_true, if_false, not_true_eq_false, not_false_eq_true, ite_not, inB_I, nI_leI, nI_ltI, nI_clamp, nI_1, m_asg h.mw h.w12, m_isModel h hf, al, b2_0, m_holds h.mw h.w12 hr ha ok hf, e, e2]
    clear ih e2
    rcases Bool.eq_false_or_eq_true (mo x c lo (nI k)) with hh | hh <;> rcases Bool.eq_false_or_eq_true (tu p q (nI k)) with h3 | h3 <;> simp [hh, h3, b2]
theorem m_alw1_l {w c fu : Nat} {x z : OS} (h : QR w c x (z.2 1)) (hf : 5000 ≤ fu) (j : Int32 → Option Int32) : ∀ (d k n : Nat) (acc : Int32), k + d = 2 ^ w → d < n → lX9_always_9 fu z 1 j n acc (nI k) = j (am (fun a => mo x c (-1) (nI a)) (fun a => nI a) d k acc) := by
  intro d
  induction d with
  | zero =>
    intro k n acc h1 h2
    obtain ⟨n, rfl⟩ : ∃ m, n = m + 1 := ⟨n - 1, by omega⟩
    have e : 2 ^ w ≤ k := by omega
    have p12 := (pw12 h.w12).2
    simp (disch := omega) only [lX9_always_9, m_asg h.mw h.w12, bd_s, nI_leI, e, am, if_true, if_false]
  | succ d ih =>
    intro k n acc h1 h2
    obtain ⟨n, rfl⟩ : ∃ m, n = m + 1 := ⟨n - 1, by omega⟩
    have e : ¬ 2 ^ w ≤ k := by omega
    have e2 := fun acc => ih (k + 1) n acc (by omega) (by omega)
    have p12 := (pw12 h.w12).2
    simp (disch := omega) only [lX9_always_9, gd_t, bd_s, nm_d, jn_d, isZ_0, isZ_1, ↓reduceIte, if_true, if_false, not_true_eq_false, not_false_eq_true, ite_not, inB_I, nI_leI, nI_ltI, nI_clamp, nI_1, m_asg h.mw h.w12, m_isModel h hf, am, b2_0, i0_ne1, e, e2]
    clear ih e2
    rcases Bool.eq_false_or_eq_true (mo x c (-1) (nI k)) with hh | hh <;> simp [hh]
theorem m_alw0_l {w c fu : Nat} {x z : OS} (h : QR w c x (z.2 1)) (hf : 5000 ≤ fu) (j : Int32 → Option Int32) : ∀ (d k n : Nat) (acc : Int32), k + d = 2 ^ w → d < n → lX9_always_9 fu z 0 j n acc (nI k) = j (am (fun a => mo x c (-1) (nI a)) (fun a => nI a ^^^ (-1)) d k acc) := by
  intro d
  induction d with
  | zero =>
    intro k n acc h1 h2
    obtain ⟨n, rfl⟩ : ∃ m, n = m + 1 := ⟨n - 1, by omega⟩
    have e : 2 ^ w ≤ k := by omega
    have p12 := (pw12 h.w12).2
    simp (disch := omega) only [lX9_always_9, m_asg h.mw h.w12, bd_s, nI_leI, e, am, if_true, if_false]
  | succ d ih =>
    intro k n acc h1 h2
    obtain ⟨n, rfl⟩ : ∃ m, n = m + 1 := ⟨n - 1, by omega⟩
    have e : ¬ 2 ^ w ≤ k := by omega
    have e2 := fun acc => ih (k + 1) n acc (by omega) (by omega)
    have p12 := (pw12 h.w12).2
    simp (disch := omega) only [lX9_always_9, gd_t, bd_s, nm_d, jn_d, isZ_0, isZ_1, ↓reduceIte, if_true, if_false, not_true_eq_false, not_false_eq_true, ite_not, inB_I, nI_leI, nI_ltI, nI_clamp, nI_1, m_asg h.mw h.w12, m_isModel h hf, am, b2_0, i0_ne1, e, e2]
    clear ih e2
    rcases Bool.eq_false_or_eq_true (mo x c (-1) (nI k)) with hh | hh <;> simp [hh]
theorem m_models {w c fu : Nat} {x z : OS} (h : QR w c x (z.2 1)) (hf : 5000 ≤ fu) : fX9_models fu z = some (cn (fun a => mo x c (-1) (nI a)) (2 ^ w) 0) := by
  have := m_models_l h hf (fun v => some v) (2 ^ w) 0 fu 0 (by omega) (by have := (pw12 h.w12).2; omega)
  rw [z_add] at this; exact this
theorem m_follows {w c fu : Nat} {x z : OS} (h : QR w c x (z.2 1)) (hf : 5000 ≤ fu) {a : Nat} {p q : Int32} (hr : Row (z.2 1) a p q) (ha : a ≤ 60) (ok : OKm w p q) (lo : Int32) : fX9_follows fu z (nI a) lo = some (b2 (al (fun a => !(!tu p q (nI a) && mo x c lo (nI a))) (2 ^ w) 0)) :=
  m_follows_l h hf hr ha ok lo (2 ^ w) 0 fu (by omega) (by have := (pw12 h.w12).2; omega)
theorem m_alw1 {w c fu : Nat} {x z : OS} (h : QR w c x (z.2 1)) (hf : 5000 ≤ fu) : fX9_always fu z 1 = some (am (fun a => mo x c (-1) (nI a)) (fun a => nI a) (2 ^ w) 0 (nI (2 ^ w - 1))) := by
  unfold fX9_always
  rw [m_asg h.mw h.w12, bd_s, L1, pk_sub (pw12 h.w12).1]
  exact m_alw1_l h hf (fun v => some v) (2 ^ w) 0 fu _ (by omega) (by have := (pw12 h.w12).2; omega)
theorem m_alw0 {w c fu : Nat} {x z : OS} (h : QR w c x (z.2 1)) (hf : 5000 ≤ fu) : fX9_always fu z 0 = some (am (fun a => mo x c (-1) (nI a)) (fun a => nI a ^^^ (-1)) (2 ^ w) 0 (nI (2 ^ w - 1))) := by
  unfold fX9_always
  rw [m_asg h.mw h.w12, bd_s, L1, pk_sub (pw12 h.w12).1]
  exact m_alw0_l h hf (fun v => some v) (2 ^ w) 0 fu _ (by omega) (by have := (pw12 h.w12).2; omega)
