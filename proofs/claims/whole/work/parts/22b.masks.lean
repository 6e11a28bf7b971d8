/-! Part II: numbers, bits, masks of twelve variables, counts. The first family is the kit's starting text on bits. -/
/-! ===== Int32 by its bits: bt x i ===== -/
def bt (x : Int32) (i : Nat) : Bool := x.toBitVec.getLsbD i
theorem b_ext {x y : Int32} (h : ∀ i, i < 32 → bt x i = bt y i) : x = y := Int32.toBitVec_inj.mp (BitVec.eq_of_getLsbD_eq (fun i hi => h i hi))
theorem b_or (x y : Int32) (i : Nat) : bt (x ||| y) i = (bt x i || bt y i) := by unfold bt; rw [Int32.toBitVec_or, BitVec.getLsbD_or]
theorem b_and (x y : Int32) (i : Nat) : bt (x &&& y) i = (bt x i && bt y i) := by unfold bt; rw [Int32.toBitVec_and, BitVec.getLsbD_and]
theorem b_xor (x y : Int32) (i : Nat) : bt (x ^^^ y) i = (bt x i ^^ bt y i) := by unfold bt; rw [Int32.toBitVec_xor, BitVec.getLsbD_xor]
theorem b_big {x : Int32} {i : Nat} (h : 32 ≤ i) : bt x i = false := BitVec.getLsbD_of_ge _ _ h
theorem b_255 (i : Nat) : bt 255 i = decide (i < 8) := by
  rcases Nat.lt_or_ge i 32 with h | h
  · exact (by decide +kernel : ∀ i, i < 32 → bt 255 i = decide (i < 8)) i h
  · rw [b_big h, decide_eq_false (by omega)]
theorem b_65535 (i : Nat) : bt 65535 i = decide (i < 16) := by
  rcases Nat.lt_or_ge i 32 with h | h
  · exact (by decide +kernel : ∀ i, i < 32 → bt 65535 i = decide (i < 16)) i h
  · rw [b_big h, decide_eq_false (by omega)]
theorem b_m1 : ∀ i, i < 32 → bt (-1) i = true := by decide +kernel
theorem b_0 (i : Nat) : bt 0 i = false := BitVec.getLsbD_zero
theorem s_l : ∀ n, n < 32 → ((nI n &&& 31).toBitVec.smod 32).toNat = n := by decide +kernel
theorem s_u : ∀ n, n < 32 → (((nI n).toUInt32 &&& Int32.toUInt32 31).toBitVec % 32).toNat = n := by decide +kernel
theorem b_shl (n : Nat) (hn : n < 32) (x : Int32) {i : Nat} (hi : i < 32) : bt (x <<< (nI n &&& 31)) i = (decide (n ≤ i) && bt x (i - n)) := by
  unfold bt
  rw [Int32.toBitVec_shiftLeft]
  show (x.toBitVec <<< ((nI n &&& 31).toBitVec.smod 32).toNat).getLsbD i = _
  rw [s_l n hn, BitVec.getLsbD_shiftLeft]
  rcases Nat.lt_or_ge i n with h | h
  · simp [h, Nat.not_le.mpr h]
  · simp [hi, h, Nat.not_lt.mpr h]
theorem b_ushr (n : Nat) (hn : n < 32) (x : Int32) (i : Nat) : bt ((x.toUInt32 >>> ((nI n).toUInt32 &&& Int32.toUInt32 31)).toInt32) i = bt x (n + i) := by
  show (x.toUInt32 >>> ((nI n).toUInt32 &&& Int32.toUInt32 31)).toBitVec.getLsbD i = x.toUInt32.toBitVec.getLsbD (n + i)
  rw [UInt32.toBitVec_shiftRight]
  show (x.toUInt32.toBitVec >>> (((nI n).toUInt32 &&& Int32.toUInt32 31).toBitVec % 32).toNat).getLsbD i = _
  rw [s_u n hn, BitVec.getLsbD_ushiftRight]
theorem b_sshr (n : Nat) (hn : n < 32) (x : Int32) {i : Nat} (hi : i < 32) : bt (x >>> (nI n &&& 31)) i = if n + i < 32 then bt x (n + i) else bt x 31 := by
  unfold bt
  rw [Int32.toBitVec_shiftRight]
  show (x.toBitVec.sshiftRight ((nI n &&& 31).toBitVec.smod 32).toNat).getLsbD i = _
  rw [s_l n hn, BitVec.getLsbD_sshiftRight, BitVec.msb_eq_getLsbD_last]
  simp [hi]
/-! the small words of the pure functions -/
theorem gd_t {β : Type} (x : Option β) : gd true x = x := rfl
theorem bd_s {α β : Type} (a : α) (f : α → Option β) : bd (some a) f = f a := rfl
theorem nm_d {α β : Type} (x : α) (f : α → Option β) : nm x f = f x := rfl
theorem jn_d {κ β : Type} (k : κ) (b : κ → Option β) : jn k b = b k := rfl
theorem isZ_0 : isZ 0 = true := by decide
theorem isZ_1 : isZ 1 = true := by decide
theorem inB_I {k n : Nat} (h : k < n) (h2 : k < 2 ^ 31) : inB (nI k) n = true := by
  apply inB_of
  intro q
  rcases q with q | q
  · exact nI_pos h2 q
  · rw [nI_clamp h2] at q; omega
theorem nI_ne {a b : Nat} (h : a ≠ b) (ha : a < 2 ^ 31) (hb : b < 2 ^ 31) : nI a ≠ nI b := fun e => h ((nI_eq ha hb).mp e)
theorem nI_m1 {a : Nat} (ha : a < 2 ^ 31) : (nI a = -1) = False := by
  apply eq_false
  intro e
  have := congrArg Int32.toInt e
  rw [nI_toInt ha] at this
  have h : ((-1 : Int32)).toInt = -1 := by decide
  omega
theorem nI_lt0 {a : Nat} (ha : a < 2 ^ 31) : (nI a < 0) = False := eq_false (nI_pos ha)
theorem m1_lt {a : Nat} (ha : a < 2 ^ 31) : ((-1 : Int32) < nI a) = True := by
  apply eq_true
  rw [Int32.lt_iff_toInt_lt, nI_toInt ha]
  have h : ((-1 : Int32)).toInt = -1 := by decide
  omega
theorem m1_ne0 : ((-1 : Int32) = 0) = False := by decide
theorem i1_ne0 : ((1 : Int32) = 0) = False := by decide
theorem i0_ne1 : ((0 : Int32) = 1) = False := by decide
theorem i2_ne0 : ((2 : Int32) = 0) = False := by decide
theorem i2_ne1 : ((2 : Int32) = 1) = False := by decide
theorem i1_ne2 : ((1 : Int32) = 2) = False := by decide
theorem nI_i0 {a : Nat} (ha : a < 2 ^ 31) : (nI a = 0) = (a = 0) := propext (nI_eq (b := 0) ha (by omega))
theorem L0 : (0 : Int32) = nI 0 := rfl
theorem L1 : (1 : Int32) = nI 1 := rfl
theorem L2 : (2 : Int32) = nI 2 := rfl
theorem L12 : (12 : Int32) = nI 12 := rfl
theorem L20 : (20 : Int32) = nI 20 := rfl
theorem L35 : (35 : Int32) = nI 35 := rfl
theorem L60 : (60 : Int32) = nI 60 := rfl
theorem L500 : (500 : Int32) = nI 500 := rfl
theorem L734 : (734 : Int32) = nI 734 := rfl
theorem L795 : (795 : Int32) = nI 795 := rfl
theorem L856 : (856 : Int32) = nI 856 := rfl
theorem L917 : (917 : Int32) = nI 917 := rfl
/-! what a loop over k, k + 1, .. finds -/
def b2 (b : Bool) : Int32 := if b then 1 else 0
def cn (p : Nat → Bool) : Nat → Nat → Int32
  | 0, _ => 0
  | d + 1, k => (if p k = true then 1 else 0) + cn p d (k + 1)
def ff (p : Nat → Bool) : Nat → Nat → Int32
  | 0, _ => -1
  | d + 1, k => if p k = true then nI k else ff p d (k + 1)
def al (p : Nat → Bool) : Nat → Nat → Bool
  | 0, _ => true
  | d + 1, k => p k && al p d (k + 1)
def ex (p : Nat → Bool) : Nat → Nat → Bool
  | 0, _ => false
  | d + 1, k => p k || ex p d (k + 1)
def om (f : Nat → Int32) : Nat → Nat → Int32
  | 0, _ => 0
  | d + 1, k => f k ||| om f d (k + 1)
theorem b2_t : b2 true = 1 := rfl
theorem b2_f : b2 false = 0 := rfl
theorem b2_0 (b : Bool) : (b2 b = 0) = (b = false) := by cases b <;> decide
theorem b2_1 (b : Bool) : (b2 b = 1) = (b = true) := by cases b <;> decide
theorem isZ_b (b : Bool) : isZ (b2 b) = true := by cases b <;> decide
theorem b2_i (b : Bool) : (if b = true then (1 : Int32) else 0) = b2 b := rfl
theorem cn_c {p q : Nat → Bool} : ∀ {d k : Nat}, (∀ i, k ≤ i → i < k + d → p i = q i) → cn p d k = cn q d k
  | 0, _, _ => rfl
  | d + 1, k, h => by rw [cn, cn, h k (by omega) (by omega), cn_c (fun i a b => h i (by omega) (by omega))]
theorem ff_c {p q : Nat → Bool} : ∀ {d k : Nat}, (∀ i, k ≤ i → i < k + d → p i = q i) → ff p d k = ff q d k
  | 0, _, _ => rfl
  | d + 1, k, h => by rw [ff, ff, h k (by omega) (by omega), ff_c (fun i a b => h i (by omega) (by omega))]
theorem al_c {p q : Nat → Bool} : ∀ {d k : Nat}, (∀ i, k ≤ i → i < k + d → p i = q i) → al p d k = al q d k
  | 0, _, _ => rfl
  | d + 1, k, h => by rw [al, al, h k (by omega) (by omega), al_c (fun i a b => h i (by omega) (by omega))]
theorem ex_c {p q : Nat → Bool} : ∀ {d k : Nat}, (∀ i, k ≤ i → i < k + d → p i = q i) → ex p d k = ex q d k
  | 0, _, _ => rfl
  | d + 1, k, h => by rw [ex, ex, h k (by omega) (by omega), ex_c (fun i a b => h i (by omega) (by omega))]
theorem om_c {p q : Nat → Int32} : ∀ {d k : Nat}, (∀ i, k ≤ i → i < k + d → p i = q i) → om p d k = om q d k
  | 0, _, _ => rfl
  | d + 1, k, h => by rw [om, om, h k (by omega) (by omega), om_c (fun i a b => h i (by omega) (by omega))]
theorem al_t {p : Nat → Bool} : ∀ {d k : Nat}, al p d k = true ↔ ∀ i, k ≤ i → i < k + d → p i = true
  | 0, k => ⟨fun _ i a b => absurd b (by omega), fun _ => rfl⟩
  | d + 1, k => by
    rw [al, Bool.and_eq_true, al_t]
    constructor
    · intro h i a b
      by_cases e : i = k
      · subst e; exact h.1
      · exact h.2 i (by omega) (by omega)
    · intro h
      exact ⟨h k (by omega) (by omega), fun i a b => h i (by omega) (by omega)⟩
theorem ex_t {p : Nat → Bool} : ∀ {d k : Nat}, ex p d k = true ↔ ∃ i, k ≤ i ∧ i < k + d ∧ p i = true
  | 0, k => ⟨fun h => Bool.noConfusion (h : false = true), fun ⟨i, a, b, _⟩ => absurd b (by omega)⟩
  | d + 1, k => by
    rw [ex, Bool.or_eq_true, ex_t]
    constructor
    · intro h
      rcases h with h | ⟨i, a, b, h⟩
      · exact ⟨k, by omega, by omega, h⟩
      · exact ⟨i, by omega, by omega, h⟩
    · intro ⟨i, a, b, h⟩
      by_cases e : i = k
      · subst e; exact Or.inl h
      · exact Or.inr ⟨i, by omega, by omega, h⟩
theorem ff_no {p : Nat → Bool} : ∀ {d k : Nat}, (∀ i, k ≤ i → i < k + d → p i = false) → ff p d k = -1
  | 0, _, _ => rfl
  | d + 1, k, h => by rw [ff, h k (by omega) (by omega)]; exact ff_no (fun i a b => h i (by omega) (by omega))
/-- the first place found, or none -/
theorem ff_or {p : Nat → Bool} : ∀ (d k : Nat), (ff p d k = -1 ∧ ∀ i, k ≤ i → i < k + d → p i = false) ∨ ∃ i, k ≤ i ∧ i < k + d ∧ p i = true ∧ ff p d k = nI i ∧ ∀ j, k ≤ j → j < i → p j = false
  | 0, k => Or.inl ⟨rfl, fun i a b => absurd b (by omega)⟩
  | d + 1, k => by
    by_cases h : p k = true
    · exact Or.inr ⟨k, by omega, by omega, h, by rw [ff, if_pos h], fun j a b => absurd b (by omega)⟩
    · have e : ff p (d + 1) k = ff p d (k + 1) := by rw [ff, if_neg h]
      rw [e]
      rcases ff_or (p := p) d (k + 1) with ⟨h1, h2⟩ | ⟨i, a, b, h1, h2, h3⟩
      · refine Or.inl ⟨h1, fun i a b => ?_⟩
        by_cases e : i = k
        · subst e; exact Bool.eq_false_iff.mpr h
        · exact h2 i (by omega) (by omega)
      · refine Or.inr ⟨i, by omega, by omega, h1, h2, fun j a2 b2 => ?_⟩
        by_cases e : j = k
        · subst e; exact Bool.eq_false_iff.mpr h
        · exact h3 j (by omega) (by omega)
theorem ff_m1 {p : Nat → Bool} {d k : Nat} (h : k + d < 2 ^ 31) : (ff p d k = -1) = (ex p d k = false) := by
  rcases ff_or (p := p) d k with ⟨h1, h2⟩ | ⟨i, a, b, h1, h2, h3⟩
  · rw [h1]
    refine (eq_true rfl).trans (eq_true ?_).symm
    rw [Bool.eq_false_iff]
    intro q
    obtain ⟨i, a, b, c⟩ := ex_t.mp q
    rw [h2 i a b] at c; cases c
  · rw [h2, nI_m1 (by omega)]
    refine (eq_false ?_).symm
    rw [ex_t.mpr ⟨i, a, b, h1⟩]; decide
/-! masks of the variables -/
def pc (p : Int32) : Int32 := (fJ6_bitCount_0f7a4 0 p).getD 0
theorem pc_e (fu : Nat) (p : Int32) : fJ6_bitCount_0f7a4 fu p = some (pc p) := rfl
theorem pc_cn2 : ∀ i, i < 64 → ∀ j, j < 64 → pc (nI (64 * i + j)) = cn (bt (nI (64 * i + j))) 12 0 := by decide +kernel
theorem pc_cn (a : Nat) (h : a < 4096) : pc (nI a) = cn (bt (nI a)) 12 0 := by
  have := pc_cn2 (a / 64) (by omega) (a % 64) (by omega)
  rw [Nat.div_add_mod] at this; exact this
theorem nz_ff2 : ∀ i, i < 64 → ∀ j, j < 64 → 0 < 64 * i + j → fJ6_numberOfTrailingZeros_0f7a4 0 (nI (64 * i + j)) = some (ff (bt (nI (64 * i + j))) 12 0) := by decide +kernel
theorem nz_ff (a : Nat) (h : a < 4096) : 0 < a → fJ6_numberOfTrailingZeros_0f7a4 0 (nI a) = some (ff (bt (nI a)) 12 0) := by
  have := nz_ff2 (a / 64) (by omega) (a % 64) (by omega)
  rw [Nat.div_add_mod] at this; exact this
theorem nz_e (fu : Nat) (p : Int32) : fJ6_numberOfTrailingZeros_0f7a4 fu p = fJ6_numberOfTrailingZeros_0f7a4 0 p := rfl
def Vm (w : Nat) (p : Int32) : Prop := ∀ v, w ≤ v → bt p v = false
theorem Vm.nat {w : Nat} {p : Int32} (h : Vm w p) : ∃ a, a < 2 ^ w ∧ p = nI a :=
  ⟨p.toBitVec.toNat, Nat.lt_pow_two_of_testBit _ (fun i hi => h i hi), Int32.toBitVec_inj.mp (by show _ = BitVec.ofNat 32 _; simp)⟩
theorem Vm.mono {w w2 : Nat} {p : Int32} (h : Vm w p) (hw : w ≤ w2) : Vm w2 p := fun v hv => h v (Nat.le_trans hw hv)
theorem Vm.or {w : Nat} {p q : Int32} (hp : Vm w p) (hq : Vm w q) : Vm w (p ||| q) := fun v hv => by rw [b_or, hp v hv, hq v hv]; rfl
theorem Vm.andl {w : Nat} {p : Int32} (hp : Vm w p) (q : Int32) : Vm w (p &&& q) := fun v hv => by rw [b_and, hp v hv]; rfl
theorem Vm.andr {w : Nat} {q : Int32} (p : Int32) (hq : Vm w q) : Vm w (p &&& q) := fun v hv => by rw [b_and, hq v hv, Bool.and_false]
theorem Vm.xor {w : Nat} {p q : Int32} (hp : Vm w p) (hq : Vm w q) : Vm w (p ^^^ q) := fun v hv => by rw [b_xor, hp v hv, hq v hv]; rfl
theorem Vm.zero {w : Nat} : Vm w 0 := fun v _ => b_0 v
theorem Vm.ext {w : Nat} {p q : Int32} (hp : Vm w p) (hq : Vm w q) (h : ∀ v, v < w → bt p v = bt q v) : p = q := b_ext (fun i _ => by
  rcases Nat.lt_or_ge i w with c | c
  · exact h i c
  · rw [hp i c, hq i c])
theorem Vm.z {w : Nat} {p : Int32} (hp : Vm w p) : p = 0 ↔ ∀ v, v < w → bt p v = false :=
  ⟨fun h v _ => by rw [h]; exact b_0 v, fun h => hp.ext Vm.zero (fun v hv => by rw [h v hv, b_0])⟩
/-- a bit -/
theorem bt_bit {v i : Nat} (hv : v < 32) : bt ((1 : Int32) <<< (nI v &&& 31)) i = decide (i = v) := by
  rcases Nat.lt_or_ge i 32 with hi | hi
  · rw [b_shl v hv 1 hi]
    rcases Nat.lt_or_ge i v with h | h
    · rw [decide_eq_false (by omega), decide_eq_false (by omega)]; rfl
    · rw [decide_eq_true h]
      by_cases e : i = v
      · subst e
        rw [Nat.sub_self, decide_eq_true rfl]; decide +kernel
      · rw [decide_eq_false e]
        have : ∀ j, j < 32 → 0 < j → bt 1 j = false := by decide +kernel
        rw [this (i - v) (by omega) (by omega)]; rfl
  · rw [b_big hi, decide_eq_false (by omega)]
theorem Vm.bit {w v : Nat} (h : v < w) (hw : w ≤ 32) : Vm w ((1 : Int32) <<< (nI v &&& 31)) := fun i hi => by rw [bt_bit (by omega), decide_eq_false (by omega)]
theorem b_not (x : Int32) {i : Nat} (hi : i < 32) : bt (x ^^^ (-1)) i = !bt x i := by rw [b_xor, b_m1 i hi, Bool.xor_true]
/-- a mask cut to a bit is 0 or not -/
theorem and_bit {p : Int32} {v : Nat} (hv : v < 32) : ((p &&& ((1 : Int32) <<< (nI v &&& 31))) = 0) = (bt p v = false) := by
  apply propext
  constructor
  · intro h
    have := congrArg (fun q => bt q v) h
    simp only [b_and, bt_bit hv, b_0, decide_true, Bool.and_true] at this
    exact this
  · intro h
    apply b_ext
    intro i hi
    rw [b_and, bt_bit hv, b_0]
    by_cases e : i = v
    · subst e; rw [h]; rfl
    · rw [decide_eq_false e, Bool.and_false]
/-- within: p without q is nothing -/
theorem sub_z {w : Nat} {p q : Int32} (hp : Vm w p) (hw : w ≤ 32) : ((p &&& (q ^^^ (-1))) = 0) ↔ ∀ v, v < w → bt p v = true → bt q v = true := by
  rw [(hp.andl (q ^^^ (-1))).z]
  constructor
  · intro h v hv a
    have := h v hv
    rw [b_and, b_not q (by omega), a] at this
    simpa using this
  · intro h v hv
    rw [b_and, b_not q (by omega)]
    cases a : bt p v
    · rfl
    · rw [h v hv a]; rfl
theorem meet_z {w : Nat} {p q : Int32} (hp : Vm w p) : ((p &&& q) = 0) ↔ ∀ v, v < w → bt p v = true → bt q v = false := by
  rw [(hp.andl q).z]
  constructor
  · intro h v hv a
    have := h v hv
    rw [b_and, a] at this
    simpa using this
  · intro h v hv
    rw [b_and]
    cases a : bt p v
    · rfl
    · rw [h v hv a]; rfl
theorem cn_cut {p : Nat → Bool} : ∀ (d e k : Nat), (∀ i, k + d ≤ i → i < k + d + e → p i = false) → cn p (d + e) k = cn p d k
  | 0, 0, _, _ => rfl
  | 0, e + 1, k, h => by
    have := cn_cut (p := p) 0 e (k + 1) (fun i a b => h i (by omega) (by omega))
    rw [Nat.zero_add] at this
    rw [Nat.zero_add]
    show (if p k = true then 1 else 0) + cn p e (k + 1) = 0
    rw [h k (by omega) (by omega), this]; rfl
  | d + 1, e, k, h => by
    rw [show d + 1 + e = (d + e) + 1 by omega, cn, cn, cn_cut d e (k + 1) (fun i a b => h i (by omega) (by omega))]
theorem ff_cut {p : Nat → Bool} : ∀ (d e k : Nat), (∀ i, k + d ≤ i → i < k + d + e → p i = false) → ff p (d + e) k = ff p d k
  | 0, e, k, h => by rw [Nat.zero_add, ff_no (fun i a b => h i (by omega) (by omega))]; rfl
  | d + 1, e, k, h => by
    rw [show d + 1 + e = (d + e) + 1 by omega, ff, ff, ff_cut d e (k + 1) (fun i a b => h i (by omega) (by omega))]
theorem pc_v {w : Nat} {p : Int32} (hp : Vm w p) (hw : w ≤ 12) : pc p = cn (bt p) w 0 := by
  obtain ⟨a, ha, rfl⟩ := (hp.mono hw).nat
  rw [pc_cn a ha, show 12 = w + (12 - w) by omega, cn_cut w (12 - w) 0 (fun i h1 h2 => hp i (by omega))]
theorem nz_v {w : Nat} {p : Int32} (hp : Vm w p) (hw : w ≤ 12) (h0 : p ≠ 0) (fu : Nat) : fJ6_numberOfTrailingZeros_0f7a4 fu p = some (ff (bt p) w 0) := by
  obtain ⟨a, ha, rfl⟩ := (hp.mono hw).nat
  have : 0 < a := by
    rcases Nat.eq_zero_or_pos a with h | h
    · subst h; exact absurd rfl h0
    · exact h
  rw [nz_e, nz_ff a ha this, show 12 = w + (12 - w) by omega, ff_cut w (12 - w) 0 (fun i h1 h2 => hp i (by omega))]
theorem om_bt {f : Nat → Int32} {i : Nat} : ∀ {d k : Nat}, bt (om f d k) i = ex (fun v => bt (f v) i) d k
  | 0, k => by rw [om, b_0]; rfl
  | d + 1, k => by rw [om, b_or, om_bt]; rfl
theorem ex_f {p : Nat → Bool} {d k : Nat} (h : ∀ i, k ≤ i → i < k + d → p i = false) : ex p d k = false := by
  rw [Bool.eq_false_iff]
  intro q
  obtain ⟨i, a, b, c⟩ := ex_t.mp q
  rw [h i a b] at c; cases c
/-- an or of bits -/
theorem om_bits {p : Nat → Bool} {w : Nat} (hw : w ≤ 31) (i : Nat) : bt (om (fun v => if p v = true then (1 : Int32) <<< (nI v &&& 31) else 0) w 0) i = (decide (i < w) && p i) := by
  rw [om_bt]
  by_cases hi : i < w
  · rw [decide_eq_true hi, Bool.true_and]
    cases h : p i
    · apply ex_f
      intro v _ hv
      by_cases e : p v = true
      · rw [if_pos e, bt_bit (by omega)]
        apply decide_eq_false
        intro q; subst q; rw [h] at e; cases e
      · rw [if_neg e, b_0]
    · apply ex_t.mpr
      exact ⟨i, by omega, by omega, by rw [if_pos h, bt_bit (by omega), decide_eq_true rfl]⟩
  · rw [decide_eq_false hi, Bool.false_and]
    apply ex_f
    intro v _ hv
    by_cases e : p v = true
    · rw [if_pos e, bt_bit (by omega)]
      exact decide_eq_false (by omega)
    · rw [if_neg e, b_0]
theorem om_m {p : Nat → Bool} {w : Nat} {m : Int32} (hw : w ≤ 31) (hm : Vm w m) (h : ∀ v, v < w → p v = bt m v) : om (fun v => if p v = true then (1 : Int32) <<< (nI v &&& 31) else 0) w 0 = m := by
  apply Vm.ext (w := w) _ hm
  · intro v hv
    rw [om_bits hw, decide_eq_true hv, h v hv]; rfl
  · intro v hv
    rw [om_bits hw, decide_eq_false (by omega)]; rfl
/-! the sign of a variable in a clause of two masks -/
def SG (p q : Int32) (v : Nat) : Int32 := if bt p v = true then 1 else if bt q v = true then 2 else 0
def OKm (w : Nat) (p q : Int32) : Prop := Vm w p ∧ Vm w q ∧ ∀ v, bt p v = true → bt q v = false
def cm (p q p' q' : Int32) : Int32 := (p &&& q') ||| (q &&& p')
theorem SG_0 (p q : Int32) (v : Nat) : (SG p q v = 0) = ((bt p v || bt q v) = false) := by
  unfold SG; cases bt p v <;> cases bt q v <;> decide
theorem SG_1 (p q : Int32) (v : Nat) : (SG p q v = 1) = (bt p v = true) := by
  unfold SG; cases bt p v <;> cases bt q v <;> decide
theorem SG_2 {w : Nat} {p q : Int32} (h : OKm w p q) (v : Nat) : (SG p q v = 2) = (bt q v = true) := by
  have := h.2.2 v
  unfold SG; cases a : bt p v <;> cases b : bt q v <;> simp_all <;> decide
theorem OKm.cm {w : Nat} {p q p' q' : Int32} (h : OKm w p q) : Vm w (cm p q p' q') := (h.1.andl q').or (h.2.1.andl p')
theorem cm_bt (p q p' q' : Int32) (v : Nat) : bt (cm p q p' q') v = ((bt p v && bt q' v) || (bt q v && bt p' v)) := by unfold cm; rw [b_or, b_and, b_and]
theorem cn_or {p q : Nat → Bool} : ∀ {d k : Nat}, (∀ i, k ≤ i → i < k + d → p i = true → q i = false) → cn (fun i => p i || q i) d k = cn p d k + cn q d k
  | 0, _, _ => rfl
  | d + 1, k, h => by
    rw [cn, cn, cn, cn_or (fun i a b => h i (by omega) (by omega))]
    have h0 := h k (by omega) (by omega)
    cases a : p k <;> cases b : q k
    · simp
    · simp [← Int32.add_assoc, Int32.add_comm]
    · simp [Int32.add_assoc]
    · rw [a, b] at h0; simp at h0
/-- how many literals -/
theorem lit_cn {w : Nat} {p q : Int32} (h : OKm w p q) (hw : w ≤ 12) : cn (fun v => bt p v || bt q v) w 0 = pc p + pc q := by
  rw [cn_or (fun i _ _ => h.2.2 i), pc_v h.1 hw, pc_v h.2.1 hw]
theorem cl_cn {w : Nat} {p q p' q' : Int32} (h : OKm w p q) (hw : w ≤ 12) : cn (fun v => (bt p v && bt q' v) || (bt q v && bt p' v)) w 0 = pc (cm p q p' q') := by
  rw [pc_v h.cm hw]
  exact cn_c (fun i _ _ => (cm_bt p q p' q' i).symm)
def wi (p q p' q' : Int32) : Bool := decide ((p &&& (p' ^^^ (-1))) = 0) && decide ((q &&& (q' ^^^ (-1))) = 0)
theorem wi_al {w : Nat} {p q p' q' : Int32} (h : OKm w p q) (hw : w ≤ 12) : al (fun v => (!bt p v || bt p' v) && (!bt q v || bt q' v)) w 0 = wi p q p' q' := by
  rw [Bool.eq_iff_iff, al_t]
  unfold wi
  rw [Bool.and_eq_true, decide_eq_true_eq, decide_eq_true_eq, sub_z h.1 (by omega), sub_z h.2.1 (by omega)]
  constructor
  · intro a
    refine ⟨fun v hv b => ?_, fun v hv b => ?_⟩
    · have := a v (by omega) (by omega)
      rw [b] at this; simp at this; exact this.1
    · have := a v (by omega) (by omega)
      rw [b] at this; simp at this; exact this.2
  · intro ⟨a, b⟩ v _ hv
    have a := a v (by omega)
    have b := b v (by omega)
    cases c : bt p v <;> cases d : bt q v <;> simp_all
/-- true under an assignment -/
def tu (p q a : Int32) : Bool := !decide ((p &&& a) = 0) || !decide ((q &&& (a ^^^ (-1))) = 0)
theorem tu_ex {w : Nat} {p q : Int32} (h : OKm w p q) (hw : w ≤ 12) (a : Int32) : ex (fun v => (bt p v && bt a v) || (bt q v && !bt a v)) w 0 = tu p q a := by
  have e1 := meet_z (q := a) h.1
  have e2 := sub_z (q := a) h.2.1 (by omega)
  unfold tu
  rw [Bool.eq_iff_iff, ex_t]
  constructor
  · intro ⟨v, _, hv, e⟩
    rw [Bool.or_eq_true]
    rw [Bool.or_eq_true, Bool.and_eq_true, Bool.and_eq_true] at e
    rcases e with e | e
    · left
      rw [Bool.not_eq_true', decide_eq_false_iff_not]
      intro z
      have := e1.mp z v (by omega) e.1
      rw [e.2] at this; cases this
    · right
      rw [Bool.not_eq_true', decide_eq_false_iff_not]
      intro z
      have := e2.mp z v (by omega) e.1
      rw [this] at e; exact absurd e.2 (by decide)
  · intro e
    apply Classical.byContradiction
    intro n
    rw [Bool.or_eq_true] at e
    rcases e with e | e
    · rw [Bool.not_eq_true', decide_eq_false_iff_not] at e
      apply e
      apply e1.mpr
      intro v hv b
      cases c : bt a v
      · rfl
      · exact absurd ⟨v, by omega, by omega, by rw [b, c]; rfl⟩ n
    · rw [Bool.not_eq_true', decide_eq_false_iff_not] at e
      apply e
      apply e2.mpr
      intro v hv b
      cases c : bt a v
      · exact absurd ⟨v, by omega, by omega, by rw [b, c]; simp⟩ n
      · rfl
