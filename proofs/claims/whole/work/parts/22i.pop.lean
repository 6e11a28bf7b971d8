/-! Part II: depths, derivations, the count of the bits of a long. The family on lN is the kit's starting text. -/
theorem wb_tb (n : Nat) : (lN n).toBitVec = BitVec.ofNat 64 n := rfl
theorem wb_inj {a b : Int64} (h : a.toBitVec = b.toBitVec) : a = b := Int64.toBitVec_inj.mp h
theorem wb_tn {n : Nat} (h : n < 2 ^ 64) : (lN n).toBitVec.toNat = n := by rw [wb_tb, BitVec.toNat_ofNat, Nat.mod_eq_of_lt h]
theorem wb_of (x : Int64) : ∃ n, n < 2 ^ 64 ∧ x = lN n := ⟨x.toBitVec.toNat, x.toBitVec.isLt, wb_inj (by rw [wb_tb]; simp)⟩
theorem wb_of32 (x : Int32) : ∃ n, n < 2 ^ 32 ∧ x = nI n := ⟨x.toBitVec.toNat, x.toBitVec.isLt, Int32.toBitVec_inj.mp (by show _ = BitVec.ofNat 32 _; simp)⟩
theorem wb_c : ∀ k, k < 64 → ((nI k).toInt64 &&& 63) = lN k := by decide +kernel
theorem wb_cu : ∀ k, k < 64 → ((nI k).toInt64.toUInt64 &&& Int64.toUInt64 63) = UInt64.ofNat k := by decide +kernel
theorem wb_sm : ∀ k, k < 64 → (BitVec.ofNat 64 k).smod 64 = BitVec.ofNat 64 k := by decide +kernel
theorem wb_pw {a b : Nat} (h : a ≤ b) : 2 ^ b = 2 ^ a * 2 ^ (b - a) := by rw [← Nat.pow_add]; congr 1; omega
theorem wb_lt2 {a b : Nat} (h : a < b) : 2 ^ a < 2 ^ b := Nat.pow_lt_pow_right (by decide) h
theorem wb_mod (n : Nat) : lN n = lN (n % 2 ^ 64) := wb_inj (by rw [wb_tb, wb_tb]; apply BitVec.eq_of_toNat_eq; rw [BitVec.toNat_ofNat, BitVec.toNat_ofNat, Nat.mod_mod])
theorem wb_shr {n k : Nat} (hn : n < 2 ^ 64) (hk : k < 64) : ((lN n).toUInt64 >>> ((nI k).toInt64.toUInt64 &&& Int64.toUInt64 63)).toInt64 = lN (n / 2 ^ k) := by
  rw [wb_cu k hk]
  apply wb_inj
  apply BitVec.eq_of_toNat_eq
  show ((lN n).toUInt64 >>> UInt64.ofNat k).toNat = (BitVec.ofNat 64 _).toNat
  have h1 : (UInt64.ofNat k).toNat = k := by
    show (BitVec.ofNat 64 k).toNat = k
    rw [BitVec.toNat_ofNat, Nat.mod_eq_of_lt (by omega)]
  have h2 : (lN n).toUInt64.toNat = n := wb_tn hn
  rw [UInt64.toNat_shiftRight, h1, h2, Nat.mod_eq_of_lt hk, Nat.shiftRight_eq_div_pow, BitVec.toNat_ofNat, Nat.mod_eq_of_lt (Nat.lt_of_le_of_lt (Nat.div_le_self _ _) hn)]
theorem wb_shl (n : Nat) {k : Nat} (hk : k < 64) : lN n <<< ((nI k).toInt64 &&& 63) = lN (n * 2 ^ k) := by
  rw [wb_c k hk]
  apply wb_inj
  rw [Int64.toBitVec_shiftLeft, wb_tb, wb_tb, wb_tb, wb_sm k hk]
  apply BitVec.eq_of_toNat_eq
  rw [BitVec.shiftLeft_eq', BitVec.toNat_shiftLeft, BitVec.toNat_ofNat, BitVec.toNat_ofNat, BitVec.toNat_ofNat, Nat.mod_eq_of_lt (show k < 2 ^ 64 by omega), Nat.shiftLeft_eq, Nat.mul_mod, Nat.mod_mod, ← Nat.mul_mod]
theorem wb_and {a b : Nat} (ha : a < 2 ^ 64) (hb : b < 2 ^ 64) : lN a &&& lN b = lN (a &&& b) := by
  apply wb_inj
  rw [Int64.toBitVec_and, wb_tb, wb_tb, wb_tb]
  apply BitVec.eq_of_toNat_eq
  rw [BitVec.toNat_and, BitVec.toNat_ofNat, BitVec.toNat_ofNat, BitVec.toNat_ofNat, Nat.mod_eq_of_lt ha, Nat.mod_eq_of_lt hb, Nat.mod_eq_of_lt (Nat.and_lt_two_pow _ hb)]
theorem wb_or {a b : Nat} (ha : a < 2 ^ 64) (hb : b < 2 ^ 64) : lN a ||| lN b = lN (a ||| b) := by
  apply wb_inj
  rw [Int64.toBitVec_or, wb_tb, wb_tb, wb_tb]
  apply BitVec.eq_of_toNat_eq
  rw [BitVec.toNat_or, BitVec.toNat_ofNat, BitVec.toNat_ofNat, BitVec.toNat_ofNat, Nat.mod_eq_of_lt ha, Nat.mod_eq_of_lt hb, Nat.mod_eq_of_lt (Nat.or_lt_two_pow ha hb)]
theorem nx_and' (a b : Nat) : nI a &&& nI b = nI (a &&& b) := by
  apply Int32.toBitVec_inj.1
  show BitVec.ofNat 32 a &&& BitVec.ofNat 32 b = BitVec.ofNat 32 (a &&& b)
  apply BitVec.eq_of_getLsbD_eq
  intro i hi
  simp [hi]
/-! the count of the bits, byte by byte -/
def mkm (m : Nat) : Nat → Nat
  | 0 => 0
  | k + 1 => m + 256 * mkm m k
def cb : Nat → Nat → Nat
  | 0, _ => 0
  | k + 1, n => n % 2 + cb k (n / 2)
def dg : Nat → Nat → Nat
  | 0, _ => 0
  | k + 1, v => v % 256 + dg k (v / 256)
def t1 (k n : Nat) : Nat := n - (n / 2 &&& mkm 85 k)
def t2 (k n : Nat) : Nat := (n &&& mkm 51 k) + (n / 4 &&& mkm 51 k)
def t3 (k n : Nat) : Nat := (n + n / 16) &&& mkm 15 k
theorem dvq {V r q m : Nat} (h : V = r + m * q) (hr : r < m) : V / m = q := by
  subst h
  rw [Nat.add_mul_div_left _ _ (by omega), Nat.div_eq_of_lt hr, Nat.zero_add]
theorem mdq {V s K : Nat} (h : V = s + 128 * K) (hs : s < 128) : V % 128 = s := by
  subst h
  rw [Nat.add_mul_mod_self_left, Nat.mod_eq_of_lt hs]
theorem bnd4 {a b c d : Nat} (ha : a ≤ 64) (hb : b ≤ 64) (hc : c ≤ 64) (hd : d ≤ 64) : a + 256 * b + 65536 * c + 16777216 * d < 4294967296 := by omega
theorem and_step (n m M : Nat) (hm : m < 256) : n &&& (m + 256 * M) = (n % 256 &&& m) + 256 * (n / 256 &&& M) := by
  have h1 : (n &&& (m + 256 * M)) % 256 = n % 256 &&& m := by
    have := Nat.and_mod_two_pow (a := n) (b := m + 256 * M) (n := 8)
    rw [show (2 : Nat) ^ 8 = 256 from rfl, show (m + 256 * M) % 256 = m by omega] at this
    exact this
  have h2 : (n &&& (m + 256 * M)) / 256 = n / 256 &&& M := by
    have := Nat.and_div_two_pow (a := n) (b := m + 256 * M) (n := 8)
    rw [show (2 : Nat) ^ 8 = 256 from rfl, show (m + 256 * M) / 256 = M by omega] at this
    exact this
  omega
theorem bt1 : ∀ b, b < 256 → ∀ e, e < 2 → ((b / 2 + 128 * e) &&& 85) = (b / 2 &&& 85) ∧ (b / 2 &&& 85) ≤ b := by decide +kernel
theorem bt2 : ∀ b, b < 256 → ∀ e, e < 4 → ((b / 4 + 64 * e) &&& 51) = (b / 4 &&& 51) := by decide +kernel
def c1 (b : Nat) : Nat := b - (b / 2 &&& 85)
def c2 (b : Nat) : Nat := (c1 b &&& 51) + (c1 b / 4 &&& 51)
def c3 (b : Nat) : Nat := (c2 b + c2 b / 16) &&& 15
theorem bt3 : ∀ b, b < 256 → c1 b < 256 ∧ c2 b ≤ 68 ∧ c2 b % 16 ≤ 4 ∧ c3 b = cb 8 b ∧ cb 8 b ≤ 8 := by decide +kernel
theorem bt4 : ∀ s, s ≤ 68 → ∀ e, e ≤ 4 → ((s + s / 16 + 16 * e) &&& 15) = ((s + s / 16) &&& 15) := by decide +kernel
theorem t1_s {k b n : Nat} (hb : b < 256) : t1 (k + 1) (b + 256 * n) = c1 b + 256 * t1 k n := by
  unfold t1 c1
  have h := and_step ((b + 256 * n) / 2) 85 (mkm 85 k) (by omega)
  rw [show (b + 256 * n) / 2 % 256 = b / 2 + 128 * (n % 2) by omega, show (b + 256 * n) / 2 / 256 = n / 2 by omega, (bt1 b hb (n % 2) (by omega)).1] at h
  rw [mkm, h]
  have h2 := (bt1 b hb 0 (by omega)).2
  have h3 : (n / 2 &&& mkm 85 k) ≤ n := Nat.le_trans Nat.and_le_left (Nat.div_le_self _ _)
  omega
theorem t2_s {k a n : Nat} (ha : a < 256) : t2 (k + 1) (a + 256 * n) = ((a &&& 51) + (a / 4 &&& 51)) + 256 * t2 k n := by
  unfold t2
  have h := and_step ((a + 256 * n) / 4) 51 (mkm 51 k) (by omega)
  rw [show (a + 256 * n) / 4 % 256 = a / 4 + 64 * (n % 4) by omega, show (a + 256 * n) / 4 / 256 = n / 4 by omega, bt2 a ha (n % 4) (by omega)] at h
  have g := and_step (a + 256 * n) 51 (mkm 51 k) (by omega)
  rw [show (a + 256 * n) % 256 = a by omega, show (a + 256 * n) / 256 = n by omega] at g
  rw [mkm, h, g]
  omega
theorem t3_s {k s n : Nat} (hs : s ≤ 68) (hn : n % 16 ≤ 4) : t3 (k + 1) (s + 256 * n) = ((s + s / 16) &&& 15) + 256 * t3 k n := by
  unfold t3
  have h := and_step (s + 256 * n + (s + 256 * n) / 16) 15 (mkm 15 k) (by omega)
  rw [show (s + 256 * n + (s + 256 * n) / 16) % 256 = s + s / 16 + 16 * (n % 16) by omega, show (s + 256 * n + (s + 256 * n) / 16) / 256 = n + n / 16 by omega, bt4 s hs (n % 16) hn] at h
  rw [mkm, h]
theorem cb_8 (k n : Nat) : cb (k + 8) n = cb 8 (n % 256) + cb k (n / 256) := by
  have e : n / 2 / 2 / 2 / 2 / 2 / 2 / 2 / 2 = n / 256 := by omega
  simp only [cb, e]
  omega
theorem T_s : ∀ (k n : Nat), n < 256 ^ k → t2 k (t1 k n) % 16 ≤ 4 ∧ dg k (t3 k (t2 k (t1 k n))) = cb (8 * k) n ∧ t3 k (t2 k (t1 k n)) < 9 * 256 ^ k ∧ t2 k (t1 k n) < 256 ^ k ∧ t1 k n < 256 ^ k
  | 0, n, h => by
    have : n = 0 := by rw [Nat.pow_zero] at h; omega
    subst this
    decide
  | k + 1, n, h => by
    have hn : n / 256 < 256 ^ k := by
      rw [Nat.pow_succ] at h
      exact Nat.div_lt_of_lt_mul (by omega)
    obtain ⟨i1, i2, i3, i4, i5⟩ := T_s k (n / 256) hn
    obtain ⟨b1, b2', b3, b4, b5⟩ := bt3 (n % 256) (by omega)
    have e1 : t1 (k + 1) n = c1 (n % 256) + 256 * t1 k (n / 256) := by
      have := t1_s (k := k) (b := n % 256) (n := n / 256) (by omega)
      rw [show n % 256 + 256 * (n / 256) = n by omega] at this; exact this
    have e2 : t2 (k + 1) (t1 (k + 1) n) = c2 (n % 256) + 256 * t2 k (t1 k (n / 256)) := by
      rw [e1, t2_s b1]; rfl
    have e3 : t3 (k + 1) (t2 (k + 1) (t1 (k + 1) n)) = c3 (n % 256) + 256 * t3 k (t2 k (t1 k (n / 256))) := by
      rw [e2, t3_s b2' i1]; rfl
    rw [e3, e2, e1]
    rw [b4]
    refine ⟨by omega, ?_, ?_, ?_, ?_⟩
    · rw [dg, show (cb 8 (n % 256) + 256 * t3 k (t2 k (t1 k (n / 256)))) % 256 = cb 8 (n % 256) by omega, show (cb 8 (n % 256) + 256 * t3 k (t2 k (t1 k (n / 256)))) / 256 = t3 k (t2 k (t1 k (n / 256))) by omega, i2, show 8 * (k + 1) = 8 * k + 8 by omega, cb_8 (8 * k) n]
    · rw [Nat.pow_succ]; omega
    · rw [Nat.pow_succ]; omega
    · rw [Nat.pow_succ]; omega
theorem cb_le : ∀ (k n : Nat), cb k n ≤ k
  | 0, _ => Nat.le_refl 0
  | k + 1, n => by
    have := cb_le k (n / 2)
    rw [cb]; omega
theorem cn_sh {p : Nat → Bool} : ∀ (d k : Nat), cn p d (k + 1) = cn (fun i => p (i + 1)) d k
  | 0, _ => rfl
  | d + 1, k => by rw [cn, cn, cn_sh d (k + 1)]
theorem cn_cb : ∀ (k n : Nat), cn (Nat.testBit n) k 0 = nI (cb k n)
  | 0, _ => rfl
  | k + 1, n => by
    rw [cn, cn_sh, show (fun i => Nat.testBit n (i + 1)) = Nat.testBit (n / 2) from funext fun i => Nat.testBit_succ n i, cn_cb k (n / 2), cb, Nat.testBit_zero]
    by_cases e : n % 2 = 1
    · rw [decide_eq_true e, if_pos rfl, e]; exact nI_add 1 _
    · rw [decide_eq_false e, if_neg (by decide), show n % 2 = 0 by omega]; exact nI_add 0 _
theorem dg_s (k v : Nat) : dg (k + 1) v = v % 256 + dg k (v / 256) := rfl
theorem fin8 (C : Nat) (hC : C < 1152921504606846976) (hcb : dg 8 C ≤ 64) : (C + C / 256 + (C + C / 256) / 65536 + (C + C / 256 + (C + C / 256) / 65536) / 4294967296) % 128 = dg 8 C := by
  have hd : C = C % 256 + 256 * (C / 256) := by omega
  obtain ⟨d0, C1, h0, hd0, hC1⟩ : ∃ d r, d < 256 ∧ C = d + 256 * r ∧ dg 8 C = d + dg 7 r := ⟨C % 256, C / 256, by omega, by omega, dg_s 7 C⟩
  obtain ⟨d1, C2, h1, hd1, hC2⟩ : ∃ d r, d < 256 ∧ C1 = d + 256 * r ∧ dg 7 C1 = d + dg 6 r := ⟨C1 % 256, C1 / 256, by omega, by omega, dg_s 6 C1⟩
  obtain ⟨d2, C3, h2, hd2, hC3⟩ : ∃ d r, d < 256 ∧ C2 = d + 256 * r ∧ dg 6 C2 = d + dg 5 r := ⟨C2 % 256, C2 / 256, by omega, by omega, dg_s 5 C2⟩
  obtain ⟨d3, C4, h3, hd3, hC4⟩ : ∃ d r, d < 256 ∧ C3 = d + 256 * r ∧ dg 5 C3 = d + dg 4 r := ⟨C3 % 256, C3 / 256, by omega, by omega, dg_s 4 C3⟩
  obtain ⟨d4, C5, h4, hd4, hC5⟩ : ∃ d r, d < 256 ∧ C4 = d + 256 * r ∧ dg 4 C4 = d + dg 3 r := ⟨C4 % 256, C4 / 256, by omega, by omega, dg_s 3 C4⟩
  obtain ⟨d5, C6, h5, hd5, hC6⟩ : ∃ d r, d < 256 ∧ C5 = d + 256 * r ∧ dg 3 C5 = d + dg 2 r := ⟨C5 % 256, C5 / 256, by omega, by omega, dg_s 2 C5⟩
  obtain ⟨d6, C7, h6, hd6, hC7⟩ : ∃ d r, d < 256 ∧ C6 = d + 256 * r ∧ dg 2 C6 = d + dg 1 r := ⟨C6 % 256, C6 / 256, by omega, by omega, dg_s 1 C6⟩
  obtain ⟨d7, C8, h7, hd7, hC8⟩ : ∃ d r, d < 256 ∧ C7 = d + 256 * r ∧ dg 1 C7 = d + dg 0 r := ⟨C7 % 256, C7 / 256, by omega, by omega, dg_s 0 C7⟩
  have h8 : C8 = 0 := by omega
  have h9 : dg 0 C8 = 0 := rfl
  have hs : dg 8 C = d0 + d1 + d2 + d3 + d4 + d5 + d6 + d7 := by rw [hC1, hC2, hC3, hC4, hC5, hC6, hC7, hC8, h9]; omega
  rw [hs] at hcb ⊢
  clear hs hC1 hC2 hC3 hC4 hC5 hC6 hC7 hC8 h9 hd
  have q1 : C / 256 = C1 := dvq hd0 h0
  obtain ⟨V1, hV1⟩ : ∃ V, V = C + C1 := ⟨_, rfl⟩
  rw [q1, ← hV1]
  have q3 : V1 / 65536 = C2 + C3 := dvq (r := (d0 + d1) + 256 * (d1 + d2)) (by omega) (by omega)
  obtain ⟨V2, hV2⟩ : ∃ V, V = V1 + (C2 + C3) := ⟨_, rfl⟩
  rw [q3, ← hV2]
  have q5 : V2 / 4294967296 = C4 + C5 + C6 + C7 := by
    have e0 : C = d0 + 256 * d1 + 65536 * d2 + 16777216 * d3 + 4294967296 * C4 := by clear hcb q1 q3 hV1 hV2; omega
    have e1 : C1 = d1 + 256 * d2 + 65536 * d3 + 16777216 * d4 + 4294967296 * C5 := by clear hcb q1 q3 hV1 hV2; omega
    have e2 : C2 = d2 + 256 * d3 + 65536 * d4 + 16777216 * d5 + 4294967296 * C6 := by clear hcb q1 q3 hV1 hV2; omega
    have e3 : C3 = d3 + 256 * d4 + 65536 * d5 + 16777216 * d6 + 4294967296 * C7 := by clear hcb q1 q3 hV1 hV2; omega
    have u0 : d0 + d1 + d2 + d3 ≤ 64 := by clear q1 q3 hV1 hV2 e0 e1 e2 e3; omega
    have u1 : d1 + d2 + d3 + d4 ≤ 64 := by clear q1 q3 hV1 hV2 e0 e1 e2 e3; omega
    have u2 : d2 + d3 + d4 + d5 ≤ 64 := by clear q1 q3 hV1 hV2 e0 e1 e2 e3; omega
    have u3 : d3 + d4 + d5 + d6 ≤ 64 := by clear q1 q3 hV1 hV2 e0 e1 e2 e3; omega
    refine dvq (r := (d0 + d1 + d2 + d3) + 256 * (d1 + d2 + d3 + d4) + 65536 * (d2 + d3 + d4 + d5) + 16777216 * (d3 + d4 + d5 + d6)) ?_ (bnd4 u0 u1 u2 u3)
    rw [hV2, hV1, e0, e1, e2, e3]
    clear hcb q1 q3 hV1 hV2 e0 e1 e2 e3 u0 u1 u2 u3 h0 h1 h2 h3 h4 h5 h6 h7 hd0 hd1 hd2 hd3 hd4 hd5 hd6 hd7
    omega
  rw [q5]
  have hK : V2 + (C4 + C5 + C6 + C7) = (d0 + d1 + d2 + d3 + d4 + d5 + d6 + d7) + 128 * (2 * (C1 + C2 + C3 + C4 + C5 + C6 + C7 + C8)) := by
    clear hcb q1 q3 q5 h0 h1 h2 h3 h4 h5 h6 h7 hC
    omega
  exact mdq hK (by clear hK q1 q3 q5 hV1 hV2; omega)
def bL (m : Int64) (i : Nat) : Bool := m.toBitVec.getLsbD i
def pL (p1 : Int64) : Option (Int32) :=
  nm (p1 - ((((p1).toUInt64 >>> (((1 : Int32)).toInt64.toUInt64 &&& Int64.toUInt64 63)).toInt64) &&& (6148914691236517205 : Int64))) (fun (v0_1 : Int64) => nm ((v0_1 &&& (3689348814741910323 : Int64)) + ((((v0_1).toUInt64 >>> (((2 : Int32)).toInt64.toUInt64 &&& Int64.toUInt64 63)).toInt64) &&& (3689348814741910323 : Int64))) (fun (v0_2 : Int64) => nm ((v0_2 + (((v0_2).toUInt64 >>> (((4 : Int32)).toInt64.toUInt64 &&& Int64.toUInt64 63)).toInt64)) &&& (1085102592571150095 : Int64)) (fun (v0_3 : Int64) => nm (v0_3 + (((v0_3).toUInt64 >>> (((8 : Int32)).toInt64.toUInt64 &&& Int64.toUInt64 63)).toInt64)) (fun (v0_4 : Int64) => nm (v0_4 + (((v0_4).toUInt64 >>> (((16 : Int32)).toInt64.toUInt64 &&& Int64.toUInt64 63)).toInt64)) (fun (v0_5 : Int64) => nm (v0_5 + (((v0_5).toUInt64 >>> (((32 : Int32)).toInt64.toUInt64 &&& Int64.toUInt64 63)).toInt64)) (fun (v0_6 : Int64) => some (((v0_6).toInt32) &&& (127 : Int32))))))))
/-- Long.bitCount -/
theorem pop64 (m : Int64) : pL m = some (cn (bL m) 64 0) := by
  obtain ⟨n, hn, rfl⟩ := wb_of m
  have hb : bL (lN n) = Nat.testBit n := by
    funext i
    show (lN n).toBitVec.toNat.testBit i = n.testBit i
    rw [wb_tn hn]
  rw [hb, cn_cb]
  obtain ⟨i1, i2, i3, i4, i5⟩ := T_s 8 n (by rw [show (256 : Nat) ^ 8 = 2 ^ 64 by decide]; exact hn)
  rw [show 8 * 8 = 64 from rfl] at i2
  rw [← i2]
  have hcb := cb_le 64 n
  rw [← i2] at hcb
  have m5 : mkm 85 8 = 6148914691236517205 := by decide
  have m3 : mkm 51 8 = 3689348814741910323 := by decide
  have mf' : mkm 15 8 = 1085102592571150095 := by decide
  have q : (256 : Nat) ^ 8 = 18446744073709551616 := by decide
  rw [q] at i3 i4 i5
  generalize hA : t1 8 n = A at *
  generalize hB : t2 8 A = B at *
  generalize hC : t3 8 B = C at *
  unfold t1 at hA
  unfold t2 at hB
  unfold t3 at hC
  rw [m5] at hA
  rw [m3] at hB
  rw [mf'] at hC
  have le1 : (n / 2 &&& 6148914691236517205) ≤ n := Nat.le_trans Nat.and_le_left (Nat.div_le_self _ _)
  have hC2 : C ≤ 1085102592571150095 := by rw [← hC]; exact Nat.and_le_right
  have s1 : lN n - ((((lN n).toUInt64 >>> (((1 : Int32)).toInt64.toUInt64 &&& Int64.toUInt64 63)).toInt64) &&& (6148914691236517205 : Int64)) = lN A := by
    have := wb_shr (k := 1) hn (by omega)
    rw [show ((1 : Int32)) = nI 1 from rfl, this, show (6148914691236517205 : Int64) = lN 6148914691236517205 from rfl, wb_and (by omega) (by omega), lN_sub (by omega), show (2 : Nat) ^ 1 = 2 from rfl, hA]
  have s2 : (lN A &&& (3689348814741910323 : Int64)) + ((((lN A).toUInt64 >>> (((2 : Int32)).toInt64.toUInt64 &&& Int64.toUInt64 63)).toInt64) &&& (3689348814741910323 : Int64)) = lN B := by
    have := wb_shr (n := A) (k := 2) (by omega) (by omega)
    rw [show ((2 : Int32)) = nI 2 from rfl, this, show (3689348814741910323 : Int64) = lN 3689348814741910323 from rfl, wb_and (by omega) (by omega), wb_and (by omega) (by omega), lN_add, show (2 : Nat) ^ 2 = 4 from rfl, hB]
  have s3 : (lN B + (((lN B).toUInt64 >>> (((4 : Int32)).toInt64.toUInt64 &&& Int64.toUInt64 63)).toInt64)) &&& (1085102592571150095 : Int64) = lN C := by
    have := wb_shr (n := B) (k := 4) (by omega) (by omega)
    have hB2 : B ≤ 7378697629483820646 := by
      rw [← hB]
      have h1 : (A &&& 3689348814741910323) ≤ 3689348814741910323 := Nat.and_le_right
      have h2 : (A / 4 &&& 3689348814741910323) ≤ 3689348814741910323 := Nat.and_le_right
      omega
    rw [show ((4 : Int32)) = nI 4 from rfl, this, lN_add, show (1085102592571150095 : Int64) = lN 1085102592571150095 from rfl, wb_and (by omega) (by omega), show (2 : Nat) ^ 4 = 16 from rfl, hC]
  unfold pL
  simp only [nm_d, s1, s2, s3]
  have s4 := wb_shr (n := C) (k := 8) (by omega) (by omega)
  have s5 := wb_shr (n := C + C / 2 ^ 8) (k := 16) (by omega) (by omega)
  have s6 := wb_shr (n := C + C / 2 ^ 8 + (C + C / 2 ^ 8) / 2 ^ 16) (k := 32) (by omega) (by omega)
  rw [show ((8 : Int32)) = nI 8 from rfl, s4, lN_add, show ((16 : Int32)) = nI 16 from rfl, s5, lN_add, show ((32 : Int32)) = nI 32 from rfl, s6, lN_add, lN_i]
  rw [show ((127 : Int32)) = nI 127 from rfl, nx_and']
  congr 2
  rw [show (127 : Nat) = 2 ^ 7 - 1 from rfl, Nat.and_two_pow_sub_one_eq_mod]
  have p8 : (2 : Nat) ^ 8 = 256 := rfl
  have p16 : (2 : Nat) ^ 16 = 65536 := rfl
  have p32 : (2 : Nat) ^ 32 = 4294967296 := rfl
  have p7 : (2 : Nat) ^ 7 = 128 := rfl
  rw [p8, p16, p32, p7]
  exact fin8 C (by omega) hcb
