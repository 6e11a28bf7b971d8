/-! Part II: one call, then all: the law's loop answers. -/
theorem and63 (x : Int32) : ∃ k : Nat, k < 64 ∧ x &&& 63 = nI k := by
  have v : Vm 6 (x &&& 63) := fun v hv => by
    rcases Nat.lt_or_ge v 32 with a | a
    · have e := mk_bt 6 (by omega) v a
      have e' : bt 63 v = decide (v < 6) := e
      rw [b_and, e', decide_eq_false (by omega), Bool.and_false]
    · exact b_big a
  obtain ⟨a, ha, e⟩ := v.nat
  exact ⟨a, ha, e⟩
theorem lawStep_ok {fu : Nat} (hf : 5000 ≤ fu) (c37 : ∀ (a1 a2 a3 a4 a5 : Int32) {X : Nat → OS} {z : OS} (o : Nat → Int64), Inv X z → OKS (cL_37 fu a1 a2 a3 a4 a5 X z o)) {x : Int32} {k : Nat} (hk : k < 64) (hx : x = nI k) (a1 a2 a3 a4 a5 : Int32) {X : Nat → OS} {z : OS} (o : Nat → Int64) (h : Inv X z) : OKS (lawStep fu x a1 a2 a3 a4 a5 X z o) := by
  unfold lawStep
  by_cases e0 : x = 0
  · rw [if_pos e0]; exact cA_0 a1 a2 a3 a4 a5 o hf h
  rw [if_neg e0]
  by_cases e1 : x = 1
  · rw [if_pos e1]; exact cA_1 a1 a2 a3 a4 a5 o hf h
  rw [if_neg e1]
  by_cases e2 : x = 2
  · rw [if_pos e2]; exact cA_2 a1 a2 a3 a4 a5 o hf h
  rw [if_neg e2]
  by_cases e3 : x = 3
  · rw [if_pos e3]; exact cA_3 a1 a2 a3 a4 a5 o hf h
  rw [if_neg e3]
  by_cases e4 : x = 4
  · rw [if_pos e4]; exact cA_4 a1 a2 a3 a4 a5 o hf h
  rw [if_neg e4]
  by_cases e5 : x = 5
  · rw [if_pos e5]; exact cA_5 a1 a2 a3 a4 a5 o hf h
  rw [if_neg e5]
  by_cases e6 : x = 6
  · rw [if_pos e6]; exact cA_6 a1 a2 a3 a4 a5 o hf h
  rw [if_neg e6]
  by_cases e7 : x = 7
  · rw [if_pos e7]; exact cA_7 a1 a2 a3 a4 a5 o hf h
  rw [if_neg e7]
  by_cases e8 : x = 8
  · rw [if_pos e8]; exact cA_8 a1 a2 a3 a4 a5 o hf h
  rw [if_neg e8]
  by_cases e9 : x = 9
  · rw [if_pos e9]; exact cA_9 a1 a2 a3 a4 a5 o hf h
  rw [if_neg e9]
  by_cases e10 : x = 10
  · rw [if_pos e10]; exact cA_10 a1 a2 a3 a4 a5 o hf h
  rw [if_neg e10]
  by_cases e11 : x = 11
  · rw [if_pos e11]; exact cA_11 a1 a2 a3 a4 a5 o hf h
  rw [if_neg e11]
  by_cases e12 : x = 12
  · rw [if_pos e12]; exact cA_12 a1 a2 a3 a4 a5 o hf h
  rw [if_neg e12]
  by_cases e13 : x = 13
  · rw [if_pos e13]; exact cA_13 a1 a2 a3 a4 a5 o hf h
  rw [if_neg e13]
  by_cases e14 : x = 14
  · rw [if_pos e14]; exact cA_14 a1 a2 a3 a4 a5 o hf h
  rw [if_neg e14]
  by_cases e15 : x = 15
  · rw [if_pos e15]; exact cA_15 a1 a2 a3 a4 a5 o hf h
  rw [if_neg e15]
  by_cases e16 : x = 16
  · rw [if_pos e16]; exact cA_16 a1 a2 a3 a4 a5 o hf h
  rw [if_neg e16]
  by_cases e17 : x = 17
  · rw [if_pos e17]; exact cA_17 a1 a2 a3 a4 a5 o hf h
  rw [if_neg e17]
  by_cases e18 : x = 18
  · rw [if_pos e18]; exact cA_18 a1 a2 a3 a4 a5 o hf h
  rw [if_neg e18]
  by_cases e19 : x = 19
  · rw [if_pos e19]; exact cA_19 a1 a2 a3 a4 a5 o hf h
  rw [if_neg e19]
  by_cases e20 : x = 20
  · rw [if_pos e20]; exact cA_20 a1 a2 a3 a4 a5 o hf h
  rw [if_neg e20]
  by_cases e21 : x = 21
  · rw [if_pos e21]; exact cA_21 a1 a2 a3 a4 a5 o hf h
  rw [if_neg e21]
  by_cases e22 : x = 22
  · rw [if_pos e22]; exact cA_22 a1 a2 a3 a4 a5 o hf h
  rw [if_neg e22]
  by_cases e23 : x = 23
  · rw [if_pos e23]; exact cA_23 a1 a2 a3 a4 a5 o hf h
  rw [if_neg e23]
  by_cases e24 : x = 24
  · rw [if_pos e24]; exact cA_24 a1 a2 a3 a4 a5 o hf h
  rw [if_neg e24]
  by_cases e25 : x = 25
  · rw [if_pos e25]; exact cA_25 a1 a2 a3 a4 a5 o hf h
  rw [if_neg e25]
  by_cases e26 : x = 26
  · rw [if_pos e26]; exact cA_26 a1 a2 a3 a4 a5 o hf h
  rw [if_neg e26]
  by_cases e27 : x = 27
  · rw [if_pos e27]; exact cA_27 a1 a2 a3 a4 a5 o hf h
  rw [if_neg e27]
  by_cases e28 : x = 28
  · rw [if_pos e28]; exact cA_28 a1 a2 a3 a4 a5 o hf h
  rw [if_neg e28]
  by_cases e29 : x = 29
  · rw [if_pos e29]; exact cA_29 a1 a2 a3 a4 a5 o hf h
  rw [if_neg e29]
  by_cases e30 : x = 30
  · rw [if_pos e30]; exact cA_30 a1 a2 a3 a4 a5 o hf h
  rw [if_neg e30]
  by_cases e31 : x = 31
  · rw [if_pos e31]; exact cA_31 a1 a2 a3 a4 a5 o hf h
  rw [if_neg e31]
  by_cases e32 : x = 32
  · rw [if_pos e32]; exact cA_32 a1 a2 a3 a4 a5 o hf h
  rw [if_neg e32]
  by_cases e33 : x = 33
  · rw [if_pos e33]; exact cA_33 a1 a2 a3 a4 a5 o hf h
  rw [if_neg e33]
  by_cases e34 : x = 34
  · rw [if_pos e34]; exact cA_34 a1 a2 a3 a4 a5 o hf h
  rw [if_neg e34]
  by_cases e35 : x = 35
  · rw [if_pos e35]; exact cA_35 a1 a2 a3 a4 a5 o hf h
  rw [if_neg e35]
  by_cases e36 : x = 36
  · rw [if_pos e36]; exact cA_36 a1 a2 a3 a4 a5 o hf h
  rw [if_neg e36]
  by_cases e37 : x = 37
  · rw [if_pos e37]; exact c37 a1 a2 a3 a4 a5 o h
  rw [if_neg e37]
  by_cases e38 : x = 38
  · rw [if_pos e38]; exact cA_38 a1 a2 a3 a4 a5 o hf h
  rw [if_neg e38]
  by_cases e39 : x = 39
  · rw [if_pos e39]; exact cA_39 a1 a2 a3 a4 a5 o hf h
  rw [if_neg e39]
  by_cases e40 : x = 40
  · rw [if_pos e40]; exact cA_40 a1 a2 a3 a4 a5 o hf h
  rw [if_neg e40]
  by_cases e41 : x = 41
  · rw [if_pos e41]; exact cA_41 a1 a2 a3 a4 a5 o hf h
  rw [if_neg e41]
  by_cases e42 : x = 42
  · rw [if_pos e42]; exact cA_42 a1 a2 a3 a4 a5 o hf h
  rw [if_neg e42]
  by_cases e43 : x = 43
  · rw [if_pos e43]; exact cA_43 a1 a2 a3 a4 a5 o hf h
  rw [if_neg e43]
  by_cases e44 : x = 44
  · rw [if_pos e44]; exact cA_44 a1 a2 a3 a4 a5 o hf h
  rw [if_neg e44]
  by_cases e45 : x = 45
  · rw [if_pos e45]; exact cA_45 a1 a2 a3 a4 a5 o hf h
  rw [if_neg e45]
  by_cases e46 : x = 46
  · rw [if_pos e46]; exact cA_46 a1 a2 a3 a4 a5 o hf h
  rw [if_neg e46]
  by_cases e47 : x = 47
  · rw [if_pos e47]; exact cA_47 a1 a2 a3 a4 a5 o hf h
  rw [if_neg e47]
  by_cases e48 : x = 48
  · rw [if_pos e48]; exact cA_48 a1 a2 a3 a4 a5 o hf h
  rw [if_neg e48]
  by_cases e49 : x = 49
  · rw [if_pos e49]; exact cA_49 a1 a2 a3 a4 a5 o hf h
  rw [if_neg e49]
  by_cases e50 : x = 50
  · rw [if_pos e50]; exact cA_50 a1 a2 a3 a4 a5 o hf h
  rw [if_neg e50]
  by_cases e51 : x = 51
  · rw [if_pos e51]; exact cA_51 a1 a2 a3 a4 a5 o hf h
  rw [if_neg e51]
  by_cases e52 : x = 52
  · rw [if_pos e52]; exact cA_52 a1 a2 a3 a4 a5 o hf h
  rw [if_neg e52]
  by_cases e53 : x = 53
  · rw [if_pos e53]; exact cA_53 a1 a2 a3 a4 a5 o hf h
  rw [if_neg e53]
  by_cases e54 : x = 54
  · rw [if_pos e54]; exact cA_54 a1 a2 a3 a4 a5 o hf h
  rw [if_neg e54]
  by_cases e55 : x = 55
  · rw [if_pos e55]; exact cA_55 a1 a2 a3 a4 a5 o hf h
  rw [if_neg e55]
  by_cases e56 : x = 56
  · rw [if_pos e56]; exact cA_56 a1 a2 a3 a4 a5 o hf h
  rw [if_neg e56]
  by_cases e57 : x = 57
  · rw [if_pos e57]; exact cA_57 a1 a2 a3 a4 a5 o hf h
  rw [if_neg e57]
  by_cases e58 : x = 58
  · rw [if_pos e58]; exact cA_58 a1 a2 a3 a4 a5 o hf h
  rw [if_neg e58]
  by_cases e59 : x = 59
  · rw [if_pos e59]; exact cA_59 a1 a2 a3 a4 a5 o hf h
  rw [if_neg e59]
  by_cases e60 : x = 60
  · rw [if_pos e60]; exact cA_60 a1 a2 a3 a4 a5 o hf h
  rw [if_neg e60]
  by_cases e61 : x = 61
  · rw [if_pos e61]; exact cA_61 a1 a2 a3 a4 a5 o hf h
  rw [if_neg e61]
  by_cases e62 : x = 62
  · rw [if_pos e62]; exact cA_62 a1 a2 a3 a4 a5 o hf h
  rw [if_neg e62]
  by_cases e63 : x = 63
  · rw [if_pos e63]; exact cA_63 a1 a2 a3 a4 a5 o hf h
  rw [if_neg e63]
  exfalso
  exact (match k, hk, hx with
    | 0, _, q => e0 q
    | 1, _, q => e1 q
    | 2, _, q => e2 q
    | 3, _, q => e3 q
    | 4, _, q => e4 q
    | 5, _, q => e5 q
    | 6, _, q => e6 q
    | 7, _, q => e7 q
    | 8, _, q => e8 q
    | 9, _, q => e9 q
    | 10, _, q => e10 q
    | 11, _, q => e11 q
    | 12, _, q => e12 q
    | 13, _, q => e13 q
    | 14, _, q => e14 q
    | 15, _, q => e15 q
    | 16, _, q => e16 q
    | 17, _, q => e17 q
    | 18, _, q => e18 q
    | 19, _, q => e19 q
    | 20, _, q => e20 q
    | 21, _, q => e21 q
    | 22, _, q => e22 q
    | 23, _, q => e23 q
    | 24, _, q => e24 q
    | 25, _, q => e25 q
    | 26, _, q => e26 q
    | 27, _, q => e27 q
    | 28, _, q => e28 q
    | 29, _, q => e29 q
    | 30, _, q => e30 q
    | 31, _, q => e31 q
    | 32, _, q => e32 q
    | 33, _, q => e33 q
    | 34, _, q => e34 q
    | 35, _, q => e35 q
    | 36, _, q => e36 q
    | 37, _, q => e37 q
    | 38, _, q => e38 q
    | 39, _, q => e39 q
    | 40, _, q => e40 q
    | 41, _, q => e41 q
    | 42, _, q => e42 q
    | 43, _, q => e43 q
    | 44, _, q => e44 q
    | 45, _, q => e45 q
    | 46, _, q => e46 q
    | 47, _, q => e47 q
    | 48, _, q => e48 q
    | 49, _, q => e49 q
    | 50, _, q => e50 q
    | 51, _, q => e51 q
    | 52, _, q => e52 q
    | 53, _, q => e53 q
    | 54, _, q => e54 q
    | 55, _, q => e55 q
    | 56, _, q => e56 q
    | 57, _, q => e57 q
    | 58, _, q => e58 q
    | 59, _, q => e59 q
    | 60, _, q => e60 q
    | 61, _, q => e61 q
    | 62, _, q => e62 q
    | 63, _, q => e63 q
    | k + 64, h, _ => absurd h (by omega))
theorem lawLoop_ok {fu : Nat} (hf : 5000 ≤ fu) (c37 : ∀ (a1 a2 a3 a4 a5 : Int32) {X : Nat → OS} {z : OS} (o : Nat → Int64), Inv X z → OKS (cL_37 fu a1 a2 a3 a4 a5 X z o)) (xs : Nat → Int32) : ∀ (n i : Nat) (X : Nat → OS) (z : OS) (o : Nat → Int64), Inv X z → lawLoop fu xs n i X z o = some ()
  | 0, _, _, _, _, _ => rfl
  | n + 1, i, X, z, o, h => by
    obtain ⟨k, hk, ek⟩ := and63 (xs i)
    obtain ⟨X', z', o', e, h'⟩ := lawStep_ok hf c37 hk ek (xs (i + 1)) (xs (i + 2)) (xs (i + 3)) (xs (i + 4)) (xs (i + 5)) o h
    rw [lawLoop, e, bd_s]
    exact lawLoop_ok hf c37 xs n (i + 6) X' z' o' h'
