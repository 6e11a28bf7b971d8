/-! The law's loop. -/
theorem ofN_c {i k : Nat} (h : i + k < 2147483648) : (Int32.ofNat i + Int32.ofNat k).toNatClampNeg = i + k := by
  rw [← Int32.ofNat_add]
  exact Int32.toNatClampNeg_ofNat_of_lt (by omega)
theorem ofN_nn {i : Nat} (h : i < 2147483648) : ¬ Int32.ofNat i < 0 := by
  rw [Int32.lt_iff_toInt_lt, Int32.toInt_ofNat_of_lt (by omega)]
  show ¬ (i : Int) < 0
  omega
theorem ofN_in {i k L : Nat} (h : i + k < 2147483648) (hL : i + k < L) : vp_in (Int32.ofNat i + Int32.ofNat k) L := by
  intro q
  rcases q with q | q
  · rw [← Int32.ofNat_add] at q
    exact ofN_nn h q
  · rw [ofN_c h] at q
    omega
theorem ofN_in0 {i L : Nat} (h : i < 2147483648) (hL : i < L) : vp_in (Int32.ofNat i) L := by
  intro q
  rcases q with q | q
  · exact ofN_nn h q
  · rw [Int32.toNatClampNeg_ofNat_of_lt (by omega)] at q
    omega
theorem ofN_gd {i L : Nat} (hi : i < 10000) (hL : L < 10000) : (Int32.ofNat L - 6 < Int32.ofNat i) ↔ L < i + 6 := by
  rw [Int32.lt_iff_toInt_lt, Int32.toInt_sub, Int32.toInt_ofNat_of_lt (by omega), Int32.toInt_ofNat_of_lt (by omega)]
  show ((L : Int) - 6).bmod (2 ^ 32) < (i : Int) ↔ _
  rw [Int.bmod_eq_of_le (by omega) (by omega)]
  omega
section Loop
variable {p : Program} {l : Launch} {e : Env} {s : State} {m : MethodId} {args : Array Value} {below : List Frame} {meth : Method} {c : Code} {Qf : State → Prop} {D : va_G} {cI cB cZ cO cJ : ClassId} {aK aV mK : Nat → Nat} {Q : Nat → Nat → Nat} {q : Nat → Nat} {a b L fu : Nat} {xs : Nat → Int32} {A : Nat → Prop}
theorem law_loop (hst : l.stackTraces = false) (hx : p.tables.exec = Jvm.exec) (hb : c.code = cL_law) (hml : c.maxLocals = 9) (hown : s.vm.findClass RL = some m.cls) (hts : ∀ w ∈ lw_tbl, w.before args s = true) (hK : va_K D vwCl (gL cI cB cZ cO cJ) s) (hA : ∀ q : Nat, s.heap.size ≤ q → A q) (hX : va_X b L xs s s.heap) (hbl : b < s.heap.size) (hbA : ¬ A b) (hE : EW aK aV mK A s s.heap) (hL : L ≤ 3072)
    (kk : ∀ (H1 : Heap) (locs1 : List Loc) (ls1 : Array Slot), va_S A s.heap H1 locs1 → W p l e room_1 s m args below meth c H1 locs1 601024 7293034 Qf (F0 m 2908 ls1 [])) :
    ∀ (n i cells slots : Nat) (X : Nat → OS) (z : OS) (o : Nat → Int64) (H : Heap) (locs : List Loc) (ls : Array Slot), i + 6 * n ≤ L → L < i + 6 * n + 6 → cells + 8 * n ≤ 601024 → slots + 48 * n ≤ 7293034 → lawLoop fu xs n i X z o = some () →
      va_P D vwCl (fl (lawW cI cB cZ cO cJ Q q a X z o)) H → va_D A (fl (lawW cI cB cZ cO cJ Q q a X z o)) → va_S A s.heap H locs → lv_has ls 9 [(0, .ref b), (1, .ref (Q 0 0)), (2, .ref (q 0)), (3, .ref a), (4, .int (Int32.ofNat i))] →
      W p l e room_1 s m args below meth c H locs cells slots Qf (F0 m 23 ls []) := by
  intro n
  induction n with
  | zero =>
    intro i cells slots X z o H locs ls h1 h2 hc hs hf hP hD hS hl
    refine lv_iload hx hb dL_law_23 (lv_at hl 4 rfl) ?_
    refine lv_aload_n hx hb dL_law_25 rfl (lv_at hl 0 rfl) ?_
    refine va_slen hx hb hX hbl hbA hS dL_law_26 ?_
    refine lv_bipush (v := 6) hx hb dL_law_27 (by decide) ?_
    refine lv_isub hx hb dL_law_29 ?_
    refine lv_icmp_gt (tgt := 2908) hx hb dL_law_30 (by decide) (fun c_ => ?_) (fun c_ => ?_)
    · exact W.widen (by omega) (by omega) (kk _ _ _ hS)
    · exact absurd ((ofN_gd (by omega) (by omega)).mpr (by omega)) c_
  | succ n ih =>
    intro i cells slots X z o H locs ls h1 h2 hc hs hf hP hD hS hl
    unfold lawLoop at hf
    obtain ⟨⟨X1, z1, o1⟩, hstep, hf⟩ := bd_ob hf
    refine lv_iload hx hb dL_law_23 (lv_at hl 4 rfl) ?_
    refine lv_aload_n hx hb dL_law_25 rfl (lv_at hl 0 rfl) ?_
    refine va_slen hx hb hX hbl hbA hS dL_law_26 ?_
    refine lv_bipush (v := 6) hx hb dL_law_27 (by decide) ?_
    refine lv_isub hx hb dL_law_29 ?_
    refine lv_icmp_gt (tgt := 2908) hx hb dL_law_30 (by decide) (fun c_ => ?_) (fun c_ => ?_)
    · exact absurd ((ofN_gd (by omega) (by omega)).mp c_) (by omega)
    · refine lv_aload_n hx hb dL_law_33 rfl (lv_at hl 0 rfl) ?_
      refine lv_iload hx hb dL_law_34 (lv_at hl 4 rfl) ?_
      refine va_sldE (v := xs i) hx hb hX hbl hbA hS (ofN_in0 (by omega) (by omega)) (by rw [Int32.toNatClampNeg_ofNat_of_lt (by omega)]) dL_law_36 ?_
      refine lv_bipush (v := 63) hx hb dL_law_37 (by decide) ?_
      refine lv_iand hx hb dL_law_39 ?_
      refine wL_disp (i := Int32.ofNat i) (X1 := X1) (z1 := z1) (o1 := o1) hst hx hb hml hown hts hK hA hX hbl hbA hE hS hl (ofN_in (k := 1) (by omega) (by omega)) (ofN_in (k := 2) (by omega) (by omega)) (ofN_in (k := 3) (by omega) (by omega)) (ofN_in (k := 4) (by omega) (by omega)) (ofN_in (k := 5) (by omega) (by omega))
        (congrArg xs (ofN_c (k := 1) (by omega))) (congrArg xs (ofN_c (k := 2) (by omega))) (congrArg xs (ofN_c (k := 3) (by omega))) (congrArg xs (ofN_c (k := 4) (by omega))) (congrArg xs (ofN_c (k := 5) (by omega))) (by omega) (by omega) (fun H1 locs1 ls1 hP hD hS hl => ?_) hP hD hstep
      refine lv_iinc (v := Int32.ofNat (i + 6)) (lv' := [(4, .int (Int32.ofNat (i + 6))), (0, .ref b), (1, .ref (Q 0 0)), (2, .ref (q 0)), (3, .ref a)]) hx hb dL_law_2902 hl (k := 4) rfl (by rw [Int32.ofNat_add]; rfl) (by decide) rfl (fun ls hl => ?_)
      refine lv_goto (tgt := 23) hx hb dL_law_2905 (by decide) ?_
      exact ih (i + 6) (cells + 8) (slots + 48) X1 z1 o1 H1 locs1 ls (by omega) (by omega) (by omega) (by omega) hf hP hD hS (lv_sub hl [1, 2, 3, 4, 0] rfl)
end Loop
