/-! The switch of the law's loop. -/
section Cases
set_option maxRecDepth 100000 in
set_option maxHeartbeats 4000000 in
theorem wL_disp {p : Program} {l : Launch} {e : Env} {s : State} {m : MethodId} {args : Array Value} {below : List Frame} {meth : Method} {c : Code} {H : Heap} {locs : List Loc} {cells slots : Nat} {Qf : State → Prop} {ls : Array Slot} {D : va_G} {cI cB cZ cO cJ : ClassId} {aK aV mK : Nat → Nat} {Q : Nat → Nat → Nat} {q : Nat → Nat} {a b L fu : Nat} {xs : Nat → Int32} {A : Nat → Prop} {X X1 : Nat → OS} {z z1 : OS} {o o1 : Nat → Int64} {i a1 a2 a3 a4 a5 : Int32} (hst : l.stackTraces = false) (hx : p.tables.exec = Jvm.exec) (hb : c.code = cL_law) (hml : c.maxLocals = 9) (hown : s.vm.findClass RL = some m.cls) (hts : ∀ w ∈ lw_tbl, w.before args s = true) (hK : va_K D vwCl (gL cI cB cZ cO cJ) s) (hA : ∀ q : Nat, s.heap.size ≤ q → A q) (hX : va_X b L xs s s.heap) (hbl : b < s.heap.size) (hbA : ¬ A b) (hE : EW aK aV mK A s s.heap) (hS : va_S A s.heap H locs) (hl : lv_has ls 9 [(0, .ref b), (1, .ref (Q 0 0)), (2, .ref (q 0)), (3, .ref a), (4, .int i)]) (n1 : vp_in (i + 1) L) (n2 : vp_in (i + 2) L) (n3 : vp_in (i + 3) L) (n4 : vp_in (i + 4) L) (n5 : vp_in (i + 5) L) (e1 : xs (i + 1).toNatClampNeg = a1) (e2 : xs (i + 2).toNatClampNeg = a2) (e3 : xs (i + 3).toNatClampNeg = a3) (e4 : xs (i + 4).toNatClampNeg = a4) (e5 : xs (i + 5).toNatClampNeg = a5) (hcl : cells + 8 ≤ 601024) (hsl : slots + 48 ≤ 7293034) (kk : ∀ (H1 : Heap) (locs1 : List Loc) (ls1 : Array Slot), va_P D vwCl (fl (lawW cI cB cZ cO cJ Q q a X1 z1 o1)) H1 → va_D A (fl (lawW cI cB cZ cO cJ Q q a X1 z1 o1)) → va_S A s.heap H1 locs1 → lv_has ls1 9 [(0, .ref b), (1, .ref (Q 0 0)), (2, .ref (q 0)), (3, .ref a), (4, .int i)] → W p l e room_1 s m args below meth c H1 locs1 (cells + 8) (slots + 48) Qf (F0 m 2902 ls1 [])) {x : Int32} (hP : va_P D vwCl (fl (lawW cI cB cZ cO cJ Q q a X z o)) H) (hD : va_D A (fl (lawW cI cB cZ cO cJ Q q a X z o))) (hf : lawStep fu x a1 a2 a3 a4 a5 X z o = some (X1, z1, o1)) : W p l e room_1 s m args below meth c H locs cells slots Qf (F0 m 40 ls [.int x]) := by
  unfold lawStep at hf
  refine cs_ob hf (fun c_ hf => ?_) (fun c_ hf => ?_)
  · subst c_
    refine lv_tableIn (off := 272) (tgt := 312) hx hb dL_law_40 (by decide) (by decide) rfl (by decide) ?_
    exact wL_0 hst hx hb hml hown hts hK hA hX hbl hbA hE hS hl n1 n2 n3 n4 n5 e1 e2 e3 e4 e5 hcl hsl kk hP hD hf
  refine cs_ob hf (fun c_ hf => ?_) (fun c_ hf => ?_)
  · subst c_
    refine lv_tableIn (off := 345) (tgt := 385) hx hb dL_law_40 (by decide) (by decide) rfl (by decide) ?_
    exact wL_1 hst hx hb hml hown hts hK hA hX hbl hbA hE hS hl n1 n2 n3 n4 n5 e1 e2 e3 e4 e5 hcl hsl kk hP hD hf
  refine cs_ob hf (fun c_ hf => ?_) (fun c_ hf => ?_)
  · subst c_
    refine lv_tableIn (off := 370) (tgt := 410) hx hb dL_law_40 (by decide) (by decide) rfl (by decide) ?_
    exact wL_2 hst hx hb hml hown hts hK hA hX hbl hbA hE hS hl n1 n2 n3 n4 n5 e1 e2 e3 e4 e5 hcl hsl kk hP hD hf
  refine cs_ob hf (fun c_ hf => ?_) (fun c_ hf => ?_)
  · subst c_
    refine lv_tableIn (off := 414) (tgt := 454) hx hb dL_law_40 (by decide) (by decide) rfl (by decide) ?_
    exact wL_3 hst hx hb hml hown hts hK hA hX hbl hbA hE hS hl n1 n2 n3 n4 n5 e1 e2 e3 e4 e5 hcl hsl kk hP hD hf
  refine cs_ob hf (fun c_ hf => ?_) (fun c_ hf => ?_)
  · subst c_
    refine lv_tableIn (off := 458) (tgt := 498) hx hb dL_law_40 (by decide) (by decide) rfl (by decide) ?_
    exact wL_4 hst hx hb hml hown hts hK hA hX hbl hbA hE hS hl n1 n2 n3 n4 n5 e1 e2 e3 e4 e5 hcl hsl kk hP hD hf
  refine cs_ob hf (fun c_ hf => ?_) (fun c_ hf => ?_)
  · subst c_
    refine lv_tableIn (off := 471) (tgt := 511) hx hb dL_law_40 (by decide) (by decide) rfl (by decide) ?_
    exact wL_5 hst hx hb hml hown hts hK hA hX hbl hbA hE hS hl n1 n2 n3 n4 n5 e1 e2 e3 e4 e5 hcl hsl kk hP hD hf
  refine cs_ob hf (fun c_ hf => ?_) (fun c_ hf => ?_)
  · subst c_
    refine lv_tableIn (off := 484) (tgt := 524) hx hb dL_law_40 (by decide) (by decide) rfl (by decide) ?_
    exact wL_6 hst hx hb hml hown hts hK hA hX hbl hbA hE hS hl n1 n2 n3 n4 n5 e1 e2 e3 e4 e5 hcl hsl kk hP hD hf
  refine cs_ob hf (fun c_ hf => ?_) (fun c_ hf => ?_)
  · subst c_
    refine lv_tableIn (off := 497) (tgt := 537) hx hb dL_law_40 (by decide) (by decide) rfl (by decide) ?_
    exact wL_7 hst hx hb hml hown hts hK hA hX hbl hbA hE hS hl n1 n2 n3 n4 n5 e1 e2 e3 e4 e5 hcl hsl kk hP hD hf
  refine cs_ob hf (fun c_ hf => ?_) (fun c_ hf => ?_)
  · subst c_
    refine lv_tableIn (off := 510) (tgt := 550) hx hb dL_law_40 (by decide) (by decide) rfl (by decide) ?_
    exact wL_8 hst hx hb hml hown hts hK hA hX hbl hbA hE hS hl n1 n2 n3 n4 n5 e1 e2 e3 e4 e5 hcl hsl kk hP hD hf
  refine cs_ob hf (fun c_ hf => ?_) (fun c_ hf => ?_)
  · subst c_
    refine lv_tableIn (off := 566) (tgt := 606) hx hb dL_law_40 (by decide) (by decide) rfl (by decide) ?_
    exact wL_9 hst hx hb hml hown hts hK hA hX hbl hbA hE hS hl n1 n2 n3 n4 n5 e1 e2 e3 e4 e5 hcl hsl kk hP hD hf
  refine cs_ob hf (fun c_ hf => ?_) (fun c_ hf => ?_)
  · subst c_
    refine lv_tableIn (off := 622) (tgt := 662) hx hb dL_law_40 (by decide) (by decide) rfl (by decide) ?_
    exact wL_10 hst hx hb hml hown hts hK hA hX hbl hbA hE hS hl n1 n2 n3 n4 n5 e1 e2 e3 e4 e5 hcl hsl kk hP hD hf
  refine cs_ob hf (fun c_ hf => ?_) (fun c_ hf => ?_)
  · subst c_
    refine lv_tableIn (off := 678) (tgt := 718) hx hb dL_law_40 (by decide) (by decide) rfl (by decide) ?_
    exact wL_11 hst hx hb hml hown hts hK hA hX hbl hbA hE hS hl n1 n2 n3 n4 n5 e1 e2 e3 e4 e5 hcl hsl kk hP hD hf
  refine cs_ob hf (fun c_ hf => ?_) (fun c_ hf => ?_)
  · subst c_
    refine lv_tableIn (off := 746) (tgt := 786) hx hb dL_law_40 (by decide) (by decide) rfl (by decide) ?_
    exact wL_12 hst hx hb hml hown hts hK hA hX hbl hbA hE hS hl n1 n2 n3 n4 n5 e1 e2 e3 e4 e5 hcl hsl kk hP hD hf
  refine cs_ob hf (fun c_ hf => ?_) (fun c_ hf => ?_)
  · subst c_
    refine lv_tableIn (off := 809) (tgt := 849) hx hb dL_law_40 (by decide) (by decide) rfl (by decide) ?_
    exact wL_13 hst hx hb hml hown hts hK hA hX hbl hbA hE hS hl n1 n2 n3 n4 n5 e1 e2 e3 e4 e5 hcl hsl kk hP hD hf
  refine cs_ob hf (fun c_ hf => ?_) (fun c_ hf => ?_)
  · subst c_
    refine lv_tableIn (off := 865) (tgt := 905) hx hb dL_law_40 (by decide) (by decide) rfl (by decide) ?_
    exact wL_14 hst hx hb hml hown hts hK hA hX hbl hbA hE hS hl n1 n2 n3 n4 n5 e1 e2 e3 e4 e5 hcl hsl kk hP hD hf
  refine cs_ob hf (fun c_ hf => ?_) (fun c_ hf => ?_)
  · subst c_
    refine lv_tableIn (off := 921) (tgt := 961) hx hb dL_law_40 (by decide) (by decide) rfl (by decide) ?_
    exact wL_15 hst hx hb hml hown hts hK hA hX hbl hbA hE hS hl n1 n2 n3 n4 n5 e1 e2 e3 e4 e5 hcl hsl kk hP hD hf
  refine cs_ob hf (fun c_ hf => ?_) (fun c_ hf => ?_)
  · subst c_
    refine lv_tableIn (off := 977) (tgt := 1017) hx hb dL_law_40 (by decide) (by decide) rfl (by decide) ?_
    exact wL_16 hst hx hb hml hown hts hK hA hX hbl hbA hE hS hl n1 n2 n3 n4 n5 e1 e2 e3 e4 e5 hcl hsl kk hP hD hf
  refine cs_ob hf (fun c_ hf => ?_) (fun c_ hf => ?_)
  · subst c_
    refine lv_tableIn (off := 1033) (tgt := 1073) hx hb dL_law_40 (by decide) (by decide) rfl (by decide) ?_
    exact wL_17 hst hx hb hml hown hts hK hA hX hbl hbA hE hS hl n1 n2 n3 n4 n5 e1 e2 e3 e4 e5 hcl hsl kk hP hD hf
  refine cs_ob hf (fun c_ hf => ?_) (fun c_ hf => ?_)
  · subst c_
    refine lv_tableIn (off := 1046) (tgt := 1086) hx hb dL_law_40 (by decide) (by decide) rfl (by decide) ?_
    exact wL_18 hst hx hb hml hown hts hK hA hX hbl hbA hE hS hl n1 n2 n3 n4 n5 e1 e2 e3 e4 e5 hcl hsl kk hP hD hf
  refine cs_ob hf (fun c_ hf => ?_) (fun c_ hf => ?_)
  · subst c_
    refine lv_tableIn (off := 1102) (tgt := 1142) hx hb dL_law_40 (by decide) (by decide) rfl (by decide) ?_
    exact wL_19 hst hx hb hml hown hts hK hA hX hbl hbA hE hS hl n1 n2 n3 n4 n5 e1 e2 e3 e4 e5 hcl hsl kk hP hD hf
  refine cs_ob hf (fun c_ hf => ?_) (fun c_ hf => ?_)
  · subst c_
    refine lv_tableIn (off := 1157) (tgt := 1197) hx hb dL_law_40 (by decide) (by decide) rfl (by decide) ?_
    exact wL_20 hst hx hb hml hown hts hK hA hX hbl hbA hE hS hl n1 n2 n3 n4 n5 e1 e2 e3 e4 e5 hcl hsl kk hP hD hf
  refine cs_ob hf (fun c_ hf => ?_) (fun c_ hf => ?_)
  · subst c_
    refine lv_tableIn (off := 1170) (tgt := 1210) hx hb dL_law_40 (by decide) (by decide) rfl (by decide) ?_
    exact wL_21 hst hx hb hml hown hts hK hA hX hbl hbA hE hS hl n1 n2 n3 n4 n5 e1 e2 e3 e4 e5 hcl hsl kk hP hD hf
  refine cs_ob hf (fun c_ hf => ?_) (fun c_ hf => ?_)
  · subst c_
    refine lv_tableIn (off := 1195) (tgt := 1235) hx hb dL_law_40 (by decide) (by decide) rfl (by decide) ?_
    exact wL_22 hst hx hb hml hown hts hK hA hX hbl hbA hE hS hl n1 n2 n3 n4 n5 e1 e2 e3 e4 e5 hcl hsl kk hP hD hf
  refine cs_ob hf (fun c_ hf => ?_) (fun c_ hf => ?_)
  · subst c_
    refine lv_tableIn (off := 1208) (tgt := 1248) hx hb dL_law_40 (by decide) (by decide) rfl (by decide) ?_
    exact wL_23 hst hx hb hml hown hts hK hA hX hbl hbA hE hS hl n1 n2 n3 n4 n5 e1 e2 e3 e4 e5 hcl hsl kk hP hD hf
  refine cs_ob hf (fun c_ hf => ?_) (fun c_ hf => ?_)
  · subst c_
    refine lv_tableIn (off := 1292) (tgt := 1332) hx hb dL_law_40 (by decide) (by decide) rfl (by decide) ?_
    exact wL_24 hst hx hb hml hown hts hK hA hX hbl hbA hE hS hl n1 n2 n3 n4 n5 e1 e2 e3 e4 e5 hcl hsl kk hP hD hf
  refine cs_ob hf (fun c_ hf => ?_) (fun c_ hf => ?_)
  · subst c_
    refine lv_tableIn (off := 1305) (tgt := 1345) hx hb dL_law_40 (by decide) (by decide) rfl (by decide) ?_
    exact wL_25 hst hx hb hml hown hts hK hA hX hbl hbA hE hS hl n1 n2 n3 n4 n5 e1 e2 e3 e4 e5 hcl hsl kk hP hD hf
  refine cs_ob hf (fun c_ hf => ?_) (fun c_ hf => ?_)
  · subst c_
    refine lv_tableIn (off := 1318) (tgt := 1358) hx hb dL_law_40 (by decide) (by decide) rfl (by decide) ?_
    exact wL_26 hst hx hb hml hown hts hK hA hX hbl hbA hE hS hl n1 n2 n3 n4 n5 e1 e2 e3 e4 e5 hcl hsl kk hP hD hf
  refine cs_ob hf (fun c_ hf => ?_) (fun c_ hf => ?_)
  · subst c_
    refine lv_tableIn (off := 1331) (tgt := 1371) hx hb dL_law_40 (by decide) (by decide) rfl (by decide) ?_
    exact wL_27 hst hx hb hml hown hts hK hA hX hbl hbA hE hS hl n1 n2 n3 n4 n5 e1 e2 e3 e4 e5 hcl hsl kk hP hD hf
  refine cs_ob hf (fun c_ hf => ?_) (fun c_ hf => ?_)
  · subst c_
    refine lv_tableIn (off := 1399) (tgt := 1439) hx hb dL_law_40 (by decide) (by decide) rfl (by decide) ?_
    exact wL_28 hst hx hb hml hown hts hK hA hX hbl hbA hE hS hl n1 n2 n3 n4 n5 e1 e2 e3 e4 e5 hcl hsl kk hP hD hf
  refine cs_ob hf (fun c_ hf => ?_) (fun c_ hf => ?_)
  · subst c_
    refine lv_tableIn (off := 1474) (tgt := 1514) hx hb dL_law_40 (by decide) (by decide) rfl (by decide) ?_
    exact wL_29 hst hx hb hml hown hts hK hA hX hbl hbA hE hS hl n1 n2 n3 n4 n5 e1 e2 e3 e4 e5 hcl hsl kk hP hD hf
  refine cs_ob hf (fun c_ hf => ?_) (fun c_ hf => ?_)
  · subst c_
    refine lv_tableIn (off := 1542) (tgt := 1582) hx hb dL_law_40 (by decide) (by decide) rfl (by decide) ?_
    exact wL_30 hst hx hb hml hown hts hK hA hX hbl hbA hE hS hl n1 n2 n3 n4 n5 e1 e2 e3 e4 e5 hcl hsl kk hP hD hf
  refine cs_ob hf (fun c_ hf => ?_) (fun c_ hf => ?_)
  · subst c_
    refine lv_tableIn (off := 1610) (tgt := 1650) hx hb dL_law_40 (by decide) (by decide) rfl (by decide) ?_
    exact wL_31 hst hx hb hml hown hts hK hA hX hbl hbA hE hS hl n1 n2 n3 n4 n5 e1 e2 e3 e4 e5 hcl hsl kk hP hD hf
  refine cs_ob hf (fun c_ hf => ?_) (fun c_ hf => ?_)
  · subst c_
    refine lv_tableIn (off := 1623) (tgt := 1663) hx hb dL_law_40 (by decide) (by decide) rfl (by decide) ?_
    exact wL_32 hst hx hb hml hown hts hK hA hX hbl hbA hE hS hl n1 n2 n3 n4 n5 e1 e2 e3 e4 e5 hcl hsl kk hP hD hf
  refine cs_ob hf (fun c_ hf => ?_) (fun c_ hf => ?_)
  · subst c_
    refine lv_tableIn (off := 1698) (tgt := 1738) hx hb dL_law_40 (by decide) (by decide) rfl (by decide) ?_
    exact wL_33 hst hx hb hml hown hts hK hA hX hbl hbA hE hS hl n1 n2 n3 n4 n5 e1 e2 e3 e4 e5 hcl hsl kk hP hD hf
  refine cs_ob hf (fun c_ hf => ?_) (fun c_ hf => ?_)
  · subst c_
    refine lv_tableIn (off := 1754) (tgt := 1794) hx hb dL_law_40 (by decide) (by decide) rfl (by decide) ?_
    exact wL_34 hst hx hb hml hown hts hK hA hX hbl hbA hE hS hl n1 n2 n3 n4 n5 e1 e2 e3 e4 e5 hcl hsl kk hP hD hf
  refine cs_ob hf (fun c_ hf => ?_) (fun c_ hf => ?_)
  · subst c_
    refine lv_tableIn (off := 1767) (tgt := 1807) hx hb dL_law_40 (by decide) (by decide) rfl (by decide) ?_
    exact wL_35 hst hx hb hml hown hts hK hA hX hbl hbA hE hS hl n1 n2 n3 n4 n5 e1 e2 e3 e4 e5 hcl hsl kk hP hD hf
  refine cs_ob hf (fun c_ hf => ?_) (fun c_ hf => ?_)
  · subst c_
    refine lv_tableIn (off := 1780) (tgt := 1820) hx hb dL_law_40 (by decide) (by decide) rfl (by decide) ?_
    exact wL_36 hst hx hb hml hown hts hK hA hX hbl hbA hE hS hl n1 n2 n3 n4 n5 e1 e2 e3 e4 e5 hcl hsl kk hP hD hf
  refine cs_ob hf (fun c_ hf => ?_) (fun c_ hf => ?_)
  · subst c_
    refine lv_tableIn (off := 1793) (tgt := 1833) hx hb dL_law_40 (by decide) (by decide) rfl (by decide) ?_
    exact wL_37 hst hx hb hml hown hts hK hA hX hbl hbA hE hS hl n1 n2 n3 n4 n5 e1 e2 e3 e4 e5 hcl hsl kk hP hD hf
  refine cs_ob hf (fun c_ hf => ?_) (fun c_ hf => ?_)
  · subst c_
    refine lv_tableIn (off := 1806) (tgt := 1846) hx hb dL_law_40 (by decide) (by decide) rfl (by decide) ?_
    exact wL_38 hst hx hb hml hown hts hK hA hX hbl hbA hE hS hl n1 n2 n3 n4 n5 e1 e2 e3 e4 e5 hcl hsl kk hP hD hf
  refine cs_ob hf (fun c_ hf => ?_) (fun c_ hf => ?_)
  · subst c_
    refine lv_tableIn (off := 1819) (tgt := 1859) hx hb dL_law_40 (by decide) (by decide) rfl (by decide) ?_
    exact wL_39 hst hx hb hml hown hts hK hA hX hbl hbA hE hS hl n1 n2 n3 n4 n5 e1 e2 e3 e4 e5 hcl hsl kk hP hD hf
  refine cs_ob hf (fun c_ hf => ?_) (fun c_ hf => ?_)
  · subst c_
    refine lv_tableIn (off := 1832) (tgt := 1872) hx hb dL_law_40 (by decide) (by decide) rfl (by decide) ?_
    exact wL_40 hst hx hb hml hown hts hK hA hX hbl hbA hE hS hl n1 n2 n3 n4 n5 e1 e2 e3 e4 e5 hcl hsl kk hP hD hf
  refine cs_ob hf (fun c_ hf => ?_) (fun c_ hf => ?_)
  · subst c_
    refine lv_tableIn (off := 1857) (tgt := 1897) hx hb dL_law_40 (by decide) (by decide) rfl (by decide) ?_
    exact wL_41 hst hx hb hml hown hts hK hA hX hbl hbA hE hS hl n1 n2 n3 n4 n5 e1 e2 e3 e4 e5 hcl hsl kk hP hD hf
  refine cs_ob hf (fun c_ hf => ?_) (fun c_ hf => ?_)
  · subst c_
    refine lv_tableIn (off := 1932) (tgt := 1972) hx hb dL_law_40 (by decide) (by decide) rfl (by decide) ?_
    exact wL_42 hst hx hb hml hown hts hK hA hX hbl hbA hE hS hl n1 n2 n3 n4 n5 e1 e2 e3 e4 e5 hcl hsl kk hP hD hf
  refine cs_ob hf (fun c_ hf => ?_) (fun c_ hf => ?_)
  · subst c_
    refine lv_tableIn (off := 1988) (tgt := 2028) hx hb dL_law_40 (by decide) (by decide) rfl (by decide) ?_
    exact wL_43 hst hx hb hml hown hts hK hA hX hbl hbA hE hS hl n1 n2 n3 n4 n5 e1 e2 e3 e4 e5 hcl hsl kk hP hD hf
  refine cs_ob hf (fun c_ hf => ?_) (fun c_ hf => ?_)
  · subst c_
    refine lv_tableIn (off := 2044) (tgt := 2084) hx hb dL_law_40 (by decide) (by decide) rfl (by decide) ?_
    exact wL_44 hst hx hb hml hown hts hK hA hX hbl hbA hE hS hl n1 n2 n3 n4 n5 e1 e2 e3 e4 e5 hcl hsl kk hP hD hf
  refine cs_ob hf (fun c_ hf => ?_) (fun c_ hf => ?_)
  · subst c_
    refine lv_tableIn (off := 2057) (tgt := 2097) hx hb dL_law_40 (by decide) (by decide) rfl (by decide) ?_
    exact wL_45 hst hx hb hml hown hts hK hA hX hbl hbA hE hS hl n1 n2 n3 n4 n5 e1 e2 e3 e4 e5 hcl hsl kk hP hD hf
  refine cs_ob hf (fun c_ hf => ?_) (fun c_ hf => ?_)
  · subst c_
    refine lv_tableIn (off := 2070) (tgt := 2110) hx hb dL_law_40 (by decide) (by decide) rfl (by decide) ?_
    exact wL_46 hst hx hb hml hown hts hK hA hX hbl hbA hE hS hl n1 n2 n3 n4 n5 e1 e2 e3 e4 e5 hcl hsl kk hP hD hf
  refine cs_ob hf (fun c_ hf => ?_) (fun c_ hf => ?_)
  · subst c_
    refine lv_tableIn (off := 2145) (tgt := 2185) hx hb dL_law_40 (by decide) (by decide) rfl (by decide) ?_
    exact wL_47 hst hx hb hml hown hts hK hA hX hbl hbA hE hS hl n1 n2 n3 n4 n5 e1 e2 e3 e4 e5 hcl hsl kk hP hD hf
  refine cs_ob hf (fun c_ hf => ?_) (fun c_ hf => ?_)
  · subst c_
    refine lv_tableIn (off := 2208) (tgt := 2248) hx hb dL_law_40 (by decide) (by decide) rfl (by decide) ?_
    exact wL_48 hst hx hb hml hown hts hK hA hX hbl hbA hE hS hl n1 n2 n3 n4 n5 e1 e2 e3 e4 e5 hcl hsl kk hP hD hf
  refine cs_ob hf (fun c_ hf => ?_) (fun c_ hf => ?_)
  · subst c_
    refine lv_tableIn (off := 2249) (tgt := 2289) hx hb dL_law_40 (by decide) (by decide) rfl (by decide) ?_
    exact wL_49 hst hx hb hml hown hts hK hA hX hbl hbA hE hS hl n1 n2 n3 n4 n5 e1 e2 e3 e4 e5 hcl hsl kk hP hD hf
  refine cs_ob hf (fun c_ hf => ?_) (fun c_ hf => ?_)
  · subst c_
    refine lv_tableIn (off := 2262) (tgt := 2302) hx hb dL_law_40 (by decide) (by decide) rfl (by decide) ?_
    exact wL_50 hst hx hb hml hown hts hK hA hX hbl hbA hE hS hl n1 n2 n3 n4 n5 e1 e2 e3 e4 e5 hcl hsl kk hP hD hf
  refine cs_ob hf (fun c_ hf => ?_) (fun c_ hf => ?_)
  · subst c_
    refine lv_tableIn (off := 2275) (tgt := 2315) hx hb dL_law_40 (by decide) (by decide) rfl (by decide) ?_
    exact wL_51 hst hx hb hml hown hts hK hA hX hbl hbA hE hS hl n1 n2 n3 n4 n5 e1 e2 e3 e4 e5 hcl hsl kk hP hD hf
  refine cs_ob hf (fun c_ hf => ?_) (fun c_ hf => ?_)
  · subst c_
    refine lv_tableIn (off := 2288) (tgt := 2328) hx hb dL_law_40 (by decide) (by decide) rfl (by decide) ?_
    exact wL_52 hst hx hb hml hown hts hK hA hX hbl hbA hE hS hl n1 n2 n3 n4 n5 e1 e2 e3 e4 e5 hcl hsl kk hP hD hf
  refine cs_ob hf (fun c_ hf => ?_) (fun c_ hf => ?_)
  · subst c_
    refine lv_tableIn (off := 2356) (tgt := 2396) hx hb dL_law_40 (by decide) (by decide) rfl (by decide) ?_
    exact wL_53 hst hx hb hml hown hts hK hA hX hbl hbA hE hS hl n1 n2 n3 n4 n5 e1 e2 e3 e4 e5 hcl hsl kk hP hD hf
  refine cs_ob hf (fun c_ hf => ?_) (fun c_ hf => ?_)
  · subst c_
    refine lv_tableIn (off := 2424) (tgt := 2464) hx hb dL_law_40 (by decide) (by decide) rfl (by decide) ?_
    exact wL_54 hst hx hb hml hown hts hK hA hX hbl hbA hE hS hl n1 n2 n3 n4 n5 e1 e2 e3 e4 e5 hcl hsl kk hP hD hf
  refine cs_ob hf (fun c_ hf => ?_) (fun c_ hf => ?_)
  · subst c_
    refine lv_tableIn (off := 2480) (tgt := 2520) hx hb dL_law_40 (by decide) (by decide) rfl (by decide) ?_
    exact wL_55 hst hx hb hml hown hts hK hA hX hbl hbA hE hS hl n1 n2 n3 n4 n5 e1 e2 e3 e4 e5 hcl hsl kk hP hD hf
  refine cs_ob hf (fun c_ hf => ?_) (fun c_ hf => ?_)
  · subst c_
    refine lv_tableIn (off := 2536) (tgt := 2576) hx hb dL_law_40 (by decide) (by decide) rfl (by decide) ?_
    exact wL_56 hst hx hb hml hown hts hK hA hX hbl hbA hE hS hl n1 n2 n3 n4 n5 e1 e2 e3 e4 e5 hcl hsl kk hP hD hf
  refine cs_ob hf (fun c_ hf => ?_) (fun c_ hf => ?_)
  · subst c_
    refine lv_tableIn (off := 2592) (tgt := 2632) hx hb dL_law_40 (by decide) (by decide) rfl (by decide) ?_
    exact wL_57 hst hx hb hml hown hts hK hA hX hbl hbA hE hS hl n1 n2 n3 n4 n5 e1 e2 e3 e4 e5 hcl hsl kk hP hD hf
  refine cs_ob hf (fun c_ hf => ?_) (fun c_ hf => ?_)
  · subst c_
    refine lv_tableIn (off := 2605) (tgt := 2645) hx hb dL_law_40 (by decide) (by decide) rfl (by decide) ?_
    exact wL_58 hst hx hb hml hown hts hK hA hX hbl hbA hE hS hl n1 n2 n3 n4 n5 e1 e2 e3 e4 e5 hcl hsl kk hP hD hf
  refine cs_ob hf (fun c_ hf => ?_) (fun c_ hf => ?_)
  · subst c_
    refine lv_tableIn (off := 2649) (tgt := 2689) hx hb dL_law_40 (by decide) (by decide) rfl (by decide) ?_
    exact wL_59 hst hx hb hml hown hts hK hA hX hbl hbA hE hS hl n1 n2 n3 n4 n5 e1 e2 e3 e4 e5 hcl hsl kk hP hD hf
  refine cs_ob hf (fun c_ hf => ?_) (fun c_ hf => ?_)
  · subst c_
    refine lv_tableIn (off := 2662) (tgt := 2702) hx hb dL_law_40 (by decide) (by decide) rfl (by decide) ?_
    exact wL_60 hst hx hb hml hown hts hK hA hX hbl hbA hE hS hl n1 n2 n3 n4 n5 e1 e2 e3 e4 e5 hcl hsl kk hP hD hf
  refine cs_ob hf (fun c_ hf => ?_) (fun c_ hf => ?_)
  · subst c_
    refine lv_tableIn (off := 2725) (tgt := 2765) hx hb dL_law_40 (by decide) (by decide) rfl (by decide) ?_
    exact wL_61 hst hx hb hml hown hts hK hA hX hbl hbA hE hS hl n1 n2 n3 n4 n5 e1 e2 e3 e4 e5 hcl hsl kk hP hD hf
  refine cs_ob hf (fun c_ hf => ?_) (fun c_ hf => ?_)
  · subst c_
    refine lv_tableIn (off := 2781) (tgt := 2821) hx hb dL_law_40 (by decide) (by decide) rfl (by decide) ?_
    exact wL_62 hst hx hb hml hown hts hK hA hX hbl hbA hE hS hl n1 n2 n3 n4 n5 e1 e2 e3 e4 e5 hcl hsl kk hP hD hf
  refine cs_ob hf (fun c_ hf => ?_) (fun c_ hf => ?_)
  · subst c_
    refine lv_tableIn (off := 2837) (tgt := 2877) hx hb dL_law_40 (by decide) (by decide) rfl (by decide) ?_
    exact wL_63 hst hx hb hml hown hts hK hA hX hbl hbA hE hS hl n1 n2 n3 n4 n5 e1 e2 e3 e4 e5 hcl hsl kk hP hD hf
  exact no_ob hf
end Cases
