section Cases
set_option maxRecDepth 100000 in
set_option maxHeartbeats 4000000 in
theorem wL_28 {p : Program} {l : Launch} {e : Env} {s : State} {m : MethodId} {args : Array Value} {below : List Frame} {meth : Method} {c : Code} {H : Heap} {locs : List Loc} {cells slots : Nat} {Qf : State → Prop} {ls : Array Slot} {D : va_G} {cI cB cZ cO cJ : ClassId} {aK aV mK : Nat → Nat} {Q : Nat → Nat → Nat} {q : Nat → Nat} {a b L fu : Nat} {xs : Nat → Int32} {A : Nat → Prop} {X X1 : Nat → OS} {z z1 : OS} {o o1 : Nat → Int64} {i a1 a2 a3 a4 a5 : Int32} (hst : l.stackTraces = false) (hx : p.tables.exec = Jvm.exec) (hb : c.code = cL_law) (hml : c.maxLocals = 9) (hown : s.vm.findClass RL = some m.cls) (hts : ∀ w ∈ lw_tbl, w.before args s = true) (hK : va_K D vwCl (gL cI cB cZ cO cJ) s) (hA : ∀ q : Nat, s.heap.size ≤ q → A q) (hX : va_X b L xs s s.heap) (hbl : b < s.heap.size) (hbA : ¬ A b) (hE : EW aK aV mK A s s.heap) (hS : va_S A s.heap H locs) (hl : lv_has ls 9 [(0, .ref b), (1, .ref (Q 0 0)), (2, .ref (q 0)), (3, .ref a), (4, .int i)]) (n1 : vp_in (i + 1) L) (n2 : vp_in (i + 2) L) (n3 : vp_in (i + 3) L) (n4 : vp_in (i + 4) L) (n5 : vp_in (i + 5) L) (e1 : xs (i + 1).toNatClampNeg = a1) (e2 : xs (i + 2).toNatClampNeg = a2) (e3 : xs (i + 3).toNatClampNeg = a3) (e4 : xs (i + 4).toNatClampNeg = a4) (e5 : xs (i + 5).toNatClampNeg = a5) (hcl : cells + 8 ≤ 601024) (hsl : slots + 48 ≤ 7293034) (kk : ∀ (H1 : Heap) (locs1 : List Loc) (ls1 : Array Slot), va_P D vwCl (fl (lawW cI cB cZ cO cJ Q q a X1 z1 o1)) H1 → va_D A (fl (lawW cI cB cZ cO cJ Q q a X1 z1 o1)) → va_S A s.heap H1 locs1 → lv_has ls1 9 [(0, .ref b), (1, .ref (Q 0 0)), (2, .ref (q 0)), (3, .ref a), (4, .int i)] → W p l e room_1 s m args below meth c H1 locs1 (cells + 8) (slots + 48) Qf (F0 m 2902 ls1 [])) (hP : va_P D vwCl (fl (lawW cI cB cZ cO cJ Q q a X z o)) H) (hD : va_D A (fl (lawW cI cB cZ cO cJ Q q a X z o))) (hf : cL_28 fu a1 a2 a3 a4 a5 X z o = some (X1, z1, o1)) : W p l e room_1 s m args below meth c H locs cells slots Qf (F0 m 1439 ls []) := by
  unfold cL_28 at hf
  refine lv_aload_n hx hb dL_law_1439 rfl (lv_at hl 1 rfl) ?_
  refine lv_aload_n hx hb dL_law_1440 rfl (lv_at hl 0 rfl) ?_
  refine lv_iload hx hb dL_law_1441 (lv_at hl 4 rfl) ?_
  refine lv_iconst (v := 1) hx hb dL_law_1443 (by decide) ?_
  refine lv_iadd hx hb dL_law_1444 ?_
  refine va_sldE hx hb hX hbl hbA hS n1 e1 dL_law_1445 ?_
  refine lv_aload_n hx hb dL_law_1446 rfl (lv_at hl 0 rfl) ?_
  refine lv_iload hx hb dL_law_1447 (lv_at hl 4 rfl) ?_
  refine lv_iconst (v := 2) hx hb dL_law_1449 (by decide) ?_
  refine lv_iadd hx hb dL_law_1450 ?_
  refine va_sldE hx hb hX hbl hbA hS n2 e2 dL_law_1451 ?_
  refine lv_aload_n hx hb dL_law_1452 rfl (lv_at hl 3 rfl) ?_
  obtain ⟨w1, hcw1, hf⟩ := bd_ob hf
  refine wrSWb (As := [.ref (Q 0 0), .int a1, .int a2, .ref a]) (rest := []) [wL cJ a w1.2, wXO Q, wC cI (Q 1) (X 1), wC cI (Q 2) (X 2), wS (Q 3) (Q 4 0) (Q 5 0) (Q 6 0) (Q 7 0) (X 3), wT cB (Q 4) (X 4), wC cI (Q 5) (X 5), wA (Q 6) (X 6), wP (Q 7) (X 7), wH cO (Q 8) (Q 9 0) (Q 10 0) (Q 11 0) (Q 12 0) (Q 13 0) (Q 14 0) (Q 15 0) (Q 16 0) (X 8), wC cI (Q 9) (X 9), wC cI (Q 10) (X 10), wC cI (Q 11) (X 11), wC cI (Q 12) (X 12), wC cI (Q 13) (X 13), wC cI (Q 14) (X 14), wC cI (Q 15) (X 15), wC cI (Q 16) (X 16), wXS cO (Q 17) (Q 18 0) (Q 19 0), wC cI (Q 18) (X 18), wC cI (Q 19) (X 19), wXF cZ (Q 20) (X 20), wA (Q 21) (X 21), wP (Q 22) (X 22), wO cB (Q 23) (X 23), wM cI cB cZ q z] ⟨hx, hb, hml, hown, hts⟩ (mL_areResolvable l D cI cB cZ cO cJ aK aV mK hst Q a _ fu o (X 0) (X 1) (X 2) (X 3) (X 4) (X 5) (X 6) (X 7) (X 8) (X 9) (X 10) (X 11) (X 12) (X 13) (X 14) (X 15) (X 16) (X 17) (X 18) (X 19) (X 20) (X 21) (X 22) (X 23) a1 a2 hcw1) (vx_cwSW 4 hts gL_law_L_areResolvable rfl rfl rfl (by decide +kernel) ⟨Nat.le_of_ble_eq_true rfl, Nat.le_of_ble_eq_true rfl⟩) (EW_ok aK aV mK) ((EW_ok aK aV mK).2.2.1 _ _ _ _ hS.2.1 hE) hK hP hD hS hA [0, 1, 2, 3, 4, 5, 6, 7, 8, 9, 10, 11, 12, 13, 14, 15, 16, 17, 18, 19, 20, 21, 22, 23, 24] [25] 26 rfl (by decide +kernel) rfl rfl [wM cI cB cZ q z] rfl rfl rfl rfl hl.1 rfl (Nat.le_of_ble_eq_true rfl) dL_law_1453 ⟨by show _ ≤ 601024; omega, by show _ ≤ 7293034; omega⟩ (fun H locs hP hD hS => ?_)
  refine lv_istore (lv' := [(5, .int w1.1), (0, .ref b), (1, .ref (Q 0 0)), (2, .ref (q 0)), (3, .ref a), (4, .int i)]) hx hb dL_law_1456 hl (by decide) rfl (fun ls hl => ?_)
  refine lv_aload_n hx hb dL_law_1458 rfl (lv_at hl 3 rfl) ?_
  refine lv_aload_n hx hb dL_law_1459 rfl (lv_at hl 1 rfl) ?_
  refine lv_iload hx hb dL_law_1460 (lv_at hl 5 rfl) ?_
  refine lv_iconst (v := 1) hx hb dL_law_1462 (by decide) ?_
  refine lv_iadd hx hb dL_law_1463 ?_
  refine va_sldE hx hb hX hbl hbA hS n1 e1 dL_law_1464 ?_
  refine lv_aload_n hx hb dL_law_1465 rfl (lv_at hl 1 rfl) ?_
  refine lv_iload hx hb dL_law_1466 (lv_at hl 5 rfl) ?_
  refine lv_iconst (v := 2) hx hb dL_law_1468 (by decide) ?_
  refine lv_iadd hx hb dL_law_1469 ?_
  refine va_sldE hx hb hX hbl hbA hS n2 e2 dL_law_1470 ?_
  obtain ⟨w2, hcw2, hf⟩ := bd_ob hf
  refine wrVb (As := [.int a1, .int a2]) (rest := []) [wL cJ a w1.2, wXO Q, wC cI (Q 1) (X 1), wC cI (Q 2) (X 2), wS (Q 3) (Q 4 0) (Q 5 0) (Q 6 0) (Q 7 0) (X 3), wT cB (Q 4) (X 4), wC cI (Q 5) (X 5), wA (Q 6) (X 6), wP (Q 7) (X 7), wH cO (Q 8) (Q 9 0) (Q 10 0) (Q 11 0) (Q 12 0) (Q 13 0) (Q 14 0) (Q 15 0) (Q 16 0) (X 8), wC cI (Q 9) (X 9), wC cI (Q 10) (X 10), wC cI (Q 11) (X 11), wC cI (Q 12) (X 12), wC cI (Q 13) (X 13), wC cI (Q 14) (X 14), wC cI (Q 15) (X 15), wC cI (Q 16) (X 16), wXS cO (Q 17) (Q 18 0) (Q 19 0), wC cI (Q 18) (X 18), wC cI (Q 19) (X 19), wXF cZ (Q 20) (X 20), wA (Q 21) (X 21), wP (Q 22) (X 22), wO cB (Q 23) (X 23), wM cI cB cZ q w2.2] ⟨hx, hb, hml, hown, hts⟩ (mX9_areResolvable l D cI cB cZ cO q _ fu z a1 a2 hcw2) (cwV 2 hts gL_law_X9_areResolvable rfl rfl rfl (by decide +kernel) ⟨Nat.le_of_ble_eq_true rfl, Nat.le_of_ble_eq_true rfl⟩) (hK.sub [0, 1, 2, 3] rfl) hP hD hS hA [25] [0, 1, 2, 3, 4, 5, 6, 7, 8, 9, 10, 11, 12, 13, 14, 15, 16, 17, 18, 19, 20, 21, 22, 23, 24] 26 rfl (by decide +kernel) rfl rfl [wL cJ a w1.2, wXO Q, wC cI (Q 1) (X 1), wC cI (Q 2) (X 2), wS (Q 3) (Q 4 0) (Q 5 0) (Q 6 0) (Q 7 0) (X 3), wT cB (Q 4) (X 4), wC cI (Q 5) (X 5), wA (Q 6) (X 6), wP (Q 7) (X 7), wH cO (Q 8) (Q 9 0) (Q 10 0) (Q 11 0) (Q 12 0) (Q 13 0) (Q 14 0) (Q 15 0) (Q 16 0) (X 8), wC cI (Q 9) (X 9), wC cI (Q 10) (X 10), wC cI (Q 11) (X 11), wC cI (Q 12) (X 12), wC cI (Q 13) (X 13), wC cI (Q 14) (X 14), wC cI (Q 15) (X 15), wC cI (Q 16) (X 16), wXS cO (Q 17) (Q 18 0) (Q 19 0), wC cI (Q 18) (X 18), wC cI (Q 19) (X 19), wXF cZ (Q 20) (X 20), wA (Q 21) (X 21), wP (Q 22) (X 22), wO cB (Q 23) (X 23)] rfl rfl rfl (va_recv hK hP (ci := 8) (q0 := 106) rfl rfl) rfl hl.1 rfl (Nat.le_of_ble_eq_true rfl) dL_law_1471 ⟨by show _ ≤ 601024; omega, by show _ ≤ 7293034; omega⟩ (fun H locs hP hD hS => ?_)
  refine lv_istore (lv' := [(6, .int w2.1), (5, .int w1.1), (0, .ref b), (1, .ref (Q 0 0)), (2, .ref (q 0)), (3, .ref a), (4, .int i)]) hx hb dL_law_1474 hl (by decide) rfl (fun ls hl => ?_)
  refine lv_aload_n hx hb dL_law_1476 rfl (lv_at hl 4 rfl) ?_
  obtain ⟨w3, hcw3, hf⟩ := bd_ob hf
  refine rdV (As := []) (rest := []) ⟨hx, hb, hml, hown, hts⟩ (mX9_thrown l D cI cB cZ cO q fu w2.2 hcw3) (cwV 0 hts gL_law_X9_thrown rfl rfl rfl (by decide +kernel) ⟨Nat.le_of_ble_eq_true rfl, Nat.le_of_ble_eq_true rfl⟩) (hK.sub [0, 1, 2, 3] rfl) (hP.subb [25] rfl) (va_recv hK hP (ci := 8) (q0 := 106) rfl rfl) rfl hl.1 rfl (Nat.le_of_ble_eq_true rfl) dL_law_1477 ⟨by show _ ≤ 601024; omega, by show _ ≤ 7293034; omega⟩ ?_
  refine lv_iload hx hb dL_law_1480 (lv_at hl 1 rfl) ?_
  refine lv_icmp_eq (tgt := 1487) hx hb dL_law_1482 (by decide) (fun c8 => ?_) (fun c8 => ?_)
  · have hf := ip c8 hf
    refine lv_iload hx hb dL_law_1487 (lv_at hl 1 rfl) ?_
    refine lv_if_ne (tgt := 1511) hx hb dL_law_1489 (by decide) (fun c7 => ?_) (fun c7 => ?_)
    · have hf := iq c7 hf
      refine lv_goto (tgt := 2902) hx hb dL_law_1511 (by decide) ?_
      cases hf
      refine W.widen (k := cells + 8) (n := slots + 48) (by omega) (by omega) ?_
      exact kk _ _ _ hP hD hS (lv_sub hl [2, 3, 4, 5, 6] rfl)
    · have hf := ip c7 hf
      refine lv_aload_n hx hb dL_law_1492 rfl (lv_at hl 5 rfl) ?_
      refine lv_iconst (v := 0) hx hb dL_law_1493 (by decide) ?_
      refine va_lald hx hb hK hP 0 4 rfl rfl (inB_in (by decide)) dL_law_1494 ?_
      refine lv_iload hx hb dL_law_1495 (lv_at hl 0 rfl) ?_
      refine lv_if_eq (tgt := 1504) hx hb dL_law_1497 (by decide) (fun c6 => ?_) (fun c6 => ?_)
      · have hf := ip c6 hf
        refine lv_lconst (v := 0) hx hb dL_law_1504 (by decide) ?_
        refine W.lcmp hx hb dL_law_1505 ?_
        refine lv_if_eq (tgt := 1511) hx hb dL_law_1506 (by decide) (fun c4 => ?_) (fun c4 => ?_)
        · have hf := ip c4 hf
          refine lv_goto (tgt := 2902) hx hb dL_law_1511 (by decide) ?_
          cases hf
          refine W.widen (k := cells + 8) (n := slots + 48) (by omega) (by omega) ?_
          exact kk _ _ _ hP hD hS (lv_sub hl [2, 3, 4, 5, 6] rfl)
        · have hf := iq c4 hf
          exact no_ob hf
      · have hf := iq c6 hf
        refine lv_lconst (v := 1) hx hb dL_law_1500 (by decide) ?_
        refine lv_goto (tgt := 1505) hx hb dL_law_1501 (by decide) ?_
        refine W.lcmp hx hb dL_law_1505 ?_
        refine lv_if_eq (tgt := 1511) hx hb dL_law_1506 (by decide) (fun c5 => ?_) (fun c5 => ?_)
        · have hf := ip c5 hf
          refine lv_goto (tgt := 2902) hx hb dL_law_1511 (by decide) ?_
          cases hf
          refine W.widen (k := cells + 8) (n := slots + 48) (by omega) (by omega) ?_
          exact kk _ _ _ hP hD hS (lv_sub hl [2, 3, 4, 5, 6] rfl)
        · have hf := iq c5 hf
          exact no_ob hf
  · have hf := iq c8 hf
    exact no_ob hf
set_option maxRecDepth 100000 in
set_option maxHeartbeats 4000000 in
theorem wL_29 {p : Program} {l : Launch} {e : Env} {s : State} {m : MethodId} {args : Array Value} {below : List Frame} {meth : Method} {c : Code} {H : Heap} {locs : List Loc} {cells slots : Nat} {Qf : State → Prop} {ls : Array Slot} {D : va_G} {cI cB cZ cO cJ : ClassId} {aK aV mK : Nat → Nat} {Q : Nat → Nat → Nat} {q : Nat → Nat} {a b L fu : Nat} {xs : Nat → Int32} {A : Nat → Prop} {X X1 : Nat → OS} {z z1 : OS} {o o1 : Nat → Int64} {i a1 a2 a3 a4 a5 : Int32} (hst : l.stackTraces = false) (hx : p.tables.exec = Jvm.exec) (hb : c.code = cL_law) (hml : c.maxLocals = 9) (hown : s.vm.findClass RL = some m.cls) (hts : ∀ w ∈ lw_tbl, w.before args s = true) (hK : va_K D vwCl (gL cI cB cZ cO cJ) s) (hA : ∀ q : Nat, s.heap.size ≤ q → A q) (hX : va_X b L xs s s.heap) (hbl : b < s.heap.size) (hbA : ¬ A b) (hE : EW aK aV mK A s s.heap) (hS : va_S A s.heap H locs) (hl : lv_has ls 9 [(0, .ref b), (1, .ref (Q 0 0)), (2, .ref (q 0)), (3, .ref a), (4, .int i)]) (n1 : vp_in (i + 1) L) (n2 : vp_in (i + 2) L) (n3 : vp_in (i + 3) L) (n4 : vp_in (i + 4) L) (n5 : vp_in (i + 5) L) (e1 : xs (i + 1).toNatClampNeg = a1) (e2 : xs (i + 2).toNatClampNeg = a2) (e3 : xs (i + 3).toNatClampNeg = a3) (e4 : xs (i + 4).toNatClampNeg = a4) (e5 : xs (i + 5).toNatClampNeg = a5) (hcl : cells + 8 ≤ 601024) (hsl : slots + 48 ≤ 7293034) (kk : ∀ (H1 : Heap) (locs1 : List Loc) (ls1 : Array Slot), va_P D vwCl (fl (lawW cI cB cZ cO cJ Q q a X1 z1 o1)) H1 → va_D A (fl (lawW cI cB cZ cO cJ Q q a X1 z1 o1)) → va_S A s.heap H1 locs1 → lv_has ls1 9 [(0, .ref b), (1, .ref (Q 0 0)), (2, .ref (q 0)), (3, .ref a), (4, .int i)] → W p l e room_1 s m args below meth c H1 locs1 (cells + 8) (slots + 48) Qf (F0 m 2902 ls1 [])) (hP : va_P D vwCl (fl (lawW cI cB cZ cO cJ Q q a X z o)) H) (hD : va_D A (fl (lawW cI cB cZ cO cJ Q q a X z o))) (hf : cL_29 fu a1 a2 a3 a4 a5 X z o = some (X1, z1, o1)) : W p l e room_1 s m args below meth c H locs cells slots Qf (F0 m 1514 ls []) := by
  unfold cL_29 at hf
  refine lv_aload_n hx hb dL_law_1514 rfl (lv_at hl 1 rfl) ?_
  refine lv_aload_n hx hb dL_law_1515 rfl (lv_at hl 0 rfl) ?_
  refine lv_iload hx hb dL_law_1516 (lv_at hl 4 rfl) ?_
  refine lv_iconst (v := 1) hx hb dL_law_1518 (by decide) ?_
  refine lv_iadd hx hb dL_law_1519 ?_
  refine va_sldE hx hb hX hbl hbA hS n1 e1 dL_law_1520 ?_
  refine lv_aload_n hx hb dL_law_1521 rfl (lv_at hl 0 rfl) ?_
  refine lv_iload hx hb dL_law_1522 (lv_at hl 4 rfl) ?_
  refine lv_iconst (v := 2) hx hb dL_law_1524 (by decide) ?_
  refine lv_iadd hx hb dL_law_1525 ?_
  refine va_sldE hx hb hX hbl hbA hS n2 e2 dL_law_1526 ?_
  refine lv_aload_n hx hb dL_law_1527 rfl (lv_at hl 3 rfl) ?_
  obtain ⟨w1, hcw1, hf⟩ := bd_ob hf
  refine wrSWb (As := [.ref (Q 0 0), .int a1, .int a2, .ref a]) (rest := []) [wL cJ a w1.2, wXO Q, wC cI (Q 1) (X 1), wC cI (Q 2) (X 2), wS (Q 3) (Q 4 0) (Q 5 0) (Q 6 0) (Q 7 0) (X 3), wT cB (Q 4) (X 4), wC cI (Q 5) (X 5), wA (Q 6) (X 6), wP (Q 7) (X 7), wH cO (Q 8) (Q 9 0) (Q 10 0) (Q 11 0) (Q 12 0) (Q 13 0) (Q 14 0) (Q 15 0) (Q 16 0) (X 8), wC cI (Q 9) (X 9), wC cI (Q 10) (X 10), wC cI (Q 11) (X 11), wC cI (Q 12) (X 12), wC cI (Q 13) (X 13), wC cI (Q 14) (X 14), wC cI (Q 15) (X 15), wC cI (Q 16) (X 16), wXS cO (Q 17) (Q 18 0) (Q 19 0), wC cI (Q 18) (X 18), wC cI (Q 19) (X 19), wXF cZ (Q 20) (X 20), wA (Q 21) (X 21), wP (Q 22) (X 22), wO cB (Q 23) (X 23), wM cI cB cZ q z] ⟨hx, hb, hml, hown, hts⟩ (mL_resolventPositive l D cI cB cZ cO cJ aK aV mK hst Q a _ fu o (X 0) (X 1) (X 2) (X 3) (X 4) (X 5) (X 6) (X 7) (X 8) (X 9) (X 10) (X 11) (X 12) (X 13) (X 14) (X 15) (X 16) (X 17) (X 18) (X 19) (X 20) (X 21) (X 22) (X 23) a1 a2 hcw1) (vx_cwSW 4 hts gL_law_L_resolventPositive rfl rfl rfl (by decide +kernel) ⟨Nat.le_of_ble_eq_true rfl, Nat.le_of_ble_eq_true rfl⟩) (EW_ok aK aV mK) ((EW_ok aK aV mK).2.2.1 _ _ _ _ hS.2.1 hE) hK hP hD hS hA [0, 1, 2, 3, 4, 5, 6, 7, 8, 9, 10, 11, 12, 13, 14, 15, 16, 17, 18, 19, 20, 21, 22, 23, 24] [25] 26 rfl (by decide +kernel) rfl rfl [wM cI cB cZ q z] rfl rfl rfl rfl hl.1 rfl (Nat.le_of_ble_eq_true rfl) dL_law_1528 ⟨by show _ ≤ 601024; omega, by show _ ≤ 7293034; omega⟩ (fun H locs hP hD hS => ?_)
  refine lv_istore (lv' := [(5, .int w1.1), (0, .ref b), (1, .ref (Q 0 0)), (2, .ref (q 0)), (3, .ref a), (4, .int i)]) hx hb dL_law_1531 hl (by decide) rfl (fun ls hl => ?_)
  refine lv_aload_n hx hb dL_law_1533 rfl (lv_at hl 3 rfl) ?_
  refine lv_aload_n hx hb dL_law_1534 rfl (lv_at hl 1 rfl) ?_
  refine lv_iload hx hb dL_law_1535 (lv_at hl 5 rfl) ?_
  refine lv_iconst (v := 1) hx hb dL_law_1537 (by decide) ?_
  refine lv_iadd hx hb dL_law_1538 ?_
  refine va_sldE hx hb hX hbl hbA hS n1 e1 dL_law_1539 ?_
  refine lv_aload_n hx hb dL_law_1540 rfl (lv_at hl 1 rfl) ?_
  refine lv_iload hx hb dL_law_1541 (lv_at hl 5 rfl) ?_
  refine lv_iconst (v := 2) hx hb dL_law_1543 (by decide) ?_
  refine lv_iadd hx hb dL_law_1544 ?_
  refine va_sldE hx hb hX hbl hbA hS n2 e2 dL_law_1545 ?_
  obtain ⟨w2, hcw2, hf⟩ := bd_ob hf
  refine wrVb (As := [.int a1, .int a2]) (rest := []) [wL cJ a w1.2, wXO Q, wC cI (Q 1) (X 1), wC cI (Q 2) (X 2), wS (Q 3) (Q 4 0) (Q 5 0) (Q 6 0) (Q 7 0) (X 3), wT cB (Q 4) (X 4), wC cI (Q 5) (X 5), wA (Q 6) (X 6), wP (Q 7) (X 7), wH cO (Q 8) (Q 9 0) (Q 10 0) (Q 11 0) (Q 12 0) (Q 13 0) (Q 14 0) (Q 15 0) (Q 16 0) (X 8), wC cI (Q 9) (X 9), wC cI (Q 10) (X 10), wC cI (Q 11) (X 11), wC cI (Q 12) (X 12), wC cI (Q 13) (X 13), wC cI (Q 14) (X 14), wC cI (Q 15) (X 15), wC cI (Q 16) (X 16), wXS cO (Q 17) (Q 18 0) (Q 19 0), wC cI (Q 18) (X 18), wC cI (Q 19) (X 19), wXF cZ (Q 20) (X 20), wA (Q 21) (X 21), wP (Q 22) (X 22), wO cB (Q 23) (X 23), wM cI cB cZ q w2.2] ⟨hx, hb, hml, hown, hts⟩ (mX9_resolventPositive l D cI cB cZ cO q _ fu z a1 a2 hcw2) (cwV 2 hts gL_law_X9_resolventPositive rfl rfl rfl (by decide +kernel) ⟨Nat.le_of_ble_eq_true rfl, Nat.le_of_ble_eq_true rfl⟩) (hK.sub [0, 1, 2, 3] rfl) hP hD hS hA [25] [0, 1, 2, 3, 4, 5, 6, 7, 8, 9, 10, 11, 12, 13, 14, 15, 16, 17, 18, 19, 20, 21, 22, 23, 24] 26 rfl (by decide +kernel) rfl rfl [wL cJ a w1.2, wXO Q, wC cI (Q 1) (X 1), wC cI (Q 2) (X 2), wS (Q 3) (Q 4 0) (Q 5 0) (Q 6 0) (Q 7 0) (X 3), wT cB (Q 4) (X 4), wC cI (Q 5) (X 5), wA (Q 6) (X 6), wP (Q 7) (X 7), wH cO (Q 8) (Q 9 0) (Q 10 0) (Q 11 0) (Q 12 0) (Q 13 0) (Q 14 0) (Q 15 0) (Q 16 0) (X 8), wC cI (Q 9) (X 9), wC cI (Q 10) (X 10), wC cI (Q 11) (X 11), wC cI (Q 12) (X 12), wC cI (Q 13) (X 13), wC cI (Q 14) (X 14), wC cI (Q 15) (X 15), wC cI (Q 16) (X 16), wXS cO (Q 17) (Q 18 0) (Q 19 0), wC cI (Q 18) (X 18), wC cI (Q 19) (X 19), wXF cZ (Q 20) (X 20), wA (Q 21) (X 21), wP (Q 22) (X 22), wO cB (Q 23) (X 23)] rfl rfl rfl (va_recv hK hP (ci := 8) (q0 := 106) rfl rfl) rfl hl.1 rfl (Nat.le_of_ble_eq_true rfl) dL_law_1546 ⟨by show _ ≤ 601024; omega, by show _ ≤ 7293034; omega⟩ (fun H locs hP hD hS => ?_)
  refine lv_istore (lv' := [(6, .int w2.1), (5, .int w1.1), (0, .ref b), (1, .ref (Q 0 0)), (2, .ref (q 0)), (3, .ref a), (4, .int i)]) hx hb dL_law_1549 hl (by decide) rfl (fun ls hl => ?_)
  refine lv_aload_n hx hb dL_law_1551 rfl (lv_at hl 4 rfl) ?_
  obtain ⟨w3, hcw3, hf⟩ := bd_ob hf
  refine rdV (As := []) (rest := []) ⟨hx, hb, hml, hown, hts⟩ (mX9_thrown l D cI cB cZ cO q fu w2.2 hcw3) (cwV 0 hts gL_law_X9_thrown rfl rfl rfl (by decide +kernel) ⟨Nat.le_of_ble_eq_true rfl, Nat.le_of_ble_eq_true rfl⟩) (hK.sub [0, 1, 2, 3] rfl) (hP.subb [25] rfl) (va_recv hK hP (ci := 8) (q0 := 106) rfl rfl) rfl hl.1 rfl (Nat.le_of_ble_eq_true rfl) dL_law_1552 ⟨by show _ ≤ 601024; omega, by show _ ≤ 7293034; omega⟩ ?_
  refine lv_iload hx hb dL_law_1555 (lv_at hl 1 rfl) ?_
  refine lv_icmp_eq (tgt := 1562) hx hb dL_law_1557 (by decide) (fun c6 => ?_) (fun c6 => ?_)
  · have hf := ip c6 hf
    refine lv_iload hx hb dL_law_1562 (lv_at hl 1 rfl) ?_
    refine lv_if_ne (tgt := 1579) hx hb dL_law_1564 (by decide) (fun c5 => ?_) (fun c5 => ?_)
    · have hf := iq c5 hf
      refine lv_goto (tgt := 2902) hx hb dL_law_1579 (by decide) ?_
      cases hf
      refine W.widen (k := cells + 8) (n := slots + 48) (by omega) (by omega) ?_
      exact kk _ _ _ hP hD hS (lv_sub hl [2, 3, 4, 5, 6] rfl)
    · have hf := ip c5 hf
      refine lv_aload_n hx hb dL_law_1567 rfl (lv_at hl 5 rfl) ?_
      refine lv_iconst (v := 0) hx hb dL_law_1568 (by decide) ?_
      refine va_lald hx hb hK hP 0 4 rfl rfl (inB_in (by decide)) dL_law_1569 ?_
      refine lv_iload hx hb dL_law_1570 (lv_at hl 0 rfl) ?_
      refine lv_i2l hx hb dL_law_1572 rfl ?_
      refine W.lcmp hx hb dL_law_1573 ?_
      refine lv_if_eq (tgt := 1579) hx hb dL_law_1574 (by decide) (fun c4 => ?_) (fun c4 => ?_)
      · have hf := ip c4 hf
        refine lv_goto (tgt := 2902) hx hb dL_law_1579 (by decide) ?_
        cases hf
        refine W.widen (k := cells + 8) (n := slots + 48) (by omega) (by omega) ?_
        exact kk _ _ _ hP hD hS (lv_sub hl [2, 3, 4, 5, 6] rfl)
      · have hf := iq c4 hf
        exact no_ob hf
  · have hf := iq c6 hf
    exact no_ob hf
set_option maxRecDepth 100000 in
set_option maxHeartbeats 4000000 in
theorem wL_30 {p : Program} {l : Launch} {e : Env} {s : State} {m : MethodId} {args : Array Value} {below : List Frame} {meth : Method} {c : Code} {H : Heap} {locs : List Loc} {cells slots : Nat} {Qf : State → Prop} {ls : Array Slot} {D : va_G} {cI cB cZ cO cJ : ClassId} {aK aV mK : Nat → Nat} {Q : Nat → Nat → Nat} {q : Nat → Nat} {a b L fu : Nat} {xs : Nat → Int32} {A : Nat → Prop} {X X1 : Nat → OS} {z z1 : OS} {o o1 : Nat → Int64} {i a1 a2 a3 a4 a5 : Int32} (hst : l.stackTraces = false) (hx : p.tables.exec = Jvm.exec) (hb : c.code = cL_law) (hml : c.maxLocals = 9) (hown : s.vm.findClass RL = some m.cls) (hts : ∀ w ∈ lw_tbl, w.before args s = true) (hK : va_K D vwCl (gL cI cB cZ cO cJ) s) (hA : ∀ q : Nat, s.heap.size ≤ q → A q) (hX : va_X b L xs s s.heap) (hbl : b < s.heap.size) (hbA : ¬ A b) (hE : EW aK aV mK A s s.heap) (hS : va_S A s.heap H locs) (hl : lv_has ls 9 [(0, .ref b), (1, .ref (Q 0 0)), (2, .ref (q 0)), (3, .ref a), (4, .int i)]) (n1 : vp_in (i + 1) L) (n2 : vp_in (i + 2) L) (n3 : vp_in (i + 3) L) (n4 : vp_in (i + 4) L) (n5 : vp_in (i + 5) L) (e1 : xs (i + 1).toNatClampNeg = a1) (e2 : xs (i + 2).toNatClampNeg = a2) (e3 : xs (i + 3).toNatClampNeg = a3) (e4 : xs (i + 4).toNatClampNeg = a4) (e5 : xs (i + 5).toNatClampNeg = a5) (hcl : cells + 8 ≤ 601024) (hsl : slots + 48 ≤ 7293034) (kk : ∀ (H1 : Heap) (locs1 : List Loc) (ls1 : Array Slot), va_P D vwCl (fl (lawW cI cB cZ cO cJ Q q a X1 z1 o1)) H1 → va_D A (fl (lawW cI cB cZ cO cJ Q q a X1 z1 o1)) → va_S A s.heap H1 locs1 → lv_has ls1 9 [(0, .ref b), (1, .ref (Q 0 0)), (2, .ref (q 0)), (3, .ref a), (4, .int i)] → W p l e room_1 s m args below meth c H1 locs1 (cells + 8) (slots + 48) Qf (F0 m 2902 ls1 [])) (hP : va_P D vwCl (fl (lawW cI cB cZ cO cJ Q q a X z o)) H) (hD : va_D A (fl (lawW cI cB cZ cO cJ Q q a X z o))) (hf : cL_30 fu a1 a2 a3 a4 a5 X z o = some (X1, z1, o1)) : W p l e room_1 s m args below meth c H locs cells slots Qf (F0 m 1582 ls []) := by
  unfold cL_30 at hf
  refine lv_aload_n hx hb dL_law_1582 rfl (lv_at hl 1 rfl) ?_
  refine lv_aload_n hx hb dL_law_1583 rfl (lv_at hl 0 rfl) ?_
  refine lv_iload hx hb dL_law_1584 (lv_at hl 4 rfl) ?_
  refine lv_iconst (v := 1) hx hb dL_law_1586 (by decide) ?_
  refine lv_iadd hx hb dL_law_1587 ?_
  refine va_sldE hx hb hX hbl hbA hS n1 e1 dL_law_1588 ?_
  refine lv_aload_n hx hb dL_law_1589 rfl (lv_at hl 0 rfl) ?_
  refine lv_iload hx hb dL_law_1590 (lv_at hl 4 rfl) ?_
  refine lv_iconst (v := 2) hx hb dL_law_1592 (by decide) ?_
  refine lv_iadd hx hb dL_law_1593 ?_
  refine va_sldE hx hb hX hbl hbA hS n2 e2 dL_law_1594 ?_
  refine lv_aload_n hx hb dL_law_1595 rfl (lv_at hl 3 rfl) ?_
  obtain ⟨w1, hcw1, hf⟩ := bd_ob hf
  refine wrSWb (As := [.ref (Q 0 0), .int a1, .int a2, .ref a]) (rest := []) [wL cJ a w1.2, wXO Q, wC cI (Q 1) (X 1), wC cI (Q 2) (X 2), wS (Q 3) (Q 4 0) (Q 5 0) (Q 6 0) (Q 7 0) (X 3), wT cB (Q 4) (X 4), wC cI (Q 5) (X 5), wA (Q 6) (X 6), wP (Q 7) (X 7), wH cO (Q 8) (Q 9 0) (Q 10 0) (Q 11 0) (Q 12 0) (Q 13 0) (Q 14 0) (Q 15 0) (Q 16 0) (X 8), wC cI (Q 9) (X 9), wC cI (Q 10) (X 10), wC cI (Q 11) (X 11), wC cI (Q 12) (X 12), wC cI (Q 13) (X 13), wC cI (Q 14) (X 14), wC cI (Q 15) (X 15), wC cI (Q 16) (X 16), wXS cO (Q 17) (Q 18 0) (Q 19 0), wC cI (Q 18) (X 18), wC cI (Q 19) (X 19), wXF cZ (Q 20) (X 20), wA (Q 21) (X 21), wP (Q 22) (X 22), wO cB (Q 23) (X 23), wM cI cB cZ q z] ⟨hx, hb, hml, hown, hts⟩ (mL_resolventNegative l D cI cB cZ cO cJ aK aV mK hst Q a _ fu o (X 0) (X 1) (X 2) (X 3) (X 4) (X 5) (X 6) (X 7) (X 8) (X 9) (X 10) (X 11) (X 12) (X 13) (X 14) (X 15) (X 16) (X 17) (X 18) (X 19) (X 20) (X 21) (X 22) (X 23) a1 a2 hcw1) (vx_cwSW 4 hts gL_law_L_resolventNegative rfl rfl rfl (by decide +kernel) ⟨Nat.le_of_ble_eq_true rfl, Nat.le_of_ble_eq_true rfl⟩) (EW_ok aK aV mK) ((EW_ok aK aV mK).2.2.1 _ _ _ _ hS.2.1 hE) hK hP hD hS hA [0, 1, 2, 3, 4, 5, 6, 7, 8, 9, 10, 11, 12, 13, 14, 15, 16, 17, 18, 19, 20, 21, 22, 23, 24] [25] 26 rfl (by decide +kernel) rfl rfl [wM cI cB cZ q z] rfl rfl rfl rfl hl.1 rfl (Nat.le_of_ble_eq_true rfl) dL_law_1596 ⟨by show _ ≤ 601024; omega, by show _ ≤ 7293034; omega⟩ (fun H locs hP hD hS => ?_)
  refine lv_istore (lv' := [(5, .int w1.1), (0, .ref b), (1, .ref (Q 0 0)), (2, .ref (q 0)), (3, .ref a), (4, .int i)]) hx hb dL_law_1599 hl (by decide) rfl (fun ls hl => ?_)
  refine lv_aload_n hx hb dL_law_1601 rfl (lv_at hl 3 rfl) ?_
  refine lv_aload_n hx hb dL_law_1602 rfl (lv_at hl 1 rfl) ?_
  refine lv_iload hx hb dL_law_1603 (lv_at hl 5 rfl) ?_
  refine lv_iconst (v := 1) hx hb dL_law_1605 (by decide) ?_
  refine lv_iadd hx hb dL_law_1606 ?_
  refine va_sldE hx hb hX hbl hbA hS n1 e1 dL_law_1607 ?_
  refine lv_aload_n hx hb dL_law_1608 rfl (lv_at hl 1 rfl) ?_
  refine lv_iload hx hb dL_law_1609 (lv_at hl 5 rfl) ?_
  refine lv_iconst (v := 2) hx hb dL_law_1611 (by decide) ?_
  refine lv_iadd hx hb dL_law_1612 ?_
  refine va_sldE hx hb hX hbl hbA hS n2 e2 dL_law_1613 ?_
  obtain ⟨w2, hcw2, hf⟩ := bd_ob hf
  refine wrVb (As := [.int a1, .int a2]) (rest := []) [wL cJ a w1.2, wXO Q, wC cI (Q 1) (X 1), wC cI (Q 2) (X 2), wS (Q 3) (Q 4 0) (Q 5 0) (Q 6 0) (Q 7 0) (X 3), wT cB (Q 4) (X 4), wC cI (Q 5) (X 5), wA (Q 6) (X 6), wP (Q 7) (X 7), wH cO (Q 8) (Q 9 0) (Q 10 0) (Q 11 0) (Q 12 0) (Q 13 0) (Q 14 0) (Q 15 0) (Q 16 0) (X 8), wC cI (Q 9) (X 9), wC cI (Q 10) (X 10), wC cI (Q 11) (X 11), wC cI (Q 12) (X 12), wC cI (Q 13) (X 13), wC cI (Q 14) (X 14), wC cI (Q 15) (X 15), wC cI (Q 16) (X 16), wXS cO (Q 17) (Q 18 0) (Q 19 0), wC cI (Q 18) (X 18), wC cI (Q 19) (X 19), wXF cZ (Q 20) (X 20), wA (Q 21) (X 21), wP (Q 22) (X 22), wO cB (Q 23) (X 23), wM cI cB cZ q w2.2] ⟨hx, hb, hml, hown, hts⟩ (mX9_resolventNegative l D cI cB cZ cO q _ fu z a1 a2 hcw2) (cwV 2 hts gL_law_X9_resolventNegative rfl rfl rfl (by decide +kernel) ⟨Nat.le_of_ble_eq_true rfl, Nat.le_of_ble_eq_true rfl⟩) (hK.sub [0, 1, 2, 3] rfl) hP hD hS hA [25] [0, 1, 2, 3, 4, 5, 6, 7, 8, 9, 10, 11, 12, 13, 14, 15, 16, 17, 18, 19, 20, 21, 22, 23, 24] 26 rfl (by decide +kernel) rfl rfl [wL cJ a w1.2, wXO Q, wC cI (Q 1) (X 1), wC cI (Q 2) (X 2), wS (Q 3) (Q 4 0) (Q 5 0) (Q 6 0) (Q 7 0) (X 3), wT cB (Q 4) (X 4), wC cI (Q 5) (X 5), wA (Q 6) (X 6), wP (Q 7) (X 7), wH cO (Q 8) (Q 9 0) (Q 10 0) (Q 11 0) (Q 12 0) (Q 13 0) (Q 14 0) (Q 15 0) (Q 16 0) (X 8), wC cI (Q 9) (X 9), wC cI (Q 10) (X 10), wC cI (Q 11) (X 11), wC cI (Q 12) (X 12), wC cI (Q 13) (X 13), wC cI (Q 14) (X 14), wC cI (Q 15) (X 15), wC cI (Q 16) (X 16), wXS cO (Q 17) (Q 18 0) (Q 19 0), wC cI (Q 18) (X 18), wC cI (Q 19) (X 19), wXF cZ (Q 20) (X 20), wA (Q 21) (X 21), wP (Q 22) (X 22), wO cB (Q 23) (X 23)] rfl rfl rfl (va_recv hK hP (ci := 8) (q0 := 106) rfl rfl) rfl hl.1 rfl (Nat.le_of_ble_eq_true rfl) dL_law_1614 ⟨by show _ ≤ 601024; omega, by show _ ≤ 7293034; omega⟩ (fun H locs hP hD hS => ?_)
  refine lv_istore (lv' := [(6, .int w2.1), (5, .int w1.1), (0, .ref b), (1, .ref (Q 0 0)), (2, .ref (q 0)), (3, .ref a), (4, .int i)]) hx hb dL_law_1617 hl (by decide) rfl (fun ls hl => ?_)
  refine lv_aload_n hx hb dL_law_1619 rfl (lv_at hl 4 rfl) ?_
  obtain ⟨w3, hcw3, hf⟩ := bd_ob hf
  refine rdV (As := []) (rest := []) ⟨hx, hb, hml, hown, hts⟩ (mX9_thrown l D cI cB cZ cO q fu w2.2 hcw3) (cwV 0 hts gL_law_X9_thrown rfl rfl rfl (by decide +kernel) ⟨Nat.le_of_ble_eq_true rfl, Nat.le_of_ble_eq_true rfl⟩) (hK.sub [0, 1, 2, 3] rfl) (hP.subb [25] rfl) (va_recv hK hP (ci := 8) (q0 := 106) rfl rfl) rfl hl.1 rfl (Nat.le_of_ble_eq_true rfl) dL_law_1620 ⟨by show _ ≤ 601024; omega, by show _ ≤ 7293034; omega⟩ ?_
  refine lv_iload hx hb dL_law_1623 (lv_at hl 1 rfl) ?_
  refine lv_icmp_eq (tgt := 1630) hx hb dL_law_1625 (by decide) (fun c6 => ?_) (fun c6 => ?_)
  · have hf := ip c6 hf
    refine lv_iload hx hb dL_law_1630 (lv_at hl 1 rfl) ?_
    refine lv_if_ne (tgt := 1647) hx hb dL_law_1632 (by decide) (fun c5 => ?_) (fun c5 => ?_)
    · have hf := iq c5 hf
      refine lv_goto (tgt := 2902) hx hb dL_law_1647 (by decide) ?_
      cases hf
      refine W.widen (k := cells + 8) (n := slots + 48) (by omega) (by omega) ?_
      exact kk _ _ _ hP hD hS (lv_sub hl [2, 3, 4, 5, 6] rfl)
    · have hf := ip c5 hf
      refine lv_aload_n hx hb dL_law_1635 rfl (lv_at hl 5 rfl) ?_
      refine lv_iconst (v := 0) hx hb dL_law_1636 (by decide) ?_
      refine va_lald hx hb hK hP 0 4 rfl rfl (inB_in (by decide)) dL_law_1637 ?_
      refine lv_iload hx hb dL_law_1638 (lv_at hl 0 rfl) ?_
      refine lv_i2l hx hb dL_law_1640 rfl ?_
      refine W.lcmp hx hb dL_law_1641 ?_
      refine lv_if_eq (tgt := 1647) hx hb dL_law_1642 (by decide) (fun c4 => ?_) (fun c4 => ?_)
      · have hf := ip c4 hf
        refine lv_goto (tgt := 2902) hx hb dL_law_1647 (by decide) ?_
        cases hf
        refine W.widen (k := cells + 8) (n := slots + 48) (by omega) (by omega) ?_
        exact kk _ _ _ hP hD hS (lv_sub hl [2, 3, 4, 5, 6] rfl)
      · have hf := iq c4 hf
        exact no_ob hf
  · have hf := iq c6 hf
    exact no_ob hf
set_option maxRecDepth 100000 in
set_option maxHeartbeats 4000000 in
theorem wL_31 {p : Program} {l : Launch} {e : Env} {s : State} {m : MethodId} {args : Array Value} {below : List Frame} {meth : Method} {c : Code} {H : Heap} {locs : List Loc} {cells slots : Nat} {Qf : State → Prop} {ls : Array Slot} {D : va_G} {cI cB cZ cO cJ : ClassId} {aK aV mK : Nat → Nat} {Q : Nat → Nat → Nat} {q : Nat → Nat} {a b L fu : Nat} {xs : Nat → Int32} {A : Nat → Prop} {X X1 : Nat → OS} {z z1 : OS} {o o1 : Nat → Int64} {i a1 a2 a3 a4 a5 : Int32} (hst : l.stackTraces = false) (hx : p.tables.exec = Jvm.exec) (hb : c.code = cL_law) (hml : c.maxLocals = 9) (hown : s.vm.findClass RL = some m.cls) (hts : ∀ w ∈ lw_tbl, w.before args s = true) (hK : va_K D vwCl (gL cI cB cZ cO cJ) s) (hA : ∀ q : Nat, s.heap.size ≤ q → A q) (hX : va_X b L xs s s.heap) (hbl : b < s.heap.size) (hbA : ¬ A b) (hE : EW aK aV mK A s s.heap) (hS : va_S A s.heap H locs) (hl : lv_has ls 9 [(0, .ref b), (1, .ref (Q 0 0)), (2, .ref (q 0)), (3, .ref a), (4, .int i)]) (n1 : vp_in (i + 1) L) (n2 : vp_in (i + 2) L) (n3 : vp_in (i + 3) L) (n4 : vp_in (i + 4) L) (n5 : vp_in (i + 5) L) (e1 : xs (i + 1).toNatClampNeg = a1) (e2 : xs (i + 2).toNatClampNeg = a2) (e3 : xs (i + 3).toNatClampNeg = a3) (e4 : xs (i + 4).toNatClampNeg = a4) (e5 : xs (i + 5).toNatClampNeg = a5) (hcl : cells + 8 ≤ 601024) (hsl : slots + 48 ≤ 7293034) (kk : ∀ (H1 : Heap) (locs1 : List Loc) (ls1 : Array Slot), va_P D vwCl (fl (lawW cI cB cZ cO cJ Q q a X1 z1 o1)) H1 → va_D A (fl (lawW cI cB cZ cO cJ Q q a X1 z1 o1)) → va_S A s.heap H1 locs1 → lv_has ls1 9 [(0, .ref b), (1, .ref (Q 0 0)), (2, .ref (q 0)), (3, .ref a), (4, .int i)] → W p l e room_1 s m args below meth c H1 locs1 (cells + 8) (slots + 48) Qf (F0 m 2902 ls1 [])) (hP : va_P D vwCl (fl (lawW cI cB cZ cO cJ Q q a X z o)) H) (hD : va_D A (fl (lawW cI cB cZ cO cJ Q q a X z o))) (hf : cL_31 fu a1 a2 a3 a4 a5 X z o = some (X1, z1, o1)) : W p l e room_1 s m args below meth c H locs cells slots Qf (F0 m 1650 ls []) := by
  unfold cL_31 at hf
  refine lv_aload_n hx hb dL_law_1650 rfl (lv_at hl 1 rfl) ?_
  obtain ⟨w1, hcw1, hf⟩ := bd_ob hf
  refine rdV (As := []) (rest := []) ⟨hx, hb, hml, hown, hts⟩ (mX8_resolvablePairs l D cI cB cZ cO Q fu (X 0) (X 1) (X 2) (X 3) (X 4) (X 5) (X 6) (X 7) (X 8) (X 9) (X 10) (X 11) (X 12) (X 13) (X 14) (X 15) (X 16) (X 17) (X 18) (X 19) (X 20) (X 21) (X 22) (X 23) hcw1) (cwV 0 hts gL_law_X8_resolvablePairs rfl rfl rfl (by decide +kernel) ⟨Nat.le_of_ble_eq_true rfl, Nat.le_of_ble_eq_true rfl⟩) (hK.sub [0, 1, 2, 3] rfl) (hP.subb [1, 2, 3, 4, 5, 6, 7, 8, 9, 10, 11, 12, 13, 14, 15, 16, 17, 18, 19, 20, 21, 22, 23, 24] rfl) (va_recv hK hP (ci := 7) (q0 := 1) rfl rfl) rfl hl.1 rfl (Nat.le_of_ble_eq_true rfl) dL_law_1651 ⟨by show _ ≤ 601024; omega, by show _ ≤ 7293034; omega⟩ ?_
  refine lv_aload_n hx hb dL_law_1654 rfl (lv_at hl 2 rfl) ?_
  obtain ⟨w2, hcw2, hf⟩ := bd_ob hf
  refine wrVb (As := []) (rest := [.int w1]) [wL cJ a o, wXO Q, wC cI (Q 1) (X 1), wC cI (Q 2) (X 2), wS (Q 3) (Q 4 0) (Q 5 0) (Q 6 0) (Q 7 0) (X 3), wT cB (Q 4) (X 4), wC cI (Q 5) (X 5), wA (Q 6) (X 6), wP (Q 7) (X 7), wH cO (Q 8) (Q 9 0) (Q 10 0) (Q 11 0) (Q 12 0) (Q 13 0) (Q 14 0) (Q 15 0) (Q 16 0) (X 8), wC cI (Q 9) (X 9), wC cI (Q 10) (X 10), wC cI (Q 11) (X 11), wC cI (Q 12) (X 12), wC cI (Q 13) (X 13), wC cI (Q 14) (X 14), wC cI (Q 15) (X 15), wC cI (Q 16) (X 16), wXS cO (Q 17) (Q 18 0) (Q 19 0), wC cI (Q 18) (X 18), wC cI (Q 19) (X 19), wXF cZ (Q 20) (X 20), wA (Q 21) (X 21), wP (Q 22) (X 22), wO cB (Q 23) (X 23), wM cI cB cZ q w2.2] ⟨hx, hb, hml, hown, hts⟩ (mX9_resolvablePairs l D cI cB cZ cO q _ fu z hcw2) (cwV 0 hts gL_law_X9_resolvablePairs rfl rfl rfl (by decide +kernel) ⟨Nat.le_of_ble_eq_true rfl, Nat.le_of_ble_eq_true rfl⟩) (hK.sub [0, 1, 2, 3] rfl) hP hD hS hA [25] [0, 1, 2, 3, 4, 5, 6, 7, 8, 9, 10, 11, 12, 13, 14, 15, 16, 17, 18, 19, 20, 21, 22, 23, 24] 26 rfl (by decide +kernel) rfl rfl [wL cJ a o, wXO Q, wC cI (Q 1) (X 1), wC cI (Q 2) (X 2), wS (Q 3) (Q 4 0) (Q 5 0) (Q 6 0) (Q 7 0) (X 3), wT cB (Q 4) (X 4), wC cI (Q 5) (X 5), wA (Q 6) (X 6), wP (Q 7) (X 7), wH cO (Q 8) (Q 9 0) (Q 10 0) (Q 11 0) (Q 12 0) (Q 13 0) (Q 14 0) (Q 15 0) (Q 16 0) (X 8), wC cI (Q 9) (X 9), wC cI (Q 10) (X 10), wC cI (Q 11) (X 11), wC cI (Q 12) (X 12), wC cI (Q 13) (X 13), wC cI (Q 14) (X 14), wC cI (Q 15) (X 15), wC cI (Q 16) (X 16), wXS cO (Q 17) (Q 18 0) (Q 19 0), wC cI (Q 18) (X 18), wC cI (Q 19) (X 19), wXF cZ (Q 20) (X 20), wA (Q 21) (X 21), wP (Q 22) (X 22), wO cB (Q 23) (X 23)] rfl rfl rfl (va_recv hK hP (ci := 8) (q0 := 106) rfl rfl) rfl hl.1 rfl (Nat.le_of_ble_eq_true rfl) dL_law_1655 ⟨by show _ ≤ 601024; omega, by show _ ≤ 7293034; omega⟩ (fun H locs hP hD hS => ?_)
  refine lv_icmp_eq (tgt := 2902) hx hb dL_law_1658 (by decide) (fun c3 => ?_) (fun c3 => ?_)
  · have hf := ip c3 hf
    cases hf
    refine W.widen (k := cells + 8) (n := slots + 48) (by omega) (by omega) ?_
    exact kk _ _ _ hP hD hS (lv_sub hl [0, 1, 2, 3, 4] rfl)
  · have hf := iq c3 hf
    exact no_ob hf
set_option maxRecDepth 100000 in
set_option maxHeartbeats 4000000 in
theorem wL_32 {p : Program} {l : Launch} {e : Env} {s : State} {m : MethodId} {args : Array Value} {below : List Frame} {meth : Method} {c : Code} {H : Heap} {locs : List Loc} {cells slots : Nat} {Qf : State → Prop} {ls : Array Slot} {D : va_G} {cI cB cZ cO cJ : ClassId} {aK aV mK : Nat → Nat} {Q : Nat → Nat → Nat} {q : Nat → Nat} {a b L fu : Nat} {xs : Nat → Int32} {A : Nat → Prop} {X X1 : Nat → OS} {z z1 : OS} {o o1 : Nat → Int64} {i a1 a2 a3 a4 a5 : Int32} (hst : l.stackTraces = false) (hx : p.tables.exec = Jvm.exec) (hb : c.code = cL_law) (hml : c.maxLocals = 9) (hown : s.vm.findClass RL = some m.cls) (hts : ∀ w ∈ lw_tbl, w.before args s = true) (hK : va_K D vwCl (gL cI cB cZ cO cJ) s) (hA : ∀ q : Nat, s.heap.size ≤ q → A q) (hX : va_X b L xs s s.heap) (hbl : b < s.heap.size) (hbA : ¬ A b) (hE : EW aK aV mK A s s.heap) (hS : va_S A s.heap H locs) (hl : lv_has ls 9 [(0, .ref b), (1, .ref (Q 0 0)), (2, .ref (q 0)), (3, .ref a), (4, .int i)]) (n1 : vp_in (i + 1) L) (n2 : vp_in (i + 2) L) (n3 : vp_in (i + 3) L) (n4 : vp_in (i + 4) L) (n5 : vp_in (i + 5) L) (e1 : xs (i + 1).toNatClampNeg = a1) (e2 : xs (i + 2).toNatClampNeg = a2) (e3 : xs (i + 3).toNatClampNeg = a3) (e4 : xs (i + 4).toNatClampNeg = a4) (e5 : xs (i + 5).toNatClampNeg = a5) (hcl : cells + 8 ≤ 601024) (hsl : slots + 48 ≤ 7293034) (kk : ∀ (H1 : Heap) (locs1 : List Loc) (ls1 : Array Slot), va_P D vwCl (fl (lawW cI cB cZ cO cJ Q q a X1 z1 o1)) H1 → va_D A (fl (lawW cI cB cZ cO cJ Q q a X1 z1 o1)) → va_S A s.heap H1 locs1 → lv_has ls1 9 [(0, .ref b), (1, .ref (Q 0 0)), (2, .ref (q 0)), (3, .ref a), (4, .int i)] → W p l e room_1 s m args below meth c H1 locs1 (cells + 8) (slots + 48) Qf (F0 m 2902 ls1 [])) (hP : va_P D vwCl (fl (lawW cI cB cZ cO cJ Q q a X z o)) H) (hD : va_D A (fl (lawW cI cB cZ cO cJ Q q a X z o))) (hf : cL_32 fu a1 a2 a3 a4 a5 X z o = some (X1, z1, o1)) : W p l e room_1 s m args below meth c H locs cells slots Qf (F0 m 1663 ls []) := by
  unfold cL_32 at hf
  refine lv_aload_n hx hb dL_law_1663 rfl (lv_at hl 1 rfl) ?_
  refine lv_aload_n hx hb dL_law_1664 rfl (lv_at hl 0 rfl) ?_
  refine lv_iload hx hb dL_law_1665 (lv_at hl 4 rfl) ?_
  refine lv_iconst (v := 1) hx hb dL_law_1667 (by decide) ?_
  refine lv_iadd hx hb dL_law_1668 ?_
  refine va_sldE hx hb hX hbl hbA hS n1 e1 dL_law_1669 ?_
  refine lv_aload_n hx hb dL_law_1670 rfl (lv_at hl 0 rfl) ?_
  refine lv_iload hx hb dL_law_1671 (lv_at hl 4 rfl) ?_
  refine lv_iconst (v := 2) hx hb dL_law_1673 (by decide) ?_
  refine lv_iadd hx hb dL_law_1674 ?_
  refine va_sldE hx hb hX hbl hbA hS n2 e2 dL_law_1675 ?_
  refine lv_aload_n hx hb dL_law_1676 rfl (lv_at hl 3 rfl) ?_
  obtain ⟨w1, hcw1, hf⟩ := bd_ob hf
  refine wrSWb (As := [.ref (Q 0 0), .int a1, .int a2, .ref a]) (rest := []) [wL cJ a w1.2, wXO Q, wC cI (Q 1) (X 1), wC cI (Q 2) (X 2), wS (Q 3) (Q 4 0) (Q 5 0) (Q 6 0) (Q 7 0) (X 3), wT cB (Q 4) (X 4), wC cI (Q 5) (X 5), wA (Q 6) (X 6), wP (Q 7) (X 7), wH cO (Q 8) (Q 9 0) (Q 10 0) (Q 11 0) (Q 12 0) (Q 13 0) (Q 14 0) (Q 15 0) (Q 16 0) (X 8), wC cI (Q 9) (X 9), wC cI (Q 10) (X 10), wC cI (Q 11) (X 11), wC cI (Q 12) (X 12), wC cI (Q 13) (X 13), wC cI (Q 14) (X 14), wC cI (Q 15) (X 15), wC cI (Q 16) (X 16), wXS cO (Q 17) (Q 18 0) (Q 19 0), wC cI (Q 18) (X 18), wC cI (Q 19) (X 19), wXF cZ (Q 20) (X 20), wA (Q 21) (X 21), wP (Q 22) (X 22), wO cB (Q 23) (X 23), wM cI cB cZ q z] ⟨hx, hb, hml, hown, hts⟩ (mL_subsumes l D cI cB cZ cO cJ aK aV mK hst Q a _ fu o (X 0) (X 1) (X 2) (X 3) (X 4) (X 5) (X 6) (X 7) (X 8) (X 9) (X 10) (X 11) (X 12) (X 13) (X 14) (X 15) (X 16) (X 17) (X 18) (X 19) (X 20) (X 21) (X 22) (X 23) a1 a2 hcw1) (vx_cwSW 4 hts gL_law_L_subsumes rfl rfl rfl (by decide +kernel) ⟨Nat.le_of_ble_eq_true rfl, Nat.le_of_ble_eq_true rfl⟩) (EW_ok aK aV mK) ((EW_ok aK aV mK).2.2.1 _ _ _ _ hS.2.1 hE) hK hP hD hS hA [0, 1, 2, 3, 4, 5, 6, 7, 8, 9, 10, 11, 12, 13, 14, 15, 16, 17, 18, 19, 20, 21, 22, 23, 24] [25] 26 rfl (by decide +kernel) rfl rfl [wM cI cB cZ q z] rfl rfl rfl rfl hl.1 rfl (Nat.le_of_ble_eq_true rfl) dL_law_1677 ⟨by show _ ≤ 601024; omega, by show _ ≤ 7293034; omega⟩ (fun H locs hP hD hS => ?_)
  refine lv_istore (lv' := [(5, .int w1.1), (0, .ref b), (1, .ref (Q 0 0)), (2, .ref (q 0)), (3, .ref a), (4, .int i)]) hx hb dL_law_1680 hl (by decide) rfl (fun ls hl => ?_)
  refine lv_aload_n hx hb dL_law_1682 rfl (lv_at hl 3 rfl) ?_
  refine lv_aload_n hx hb dL_law_1683 rfl (lv_at hl 1 rfl) ?_
  refine lv_iload hx hb dL_law_1684 (lv_at hl 5 rfl) ?_
  refine lv_iconst (v := 1) hx hb dL_law_1686 (by decide) ?_
  refine lv_iadd hx hb dL_law_1687 ?_
  refine va_sldE hx hb hX hbl hbA hS n1 e1 dL_law_1688 ?_
  refine lv_aload_n hx hb dL_law_1689 rfl (lv_at hl 1 rfl) ?_
  refine lv_iload hx hb dL_law_1690 (lv_at hl 5 rfl) ?_
  refine lv_iconst (v := 2) hx hb dL_law_1692 (by decide) ?_
  refine lv_iadd hx hb dL_law_1693 ?_
  refine va_sldE hx hb hX hbl hbA hS n2 e2 dL_law_1694 ?_
  obtain ⟨w2, hcw2, hf⟩ := bd_ob hf
  refine wrVb (As := [.int a1, .int a2]) (rest := []) [wL cJ a w1.2, wXO Q, wC cI (Q 1) (X 1), wC cI (Q 2) (X 2), wS (Q 3) (Q 4 0) (Q 5 0) (Q 6 0) (Q 7 0) (X 3), wT cB (Q 4) (X 4), wC cI (Q 5) (X 5), wA (Q 6) (X 6), wP (Q 7) (X 7), wH cO (Q 8) (Q 9 0) (Q 10 0) (Q 11 0) (Q 12 0) (Q 13 0) (Q 14 0) (Q 15 0) (Q 16 0) (X 8), wC cI (Q 9) (X 9), wC cI (Q 10) (X 10), wC cI (Q 11) (X 11), wC cI (Q 12) (X 12), wC cI (Q 13) (X 13), wC cI (Q 14) (X 14), wC cI (Q 15) (X 15), wC cI (Q 16) (X 16), wXS cO (Q 17) (Q 18 0) (Q 19 0), wC cI (Q 18) (X 18), wC cI (Q 19) (X 19), wXF cZ (Q 20) (X 20), wA (Q 21) (X 21), wP (Q 22) (X 22), wO cB (Q 23) (X 23), wM cI cB cZ q w2.2] ⟨hx, hb, hml, hown, hts⟩ (mX9_subsumes l D cI cB cZ cO q _ fu z a1 a2 hcw2) (cwV 2 hts gL_law_X9_subsumes rfl rfl rfl (by decide +kernel) ⟨Nat.le_of_ble_eq_true rfl, Nat.le_of_ble_eq_true rfl⟩) (hK.sub [0, 1, 2, 3] rfl) hP hD hS hA [25] [0, 1, 2, 3, 4, 5, 6, 7, 8, 9, 10, 11, 12, 13, 14, 15, 16, 17, 18, 19, 20, 21, 22, 23, 24] 26 rfl (by decide +kernel) rfl rfl [wL cJ a w1.2, wXO Q, wC cI (Q 1) (X 1), wC cI (Q 2) (X 2), wS (Q 3) (Q 4 0) (Q 5 0) (Q 6 0) (Q 7 0) (X 3), wT cB (Q 4) (X 4), wC cI (Q 5) (X 5), wA (Q 6) (X 6), wP (Q 7) (X 7), wH cO (Q 8) (Q 9 0) (Q 10 0) (Q 11 0) (Q 12 0) (Q 13 0) (Q 14 0) (Q 15 0) (Q 16 0) (X 8), wC cI (Q 9) (X 9), wC cI (Q 10) (X 10), wC cI (Q 11) (X 11), wC cI (Q 12) (X 12), wC cI (Q 13) (X 13), wC cI (Q 14) (X 14), wC cI (Q 15) (X 15), wC cI (Q 16) (X 16), wXS cO (Q 17) (Q 18 0) (Q 19 0), wC cI (Q 18) (X 18), wC cI (Q 19) (X 19), wXF cZ (Q 20) (X 20), wA (Q 21) (X 21), wP (Q 22) (X 22), wO cB (Q 23) (X 23)] rfl rfl rfl (va_recv hK hP (ci := 8) (q0 := 106) rfl rfl) rfl hl.1 rfl (Nat.le_of_ble_eq_true rfl) dL_law_1695 ⟨by show _ ≤ 601024; omega, by show _ ≤ 7293034; omega⟩ (fun H locs hP hD hS => ?_)
  refine lv_istore (lv' := [(6, .int w2.1), (5, .int w1.1), (0, .ref b), (1, .ref (Q 0 0)), (2, .ref (q 0)), (3, .ref a), (4, .int i)]) hx hb dL_law_1698 hl (by decide) rfl (fun ls hl => ?_)
  refine lv_aload_n hx hb dL_law_1700 rfl (lv_at hl 4 rfl) ?_
  obtain ⟨w3, hcw3, hf⟩ := bd_ob hf
  refine rdV (As := []) (rest := []) ⟨hx, hb, hml, hown, hts⟩ (mX9_thrown l D cI cB cZ cO q fu w2.2 hcw3) (cwV 0 hts gL_law_X9_thrown rfl rfl rfl (by decide +kernel) ⟨Nat.le_of_ble_eq_true rfl, Nat.le_of_ble_eq_true rfl⟩) (hK.sub [0, 1, 2, 3] rfl) (hP.subb [25] rfl) (va_recv hK hP (ci := 8) (q0 := 106) rfl rfl) rfl hl.1 rfl (Nat.le_of_ble_eq_true rfl) dL_law_1701 ⟨by show _ ≤ 601024; omega, by show _ ≤ 7293034; omega⟩ ?_
  refine lv_iload hx hb dL_law_1704 (lv_at hl 1 rfl) ?_
  refine lv_icmp_eq (tgt := 1711) hx hb dL_law_1706 (by decide) (fun c8 => ?_) (fun c8 => ?_)
  · have hf := ip c8 hf
    refine lv_iload hx hb dL_law_1711 (lv_at hl 1 rfl) ?_
    refine lv_if_ne (tgt := 1735) hx hb dL_law_1713 (by decide) (fun c7 => ?_) (fun c7 => ?_)
    · have hf := iq c7 hf
      refine lv_goto (tgt := 2902) hx hb dL_law_1735 (by decide) ?_
      cases hf
      refine W.widen (k := cells + 8) (n := slots + 48) (by omega) (by omega) ?_
      exact kk _ _ _ hP hD hS (lv_sub hl [2, 3, 4, 5, 6] rfl)
    · have hf := ip c7 hf
      refine lv_aload_n hx hb dL_law_1716 rfl (lv_at hl 5 rfl) ?_
      refine lv_iconst (v := 0) hx hb dL_law_1717 (by decide) ?_
      refine va_lald hx hb hK hP 0 4 rfl rfl (inB_in (by decide)) dL_law_1718 ?_
      refine lv_iload hx hb dL_law_1719 (lv_at hl 0 rfl) ?_
      refine lv_if_eq (tgt := 1728) hx hb dL_law_1721 (by decide) (fun c6 => ?_) (fun c6 => ?_)
      · have hf := ip c6 hf
        refine lv_lconst (v := 0) hx hb dL_law_1728 (by decide) ?_
        refine W.lcmp hx hb dL_law_1729 ?_
        refine lv_if_eq (tgt := 1735) hx hb dL_law_1730 (by decide) (fun c4 => ?_) (fun c4 => ?_)
        · have hf := ip c4 hf
          refine lv_goto (tgt := 2902) hx hb dL_law_1735 (by decide) ?_
          cases hf
          refine W.widen (k := cells + 8) (n := slots + 48) (by omega) (by omega) ?_
          exact kk _ _ _ hP hD hS (lv_sub hl [2, 3, 4, 5, 6] rfl)
        · have hf := iq c4 hf
          exact no_ob hf
      · have hf := iq c6 hf
        refine lv_lconst (v := 1) hx hb dL_law_1724 (by decide) ?_
        refine lv_goto (tgt := 1729) hx hb dL_law_1725 (by decide) ?_
        refine W.lcmp hx hb dL_law_1729 ?_
        refine lv_if_eq (tgt := 1735) hx hb dL_law_1730 (by decide) (fun c5 => ?_) (fun c5 => ?_)
        · have hf := ip c5 hf
          refine lv_goto (tgt := 2902) hx hb dL_law_1735 (by decide) ?_
          cases hf
          refine W.widen (k := cells + 8) (n := slots + 48) (by omega) (by omega) ?_
          exact kk _ _ _ hP hD hS (lv_sub hl [2, 3, 4, 5, 6] rfl)
        · have hf := iq c5 hf
          exact no_ob hf
  · have hf := iq c8 hf
    exact no_ob hf
set_option maxRecDepth 100000 in
set_option maxHeartbeats 4000000 in
theorem wL_33 {p : Program} {l : Launch} {e : Env} {s : State} {m : MethodId} {args : Array Value} {below : List Frame} {meth : Method} {c : Code} {H : Heap} {locs : List Loc} {cells slots : Nat} {Qf : State → Prop} {ls : Array Slot} {D : va_G} {cI cB cZ cO cJ : ClassId} {aK aV mK : Nat → Nat} {Q : Nat → Nat → Nat} {q : Nat → Nat} {a b L fu : Nat} {xs : Nat → Int32} {A : Nat → Prop} {X X1 : Nat → OS} {z z1 : OS} {o o1 : Nat → Int64} {i a1 a2 a3 a4 a5 : Int32} (hst : l.stackTraces = false) (hx : p.tables.exec = Jvm.exec) (hb : c.code = cL_law) (hml : c.maxLocals = 9) (hown : s.vm.findClass RL = some m.cls) (hts : ∀ w ∈ lw_tbl, w.before args s = true) (hK : va_K D vwCl (gL cI cB cZ cO cJ) s) (hA : ∀ q : Nat, s.heap.size ≤ q → A q) (hX : va_X b L xs s s.heap) (hbl : b < s.heap.size) (hbA : ¬ A b) (hE : EW aK aV mK A s s.heap) (hS : va_S A s.heap H locs) (hl : lv_has ls 9 [(0, .ref b), (1, .ref (Q 0 0)), (2, .ref (q 0)), (3, .ref a), (4, .int i)]) (n1 : vp_in (i + 1) L) (n2 : vp_in (i + 2) L) (n3 : vp_in (i + 3) L) (n4 : vp_in (i + 4) L) (n5 : vp_in (i + 5) L) (e1 : xs (i + 1).toNatClampNeg = a1) (e2 : xs (i + 2).toNatClampNeg = a2) (e3 : xs (i + 3).toNatClampNeg = a3) (e4 : xs (i + 4).toNatClampNeg = a4) (e5 : xs (i + 5).toNatClampNeg = a5) (hcl : cells + 8 ≤ 601024) (hsl : slots + 48 ≤ 7293034) (kk : ∀ (H1 : Heap) (locs1 : List Loc) (ls1 : Array Slot), va_P D vwCl (fl (lawW cI cB cZ cO cJ Q q a X1 z1 o1)) H1 → va_D A (fl (lawW cI cB cZ cO cJ Q q a X1 z1 o1)) → va_S A s.heap H1 locs1 → lv_has ls1 9 [(0, .ref b), (1, .ref (Q 0 0)), (2, .ref (q 0)), (3, .ref a), (4, .int i)] → W p l e room_1 s m args below meth c H1 locs1 (cells + 8) (slots + 48) Qf (F0 m 2902 ls1 [])) (hP : va_P D vwCl (fl (lawW cI cB cZ cO cJ Q q a X z o)) H) (hD : va_D A (fl (lawW cI cB cZ cO cJ Q q a X z o))) (hf : cL_33 fu a1 a2 a3 a4 a5 X z o = some (X1, z1, o1)) : W p l e room_1 s m args below meth c H locs cells slots Qf (F0 m 1738 ls []) := by
  unfold cL_33 at hf
  refine lv_aload_n hx hb dL_law_1738 rfl (lv_at hl 1 rfl) ?_
  refine lv_aload_n hx hb dL_law_1739 rfl (lv_at hl 0 rfl) ?_
  refine lv_iload hx hb dL_law_1740 (lv_at hl 4 rfl) ?_
  refine lv_iconst (v := 1) hx hb dL_law_1742 (by decide) ?_
  refine lv_iadd hx hb dL_law_1743 ?_
  refine va_sldE hx hb hX hbl hbA hS n1 e1 dL_law_1744 ?_
  refine lv_aload_n hx hb dL_law_1745 rfl (lv_at hl 3 rfl) ?_
  obtain ⟨w1, hcw1, hf⟩ := bd_ob hf
  refine wrSWb (As := [.ref (Q 0 0), .int a1, .ref a]) (rest := []) [wL cJ a w1.2, wXO Q, wC cI (Q 1) (X 1), wC cI (Q 2) (X 2), wS (Q 3) (Q 4 0) (Q 5 0) (Q 6 0) (Q 7 0) (X 3), wT cB (Q 4) (X 4), wC cI (Q 5) (X 5), wA (Q 6) (X 6), wP (Q 7) (X 7), wH cO (Q 8) (Q 9 0) (Q 10 0) (Q 11 0) (Q 12 0) (Q 13 0) (Q 14 0) (Q 15 0) (Q 16 0) (X 8), wC cI (Q 9) (X 9), wC cI (Q 10) (X 10), wC cI (Q 11) (X 11), wC cI (Q 12) (X 12), wC cI (Q 13) (X 13), wC cI (Q 14) (X 14), wC cI (Q 15) (X 15), wC cI (Q 16) (X 16), wXS cO (Q 17) (Q 18 0) (Q 19 0), wC cI (Q 18) (X 18), wC cI (Q 19) (X 19), wXF cZ (Q 20) (X 20), wA (Q 21) (X 21), wP (Q 22) (X 22), wO cB (Q 23) (X 23), wM cI cB cZ q z] ⟨hx, hb, hml, hown, hts⟩ (mL_subsumerOf l D cI cB cZ cO cJ aK aV mK hst Q a _ fu o (X 0) (X 1) (X 2) (X 3) (X 4) (X 5) (X 6) (X 7) (X 8) (X 9) (X 10) (X 11) (X 12) (X 13) (X 14) (X 15) (X 16) (X 17) (X 18) (X 19) (X 20) (X 21) (X 22) (X 23) a1 hcw1) (vx_cwSW 3 hts gL_law_L_subsumerOf rfl rfl rfl (by decide +kernel) ⟨Nat.le_of_ble_eq_true rfl, Nat.le_of_ble_eq_true rfl⟩) (EW_ok aK aV mK) ((EW_ok aK aV mK).2.2.1 _ _ _ _ hS.2.1 hE) hK hP hD hS hA [0, 1, 2, 3, 4, 5, 6, 7, 8, 9, 10, 11, 12, 13, 14, 15, 16, 17, 18, 19, 20, 21, 22, 23, 24] [25] 26 rfl (by decide +kernel) rfl rfl [wM cI cB cZ q z] rfl rfl rfl rfl hl.1 rfl (Nat.le_of_ble_eq_true rfl) dL_law_1746 ⟨by show _ ≤ 601024; omega, by show _ ≤ 7293034; omega⟩ (fun H locs hP hD hS => ?_)
  refine lv_istore (lv' := [(5, .int w1.1), (0, .ref b), (1, .ref (Q 0 0)), (2, .ref (q 0)), (3, .ref a), (4, .int i)]) hx hb dL_law_1749 hl (by decide) rfl (fun ls hl => ?_)
  refine lv_aload_n hx hb dL_law_1751 rfl (lv_at hl 3 rfl) ?_
  refine lv_aload_n hx hb dL_law_1752 rfl (lv_at hl 1 rfl) ?_
  refine lv_iload hx hb dL_law_1753 (lv_at hl 5 rfl) ?_
  refine lv_iconst (v := 1) hx hb dL_law_1755 (by decide) ?_
  refine lv_iadd hx hb dL_law_1756 ?_
  refine va_sldE hx hb hX hbl hbA hS n1 e1 dL_law_1757 ?_
  obtain ⟨w2, hcw2, hf⟩ := bd_ob hf
  refine wrVb (As := [.int a1]) (rest := []) [wL cJ a w1.2, wXO Q, wC cI (Q 1) (X 1), wC cI (Q 2) (X 2), wS (Q 3) (Q 4 0) (Q 5 0) (Q 6 0) (Q 7 0) (X 3), wT cB (Q 4) (X 4), wC cI (Q 5) (X 5), wA (Q 6) (X 6), wP (Q 7) (X 7), wH cO (Q 8) (Q 9 0) (Q 10 0) (Q 11 0) (Q 12 0) (Q 13 0) (Q 14 0) (Q 15 0) (Q 16 0) (X 8), wC cI (Q 9) (X 9), wC cI (Q 10) (X 10), wC cI (Q 11) (X 11), wC cI (Q 12) (X 12), wC cI (Q 13) (X 13), wC cI (Q 14) (X 14), wC cI (Q 15) (X 15), wC cI (Q 16) (X 16), wXS cO (Q 17) (Q 18 0) (Q 19 0), wC cI (Q 18) (X 18), wC cI (Q 19) (X 19), wXF cZ (Q 20) (X 20), wA (Q 21) (X 21), wP (Q 22) (X 22), wO cB (Q 23) (X 23), wM cI cB cZ q w2.2] ⟨hx, hb, hml, hown, hts⟩ (mX9_subsumerOf l D cI cB cZ cO q _ fu z a1 hcw2) (cwV 1 hts gL_law_X9_subsumerOf rfl rfl rfl (by decide +kernel) ⟨Nat.le_of_ble_eq_true rfl, Nat.le_of_ble_eq_true rfl⟩) (hK.sub [0, 1, 2, 3] rfl) hP hD hS hA [25] [0, 1, 2, 3, 4, 5, 6, 7, 8, 9, 10, 11, 12, 13, 14, 15, 16, 17, 18, 19, 20, 21, 22, 23, 24] 26 rfl (by decide +kernel) rfl rfl [wL cJ a w1.2, wXO Q, wC cI (Q 1) (X 1), wC cI (Q 2) (X 2), wS (Q 3) (Q 4 0) (Q 5 0) (Q 6 0) (Q 7 0) (X 3), wT cB (Q 4) (X 4), wC cI (Q 5) (X 5), wA (Q 6) (X 6), wP (Q 7) (X 7), wH cO (Q 8) (Q 9 0) (Q 10 0) (Q 11 0) (Q 12 0) (Q 13 0) (Q 14 0) (Q 15 0) (Q 16 0) (X 8), wC cI (Q 9) (X 9), wC cI (Q 10) (X 10), wC cI (Q 11) (X 11), wC cI (Q 12) (X 12), wC cI (Q 13) (X 13), wC cI (Q 14) (X 14), wC cI (Q 15) (X 15), wC cI (Q 16) (X 16), wXS cO (Q 17) (Q 18 0) (Q 19 0), wC cI (Q 18) (X 18), wC cI (Q 19) (X 19), wXF cZ (Q 20) (X 20), wA (Q 21) (X 21), wP (Q 22) (X 22), wO cB (Q 23) (X 23)] rfl rfl rfl (va_recv hK hP (ci := 8) (q0 := 106) rfl rfl) rfl hl.1 rfl (Nat.le_of_ble_eq_true rfl) dL_law_1758 ⟨by show _ ≤ 601024; omega, by show _ ≤ 7293034; omega⟩ (fun H locs hP hD hS => ?_)
  refine lv_istore (lv' := [(6, .int w2.1), (5, .int w1.1), (0, .ref b), (1, .ref (Q 0 0)), (2, .ref (q 0)), (3, .ref a), (4, .int i)]) hx hb dL_law_1761 hl (by decide) rfl (fun ls hl => ?_)
  refine lv_aload_n hx hb dL_law_1763 rfl (lv_at hl 4 rfl) ?_
  obtain ⟨w3, hcw3, hf⟩ := bd_ob hf
  refine rdV (As := []) (rest := []) ⟨hx, hb, hml, hown, hts⟩ (mX9_thrown l D cI cB cZ cO q fu w2.2 hcw3) (cwV 0 hts gL_law_X9_thrown rfl rfl rfl (by decide +kernel) ⟨Nat.le_of_ble_eq_true rfl, Nat.le_of_ble_eq_true rfl⟩) (hK.sub [0, 1, 2, 3] rfl) (hP.subb [25] rfl) (va_recv hK hP (ci := 8) (q0 := 106) rfl rfl) rfl hl.1 rfl (Nat.le_of_ble_eq_true rfl) dL_law_1764 ⟨by show _ ≤ 601024; omega, by show _ ≤ 7293034; omega⟩ ?_
  refine lv_iload hx hb dL_law_1767 (lv_at hl 1 rfl) ?_
  refine lv_icmp_eq (tgt := 1774) hx hb dL_law_1769 (by decide) (fun c6 => ?_) (fun c6 => ?_)
  · have hf := ip c6 hf
    refine lv_iload hx hb dL_law_1774 (lv_at hl 1 rfl) ?_
    refine lv_if_ne (tgt := 1791) hx hb dL_law_1776 (by decide) (fun c5 => ?_) (fun c5 => ?_)
    · have hf := iq c5 hf
      refine lv_goto (tgt := 2902) hx hb dL_law_1791 (by decide) ?_
      cases hf
      refine W.widen (k := cells + 8) (n := slots + 48) (by omega) (by omega) ?_
      exact kk _ _ _ hP hD hS (lv_sub hl [2, 3, 4, 5, 6] rfl)
    · have hf := ip c5 hf
      refine lv_aload_n hx hb dL_law_1779 rfl (lv_at hl 5 rfl) ?_
      refine lv_iconst (v := 0) hx hb dL_law_1780 (by decide) ?_
      refine va_lald hx hb hK hP 0 4 rfl rfl (inB_in (by decide)) dL_law_1781 ?_
      refine lv_iload hx hb dL_law_1782 (lv_at hl 0 rfl) ?_
      refine lv_i2l hx hb dL_law_1784 rfl ?_
      refine W.lcmp hx hb dL_law_1785 ?_
      refine lv_if_eq (tgt := 1791) hx hb dL_law_1786 (by decide) (fun c4 => ?_) (fun c4 => ?_)
      · have hf := ip c4 hf
        refine lv_goto (tgt := 2902) hx hb dL_law_1791 (by decide) ?_
        cases hf
        refine W.widen (k := cells + 8) (n := slots + 48) (by omega) (by omega) ?_
        exact kk _ _ _ hP hD hS (lv_sub hl [2, 3, 4, 5, 6] rfl)
      · have hf := iq c4 hf
        exact no_ob hf
  · have hf := iq c6 hf
    exact no_ob hf
set_option maxRecDepth 100000 in
set_option maxHeartbeats 4000000 in
theorem wL_34 {p : Program} {l : Launch} {e : Env} {s : State} {m : MethodId} {args : Array Value} {below : List Frame} {meth : Method} {c : Code} {H : Heap} {locs : List Loc} {cells slots : Nat} {Qf : State → Prop} {ls : Array Slot} {D : va_G} {cI cB cZ cO cJ : ClassId} {aK aV mK : Nat → Nat} {Q : Nat → Nat → Nat} {q : Nat → Nat} {a b L fu : Nat} {xs : Nat → Int32} {A : Nat → Prop} {X X1 : Nat → OS} {z z1 : OS} {o o1 : Nat → Int64} {i a1 a2 a3 a4 a5 : Int32} (hst : l.stackTraces = false) (hx : p.tables.exec = Jvm.exec) (hb : c.code = cL_law) (hml : c.maxLocals = 9) (hown : s.vm.findClass RL = some m.cls) (hts : ∀ w ∈ lw_tbl, w.before args s = true) (hK : va_K D vwCl (gL cI cB cZ cO cJ) s) (hA : ∀ q : Nat, s.heap.size ≤ q → A q) (hX : va_X b L xs s s.heap) (hbl : b < s.heap.size) (hbA : ¬ A b) (hE : EW aK aV mK A s s.heap) (hS : va_S A s.heap H locs) (hl : lv_has ls 9 [(0, .ref b), (1, .ref (Q 0 0)), (2, .ref (q 0)), (3, .ref a), (4, .int i)]) (n1 : vp_in (i + 1) L) (n2 : vp_in (i + 2) L) (n3 : vp_in (i + 3) L) (n4 : vp_in (i + 4) L) (n5 : vp_in (i + 5) L) (e1 : xs (i + 1).toNatClampNeg = a1) (e2 : xs (i + 2).toNatClampNeg = a2) (e3 : xs (i + 3).toNatClampNeg = a3) (e4 : xs (i + 4).toNatClampNeg = a4) (e5 : xs (i + 5).toNatClampNeg = a5) (hcl : cells + 8 ≤ 601024) (hsl : slots + 48 ≤ 7293034) (kk : ∀ (H1 : Heap) (locs1 : List Loc) (ls1 : Array Slot), va_P D vwCl (fl (lawW cI cB cZ cO cJ Q q a X1 z1 o1)) H1 → va_D A (fl (lawW cI cB cZ cO cJ Q q a X1 z1 o1)) → va_S A s.heap H1 locs1 → lv_has ls1 9 [(0, .ref b), (1, .ref (Q 0 0)), (2, .ref (q 0)), (3, .ref a), (4, .int i)] → W p l e room_1 s m args below meth c H1 locs1 (cells + 8) (slots + 48) Qf (F0 m 2902 ls1 [])) (hP : va_P D vwCl (fl (lawW cI cB cZ cO cJ Q q a X z o)) H) (hD : va_D A (fl (lawW cI cB cZ cO cJ Q q a X z o))) (hf : cL_34 fu a1 a2 a3 a4 a5 X z o = some (X1, z1, o1)) : W p l e room_1 s m args below meth c H locs cells slots Qf (F0 m 1794 ls []) := by
  unfold cL_34 at hf
  refine lv_aload_n hx hb dL_law_1794 rfl (lv_at hl 1 rfl) ?_
  obtain ⟨w1, hcw1, hf⟩ := bd_ob hf
  refine rdV (As := []) (rest := []) ⟨hx, hb, hml, hown, hts⟩ (mX8_subsumedClauses l D cI cB cZ cO Q fu (X 0) (X 1) (X 2) (X 3) (X 4) (X 5) (X 6) (X 7) (X 8) (X 9) (X 10) (X 11) (X 12) (X 13) (X 14) (X 15) (X 16) (X 17) (X 18) (X 19) (X 20) (X 21) (X 22) (X 23) hcw1) (cwV 0 hts gL_law_X8_subsumedClauses rfl rfl rfl (by decide +kernel) ⟨Nat.le_of_ble_eq_true rfl, Nat.le_of_ble_eq_true rfl⟩) (hK.sub [0, 1, 2, 3] rfl) (hP.subb [1, 2, 3, 4, 5, 6, 7, 8, 9, 10, 11, 12, 13, 14, 15, 16, 17, 18, 19, 20, 21, 22, 23, 24] rfl) (va_recv hK hP (ci := 7) (q0 := 1) rfl rfl) rfl hl.1 rfl (Nat.le_of_ble_eq_true rfl) dL_law_1795 ⟨by show _ ≤ 601024; omega, by show _ ≤ 7293034; omega⟩ ?_
  refine lv_aload_n hx hb dL_law_1798 rfl (lv_at hl 2 rfl) ?_
  obtain ⟨w2, hcw2, hf⟩ := bd_ob hf
  refine wrVb (As := []) (rest := [.int w1]) [wL cJ a o, wXO Q, wC cI (Q 1) (X 1), wC cI (Q 2) (X 2), wS (Q 3) (Q 4 0) (Q 5 0) (Q 6 0) (Q 7 0) (X 3), wT cB (Q 4) (X 4), wC cI (Q 5) (X 5), wA (Q 6) (X 6), wP (Q 7) (X 7), wH cO (Q 8) (Q 9 0) (Q 10 0) (Q 11 0) (Q 12 0) (Q 13 0) (Q 14 0) (Q 15 0) (Q 16 0) (X 8), wC cI (Q 9) (X 9), wC cI (Q 10) (X 10), wC cI (Q 11) (X 11), wC cI (Q 12) (X 12), wC cI (Q 13) (X 13), wC cI (Q 14) (X 14), wC cI (Q 15) (X 15), wC cI (Q 16) (X 16), wXS cO (Q 17) (Q 18 0) (Q 19 0), wC cI (Q 18) (X 18), wC cI (Q 19) (X 19), wXF cZ (Q 20) (X 20), wA (Q 21) (X 21), wP (Q 22) (X 22), wO cB (Q 23) (X 23), wM cI cB cZ q w2.2] ⟨hx, hb, hml, hown, hts⟩ (mX9_subsumedClauses l D cI cB cZ cO q _ fu z hcw2) (cwV 0 hts gL_law_X9_subsumedClauses rfl rfl rfl (by decide +kernel) ⟨Nat.le_of_ble_eq_true rfl, Nat.le_of_ble_eq_true rfl⟩) (hK.sub [0, 1, 2, 3] rfl) hP hD hS hA [25] [0, 1, 2, 3, 4, 5, 6, 7, 8, 9, 10, 11, 12, 13, 14, 15, 16, 17, 18, 19, 20, 21, 22, 23, 24] 26 rfl (by decide +kernel) rfl rfl [wL cJ a o, wXO Q, wC cI (Q 1) (X 1), wC cI (Q 2) (X 2), wS (Q 3) (Q 4 0) (Q 5 0) (Q 6 0) (Q 7 0) (X 3), wT cB (Q 4) (X 4), wC cI (Q 5) (X 5), wA (Q 6) (X 6), wP (Q 7) (X 7), wH cO (Q 8) (Q 9 0) (Q 10 0) (Q 11 0) (Q 12 0) (Q 13 0) (Q 14 0) (Q 15 0) (Q 16 0) (X 8), wC cI (Q 9) (X 9), wC cI (Q 10) (X 10), wC cI (Q 11) (X 11), wC cI (Q 12) (X 12), wC cI (Q 13) (X 13), wC cI (Q 14) (X 14), wC cI (Q 15) (X 15), wC cI (Q 16) (X 16), wXS cO (Q 17) (Q 18 0) (Q 19 0), wC cI (Q 18) (X 18), wC cI (Q 19) (X 19), wXF cZ (Q 20) (X 20), wA (Q 21) (X 21), wP (Q 22) (X 22), wO cB (Q 23) (X 23)] rfl rfl rfl (va_recv hK hP (ci := 8) (q0 := 106) rfl rfl) rfl hl.1 rfl (Nat.le_of_ble_eq_true rfl) dL_law_1799 ⟨by show _ ≤ 601024; omega, by show _ ≤ 7293034; omega⟩ (fun H locs hP hD hS => ?_)
  refine lv_icmp_eq (tgt := 2902) hx hb dL_law_1802 (by decide) (fun c3 => ?_) (fun c3 => ?_)
  · have hf := ip c3 hf
    cases hf
    refine W.widen (k := cells + 8) (n := slots + 48) (by omega) (by omega) ?_
    exact kk _ _ _ hP hD hS (lv_sub hl [0, 1, 2, 3, 4] rfl)
  · have hf := iq c3 hf
    exact no_ob hf
set_option maxRecDepth 100000 in
set_option maxHeartbeats 4000000 in
theorem wL_35 {p : Program} {l : Launch} {e : Env} {s : State} {m : MethodId} {args : Array Value} {below : List Frame} {meth : Method} {c : Code} {H : Heap} {locs : List Loc} {cells slots : Nat} {Qf : State → Prop} {ls : Array Slot} {D : va_G} {cI cB cZ cO cJ : ClassId} {aK aV mK : Nat → Nat} {Q : Nat → Nat → Nat} {q : Nat → Nat} {a b L fu : Nat} {xs : Nat → Int32} {A : Nat → Prop} {X X1 : Nat → OS} {z z1 : OS} {o o1 : Nat → Int64} {i a1 a2 a3 a4 a5 : Int32} (hst : l.stackTraces = false) (hx : p.tables.exec = Jvm.exec) (hb : c.code = cL_law) (hml : c.maxLocals = 9) (hown : s.vm.findClass RL = some m.cls) (hts : ∀ w ∈ lw_tbl, w.before args s = true) (hK : va_K D vwCl (gL cI cB cZ cO cJ) s) (hA : ∀ q : Nat, s.heap.size ≤ q → A q) (hX : va_X b L xs s s.heap) (hbl : b < s.heap.size) (hbA : ¬ A b) (hE : EW aK aV mK A s s.heap) (hS : va_S A s.heap H locs) (hl : lv_has ls 9 [(0, .ref b), (1, .ref (Q 0 0)), (2, .ref (q 0)), (3, .ref a), (4, .int i)]) (n1 : vp_in (i + 1) L) (n2 : vp_in (i + 2) L) (n3 : vp_in (i + 3) L) (n4 : vp_in (i + 4) L) (n5 : vp_in (i + 5) L) (e1 : xs (i + 1).toNatClampNeg = a1) (e2 : xs (i + 2).toNatClampNeg = a2) (e3 : xs (i + 3).toNatClampNeg = a3) (e4 : xs (i + 4).toNatClampNeg = a4) (e5 : xs (i + 5).toNatClampNeg = a5) (hcl : cells + 8 ≤ 601024) (hsl : slots + 48 ≤ 7293034) (kk : ∀ (H1 : Heap) (locs1 : List Loc) (ls1 : Array Slot), va_P D vwCl (fl (lawW cI cB cZ cO cJ Q q a X1 z1 o1)) H1 → va_D A (fl (lawW cI cB cZ cO cJ Q q a X1 z1 o1)) → va_S A s.heap H1 locs1 → lv_has ls1 9 [(0, .ref b), (1, .ref (Q 0 0)), (2, .ref (q 0)), (3, .ref a), (4, .int i)] → W p l e room_1 s m args below meth c H1 locs1 (cells + 8) (slots + 48) Qf (F0 m 2902 ls1 [])) (hP : va_P D vwCl (fl (lawW cI cB cZ cO cJ Q q a X z o)) H) (hD : va_D A (fl (lawW cI cB cZ cO cJ Q q a X z o))) (hf : cL_35 fu a1 a2 a3 a4 a5 X z o = some (X1, z1, o1)) : W p l e room_1 s m args below meth c H locs cells slots Qf (F0 m 1807 ls []) := by
  unfold cL_35 at hf
  refine lv_aload_n hx hb dL_law_1807 rfl (lv_at hl 1 rfl) ?_
  obtain ⟨w1, hcw1, hf⟩ := bd_ob hf
  refine wrVb (As := []) (rest := []) [wL cJ a o, wXO Q, wC cI (Q 1) (X 1), wC cI (Q 2) (X 2), wS (Q 3) (Q 4 0) (Q 5 0) (Q 6 0) (Q 7 0) (X 3), wT cB (Q 4) (X 4), wC cI (Q 5) (X 5), wA (Q 6) (X 6), wP (Q 7) (X 7), wH cO (Q 8) (Q 9 0) (Q 10 0) (Q 11 0) (Q 12 0) (Q 13 0) (Q 14 0) (Q 15 0) (Q 16 0) (X 8), wC cI (Q 9) (X 9), wC cI (Q 10) (X 10), wC cI (Q 11) (X 11), wC cI (Q 12) (X 12), wC cI (Q 13) (X 13), wC cI (Q 14) (X 14), wC cI (Q 15) (X 15), wC cI (Q 16) (X 16), wXS cO (Q 17) (Q 18 0) (Q 19 0), wC cI (Q 18) (X 18), wC cI (Q 19) (X 19), wXF cZ (Q 20) (X 20), wA (Q 21) w1.2, wP (Q 22) (X 22), wO cB (Q 23) (X 23), wM cI cB cZ q z] ⟨hx, hb, hml, hown, hts⟩ (mX8_nextFirst l D cI cB cZ cO Q _ fu (X 0) (X 1) (X 2) (X 3) (X 4) (X 5) (X 6) (X 7) (X 8) (X 9) (X 10) (X 11) (X 12) (X 13) (X 14) (X 15) (X 16) (X 17) (X 18) (X 19) (X 20) (X 21) (X 22) (X 23) hcw1) (cwV 0 hts gL_law_X8_nextFirst rfl rfl rfl (by decide +kernel) ⟨Nat.le_of_ble_eq_true rfl, Nat.le_of_ble_eq_true rfl⟩) (hK.sub [0, 1, 2, 3] rfl) hP hD hS hA [1, 2, 3, 4, 5, 6, 7, 8, 9, 10, 11, 12, 13, 14, 15, 16, 17, 18, 19, 20, 21, 22, 23, 24] [0, 25] 26 rfl (by decide +kernel) rfl rfl [wL cJ a o, wM cI cB cZ q z] rfl rfl rfl (va_recv hK hP (ci := 7) (q0 := 1) rfl rfl) rfl hl.1 rfl (Nat.le_of_ble_eq_true rfl) dL_law_1808 ⟨by show _ ≤ 601024; omega, by show _ ≤ 7293034; omega⟩ (fun H locs hP hD hS => ?_)
  refine lv_aload_n hx hb dL_law_1811 rfl (lv_at hl 2 rfl) ?_
  obtain ⟨w2, hcw2, hf⟩ := bd_ob hf
  refine wrVb (As := []) (rest := [.int w1.1]) [wL cJ a o, wXO Q, wC cI (Q 1) (X 1), wC cI (Q 2) (X 2), wS (Q 3) (Q 4 0) (Q 5 0) (Q 6 0) (Q 7 0) (X 3), wT cB (Q 4) (X 4), wC cI (Q 5) (X 5), wA (Q 6) (X 6), wP (Q 7) (X 7), wH cO (Q 8) (Q 9 0) (Q 10 0) (Q 11 0) (Q 12 0) (Q 13 0) (Q 14 0) (Q 15 0) (Q 16 0) (X 8), wC cI (Q 9) (X 9), wC cI (Q 10) (X 10), wC cI (Q 11) (X 11), wC cI (Q 12) (X 12), wC cI (Q 13) (X 13), wC cI (Q 14) (X 14), wC cI (Q 15) (X 15), wC cI (Q 16) (X 16), wXS cO (Q 17) (Q 18 0) (Q 19 0), wC cI (Q 18) (X 18), wC cI (Q 19) (X 19), wXF cZ (Q 20) (X 20), wA (Q 21) w1.2, wP (Q 22) (X 22), wO cB (Q 23) (X 23), wM cI cB cZ q w2.2] ⟨hx, hb, hml, hown, hts⟩ (mX9_nextFirst l D cI cB cZ cO q _ fu z hcw2) (cwV 0 hts gL_law_X9_nextFirst rfl rfl rfl (by decide +kernel) ⟨Nat.le_of_ble_eq_true rfl, Nat.le_of_ble_eq_true rfl⟩) (hK.sub [0, 1, 2, 3] rfl) hP hD hS hA [25] [0, 1, 2, 3, 4, 5, 6, 7, 8, 9, 10, 11, 12, 13, 14, 15, 16, 17, 18, 19, 20, 21, 22, 23, 24] 26 rfl (by decide +kernel) rfl rfl [wL cJ a o, wXO Q, wC cI (Q 1) (X 1), wC cI (Q 2) (X 2), wS (Q 3) (Q 4 0) (Q 5 0) (Q 6 0) (Q 7 0) (X 3), wT cB (Q 4) (X 4), wC cI (Q 5) (X 5), wA (Q 6) (X 6), wP (Q 7) (X 7), wH cO (Q 8) (Q 9 0) (Q 10 0) (Q 11 0) (Q 12 0) (Q 13 0) (Q 14 0) (Q 15 0) (Q 16 0) (X 8), wC cI (Q 9) (X 9), wC cI (Q 10) (X 10), wC cI (Q 11) (X 11), wC cI (Q 12) (X 12), wC cI (Q 13) (X 13), wC cI (Q 14) (X 14), wC cI (Q 15) (X 15), wC cI (Q 16) (X 16), wXS cO (Q 17) (Q 18 0) (Q 19 0), wC cI (Q 18) (X 18), wC cI (Q 19) (X 19), wXF cZ (Q 20) (X 20), wA (Q 21) w1.2, wP (Q 22) (X 22), wO cB (Q 23) (X 23)] rfl rfl rfl (va_recv hK hP (ci := 8) (q0 := 106) rfl rfl) rfl hl.1 rfl (Nat.le_of_ble_eq_true rfl) dL_law_1812 ⟨by show _ ≤ 601024; omega, by show _ ≤ 7293034; omega⟩ (fun H locs hP hD hS => ?_)
  refine lv_icmp_eq (tgt := 2902) hx hb dL_law_1815 (by decide) (fun c3 => ?_) (fun c3 => ?_)
  · have hf := ip c3 hf
    cases hf
    refine W.widen (k := cells + 8) (n := slots + 48) (by omega) (by omega) ?_
    exact kk _ _ _ hP hD hS (lv_sub hl [0, 1, 2, 3, 4] rfl)
  · have hf := iq c3 hf
    exact no_ob hf
set_option maxRecDepth 100000 in
set_option maxHeartbeats 4000000 in
theorem wL_36 {p : Program} {l : Launch} {e : Env} {s : State} {m : MethodId} {args : Array Value} {below : List Frame} {meth : Method} {c : Code} {H : Heap} {locs : List Loc} {cells slots : Nat} {Qf : State → Prop} {ls : Array Slot} {D : va_G} {cI cB cZ cO cJ : ClassId} {aK aV mK : Nat → Nat} {Q : Nat → Nat → Nat} {q : Nat → Nat} {a b L fu : Nat} {xs : Nat → Int32} {A : Nat → Prop} {X X1 : Nat → OS} {z z1 : OS} {o o1 : Nat → Int64} {i a1 a2 a3 a4 a5 : Int32} (hst : l.stackTraces = false) (hx : p.tables.exec = Jvm.exec) (hb : c.code = cL_law) (hml : c.maxLocals = 9) (hown : s.vm.findClass RL = some m.cls) (hts : ∀ w ∈ lw_tbl, w.before args s = true) (hK : va_K D vwCl (gL cI cB cZ cO cJ) s) (hA : ∀ q : Nat, s.heap.size ≤ q → A q) (hX : va_X b L xs s s.heap) (hbl : b < s.heap.size) (hbA : ¬ A b) (hE : EW aK aV mK A s s.heap) (hS : va_S A s.heap H locs) (hl : lv_has ls 9 [(0, .ref b), (1, .ref (Q 0 0)), (2, .ref (q 0)), (3, .ref a), (4, .int i)]) (n1 : vp_in (i + 1) L) (n2 : vp_in (i + 2) L) (n3 : vp_in (i + 3) L) (n4 : vp_in (i + 4) L) (n5 : vp_in (i + 5) L) (e1 : xs (i + 1).toNatClampNeg = a1) (e2 : xs (i + 2).toNatClampNeg = a2) (e3 : xs (i + 3).toNatClampNeg = a3) (e4 : xs (i + 4).toNatClampNeg = a4) (e5 : xs (i + 5).toNatClampNeg = a5) (hcl : cells + 8 ≤ 601024) (hsl : slots + 48 ≤ 7293034) (kk : ∀ (H1 : Heap) (locs1 : List Loc) (ls1 : Array Slot), va_P D vwCl (fl (lawW cI cB cZ cO cJ Q q a X1 z1 o1)) H1 → va_D A (fl (lawW cI cB cZ cO cJ Q q a X1 z1 o1)) → va_S A s.heap H1 locs1 → lv_has ls1 9 [(0, .ref b), (1, .ref (Q 0 0)), (2, .ref (q 0)), (3, .ref a), (4, .int i)] → W p l e room_1 s m args below meth c H1 locs1 (cells + 8) (slots + 48) Qf (F0 m 2902 ls1 [])) (hP : va_P D vwCl (fl (lawW cI cB cZ cO cJ Q q a X z o)) H) (hD : va_D A (fl (lawW cI cB cZ cO cJ Q q a X z o))) (hf : cL_36 fu a1 a2 a3 a4 a5 X z o = some (X1, z1, o1)) : W p l e room_1 s m args below meth c H locs cells slots Qf (F0 m 1820 ls []) := by
  unfold cL_36 at hf
  refine lv_aload_n hx hb dL_law_1820 rfl (lv_at hl 1 rfl) ?_
  obtain ⟨w1, hcw1, hf⟩ := bd_ob hf
  refine wrVb (As := []) (rest := []) [wL cJ a o, wXO Q, wC cI (Q 1) (X 1), wC cI (Q 2) (X 2), wS (Q 3) (Q 4 0) (Q 5 0) (Q 6 0) (Q 7 0) (X 3), wT cB (Q 4) (X 4), wC cI (Q 5) (X 5), wA (Q 6) (X 6), wP (Q 7) (X 7), wH cO (Q 8) (Q 9 0) (Q 10 0) (Q 11 0) (Q 12 0) (Q 13 0) (Q 14 0) (Q 15 0) (Q 16 0) (X 8), wC cI (Q 9) (X 9), wC cI (Q 10) (X 10), wC cI (Q 11) (X 11), wC cI (Q 12) (X 12), wC cI (Q 13) (X 13), wC cI (Q 14) (X 14), wC cI (Q 15) (X 15), wC cI (Q 16) (X 16), wXS cO (Q 17) (Q 18 0) (Q 19 0), wC cI (Q 18) (X 18), wC cI (Q 19) (X 19), wXF cZ (Q 20) (X 20), wA (Q 21) w1.2, wP (Q 22) (X 22), wO cB (Q 23) (X 23), wM cI cB cZ q z] ⟨hx, hb, hml, hown, hts⟩ (mX8_nextSecond l D cI cB cZ cO Q _ fu (X 0) (X 1) (X 2) (X 3) (X 4) (X 5) (X 6) (X 7) (X 8) (X 9) (X 10) (X 11) (X 12) (X 13) (X 14) (X 15) (X 16) (X 17) (X 18) (X 19) (X 20) (X 21) (X 22) (X 23) hcw1) (cwV 0 hts gL_law_X8_nextSecond rfl rfl rfl (by decide +kernel) ⟨Nat.le_of_ble_eq_true rfl, Nat.le_of_ble_eq_true rfl⟩) (hK.sub [0, 1, 2, 3] rfl) hP hD hS hA [1, 2, 3, 4, 5, 6, 7, 8, 9, 10, 11, 12, 13, 14, 15, 16, 17, 18, 19, 20, 21, 22, 23, 24] [0, 25] 26 rfl (by decide +kernel) rfl rfl [wL cJ a o, wM cI cB cZ q z] rfl rfl rfl (va_recv hK hP (ci := 7) (q0 := 1) rfl rfl) rfl hl.1 rfl (Nat.le_of_ble_eq_true rfl) dL_law_1821 ⟨by show _ ≤ 601024; omega, by show _ ≤ 7293034; omega⟩ (fun H locs hP hD hS => ?_)
  refine lv_aload_n hx hb dL_law_1824 rfl (lv_at hl 2 rfl) ?_
  obtain ⟨w2, hcw2, hf⟩ := bd_ob hf
  refine wrVb (As := []) (rest := [.int w1.1]) [wL cJ a o, wXO Q, wC cI (Q 1) (X 1), wC cI (Q 2) (X 2), wS (Q 3) (Q 4 0) (Q 5 0) (Q 6 0) (Q 7 0) (X 3), wT cB (Q 4) (X 4), wC cI (Q 5) (X 5), wA (Q 6) (X 6), wP (Q 7) (X 7), wH cO (Q 8) (Q 9 0) (Q 10 0) (Q 11 0) (Q 12 0) (Q 13 0) (Q 14 0) (Q 15 0) (Q 16 0) (X 8), wC cI (Q 9) (X 9), wC cI (Q 10) (X 10), wC cI (Q 11) (X 11), wC cI (Q 12) (X 12), wC cI (Q 13) (X 13), wC cI (Q 14) (X 14), wC cI (Q 15) (X 15), wC cI (Q 16) (X 16), wXS cO (Q 17) (Q 18 0) (Q 19 0), wC cI (Q 18) (X 18), wC cI (Q 19) (X 19), wXF cZ (Q 20) (X 20), wA (Q 21) w1.2, wP (Q 22) (X 22), wO cB (Q 23) (X 23), wM cI cB cZ q w2.2] ⟨hx, hb, hml, hown, hts⟩ (mX9_nextSecond l D cI cB cZ cO q _ fu z hcw2) (cwV 0 hts gL_law_X9_nextSecond rfl rfl rfl (by decide +kernel) ⟨Nat.le_of_ble_eq_true rfl, Nat.le_of_ble_eq_true rfl⟩) (hK.sub [0, 1, 2, 3] rfl) hP hD hS hA [25] [0, 1, 2, 3, 4, 5, 6, 7, 8, 9, 10, 11, 12, 13, 14, 15, 16, 17, 18, 19, 20, 21, 22, 23, 24] 26 rfl (by decide +kernel) rfl rfl [wL cJ a o, wXO Q, wC cI (Q 1) (X 1), wC cI (Q 2) (X 2), wS (Q 3) (Q 4 0) (Q 5 0) (Q 6 0) (Q 7 0) (X 3), wT cB (Q 4) (X 4), wC cI (Q 5) (X 5), wA (Q 6) (X 6), wP (Q 7) (X 7), wH cO (Q 8) (Q 9 0) (Q 10 0) (Q 11 0) (Q 12 0) (Q 13 0) (Q 14 0) (Q 15 0) (Q 16 0) (X 8), wC cI (Q 9) (X 9), wC cI (Q 10) (X 10), wC cI (Q 11) (X 11), wC cI (Q 12) (X 12), wC cI (Q 13) (X 13), wC cI (Q 14) (X 14), wC cI (Q 15) (X 15), wC cI (Q 16) (X 16), wXS cO (Q 17) (Q 18 0) (Q 19 0), wC cI (Q 18) (X 18), wC cI (Q 19) (X 19), wXF cZ (Q 20) (X 20), wA (Q 21) w1.2, wP (Q 22) (X 22), wO cB (Q 23) (X 23)] rfl rfl rfl (va_recv hK hP (ci := 8) (q0 := 106) rfl rfl) rfl hl.1 rfl (Nat.le_of_ble_eq_true rfl) dL_law_1825 ⟨by show _ ≤ 601024; omega, by show _ ≤ 7293034; omega⟩ (fun H locs hP hD hS => ?_)
  refine lv_icmp_eq (tgt := 2902) hx hb dL_law_1828 (by decide) (fun c3 => ?_) (fun c3 => ?_)
  · have hf := ip c3 hf
    cases hf
    refine W.widen (k := cells + 8) (n := slots + 48) (by omega) (by omega) ?_
    exact kk _ _ _ hP hD hS (lv_sub hl [0, 1, 2, 3, 4] rfl)
  · have hf := iq c3 hf
    exact no_ob hf
set_option maxRecDepth 100000 in
set_option maxHeartbeats 4000000 in
theorem wL_37 {p : Program} {l : Launch} {e : Env} {s : State} {m : MethodId} {args : Array Value} {below : List Frame} {meth : Method} {c : Code} {H : Heap} {locs : List Loc} {cells slots : Nat} {Qf : State → Prop} {ls : Array Slot} {D : va_G} {cI cB cZ cO cJ : ClassId} {aK aV mK : Nat → Nat} {Q : Nat → Nat → Nat} {q : Nat → Nat} {a b L fu : Nat} {xs : Nat → Int32} {A : Nat → Prop} {X X1 : Nat → OS} {z z1 : OS} {o o1 : Nat → Int64} {i a1 a2 a3 a4 a5 : Int32} (hst : l.stackTraces = false) (hx : p.tables.exec = Jvm.exec) (hb : c.code = cL_law) (hml : c.maxLocals = 9) (hown : s.vm.findClass RL = some m.cls) (hts : ∀ w ∈ lw_tbl, w.before args s = true) (hK : va_K D vwCl (gL cI cB cZ cO cJ) s) (hA : ∀ q : Nat, s.heap.size ≤ q → A q) (hX : va_X b L xs s s.heap) (hbl : b < s.heap.size) (hbA : ¬ A b) (hE : EW aK aV mK A s s.heap) (hS : va_S A s.heap H locs) (hl : lv_has ls 9 [(0, .ref b), (1, .ref (Q 0 0)), (2, .ref (q 0)), (3, .ref a), (4, .int i)]) (n1 : vp_in (i + 1) L) (n2 : vp_in (i + 2) L) (n3 : vp_in (i + 3) L) (n4 : vp_in (i + 4) L) (n5 : vp_in (i + 5) L) (e1 : xs (i + 1).toNatClampNeg = a1) (e2 : xs (i + 2).toNatClampNeg = a2) (e3 : xs (i + 3).toNatClampNeg = a3) (e4 : xs (i + 4).toNatClampNeg = a4) (e5 : xs (i + 5).toNatClampNeg = a5) (hcl : cells + 8 ≤ 601024) (hsl : slots + 48 ≤ 7293034) (kk : ∀ (H1 : Heap) (locs1 : List Loc) (ls1 : Array Slot), va_P D vwCl (fl (lawW cI cB cZ cO cJ Q q a X1 z1 o1)) H1 → va_D A (fl (lawW cI cB cZ cO cJ Q q a X1 z1 o1)) → va_S A s.heap H1 locs1 → lv_has ls1 9 [(0, .ref b), (1, .ref (Q 0 0)), (2, .ref (q 0)), (3, .ref a), (4, .int i)] → W p l e room_1 s m args below meth c H1 locs1 (cells + 8) (slots + 48) Qf (F0 m 2902 ls1 [])) (hP : va_P D vwCl (fl (lawW cI cB cZ cO cJ Q q a X z o)) H) (hD : va_D A (fl (lawW cI cB cZ cO cJ Q q a X z o))) (hf : cL_37 fu a1 a2 a3 a4 a5 X z o = some (X1, z1, o1)) : W p l e room_1 s m args below meth c H locs cells slots Qf (F0 m 1833 ls []) := by
  unfold cL_37 at hf
  refine lv_aload_n hx hb dL_law_1833 rfl (lv_at hl 1 rfl) ?_
  obtain ⟨w1, hcw1, hf⟩ := bd_ob hf
  refine wrVb (As := []) (rest := []) [wL cJ a o, wXO Q, wC cI (Q 1) (X 1), wC cI (Q 2) w1.2.1, wS (Q 3) (Q 4 0) (Q 5 0) (Q 6 0) (Q 7 0) (X 3), wT cB (Q 4) (X 4), wC cI (Q 5) (X 5), wA (Q 6) (X 6), wP (Q 7) (X 7), wH cO (Q 8) (Q 9 0) (Q 10 0) (Q 11 0) (Q 12 0) (Q 13 0) (Q 14 0) (Q 15 0) (Q 16 0) (X 8), wC cI (Q 9) (X 9), wC cI (Q 10) (X 10), wC cI (Q 11) (X 11), wC cI (Q 12) (X 12), wC cI (Q 13) (X 13), wC cI (Q 14) (X 14), wC cI (Q 15) (X 15), wC cI (Q 16) (X 16), wXS cO (Q 17) (Q 18 0) (Q 19 0), wC cI (Q 18) (X 18), wC cI (Q 19) (X 19), wXF cZ (Q 20) (X 20), wA (Q 21) w1.2.2, wP (Q 22) (X 22), wO cB (Q 23) (X 23), wM cI cB cZ q z] ⟨hx, hb, hml, hown, hts⟩ (mX8_stepsToEmpty l D cI cB cZ cO Q _ fu (X 0) (X 1) (X 2) (X 3) (X 4) (X 5) (X 6) (X 7) (X 8) (X 9) (X 10) (X 11) (X 12) (X 13) (X 14) (X 15) (X 16) (X 17) (X 18) (X 19) (X 20) (X 21) (X 22) (X 23) hcw1) (cwV 0 hts gL_law_X8_stepsToEmpty rfl rfl rfl (by decide +kernel) ⟨Nat.le_of_ble_eq_true rfl, Nat.le_of_ble_eq_true rfl⟩) (hK.sub [0, 1, 2, 3] rfl) hP hD hS hA [1, 2, 3, 4, 5, 6, 7, 8, 9, 10, 11, 12, 13, 14, 15, 16, 17, 18, 19, 20, 21, 22, 23, 24] [0, 25] 26 rfl (by decide +kernel) rfl rfl [wL cJ a o, wM cI cB cZ q z] rfl rfl rfl (va_recv hK hP (ci := 7) (q0 := 1) rfl rfl) rfl hl.1 rfl (Nat.le_of_ble_eq_true rfl) dL_law_1834 ⟨by show _ ≤ 601024; omega, by show _ ≤ 7293034; omega⟩ (fun H locs hP hD hS => ?_)
  refine lv_aload_n hx hb dL_law_1837 rfl (lv_at hl 2 rfl) ?_
  obtain ⟨w2, hcw2, hf⟩ := bd_ob hf
  refine wrVb (As := []) (rest := [.int w1.1]) [wL cJ a o, wXO Q, wC cI (Q 1) (X 1), wC cI (Q 2) w1.2.1, wS (Q 3) (Q 4 0) (Q 5 0) (Q 6 0) (Q 7 0) (X 3), wT cB (Q 4) (X 4), wC cI (Q 5) (X 5), wA (Q 6) (X 6), wP (Q 7) (X 7), wH cO (Q 8) (Q 9 0) (Q 10 0) (Q 11 0) (Q 12 0) (Q 13 0) (Q 14 0) (Q 15 0) (Q 16 0) (X 8), wC cI (Q 9) (X 9), wC cI (Q 10) (X 10), wC cI (Q 11) (X 11), wC cI (Q 12) (X 12), wC cI (Q 13) (X 13), wC cI (Q 14) (X 14), wC cI (Q 15) (X 15), wC cI (Q 16) (X 16), wXS cO (Q 17) (Q 18 0) (Q 19 0), wC cI (Q 18) (X 18), wC cI (Q 19) (X 19), wXF cZ (Q 20) (X 20), wA (Q 21) w1.2.2, wP (Q 22) (X 22), wO cB (Q 23) (X 23), wM cI cB cZ q w2.2] ⟨hx, hb, hml, hown, hts⟩ (mX9_stepsToEmpty l D cI cB cZ cO q _ fu z hcw2) (cwV 0 hts gL_law_X9_stepsToEmpty rfl rfl rfl (by decide +kernel) ⟨Nat.le_of_ble_eq_true rfl, Nat.le_of_ble_eq_true rfl⟩) (hK.sub [0, 1, 2, 3] rfl) hP hD hS hA [25] [0, 1, 2, 3, 4, 5, 6, 7, 8, 9, 10, 11, 12, 13, 14, 15, 16, 17, 18, 19, 20, 21, 22, 23, 24] 26 rfl (by decide +kernel) rfl rfl [wL cJ a o, wXO Q, wC cI (Q 1) (X 1), wC cI (Q 2) w1.2.1, wS (Q 3) (Q 4 0) (Q 5 0) (Q 6 0) (Q 7 0) (X 3), wT cB (Q 4) (X 4), wC cI (Q 5) (X 5), wA (Q 6) (X 6), wP (Q 7) (X 7), wH cO (Q 8) (Q 9 0) (Q 10 0) (Q 11 0) (Q 12 0) (Q 13 0) (Q 14 0) (Q 15 0) (Q 16 0) (X 8), wC cI (Q 9) (X 9), wC cI (Q 10) (X 10), wC cI (Q 11) (X 11), wC cI (Q 12) (X 12), wC cI (Q 13) (X 13), wC cI (Q 14) (X 14), wC cI (Q 15) (X 15), wC cI (Q 16) (X 16), wXS cO (Q 17) (Q 18 0) (Q 19 0), wC cI (Q 18) (X 18), wC cI (Q 19) (X 19), wXF cZ (Q 20) (X 20), wA (Q 21) w1.2.2, wP (Q 22) (X 22), wO cB (Q 23) (X 23)] rfl rfl rfl (va_recv hK hP (ci := 8) (q0 := 106) rfl rfl) rfl hl.1 rfl (Nat.le_of_ble_eq_true rfl) dL_law_1838 ⟨by show _ ≤ 601024; omega, by show _ ≤ 7293034; omega⟩ (fun H locs hP hD hS => ?_)
  refine lv_icmp_eq (tgt := 2902) hx hb dL_law_1841 (by decide) (fun c3 => ?_) (fun c3 => ?_)
  · have hf := ip c3 hf
    cases hf
    refine W.widen (k := cells + 8) (n := slots + 48) (by omega) (by omega) ?_
    exact kk _ _ _ hP hD hS (lv_sub hl [0, 1, 2, 3, 4] rfl)
  · have hf := iq c3 hf
    exact no_ob hf
set_option maxRecDepth 100000 in
set_option maxHeartbeats 4000000 in
theorem wL_38 {p : Program} {l : Launch} {e : Env} {s : State} {m : MethodId} {args : Array Value} {below : List Frame} {meth : Method} {c : Code} {H : Heap} {locs : List Loc} {cells slots : Nat} {Qf : State → Prop} {ls : Array Slot} {D : va_G} {cI cB cZ cO cJ : ClassId} {aK aV mK : Nat → Nat} {Q : Nat → Nat → Nat} {q : Nat → Nat} {a b L fu : Nat} {xs : Nat → Int32} {A : Nat → Prop} {X X1 : Nat → OS} {z z1 : OS} {o o1 : Nat → Int64} {i a1 a2 a3 a4 a5 : Int32} (hst : l.stackTraces = false) (hx : p.tables.exec = Jvm.exec) (hb : c.code = cL_law) (hml : c.maxLocals = 9) (hown : s.vm.findClass RL = some m.cls) (hts : ∀ w ∈ lw_tbl, w.before args s = true) (hK : va_K D vwCl (gL cI cB cZ cO cJ) s) (hA : ∀ q : Nat, s.heap.size ≤ q → A q) (hX : va_X b L xs s s.heap) (hbl : b < s.heap.size) (hbA : ¬ A b) (hE : EW aK aV mK A s s.heap) (hS : va_S A s.heap H locs) (hl : lv_has ls 9 [(0, .ref b), (1, .ref (Q 0 0)), (2, .ref (q 0)), (3, .ref a), (4, .int i)]) (n1 : vp_in (i + 1) L) (n2 : vp_in (i + 2) L) (n3 : vp_in (i + 3) L) (n4 : vp_in (i + 4) L) (n5 : vp_in (i + 5) L) (e1 : xs (i + 1).toNatClampNeg = a1) (e2 : xs (i + 2).toNatClampNeg = a2) (e3 : xs (i + 3).toNatClampNeg = a3) (e4 : xs (i + 4).toNatClampNeg = a4) (e5 : xs (i + 5).toNatClampNeg = a5) (hcl : cells + 8 ≤ 601024) (hsl : slots + 48 ≤ 7293034) (kk : ∀ (H1 : Heap) (locs1 : List Loc) (ls1 : Array Slot), va_P D vwCl (fl (lawW cI cB cZ cO cJ Q q a X1 z1 o1)) H1 → va_D A (fl (lawW cI cB cZ cO cJ Q q a X1 z1 o1)) → va_S A s.heap H1 locs1 → lv_has ls1 9 [(0, .ref b), (1, .ref (Q 0 0)), (2, .ref (q 0)), (3, .ref a), (4, .int i)] → W p l e room_1 s m args below meth c H1 locs1 (cells + 8) (slots + 48) Qf (F0 m 2902 ls1 [])) (hP : va_P D vwCl (fl (lawW cI cB cZ cO cJ Q q a X z o)) H) (hD : va_D A (fl (lawW cI cB cZ cO cJ Q q a X z o))) (hf : cL_38 fu a1 a2 a3 a4 a5 X z o = some (X1, z1, o1)) : W p l e room_1 s m args below meth c H locs cells slots Qf (F0 m 1846 ls []) := by
  unfold cL_38 at hf
  refine lv_aload_n hx hb dL_law_1846 rfl (lv_at hl 1 rfl) ?_
  obtain ⟨w1, hcw1, hf⟩ := bd_ob hf
  refine rdV (As := []) (rest := []) ⟨hx, hb, hml, hown, hts⟩ (mX8_modelCount l D cI cB cZ cO Q fu (X 0) (X 1) (X 2) (X 3) (X 4) (X 5) (X 6) (X 7) (X 8) (X 9) (X 10) (X 11) (X 12) (X 13) (X 14) (X 15) (X 16) (X 17) (X 18) (X 19) (X 20) (X 21) (X 22) (X 23) hcw1) (cwV 0 hts gL_law_X8_modelCount rfl rfl rfl (by decide +kernel) ⟨Nat.le_of_ble_eq_true rfl, Nat.le_of_ble_eq_true rfl⟩) (hK.sub [0, 1, 2, 3] rfl) (hP.subb [1, 2, 3, 4, 5, 6, 7, 8, 9, 10, 11, 12, 13, 14, 15, 16, 17, 18, 19, 20, 21, 22, 23, 24] rfl) (va_recv hK hP (ci := 7) (q0 := 1) rfl rfl) rfl hl.1 rfl (Nat.le_of_ble_eq_true rfl) dL_law_1847 ⟨by show _ ≤ 601024; omega, by show _ ≤ 7293034; omega⟩ ?_
  refine lv_aload_n hx hb dL_law_1850 rfl (lv_at hl 2 rfl) ?_
  obtain ⟨w2, hcw2, hf⟩ := bd_ob hf
  refine wrVb (As := []) (rest := [.int w1]) [wL cJ a o, wXO Q, wC cI (Q 1) (X 1), wC cI (Q 2) (X 2), wS (Q 3) (Q 4 0) (Q 5 0) (Q 6 0) (Q 7 0) (X 3), wT cB (Q 4) (X 4), wC cI (Q 5) (X 5), wA (Q 6) (X 6), wP (Q 7) (X 7), wH cO (Q 8) (Q 9 0) (Q 10 0) (Q 11 0) (Q 12 0) (Q 13 0) (Q 14 0) (Q 15 0) (Q 16 0) (X 8), wC cI (Q 9) (X 9), wC cI (Q 10) (X 10), wC cI (Q 11) (X 11), wC cI (Q 12) (X 12), wC cI (Q 13) (X 13), wC cI (Q 14) (X 14), wC cI (Q 15) (X 15), wC cI (Q 16) (X 16), wXS cO (Q 17) (Q 18 0) (Q 19 0), wC cI (Q 18) (X 18), wC cI (Q 19) (X 19), wXF cZ (Q 20) (X 20), wA (Q 21) (X 21), wP (Q 22) (X 22), wO cB (Q 23) (X 23), wM cI cB cZ q w2.2] ⟨hx, hb, hml, hown, hts⟩ (mX9_modelCount l D cI cB cZ cO q _ fu z hcw2) (cwV 0 hts gL_law_X9_modelCount rfl rfl rfl (by decide +kernel) ⟨Nat.le_of_ble_eq_true rfl, Nat.le_of_ble_eq_true rfl⟩) (hK.sub [0, 1, 2, 3] rfl) hP hD hS hA [25] [0, 1, 2, 3, 4, 5, 6, 7, 8, 9, 10, 11, 12, 13, 14, 15, 16, 17, 18, 19, 20, 21, 22, 23, 24] 26 rfl (by decide +kernel) rfl rfl [wL cJ a o, wXO Q, wC cI (Q 1) (X 1), wC cI (Q 2) (X 2), wS (Q 3) (Q 4 0) (Q 5 0) (Q 6 0) (Q 7 0) (X 3), wT cB (Q 4) (X 4), wC cI (Q 5) (X 5), wA (Q 6) (X 6), wP (Q 7) (X 7), wH cO (Q 8) (Q 9 0) (Q 10 0) (Q 11 0) (Q 12 0) (Q 13 0) (Q 14 0) (Q 15 0) (Q 16 0) (X 8), wC cI (Q 9) (X 9), wC cI (Q 10) (X 10), wC cI (Q 11) (X 11), wC cI (Q 12) (X 12), wC cI (Q 13) (X 13), wC cI (Q 14) (X 14), wC cI (Q 15) (X 15), wC cI (Q 16) (X 16), wXS cO (Q 17) (Q 18 0) (Q 19 0), wC cI (Q 18) (X 18), wC cI (Q 19) (X 19), wXF cZ (Q 20) (X 20), wA (Q 21) (X 21), wP (Q 22) (X 22), wO cB (Q 23) (X 23)] rfl rfl rfl (va_recv hK hP (ci := 8) (q0 := 106) rfl rfl) rfl hl.1 rfl (Nat.le_of_ble_eq_true rfl) dL_law_1851 ⟨by show _ ≤ 601024; omega, by show _ ≤ 7293034; omega⟩ (fun H locs hP hD hS => ?_)
  refine lv_icmp_eq (tgt := 2902) hx hb dL_law_1854 (by decide) (fun c3 => ?_) (fun c3 => ?_)
  · have hf := ip c3 hf
    cases hf
    refine W.widen (k := cells + 8) (n := slots + 48) (by omega) (by omega) ?_
    exact kk _ _ _ hP hD hS (lv_sub hl [0, 1, 2, 3, 4] rfl)
  · have hf := iq c3 hf
    exact no_ob hf
set_option maxRecDepth 100000 in
set_option maxHeartbeats 4000000 in
theorem wL_39 {p : Program} {l : Launch} {e : Env} {s : State} {m : MethodId} {args : Array Value} {below : List Frame} {meth : Method} {c : Code} {H : Heap} {locs : List Loc} {cells slots : Nat} {Qf : State → Prop} {ls : Array Slot} {D : va_G} {cI cB cZ cO cJ : ClassId} {aK aV mK : Nat → Nat} {Q : Nat → Nat → Nat} {q : Nat → Nat} {a b L fu : Nat} {xs : Nat → Int32} {A : Nat → Prop} {X X1 : Nat → OS} {z z1 : OS} {o o1 : Nat → Int64} {i a1 a2 a3 a4 a5 : Int32} (hst : l.stackTraces = false) (hx : p.tables.exec = Jvm.exec) (hb : c.code = cL_law) (hml : c.maxLocals = 9) (hown : s.vm.findClass RL = some m.cls) (hts : ∀ w ∈ lw_tbl, w.before args s = true) (hK : va_K D vwCl (gL cI cB cZ cO cJ) s) (hA : ∀ q : Nat, s.heap.size ≤ q → A q) (hX : va_X b L xs s s.heap) (hbl : b < s.heap.size) (hbA : ¬ A b) (hE : EW aK aV mK A s s.heap) (hS : va_S A s.heap H locs) (hl : lv_has ls 9 [(0, .ref b), (1, .ref (Q 0 0)), (2, .ref (q 0)), (3, .ref a), (4, .int i)]) (n1 : vp_in (i + 1) L) (n2 : vp_in (i + 2) L) (n3 : vp_in (i + 3) L) (n4 : vp_in (i + 4) L) (n5 : vp_in (i + 5) L) (e1 : xs (i + 1).toNatClampNeg = a1) (e2 : xs (i + 2).toNatClampNeg = a2) (e3 : xs (i + 3).toNatClampNeg = a3) (e4 : xs (i + 4).toNatClampNeg = a4) (e5 : xs (i + 5).toNatClampNeg = a5) (hcl : cells + 8 ≤ 601024) (hsl : slots + 48 ≤ 7293034) (kk : ∀ (H1 : Heap) (locs1 : List Loc) (ls1 : Array Slot), va_P D vwCl (fl (lawW cI cB cZ cO cJ Q q a X1 z1 o1)) H1 → va_D A (fl (lawW cI cB cZ cO cJ Q q a X1 z1 o1)) → va_S A s.heap H1 locs1 → lv_has ls1 9 [(0, .ref b), (1, .ref (Q 0 0)), (2, .ref (q 0)), (3, .ref a), (4, .int i)] → W p l e room_1 s m args below meth c H1 locs1 (cells + 8) (slots + 48) Qf (F0 m 2902 ls1 [])) (hP : va_P D vwCl (fl (lawW cI cB cZ cO cJ Q q a X z o)) H) (hD : va_D A (fl (lawW cI cB cZ cO cJ Q q a X z o))) (hf : cL_39 fu a1 a2 a3 a4 a5 X z o = some (X1, z1, o1)) : W p l e room_1 s m args below meth c H locs cells slots Qf (F0 m 1859 ls []) := by
  unfold cL_39 at hf
  refine lv_aload_n hx hb dL_law_1859 rfl (lv_at hl 1 rfl) ?_
  obtain ⟨w1, hcw1, hf⟩ := bd_ob hf
  refine rdV (As := []) (rest := []) ⟨hx, hb, hml, hown, hts⟩ (mX8_firstModel l D cI cB cZ cO Q fu (X 0) (X 1) (X 2) (X 3) (X 4) (X 5) (X 6) (X 7) (X 8) (X 9) (X 10) (X 11) (X 12) (X 13) (X 14) (X 15) (X 16) (X 17) (X 18) (X 19) (X 20) (X 21) (X 22) (X 23) hcw1) (cwV 0 hts gL_law_X8_firstModel rfl rfl rfl (by decide +kernel) ⟨Nat.le_of_ble_eq_true rfl, Nat.le_of_ble_eq_true rfl⟩) (hK.sub [0, 1, 2, 3] rfl) (hP.subb [1, 2, 3, 4, 5, 6, 7, 8, 9, 10, 11, 12, 13, 14, 15, 16, 17, 18, 19, 20, 21, 22, 23, 24] rfl) (va_recv hK hP (ci := 7) (q0 := 1) rfl rfl) rfl hl.1 rfl (Nat.le_of_ble_eq_true rfl) dL_law_1860 ⟨by show _ ≤ 601024; omega, by show _ ≤ 7293034; omega⟩ ?_
  refine lv_aload_n hx hb dL_law_1863 rfl (lv_at hl 2 rfl) ?_
  obtain ⟨w2, hcw2, hf⟩ := bd_ob hf
  refine wrVb (As := []) (rest := [.int w1]) [wL cJ a o, wXO Q, wC cI (Q 1) (X 1), wC cI (Q 2) (X 2), wS (Q 3) (Q 4 0) (Q 5 0) (Q 6 0) (Q 7 0) (X 3), wT cB (Q 4) (X 4), wC cI (Q 5) (X 5), wA (Q 6) (X 6), wP (Q 7) (X 7), wH cO (Q 8) (Q 9 0) (Q 10 0) (Q 11 0) (Q 12 0) (Q 13 0) (Q 14 0) (Q 15 0) (Q 16 0) (X 8), wC cI (Q 9) (X 9), wC cI (Q 10) (X 10), wC cI (Q 11) (X 11), wC cI (Q 12) (X 12), wC cI (Q 13) (X 13), wC cI (Q 14) (X 14), wC cI (Q 15) (X 15), wC cI (Q 16) (X 16), wXS cO (Q 17) (Q 18 0) (Q 19 0), wC cI (Q 18) (X 18), wC cI (Q 19) (X 19), wXF cZ (Q 20) (X 20), wA (Q 21) (X 21), wP (Q 22) (X 22), wO cB (Q 23) (X 23), wM cI cB cZ q w2.2] ⟨hx, hb, hml, hown, hts⟩ (mX9_firstModel l D cI cB cZ cO q _ fu z hcw2) (cwV 0 hts gL_law_X9_firstModel rfl rfl rfl (by decide +kernel) ⟨Nat.le_of_ble_eq_true rfl, Nat.le_of_ble_eq_true rfl⟩) (hK.sub [0, 1, 2, 3] rfl) hP hD hS hA [25] [0, 1, 2, 3, 4, 5, 6, 7, 8, 9, 10, 11, 12, 13, 14, 15, 16, 17, 18, 19, 20, 21, 22, 23, 24] 26 rfl (by decide +kernel) rfl rfl [wL cJ a o, wXO Q, wC cI (Q 1) (X 1), wC cI (Q 2) (X 2), wS (Q 3) (Q 4 0) (Q 5 0) (Q 6 0) (Q 7 0) (X 3), wT cB (Q 4) (X 4), wC cI (Q 5) (X 5), wA (Q 6) (X 6), wP (Q 7) (X 7), wH cO (Q 8) (Q 9 0) (Q 10 0) (Q 11 0) (Q 12 0) (Q 13 0) (Q 14 0) (Q 15 0) (Q 16 0) (X 8), wC cI (Q 9) (X 9), wC cI (Q 10) (X 10), wC cI (Q 11) (X 11), wC cI (Q 12) (X 12), wC cI (Q 13) (X 13), wC cI (Q 14) (X 14), wC cI (Q 15) (X 15), wC cI (Q 16) (X 16), wXS cO (Q 17) (Q 18 0) (Q 19 0), wC cI (Q 18) (X 18), wC cI (Q 19) (X 19), wXF cZ (Q 20) (X 20), wA (Q 21) (X 21), wP (Q 22) (X 22), wO cB (Q 23) (X 23)] rfl rfl rfl (va_recv hK hP (ci := 8) (q0 := 106) rfl rfl) rfl hl.1 rfl (Nat.le_of_ble_eq_true rfl) dL_law_1864 ⟨by show _ ≤ 601024; omega, by show _ ≤ 7293034; omega⟩ (fun H locs hP hD hS => ?_)
  refine lv_icmp_eq (tgt := 2902) hx hb dL_law_1867 (by decide) (fun c3 => ?_) (fun c3 => ?_)
  · have hf := ip c3 hf
    cases hf
    refine W.widen (k := cells + 8) (n := slots + 48) (by omega) (by omega) ?_
    exact kk _ _ _ hP hD hS (lv_sub hl [0, 1, 2, 3, 4] rfl)
  · have hf := iq c3 hf
    exact no_ob hf
set_option maxRecDepth 100000 in
set_option maxHeartbeats 4000000 in
theorem wL_40 {p : Program} {l : Launch} {e : Env} {s : State} {m : MethodId} {args : Array Value} {below : List Frame} {meth : Method} {c : Code} {H : Heap} {locs : List Loc} {cells slots : Nat} {Qf : State → Prop} {ls : Array Slot} {D : va_G} {cI cB cZ cO cJ : ClassId} {aK aV mK : Nat → Nat} {Q : Nat → Nat → Nat} {q : Nat → Nat} {a b L fu : Nat} {xs : Nat → Int32} {A : Nat → Prop} {X X1 : Nat → OS} {z z1 : OS} {o o1 : Nat → Int64} {i a1 a2 a3 a4 a5 : Int32} (hst : l.stackTraces = false) (hx : p.tables.exec = Jvm.exec) (hb : c.code = cL_law) (hml : c.maxLocals = 9) (hown : s.vm.findClass RL = some m.cls) (hts : ∀ w ∈ lw_tbl, w.before args s = true) (hK : va_K D vwCl (gL cI cB cZ cO cJ) s) (hA : ∀ q : Nat, s.heap.size ≤ q → A q) (hX : va_X b L xs s s.heap) (hbl : b < s.heap.size) (hbA : ¬ A b) (hE : EW aK aV mK A s s.heap) (hS : va_S A s.heap H locs) (hl : lv_has ls 9 [(0, .ref b), (1, .ref (Q 0 0)), (2, .ref (q 0)), (3, .ref a), (4, .int i)]) (n1 : vp_in (i + 1) L) (n2 : vp_in (i + 2) L) (n3 : vp_in (i + 3) L) (n4 : vp_in (i + 4) L) (n5 : vp_in (i + 5) L) (e1 : xs (i + 1).toNatClampNeg = a1) (e2 : xs (i + 2).toNatClampNeg = a2) (e3 : xs (i + 3).toNatClampNeg = a3) (e4 : xs (i + 4).toNatClampNeg = a4) (e5 : xs (i + 5).toNatClampNeg = a5) (hcl : cells + 8 ≤ 601024) (hsl : slots + 48 ≤ 7293034) (kk : ∀ (H1 : Heap) (locs1 : List Loc) (ls1 : Array Slot), va_P D vwCl (fl (lawW cI cB cZ cO cJ Q q a X1 z1 o1)) H1 → va_D A (fl (lawW cI cB cZ cO cJ Q q a X1 z1 o1)) → va_S A s.heap H1 locs1 → lv_has ls1 9 [(0, .ref b), (1, .ref (Q 0 0)), (2, .ref (q 0)), (3, .ref a), (4, .int i)] → W p l e room_1 s m args below meth c H1 locs1 (cells + 8) (slots + 48) Qf (F0 m 2902 ls1 [])) (hP : va_P D vwCl (fl (lawW cI cB cZ cO cJ Q q a X z o)) H) (hD : va_D A (fl (lawW cI cB cZ cO cJ Q q a X z o))) (hf : cL_40 fu a1 a2 a3 a4 a5 X z o = some (X1, z1, o1)) : W p l e room_1 s m args below meth c H locs cells slots Qf (F0 m 1872 ls []) := by
  unfold cL_40 at hf
  refine lv_aload_n hx hb dL_law_1872 rfl (lv_at hl 1 rfl) ?_
  refine lv_aload_n hx hb dL_law_1873 rfl (lv_at hl 0 rfl) ?_
  refine lv_iload hx hb dL_law_1874 (lv_at hl 4 rfl) ?_
  refine lv_iconst (v := 1) hx hb dL_law_1876 (by decide) ?_
  refine lv_iadd hx hb dL_law_1877 ?_
  refine va_sldE hx hb hX hbl hbA hS n1 e1 dL_law_1878 ?_
  obtain ⟨w1, hcw1, hf⟩ := bd_ob hf
  refine rdV (As := [.int a1]) (rest := []) ⟨hx, hb, hml, hown, hts⟩ (mX8_modelAt l D cI cB cZ cO Q fu (X 0) (X 1) (X 2) (X 3) (X 4) (X 5) (X 6) (X 7) (X 8) (X 9) (X 10) (X 11) (X 12) (X 13) (X 14) (X 15) (X 16) (X 17) (X 18) (X 19) (X 20) (X 21) (X 22) (X 23) a1 hcw1) (cwV 1 hts gL_law_X8_modelAt rfl rfl rfl (by decide +kernel) ⟨Nat.le_of_ble_eq_true rfl, Nat.le_of_ble_eq_true rfl⟩) (hK.sub [0, 1, 2, 3] rfl) (hP.subb [1, 2, 3, 4, 5, 6, 7, 8, 9, 10, 11, 12, 13, 14, 15, 16, 17, 18, 19, 20, 21, 22, 23, 24] rfl) (va_recv hK hP (ci := 7) (q0 := 1) rfl rfl) rfl hl.1 rfl (Nat.le_of_ble_eq_true rfl) dL_law_1879 ⟨by show _ ≤ 601024; omega, by show _ ≤ 7293034; omega⟩ ?_
  refine lv_aload_n hx hb dL_law_1882 rfl (lv_at hl 2 rfl) ?_
  refine lv_aload_n hx hb dL_law_1883 rfl (lv_at hl 0 rfl) ?_
  refine lv_iload hx hb dL_law_1884 (lv_at hl 4 rfl) ?_
  refine lv_iconst (v := 1) hx hb dL_law_1886 (by decide) ?_
  refine lv_iadd hx hb dL_law_1887 ?_
  refine va_sldE hx hb hX hbl hbA hS n1 e1 dL_law_1888 ?_
  obtain ⟨w2, hcw2, hf⟩ := bd_ob hf
  refine wrVb (As := [.int a1]) (rest := [.int w1]) [wL cJ a o, wXO Q, wC cI (Q 1) (X 1), wC cI (Q 2) (X 2), wS (Q 3) (Q 4 0) (Q 5 0) (Q 6 0) (Q 7 0) (X 3), wT cB (Q 4) (X 4), wC cI (Q 5) (X 5), wA (Q 6) (X 6), wP (Q 7) (X 7), wH cO (Q 8) (Q 9 0) (Q 10 0) (Q 11 0) (Q 12 0) (Q 13 0) (Q 14 0) (Q 15 0) (Q 16 0) (X 8), wC cI (Q 9) (X 9), wC cI (Q 10) (X 10), wC cI (Q 11) (X 11), wC cI (Q 12) (X 12), wC cI (Q 13) (X 13), wC cI (Q 14) (X 14), wC cI (Q 15) (X 15), wC cI (Q 16) (X 16), wXS cO (Q 17) (Q 18 0) (Q 19 0), wC cI (Q 18) (X 18), wC cI (Q 19) (X 19), wXF cZ (Q 20) (X 20), wA (Q 21) (X 21), wP (Q 22) (X 22), wO cB (Q 23) (X 23), wM cI cB cZ q w2.2] ⟨hx, hb, hml, hown, hts⟩ (mX9_modelAt l D cI cB cZ cO q _ fu z a1 hcw2) (cwV 1 hts gL_law_X9_modelAt rfl rfl rfl (by decide +kernel) ⟨Nat.le_of_ble_eq_true rfl, Nat.le_of_ble_eq_true rfl⟩) (hK.sub [0, 1, 2, 3] rfl) hP hD hS hA [25] [0, 1, 2, 3, 4, 5, 6, 7, 8, 9, 10, 11, 12, 13, 14, 15, 16, 17, 18, 19, 20, 21, 22, 23, 24] 26 rfl (by decide +kernel) rfl rfl [wL cJ a o, wXO Q, wC cI (Q 1) (X 1), wC cI (Q 2) (X 2), wS (Q 3) (Q 4 0) (Q 5 0) (Q 6 0) (Q 7 0) (X 3), wT cB (Q 4) (X 4), wC cI (Q 5) (X 5), wA (Q 6) (X 6), wP (Q 7) (X 7), wH cO (Q 8) (Q 9 0) (Q 10 0) (Q 11 0) (Q 12 0) (Q 13 0) (Q 14 0) (Q 15 0) (Q 16 0) (X 8), wC cI (Q 9) (X 9), wC cI (Q 10) (X 10), wC cI (Q 11) (X 11), wC cI (Q 12) (X 12), wC cI (Q 13) (X 13), wC cI (Q 14) (X 14), wC cI (Q 15) (X 15), wC cI (Q 16) (X 16), wXS cO (Q 17) (Q 18 0) (Q 19 0), wC cI (Q 18) (X 18), wC cI (Q 19) (X 19), wXF cZ (Q 20) (X 20), wA (Q 21) (X 21), wP (Q 22) (X 22), wO cB (Q 23) (X 23)] rfl rfl rfl (va_recv hK hP (ci := 8) (q0 := 106) rfl rfl) rfl hl.1 rfl (Nat.le_of_ble_eq_true rfl) dL_law_1889 ⟨by show _ ≤ 601024; omega, by show _ ≤ 7293034; omega⟩ (fun H locs hP hD hS => ?_)
  refine lv_icmp_eq (tgt := 2902) hx hb dL_law_1892 (by decide) (fun c3 => ?_) (fun c3 => ?_)
  · have hf := ip c3 hf
    cases hf
    refine W.widen (k := cells + 8) (n := slots + 48) (by omega) (by omega) ?_
    exact kk _ _ _ hP hD hS (lv_sub hl [0, 1, 2, 3, 4] rfl)
  · have hf := iq c3 hf
    exact no_ob hf
set_option maxRecDepth 100000 in
set_option maxHeartbeats 4000000 in
theorem wL_41 {p : Program} {l : Launch} {e : Env} {s : State} {m : MethodId} {args : Array Value} {below : List Frame} {meth : Method} {c : Code} {H : Heap} {locs : List Loc} {cells slots : Nat} {Qf : State → Prop} {ls : Array Slot} {D : va_G} {cI cB cZ cO cJ : ClassId} {aK aV mK : Nat → Nat} {Q : Nat → Nat → Nat} {q : Nat → Nat} {a b L fu : Nat} {xs : Nat → Int32} {A : Nat → Prop} {X X1 : Nat → OS} {z z1 : OS} {o o1 : Nat → Int64} {i a1 a2 a3 a4 a5 : Int32} (hst : l.stackTraces = false) (hx : p.tables.exec = Jvm.exec) (hb : c.code = cL_law) (hml : c.maxLocals = 9) (hown : s.vm.findClass RL = some m.cls) (hts : ∀ w ∈ lw_tbl, w.before args s = true) (hK : va_K D vwCl (gL cI cB cZ cO cJ) s) (hA : ∀ q : Nat, s.heap.size ≤ q → A q) (hX : va_X b L xs s s.heap) (hbl : b < s.heap.size) (hbA : ¬ A b) (hE : EW aK aV mK A s s.heap) (hS : va_S A s.heap H locs) (hl : lv_has ls 9 [(0, .ref b), (1, .ref (Q 0 0)), (2, .ref (q 0)), (3, .ref a), (4, .int i)]) (n1 : vp_in (i + 1) L) (n2 : vp_in (i + 2) L) (n3 : vp_in (i + 3) L) (n4 : vp_in (i + 4) L) (n5 : vp_in (i + 5) L) (e1 : xs (i + 1).toNatClampNeg = a1) (e2 : xs (i + 2).toNatClampNeg = a2) (e3 : xs (i + 3).toNatClampNeg = a3) (e4 : xs (i + 4).toNatClampNeg = a4) (e5 : xs (i + 5).toNatClampNeg = a5) (hcl : cells + 8 ≤ 601024) (hsl : slots + 48 ≤ 7293034) (kk : ∀ (H1 : Heap) (locs1 : List Loc) (ls1 : Array Slot), va_P D vwCl (fl (lawW cI cB cZ cO cJ Q q a X1 z1 o1)) H1 → va_D A (fl (lawW cI cB cZ cO cJ Q q a X1 z1 o1)) → va_S A s.heap H1 locs1 → lv_has ls1 9 [(0, .ref b), (1, .ref (Q 0 0)), (2, .ref (q 0)), (3, .ref a), (4, .int i)] → W p l e room_1 s m args below meth c H1 locs1 (cells + 8) (slots + 48) Qf (F0 m 2902 ls1 [])) (hP : va_P D vwCl (fl (lawW cI cB cZ cO cJ Q q a X z o)) H) (hD : va_D A (fl (lawW cI cB cZ cO cJ Q q a X z o))) (hf : cL_41 fu a1 a2 a3 a4 a5 X z o = some (X1, z1, o1)) : W p l e room_1 s m args below meth c H locs cells slots Qf (F0 m 1897 ls []) := by
  unfold cL_41 at hf
  refine lv_aload_n hx hb dL_law_1897 rfl (lv_at hl 1 rfl) ?_
  refine lv_aload_n hx hb dL_law_1898 rfl (lv_at hl 0 rfl) ?_
  refine lv_iload hx hb dL_law_1899 (lv_at hl 4 rfl) ?_
  refine lv_iconst (v := 1) hx hb dL_law_1901 (by decide) ?_
  refine lv_iadd hx hb dL_law_1902 ?_
  refine va_sldE hx hb hX hbl hbA hS n1 e1 dL_law_1903 ?_
  refine lv_aload_n hx hb dL_law_1904 rfl (lv_at hl 0 rfl) ?_
  refine lv_iload hx hb dL_law_1905 (lv_at hl 4 rfl) ?_
  refine lv_iconst (v := 2) hx hb dL_law_1907 (by decide) ?_
  refine lv_iadd hx hb dL_law_1908 ?_
  refine va_sldE hx hb hX hbl hbA hS n2 e2 dL_law_1909 ?_
  refine lv_aload_n hx hb dL_law_1910 rfl (lv_at hl 3 rfl) ?_
  obtain ⟨w1, hcw1, hf⟩ := bd_ob hf
  refine wrSWb (As := [.ref (Q 0 0), .int a1, .int a2, .ref a]) (rest := []) [wL cJ a w1.2, wXO Q, wC cI (Q 1) (X 1), wC cI (Q 2) (X 2), wS (Q 3) (Q 4 0) (Q 5 0) (Q 6 0) (Q 7 0) (X 3), wT cB (Q 4) (X 4), wC cI (Q 5) (X 5), wA (Q 6) (X 6), wP (Q 7) (X 7), wH cO (Q 8) (Q 9 0) (Q 10 0) (Q 11 0) (Q 12 0) (Q 13 0) (Q 14 0) (Q 15 0) (Q 16 0) (X 8), wC cI (Q 9) (X 9), wC cI (Q 10) (X 10), wC cI (Q 11) (X 11), wC cI (Q 12) (X 12), wC cI (Q 13) (X 13), wC cI (Q 14) (X 14), wC cI (Q 15) (X 15), wC cI (Q 16) (X 16), wXS cO (Q 17) (Q 18 0) (Q 19 0), wC cI (Q 18) (X 18), wC cI (Q 19) (X 19), wXF cZ (Q 20) (X 20), wA (Q 21) (X 21), wP (Q 22) (X 22), wO cB (Q 23) (X 23), wM cI cB cZ q z] ⟨hx, hb, hml, hown, hts⟩ (mL_isTrue l D cI cB cZ cO cJ aK aV mK hst Q a _ fu o (X 0) (X 1) (X 2) (X 3) (X 4) (X 5) (X 6) (X 7) (X 8) (X 9) (X 10) (X 11) (X 12) (X 13) (X 14) (X 15) (X 16) (X 17) (X 18) (X 19) (X 20) (X 21) (X 22) (X 23) a1 a2 hcw1) (vx_cwSW 4 hts gL_law_L_isTrue rfl rfl rfl (by decide +kernel) ⟨Nat.le_of_ble_eq_true rfl, Nat.le_of_ble_eq_true rfl⟩) (EW_ok aK aV mK) ((EW_ok aK aV mK).2.2.1 _ _ _ _ hS.2.1 hE) hK hP hD hS hA [0, 1, 2, 3, 4, 5, 6, 7, 8, 9, 10, 11, 12, 13, 14, 15, 16, 17, 18, 19, 20, 21, 22, 23, 24] [25] 26 rfl (by decide +kernel) rfl rfl [wM cI cB cZ q z] rfl rfl rfl rfl hl.1 rfl (Nat.le_of_ble_eq_true rfl) dL_law_1911 ⟨by show _ ≤ 601024; omega, by show _ ≤ 7293034; omega⟩ (fun H locs hP hD hS => ?_)
  refine lv_istore (lv' := [(5, .int w1.1), (0, .ref b), (1, .ref (Q 0 0)), (2, .ref (q 0)), (3, .ref a), (4, .int i)]) hx hb dL_law_1914 hl (by decide) rfl (fun ls hl => ?_)
  refine lv_aload_n hx hb dL_law_1916 rfl (lv_at hl 3 rfl) ?_
  refine lv_aload_n hx hb dL_law_1917 rfl (lv_at hl 1 rfl) ?_
  refine lv_iload hx hb dL_law_1918 (lv_at hl 5 rfl) ?_
  refine lv_iconst (v := 1) hx hb dL_law_1920 (by decide) ?_
  refine lv_iadd hx hb dL_law_1921 ?_
  refine va_sldE hx hb hX hbl hbA hS n1 e1 dL_law_1922 ?_
  refine lv_aload_n hx hb dL_law_1923 rfl (lv_at hl 1 rfl) ?_
  refine lv_iload hx hb dL_law_1924 (lv_at hl 5 rfl) ?_
  refine lv_iconst (v := 2) hx hb dL_law_1926 (by decide) ?_
  refine lv_iadd hx hb dL_law_1927 ?_
  refine va_sldE hx hb hX hbl hbA hS n2 e2 dL_law_1928 ?_
  obtain ⟨w2, hcw2, hf⟩ := bd_ob hf
  refine wrVb (As := [.int a1, .int a2]) (rest := []) [wL cJ a w1.2, wXO Q, wC cI (Q 1) (X 1), wC cI (Q 2) (X 2), wS (Q 3) (Q 4 0) (Q 5 0) (Q 6 0) (Q 7 0) (X 3), wT cB (Q 4) (X 4), wC cI (Q 5) (X 5), wA (Q 6) (X 6), wP (Q 7) (X 7), wH cO (Q 8) (Q 9 0) (Q 10 0) (Q 11 0) (Q 12 0) (Q 13 0) (Q 14 0) (Q 15 0) (Q 16 0) (X 8), wC cI (Q 9) (X 9), wC cI (Q 10) (X 10), wC cI (Q 11) (X 11), wC cI (Q 12) (X 12), wC cI (Q 13) (X 13), wC cI (Q 14) (X 14), wC cI (Q 15) (X 15), wC cI (Q 16) (X 16), wXS cO (Q 17) (Q 18 0) (Q 19 0), wC cI (Q 18) (X 18), wC cI (Q 19) (X 19), wXF cZ (Q 20) (X 20), wA (Q 21) (X 21), wP (Q 22) (X 22), wO cB (Q 23) (X 23), wM cI cB cZ q w2.2] ⟨hx, hb, hml, hown, hts⟩ (mX9_isTrue l D cI cB cZ cO q _ fu z a1 a2 hcw2) (cwV 2 hts gL_law_X9_isTrue rfl rfl rfl (by decide +kernel) ⟨Nat.le_of_ble_eq_true rfl, Nat.le_of_ble_eq_true rfl⟩) (hK.sub [0, 1, 2, 3] rfl) hP hD hS hA [25] [0, 1, 2, 3, 4, 5, 6, 7, 8, 9, 10, 11, 12, 13, 14, 15, 16, 17, 18, 19, 20, 21, 22, 23, 24] 26 rfl (by decide +kernel) rfl rfl [wL cJ a w1.2, wXO Q, wC cI (Q 1) (X 1), wC cI (Q 2) (X 2), wS (Q 3) (Q 4 0) (Q 5 0) (Q 6 0) (Q 7 0) (X 3), wT cB (Q 4) (X 4), wC cI (Q 5) (X 5), wA (Q 6) (X 6), wP (Q 7) (X 7), wH cO (Q 8) (Q 9 0) (Q 10 0) (Q 11 0) (Q 12 0) (Q 13 0) (Q 14 0) (Q 15 0) (Q 16 0) (X 8), wC cI (Q 9) (X 9), wC cI (Q 10) (X 10), wC cI (Q 11) (X 11), wC cI (Q 12) (X 12), wC cI (Q 13) (X 13), wC cI (Q 14) (X 14), wC cI (Q 15) (X 15), wC cI (Q 16) (X 16), wXS cO (Q 17) (Q 18 0) (Q 19 0), wC cI (Q 18) (X 18), wC cI (Q 19) (X 19), wXF cZ (Q 20) (X 20), wA (Q 21) (X 21), wP (Q 22) (X 22), wO cB (Q 23) (X 23)] rfl rfl rfl (va_recv hK hP (ci := 8) (q0 := 106) rfl rfl) rfl hl.1 rfl (Nat.le_of_ble_eq_true rfl) dL_law_1929 ⟨by show _ ≤ 601024; omega, by show _ ≤ 7293034; omega⟩ (fun H locs hP hD hS => ?_)
  refine lv_istore (lv' := [(6, .int w2.1), (5, .int w1.1), (0, .ref b), (1, .ref (Q 0 0)), (2, .ref (q 0)), (3, .ref a), (4, .int i)]) hx hb dL_law_1932 hl (by decide) rfl (fun ls hl => ?_)
  refine lv_aload_n hx hb dL_law_1934 rfl (lv_at hl 4 rfl) ?_
  obtain ⟨w3, hcw3, hf⟩ := bd_ob hf
  refine rdV (As := []) (rest := []) ⟨hx, hb, hml, hown, hts⟩ (mX9_thrown l D cI cB cZ cO q fu w2.2 hcw3) (cwV 0 hts gL_law_X9_thrown rfl rfl rfl (by decide +kernel) ⟨Nat.le_of_ble_eq_true rfl, Nat.le_of_ble_eq_true rfl⟩) (hK.sub [0, 1, 2, 3] rfl) (hP.subb [25] rfl) (va_recv hK hP (ci := 8) (q0 := 106) rfl rfl) rfl hl.1 rfl (Nat.le_of_ble_eq_true rfl) dL_law_1935 ⟨by show _ ≤ 601024; omega, by show _ ≤ 7293034; omega⟩ ?_
  refine lv_iload hx hb dL_law_1938 (lv_at hl 1 rfl) ?_
  refine lv_icmp_eq (tgt := 1945) hx hb dL_law_1940 (by decide) (fun c8 => ?_) (fun c8 => ?_)
  · have hf := ip c8 hf
    refine lv_iload hx hb dL_law_1945 (lv_at hl 1 rfl) ?_
    refine lv_if_ne (tgt := 1969) hx hb dL_law_1947 (by decide) (fun c7 => ?_) (fun c7 => ?_)
    · have hf := iq c7 hf
      refine lv_goto (tgt := 2902) hx hb dL_law_1969 (by decide) ?_
      cases hf
      refine W.widen (k := cells + 8) (n := slots + 48) (by omega) (by omega) ?_
      exact kk _ _ _ hP hD hS (lv_sub hl [2, 3, 4, 5, 6] rfl)
    · have hf := ip c7 hf
      refine lv_aload_n hx hb dL_law_1950 rfl (lv_at hl 5 rfl) ?_
      refine lv_iconst (v := 0) hx hb dL_law_1951 (by decide) ?_
      refine va_lald hx hb hK hP 0 4 rfl rfl (inB_in (by decide)) dL_law_1952 ?_
      refine lv_iload hx hb dL_law_1953 (lv_at hl 0 rfl) ?_
      refine lv_if_eq (tgt := 1962) hx hb dL_law_1955 (by decide) (fun c6 => ?_) (fun c6 => ?_)
      · have hf := ip c6 hf
        refine lv_lconst (v := 0) hx hb dL_law_1962 (by decide) ?_
        refine W.lcmp hx hb dL_law_1963 ?_
        refine lv_if_eq (tgt := 1969) hx hb dL_law_1964 (by decide) (fun c4 => ?_) (fun c4 => ?_)
        · have hf := ip c4 hf
          refine lv_goto (tgt := 2902) hx hb dL_law_1969 (by decide) ?_
          cases hf
          refine W.widen (k := cells + 8) (n := slots + 48) (by omega) (by omega) ?_
          exact kk _ _ _ hP hD hS (lv_sub hl [2, 3, 4, 5, 6] rfl)
        · have hf := iq c4 hf
          exact no_ob hf
      · have hf := iq c6 hf
        refine lv_lconst (v := 1) hx hb dL_law_1958 (by decide) ?_
        refine lv_goto (tgt := 1963) hx hb dL_law_1959 (by decide) ?_
        refine W.lcmp hx hb dL_law_1963 ?_
        refine lv_if_eq (tgt := 1969) hx hb dL_law_1964 (by decide) (fun c5 => ?_) (fun c5 => ?_)
        · have hf := ip c5 hf
          refine lv_goto (tgt := 2902) hx hb dL_law_1969 (by decide) ?_
          cases hf
          refine W.widen (k := cells + 8) (n := slots + 48) (by omega) (by omega) ?_
          exact kk _ _ _ hP hD hS (lv_sub hl [2, 3, 4, 5, 6] rfl)
        · have hf := iq c5 hf
          exact no_ob hf
  · have hf := iq c8 hf
    exact no_ob hf
set_option maxRecDepth 100000 in
set_option maxHeartbeats 4000000 in
theorem wL_42 {p : Program} {l : Launch} {e : Env} {s : State} {m : MethodId} {args : Array Value} {below : List Frame} {meth : Method} {c : Code} {H : Heap} {locs : List Loc} {cells slots : Nat} {Qf : State → Prop} {ls : Array Slot} {D : va_G} {cI cB cZ cO cJ : ClassId} {aK aV mK : Nat → Nat} {Q : Nat → Nat → Nat} {q : Nat → Nat} {a b L fu : Nat} {xs : Nat → Int32} {A : Nat → Prop} {X X1 : Nat → OS} {z z1 : OS} {o o1 : Nat → Int64} {i a1 a2 a3 a4 a5 : Int32} (hst : l.stackTraces = false) (hx : p.tables.exec = Jvm.exec) (hb : c.code = cL_law) (hml : c.maxLocals = 9) (hown : s.vm.findClass RL = some m.cls) (hts : ∀ w ∈ lw_tbl, w.before args s = true) (hK : va_K D vwCl (gL cI cB cZ cO cJ) s) (hA : ∀ q : Nat, s.heap.size ≤ q → A q) (hX : va_X b L xs s s.heap) (hbl : b < s.heap.size) (hbA : ¬ A b) (hE : EW aK aV mK A s s.heap) (hS : va_S A s.heap H locs) (hl : lv_has ls 9 [(0, .ref b), (1, .ref (Q 0 0)), (2, .ref (q 0)), (3, .ref a), (4, .int i)]) (n1 : vp_in (i + 1) L) (n2 : vp_in (i + 2) L) (n3 : vp_in (i + 3) L) (n4 : vp_in (i + 4) L) (n5 : vp_in (i + 5) L) (e1 : xs (i + 1).toNatClampNeg = a1) (e2 : xs (i + 2).toNatClampNeg = a2) (e3 : xs (i + 3).toNatClampNeg = a3) (e4 : xs (i + 4).toNatClampNeg = a4) (e5 : xs (i + 5).toNatClampNeg = a5) (hcl : cells + 8 ≤ 601024) (hsl : slots + 48 ≤ 7293034) (kk : ∀ (H1 : Heap) (locs1 : List Loc) (ls1 : Array Slot), va_P D vwCl (fl (lawW cI cB cZ cO cJ Q q a X1 z1 o1)) H1 → va_D A (fl (lawW cI cB cZ cO cJ Q q a X1 z1 o1)) → va_S A s.heap H1 locs1 → lv_has ls1 9 [(0, .ref b), (1, .ref (Q 0 0)), (2, .ref (q 0)), (3, .ref a), (4, .int i)] → W p l e room_1 s m args below meth c H1 locs1 (cells + 8) (slots + 48) Qf (F0 m 2902 ls1 [])) (hP : va_P D vwCl (fl (lawW cI cB cZ cO cJ Q q a X z o)) H) (hD : va_D A (fl (lawW cI cB cZ cO cJ Q q a X z o))) (hf : cL_42 fu a1 a2 a3 a4 a5 X z o = some (X1, z1, o1)) : W p l e room_1 s m args below meth c H locs cells slots Qf (F0 m 1972 ls []) := by
  unfold cL_42 at hf
  refine lv_aload_n hx hb dL_law_1972 rfl (lv_at hl 1 rfl) ?_
  refine lv_aload_n hx hb dL_law_1973 rfl (lv_at hl 0 rfl) ?_
  refine lv_iload hx hb dL_law_1974 (lv_at hl 4 rfl) ?_
  refine lv_iconst (v := 1) hx hb dL_law_1976 (by decide) ?_
  refine lv_iadd hx hb dL_law_1977 ?_
  refine va_sldE hx hb hX hbl hbA hS n1 e1 dL_law_1978 ?_
  refine lv_aload_n hx hb dL_law_1979 rfl (lv_at hl 3 rfl) ?_
  obtain ⟨w1, hcw1, hf⟩ := bd_ob hf
  refine wrSWb (As := [.ref (Q 0 0), .int a1, .ref a]) (rest := []) [wL cJ a w1.2, wXO Q, wC cI (Q 1) (X 1), wC cI (Q 2) (X 2), wS (Q 3) (Q 4 0) (Q 5 0) (Q 6 0) (Q 7 0) (X 3), wT cB (Q 4) (X 4), wC cI (Q 5) (X 5), wA (Q 6) (X 6), wP (Q 7) (X 7), wH cO (Q 8) (Q 9 0) (Q 10 0) (Q 11 0) (Q 12 0) (Q 13 0) (Q 14 0) (Q 15 0) (Q 16 0) (X 8), wC cI (Q 9) (X 9), wC cI (Q 10) (X 10), wC cI (Q 11) (X 11), wC cI (Q 12) (X 12), wC cI (Q 13) (X 13), wC cI (Q 14) (X 14), wC cI (Q 15) (X 15), wC cI (Q 16) (X 16), wXS cO (Q 17) (Q 18 0) (Q 19 0), wC cI (Q 18) (X 18), wC cI (Q 19) (X 19), wXF cZ (Q 20) (X 20), wA (Q 21) (X 21), wP (Q 22) (X 22), wO cB (Q 23) (X 23), wM cI cB cZ q z] ⟨hx, hb, hml, hown, hts⟩ (mL_falseClauses l D cI cB cZ cO cJ aK aV mK hst Q a _ fu o (X 0) (X 1) (X 2) (X 3) (X 4) (X 5) (X 6) (X 7) (X 8) (X 9) (X 10) (X 11) (X 12) (X 13) (X 14) (X 15) (X 16) (X 17) (X 18) (X 19) (X 20) (X 21) (X 22) (X 23) a1 hcw1) (vx_cwSW 3 hts gL_law_L_falseClauses rfl rfl rfl (by decide +kernel) ⟨Nat.le_of_ble_eq_true rfl, Nat.le_of_ble_eq_true rfl⟩) (EW_ok aK aV mK) ((EW_ok aK aV mK).2.2.1 _ _ _ _ hS.2.1 hE) hK hP hD hS hA [0, 1, 2, 3, 4, 5, 6, 7, 8, 9, 10, 11, 12, 13, 14, 15, 16, 17, 18, 19, 20, 21, 22, 23, 24] [25] 26 rfl (by decide +kernel) rfl rfl [wM cI cB cZ q z] rfl rfl rfl rfl hl.1 rfl (Nat.le_of_ble_eq_true rfl) dL_law_1980 ⟨by show _ ≤ 601024; omega, by show _ ≤ 7293034; omega⟩ (fun H locs hP hD hS => ?_)
  refine lv_istore (lv' := [(5, .int w1.1), (0, .ref b), (1, .ref (Q 0 0)), (2, .ref (q 0)), (3, .ref a), (4, .int i)]) hx hb dL_law_1983 hl (by decide) rfl (fun ls hl => ?_)
  refine lv_aload_n hx hb dL_law_1985 rfl (lv_at hl 3 rfl) ?_
  refine lv_aload_n hx hb dL_law_1986 rfl (lv_at hl 1 rfl) ?_
  refine lv_iload hx hb dL_law_1987 (lv_at hl 5 rfl) ?_
  refine lv_iconst (v := 1) hx hb dL_law_1989 (by decide) ?_
  refine lv_iadd hx hb dL_law_1990 ?_
  refine va_sldE hx hb hX hbl hbA hS n1 e1 dL_law_1991 ?_
  obtain ⟨w2, hcw2, hf⟩ := bd_ob hf
  refine wrVb (As := [.int a1]) (rest := []) [wL cJ a w1.2, wXO Q, wC cI (Q 1) (X 1), wC cI (Q 2) (X 2), wS (Q 3) (Q 4 0) (Q 5 0) (Q 6 0) (Q 7 0) (X 3), wT cB (Q 4) (X 4), wC cI (Q 5) (X 5), wA (Q 6) (X 6), wP (Q 7) (X 7), wH cO (Q 8) (Q 9 0) (Q 10 0) (Q 11 0) (Q 12 0) (Q 13 0) (Q 14 0) (Q 15 0) (Q 16 0) (X 8), wC cI (Q 9) (X 9), wC cI (Q 10) (X 10), wC cI (Q 11) (X 11), wC cI (Q 12) (X 12), wC cI (Q 13) (X 13), wC cI (Q 14) (X 14), wC cI (Q 15) (X 15), wC cI (Q 16) (X 16), wXS cO (Q 17) (Q 18 0) (Q 19 0), wC cI (Q 18) (X 18), wC cI (Q 19) (X 19), wXF cZ (Q 20) (X 20), wA (Q 21) (X 21), wP (Q 22) (X 22), wO cB (Q 23) (X 23), wM cI cB cZ q w2.2] ⟨hx, hb, hml, hown, hts⟩ (mX9_falseClauses l D cI cB cZ cO q _ fu z a1 hcw2) (cwV 1 hts gL_law_X9_falseClauses rfl rfl rfl (by decide +kernel) ⟨Nat.le_of_ble_eq_true rfl, Nat.le_of_ble_eq_true rfl⟩) (hK.sub [0, 1, 2, 3] rfl) hP hD hS hA [25] [0, 1, 2, 3, 4, 5, 6, 7, 8, 9, 10, 11, 12, 13, 14, 15, 16, 17, 18, 19, 20, 21, 22, 23, 24] 26 rfl (by decide +kernel) rfl rfl [wL cJ a w1.2, wXO Q, wC cI (Q 1) (X 1), wC cI (Q 2) (X 2), wS (Q 3) (Q 4 0) (Q 5 0) (Q 6 0) (Q 7 0) (X 3), wT cB (Q 4) (X 4), wC cI (Q 5) (X 5), wA (Q 6) (X 6), wP (Q 7) (X 7), wH cO (Q 8) (Q 9 0) (Q 10 0) (Q 11 0) (Q 12 0) (Q 13 0) (Q 14 0) (Q 15 0) (Q 16 0) (X 8), wC cI (Q 9) (X 9), wC cI (Q 10) (X 10), wC cI (Q 11) (X 11), wC cI (Q 12) (X 12), wC cI (Q 13) (X 13), wC cI (Q 14) (X 14), wC cI (Q 15) (X 15), wC cI (Q 16) (X 16), wXS cO (Q 17) (Q 18 0) (Q 19 0), wC cI (Q 18) (X 18), wC cI (Q 19) (X 19), wXF cZ (Q 20) (X 20), wA (Q 21) (X 21), wP (Q 22) (X 22), wO cB (Q 23) (X 23)] rfl rfl rfl (va_recv hK hP (ci := 8) (q0 := 106) rfl rfl) rfl hl.1 rfl (Nat.le_of_ble_eq_true rfl) dL_law_1992 ⟨by show _ ≤ 601024; omega, by show _ ≤ 7293034; omega⟩ (fun H locs hP hD hS => ?_)
  refine lv_istore (lv' := [(6, .int w2.1), (5, .int w1.1), (0, .ref b), (1, .ref (Q 0 0)), (2, .ref (q 0)), (3, .ref a), (4, .int i)]) hx hb dL_law_1995 hl (by decide) rfl (fun ls hl => ?_)
  refine lv_aload_n hx hb dL_law_1997 rfl (lv_at hl 4 rfl) ?_
  obtain ⟨w3, hcw3, hf⟩ := bd_ob hf
  refine rdV (As := []) (rest := []) ⟨hx, hb, hml, hown, hts⟩ (mX9_thrown l D cI cB cZ cO q fu w2.2 hcw3) (cwV 0 hts gL_law_X9_thrown rfl rfl rfl (by decide +kernel) ⟨Nat.le_of_ble_eq_true rfl, Nat.le_of_ble_eq_true rfl⟩) (hK.sub [0, 1, 2, 3] rfl) (hP.subb [25] rfl) (va_recv hK hP (ci := 8) (q0 := 106) rfl rfl) rfl hl.1 rfl (Nat.le_of_ble_eq_true rfl) dL_law_1998 ⟨by show _ ≤ 601024; omega, by show _ ≤ 7293034; omega⟩ ?_
  refine lv_iload hx hb dL_law_2001 (lv_at hl 1 rfl) ?_
  refine lv_icmp_eq (tgt := 2008) hx hb dL_law_2003 (by decide) (fun c6 => ?_) (fun c6 => ?_)
  · have hf := ip c6 hf
    refine lv_iload hx hb dL_law_2008 (lv_at hl 1 rfl) ?_
    refine lv_if_ne (tgt := 2025) hx hb dL_law_2010 (by decide) (fun c5 => ?_) (fun c5 => ?_)
    · have hf := iq c5 hf
      refine lv_goto (tgt := 2902) hx hb dL_law_2025 (by decide) ?_
      cases hf
      refine W.widen (k := cells + 8) (n := slots + 48) (by omega) (by omega) ?_
      exact kk _ _ _ hP hD hS (lv_sub hl [2, 3, 4, 5, 6] rfl)
    · have hf := ip c5 hf
      refine lv_aload_n hx hb dL_law_2013 rfl (lv_at hl 5 rfl) ?_
      refine lv_iconst (v := 0) hx hb dL_law_2014 (by decide) ?_
      refine va_lald hx hb hK hP 0 4 rfl rfl (inB_in (by decide)) dL_law_2015 ?_
      refine lv_iload hx hb dL_law_2016 (lv_at hl 0 rfl) ?_
      refine lv_i2l hx hb dL_law_2018 rfl ?_
      refine W.lcmp hx hb dL_law_2019 ?_
      refine lv_if_eq (tgt := 2025) hx hb dL_law_2020 (by decide) (fun c4 => ?_) (fun c4 => ?_)
      · have hf := ip c4 hf
        refine lv_goto (tgt := 2902) hx hb dL_law_2025 (by decide) ?_
        cases hf
        refine W.widen (k := cells + 8) (n := slots + 48) (by omega) (by omega) ?_
        exact kk _ _ _ hP hD hS (lv_sub hl [2, 3, 4, 5, 6] rfl)
      · have hf := iq c4 hf
        exact no_ob hf
  · have hf := iq c6 hf
    exact no_ob hf
set_option maxRecDepth 100000 in
set_option maxHeartbeats 4000000 in
theorem wL_43 {p : Program} {l : Launch} {e : Env} {s : State} {m : MethodId} {args : Array Value} {below : List Frame} {meth : Method} {c : Code} {H : Heap} {locs : List Loc} {cells slots : Nat} {Qf : State → Prop} {ls : Array Slot} {D : va_G} {cI cB cZ cO cJ : ClassId} {aK aV mK : Nat → Nat} {Q : Nat → Nat → Nat} {q : Nat → Nat} {a b L fu : Nat} {xs : Nat → Int32} {A : Nat → Prop} {X X1 : Nat → OS} {z z1 : OS} {o o1 : Nat → Int64} {i a1 a2 a3 a4 a5 : Int32} (hst : l.stackTraces = false) (hx : p.tables.exec = Jvm.exec) (hb : c.code = cL_law) (hml : c.maxLocals = 9) (hown : s.vm.findClass RL = some m.cls) (hts : ∀ w ∈ lw_tbl, w.before args s = true) (hK : va_K D vwCl (gL cI cB cZ cO cJ) s) (hA : ∀ q : Nat, s.heap.size ≤ q → A q) (hX : va_X b L xs s s.heap) (hbl : b < s.heap.size) (hbA : ¬ A b) (hE : EW aK aV mK A s s.heap) (hS : va_S A s.heap H locs) (hl : lv_has ls 9 [(0, .ref b), (1, .ref (Q 0 0)), (2, .ref (q 0)), (3, .ref a), (4, .int i)]) (n1 : vp_in (i + 1) L) (n2 : vp_in (i + 2) L) (n3 : vp_in (i + 3) L) (n4 : vp_in (i + 4) L) (n5 : vp_in (i + 5) L) (e1 : xs (i + 1).toNatClampNeg = a1) (e2 : xs (i + 2).toNatClampNeg = a2) (e3 : xs (i + 3).toNatClampNeg = a3) (e4 : xs (i + 4).toNatClampNeg = a4) (e5 : xs (i + 5).toNatClampNeg = a5) (hcl : cells + 8 ≤ 601024) (hsl : slots + 48 ≤ 7293034) (kk : ∀ (H1 : Heap) (locs1 : List Loc) (ls1 : Array Slot), va_P D vwCl (fl (lawW cI cB cZ cO cJ Q q a X1 z1 o1)) H1 → va_D A (fl (lawW cI cB cZ cO cJ Q q a X1 z1 o1)) → va_S A s.heap H1 locs1 → lv_has ls1 9 [(0, .ref b), (1, .ref (Q 0 0)), (2, .ref (q 0)), (3, .ref a), (4, .int i)] → W p l e room_1 s m args below meth c H1 locs1 (cells + 8) (slots + 48) Qf (F0 m 2902 ls1 [])) (hP : va_P D vwCl (fl (lawW cI cB cZ cO cJ Q q a X z o)) H) (hD : va_D A (fl (lawW cI cB cZ cO cJ Q q a X z o))) (hf : cL_43 fu a1 a2 a3 a4 a5 X z o = some (X1, z1, o1)) : W p l e room_1 s m args below meth c H locs cells slots Qf (F0 m 2028 ls []) := by
  unfold cL_43 at hf
  refine lv_aload_n hx hb dL_law_2028 rfl (lv_at hl 1 rfl) ?_
  refine lv_aload_n hx hb dL_law_2029 rfl (lv_at hl 0 rfl) ?_
  refine lv_iload hx hb dL_law_2030 (lv_at hl 4 rfl) ?_
  refine lv_iconst (v := 1) hx hb dL_law_2032 (by decide) ?_
  refine lv_iadd hx hb dL_law_2033 ?_
  refine va_sldE hx hb hX hbl hbA hS n1 e1 dL_law_2034 ?_
  refine lv_aload_n hx hb dL_law_2035 rfl (lv_at hl 3 rfl) ?_
  obtain ⟨w1, hcw1, hf⟩ := bd_ob hf
  refine wrSWb (As := [.ref (Q 0 0), .int a1, .ref a]) (rest := []) [wL cJ a w1.2, wXO Q, wC cI (Q 1) (X 1), wC cI (Q 2) (X 2), wS (Q 3) (Q 4 0) (Q 5 0) (Q 6 0) (Q 7 0) (X 3), wT cB (Q 4) (X 4), wC cI (Q 5) (X 5), wA (Q 6) (X 6), wP (Q 7) (X 7), wH cO (Q 8) (Q 9 0) (Q 10 0) (Q 11 0) (Q 12 0) (Q 13 0) (Q 14 0) (Q 15 0) (Q 16 0) (X 8), wC cI (Q 9) (X 9), wC cI (Q 10) (X 10), wC cI (Q 11) (X 11), wC cI (Q 12) (X 12), wC cI (Q 13) (X 13), wC cI (Q 14) (X 14), wC cI (Q 15) (X 15), wC cI (Q 16) (X 16), wXS cO (Q 17) (Q 18 0) (Q 19 0), wC cI (Q 18) (X 18), wC cI (Q 19) (X 19), wXF cZ (Q 20) (X 20), wA (Q 21) (X 21), wP (Q 22) (X 22), wO cB (Q 23) (X 23), wM cI cB cZ q z] ⟨hx, hb, hml, hown, hts⟩ (mL_bestFlip l D cI cB cZ cO cJ aK aV mK hst Q a _ fu o (X 0) (X 1) (X 2) (X 3) (X 4) (X 5) (X 6) (X 7) (X 8) (X 9) (X 10) (X 11) (X 12) (X 13) (X 14) (X 15) (X 16) (X 17) (X 18) (X 19) (X 20) (X 21) (X 22) (X 23) a1 hcw1) (vx_cwSW 3 hts gL_law_L_bestFlip rfl rfl rfl (by decide +kernel) ⟨Nat.le_of_ble_eq_true rfl, Nat.le_of_ble_eq_true rfl⟩) (EW_ok aK aV mK) ((EW_ok aK aV mK).2.2.1 _ _ _ _ hS.2.1 hE) hK hP hD hS hA [0, 1, 2, 3, 4, 5, 6, 7, 8, 9, 10, 11, 12, 13, 14, 15, 16, 17, 18, 19, 20, 21, 22, 23, 24] [25] 26 rfl (by decide +kernel) rfl rfl [wM cI cB cZ q z] rfl rfl rfl rfl hl.1 rfl (Nat.le_of_ble_eq_true rfl) dL_law_2036 ⟨by show _ ≤ 601024; omega, by show _ ≤ 7293034; omega⟩ (fun H locs hP hD hS => ?_)
  refine lv_istore (lv' := [(5, .int w1.1), (0, .ref b), (1, .ref (Q 0 0)), (2, .ref (q 0)), (3, .ref a), (4, .int i)]) hx hb dL_law_2039 hl (by decide) rfl (fun ls hl => ?_)
  refine lv_aload_n hx hb dL_law_2041 rfl (lv_at hl 3 rfl) ?_
  refine lv_aload_n hx hb dL_law_2042 rfl (lv_at hl 1 rfl) ?_
  refine lv_iload hx hb dL_law_2043 (lv_at hl 5 rfl) ?_
  refine lv_iconst (v := 1) hx hb dL_law_2045 (by decide) ?_
  refine lv_iadd hx hb dL_law_2046 ?_
  refine va_sldE hx hb hX hbl hbA hS n1 e1 dL_law_2047 ?_
  obtain ⟨w2, hcw2, hf⟩ := bd_ob hf
  refine wrVb (As := [.int a1]) (rest := []) [wL cJ a w1.2, wXO Q, wC cI (Q 1) (X 1), wC cI (Q 2) (X 2), wS (Q 3) (Q 4 0) (Q 5 0) (Q 6 0) (Q 7 0) (X 3), wT cB (Q 4) (X 4), wC cI (Q 5) (X 5), wA (Q 6) (X 6), wP (Q 7) (X 7), wH cO (Q 8) (Q 9 0) (Q 10 0) (Q 11 0) (Q 12 0) (Q 13 0) (Q 14 0) (Q 15 0) (Q 16 0) (X 8), wC cI (Q 9) (X 9), wC cI (Q 10) (X 10), wC cI (Q 11) (X 11), wC cI (Q 12) (X 12), wC cI (Q 13) (X 13), wC cI (Q 14) (X 14), wC cI (Q 15) (X 15), wC cI (Q 16) (X 16), wXS cO (Q 17) (Q 18 0) (Q 19 0), wC cI (Q 18) (X 18), wC cI (Q 19) (X 19), wXF cZ (Q 20) (X 20), wA (Q 21) (X 21), wP (Q 22) (X 22), wO cB (Q 23) (X 23), wM cI cB cZ q w2.2] ⟨hx, hb, hml, hown, hts⟩ (mX9_bestFlip l D cI cB cZ cO q _ fu z a1 hcw2) (cwV 1 hts gL_law_X9_bestFlip rfl rfl rfl (by decide +kernel) ⟨Nat.le_of_ble_eq_true rfl, Nat.le_of_ble_eq_true rfl⟩) (hK.sub [0, 1, 2, 3] rfl) hP hD hS hA [25] [0, 1, 2, 3, 4, 5, 6, 7, 8, 9, 10, 11, 12, 13, 14, 15, 16, 17, 18, 19, 20, 21, 22, 23, 24] 26 rfl (by decide +kernel) rfl rfl [wL cJ a w1.2, wXO Q, wC cI (Q 1) (X 1), wC cI (Q 2) (X 2), wS (Q 3) (Q 4 0) (Q 5 0) (Q 6 0) (Q 7 0) (X 3), wT cB (Q 4) (X 4), wC cI (Q 5) (X 5), wA (Q 6) (X 6), wP (Q 7) (X 7), wH cO (Q 8) (Q 9 0) (Q 10 0) (Q 11 0) (Q 12 0) (Q 13 0) (Q 14 0) (Q 15 0) (Q 16 0) (X 8), wC cI (Q 9) (X 9), wC cI (Q 10) (X 10), wC cI (Q 11) (X 11), wC cI (Q 12) (X 12), wC cI (Q 13) (X 13), wC cI (Q 14) (X 14), wC cI (Q 15) (X 15), wC cI (Q 16) (X 16), wXS cO (Q 17) (Q 18 0) (Q 19 0), wC cI (Q 18) (X 18), wC cI (Q 19) (X 19), wXF cZ (Q 20) (X 20), wA (Q 21) (X 21), wP (Q 22) (X 22), wO cB (Q 23) (X 23)] rfl rfl rfl (va_recv hK hP (ci := 8) (q0 := 106) rfl rfl) rfl hl.1 rfl (Nat.le_of_ble_eq_true rfl) dL_law_2048 ⟨by show _ ≤ 601024; omega, by show _ ≤ 7293034; omega⟩ (fun H locs hP hD hS => ?_)
  refine lv_istore (lv' := [(6, .int w2.1), (5, .int w1.1), (0, .ref b), (1, .ref (Q 0 0)), (2, .ref (q 0)), (3, .ref a), (4, .int i)]) hx hb dL_law_2051 hl (by decide) rfl (fun ls hl => ?_)
  refine lv_aload_n hx hb dL_law_2053 rfl (lv_at hl 4 rfl) ?_
  obtain ⟨w3, hcw3, hf⟩ := bd_ob hf
  refine rdV (As := []) (rest := []) ⟨hx, hb, hml, hown, hts⟩ (mX9_thrown l D cI cB cZ cO q fu w2.2 hcw3) (cwV 0 hts gL_law_X9_thrown rfl rfl rfl (by decide +kernel) ⟨Nat.le_of_ble_eq_true rfl, Nat.le_of_ble_eq_true rfl⟩) (hK.sub [0, 1, 2, 3] rfl) (hP.subb [25] rfl) (va_recv hK hP (ci := 8) (q0 := 106) rfl rfl) rfl hl.1 rfl (Nat.le_of_ble_eq_true rfl) dL_law_2054 ⟨by show _ ≤ 601024; omega, by show _ ≤ 7293034; omega⟩ ?_
  refine lv_iload hx hb dL_law_2057 (lv_at hl 1 rfl) ?_
  refine lv_icmp_eq (tgt := 2064) hx hb dL_law_2059 (by decide) (fun c6 => ?_) (fun c6 => ?_)
  · have hf := ip c6 hf
    refine lv_iload hx hb dL_law_2064 (lv_at hl 1 rfl) ?_
    refine lv_if_ne (tgt := 2081) hx hb dL_law_2066 (by decide) (fun c5 => ?_) (fun c5 => ?_)
    · have hf := iq c5 hf
      refine lv_goto (tgt := 2902) hx hb dL_law_2081 (by decide) ?_
      cases hf
      refine W.widen (k := cells + 8) (n := slots + 48) (by omega) (by omega) ?_
      exact kk _ _ _ hP hD hS (lv_sub hl [2, 3, 4, 5, 6] rfl)
    · have hf := ip c5 hf
      refine lv_aload_n hx hb dL_law_2069 rfl (lv_at hl 5 rfl) ?_
      refine lv_iconst (v := 0) hx hb dL_law_2070 (by decide) ?_
      refine va_lald hx hb hK hP 0 4 rfl rfl (inB_in (by decide)) dL_law_2071 ?_
      refine lv_iload hx hb dL_law_2072 (lv_at hl 0 rfl) ?_
      refine lv_i2l hx hb dL_law_2074 rfl ?_
      refine W.lcmp hx hb dL_law_2075 ?_
      refine lv_if_eq (tgt := 2081) hx hb dL_law_2076 (by decide) (fun c4 => ?_) (fun c4 => ?_)
      · have hf := ip c4 hf
        refine lv_goto (tgt := 2902) hx hb dL_law_2081 (by decide) ?_
        cases hf
        refine W.widen (k := cells + 8) (n := slots + 48) (by omega) (by omega) ?_
        exact kk _ _ _ hP hD hS (lv_sub hl [2, 3, 4, 5, 6] rfl)
      · have hf := iq c4 hf
        exact no_ob hf
  · have hf := iq c6 hf
    exact no_ob hf
set_option maxRecDepth 100000 in
set_option maxHeartbeats 4000000 in
theorem wL_44 {p : Program} {l : Launch} {e : Env} {s : State} {m : MethodId} {args : Array Value} {below : List Frame} {meth : Method} {c : Code} {H : Heap} {locs : List Loc} {cells slots : Nat} {Qf : State → Prop} {ls : Array Slot} {D : va_G} {cI cB cZ cO cJ : ClassId} {aK aV mK : Nat → Nat} {Q : Nat → Nat → Nat} {q : Nat → Nat} {a b L fu : Nat} {xs : Nat → Int32} {A : Nat → Prop} {X X1 : Nat → OS} {z z1 : OS} {o o1 : Nat → Int64} {i a1 a2 a3 a4 a5 : Int32} (hst : l.stackTraces = false) (hx : p.tables.exec = Jvm.exec) (hb : c.code = cL_law) (hml : c.maxLocals = 9) (hown : s.vm.findClass RL = some m.cls) (hts : ∀ w ∈ lw_tbl, w.before args s = true) (hK : va_K D vwCl (gL cI cB cZ cO cJ) s) (hA : ∀ q : Nat, s.heap.size ≤ q → A q) (hX : va_X b L xs s s.heap) (hbl : b < s.heap.size) (hbA : ¬ A b) (hE : EW aK aV mK A s s.heap) (hS : va_S A s.heap H locs) (hl : lv_has ls 9 [(0, .ref b), (1, .ref (Q 0 0)), (2, .ref (q 0)), (3, .ref a), (4, .int i)]) (n1 : vp_in (i + 1) L) (n2 : vp_in (i + 2) L) (n3 : vp_in (i + 3) L) (n4 : vp_in (i + 4) L) (n5 : vp_in (i + 5) L) (e1 : xs (i + 1).toNatClampNeg = a1) (e2 : xs (i + 2).toNatClampNeg = a2) (e3 : xs (i + 3).toNatClampNeg = a3) (e4 : xs (i + 4).toNatClampNeg = a4) (e5 : xs (i + 5).toNatClampNeg = a5) (hcl : cells + 8 ≤ 601024) (hsl : slots + 48 ≤ 7293034) (kk : ∀ (H1 : Heap) (locs1 : List Loc) (ls1 : Array Slot), va_P D vwCl (fl (lawW cI cB cZ cO cJ Q q a X1 z1 o1)) H1 → va_D A (fl (lawW cI cB cZ cO cJ Q q a X1 z1 o1)) → va_S A s.heap H1 locs1 → lv_has ls1 9 [(0, .ref b), (1, .ref (Q 0 0)), (2, .ref (q 0)), (3, .ref a), (4, .int i)] → W p l e room_1 s m args below meth c H1 locs1 (cells + 8) (slots + 48) Qf (F0 m 2902 ls1 [])) (hP : va_P D vwCl (fl (lawW cI cB cZ cO cJ Q q a X z o)) H) (hD : va_D A (fl (lawW cI cB cZ cO cJ Q q a X z o))) (hf : cL_44 fu a1 a2 a3 a4 a5 X z o = some (X1, z1, o1)) : W p l e room_1 s m args below meth c H locs cells slots Qf (F0 m 2084 ls []) := by
  unfold cL_44 at hf
  refine lv_aload_n hx hb dL_law_2084 rfl (lv_at hl 1 rfl) ?_
  obtain ⟨w1, hcw1, hf⟩ := bd_ob hf
  refine rdV (As := []) (rest := []) ⟨hx, hb, hml, hown, hts⟩ (mX8_alwaysTrue l D cI cB cZ cO Q fu (X 0) (X 1) (X 2) (X 3) (X 4) (X 5) (X 6) (X 7) (X 8) (X 9) (X 10) (X 11) (X 12) (X 13) (X 14) (X 15) (X 16) (X 17) (X 18) (X 19) (X 20) (X 21) (X 22) (X 23) hcw1) (cwV 0 hts gL_law_X8_alwaysTrue rfl rfl rfl (by decide +kernel) ⟨Nat.le_of_ble_eq_true rfl, Nat.le_of_ble_eq_true rfl⟩) (hK.sub [0, 1, 2, 3] rfl) (hP.subb [1, 2, 3, 4, 5, 6, 7, 8, 9, 10, 11, 12, 13, 14, 15, 16, 17, 18, 19, 20, 21, 22, 23, 24] rfl) (va_recv hK hP (ci := 7) (q0 := 1) rfl rfl) rfl hl.1 rfl (Nat.le_of_ble_eq_true rfl) dL_law_2085 ⟨by show _ ≤ 601024; omega, by show _ ≤ 7293034; omega⟩ ?_
  refine lv_aload_n hx hb dL_law_2088 rfl (lv_at hl 2 rfl) ?_
  obtain ⟨w2, hcw2, hf⟩ := bd_ob hf
  refine wrVb (As := []) (rest := [.int w1]) [wL cJ a o, wXO Q, wC cI (Q 1) (X 1), wC cI (Q 2) (X 2), wS (Q 3) (Q 4 0) (Q 5 0) (Q 6 0) (Q 7 0) (X 3), wT cB (Q 4) (X 4), wC cI (Q 5) (X 5), wA (Q 6) (X 6), wP (Q 7) (X 7), wH cO (Q 8) (Q 9 0) (Q 10 0) (Q 11 0) (Q 12 0) (Q 13 0) (Q 14 0) (Q 15 0) (Q 16 0) (X 8), wC cI (Q 9) (X 9), wC cI (Q 10) (X 10), wC cI (Q 11) (X 11), wC cI (Q 12) (X 12), wC cI (Q 13) (X 13), wC cI (Q 14) (X 14), wC cI (Q 15) (X 15), wC cI (Q 16) (X 16), wXS cO (Q 17) (Q 18 0) (Q 19 0), wC cI (Q 18) (X 18), wC cI (Q 19) (X 19), wXF cZ (Q 20) (X 20), wA (Q 21) (X 21), wP (Q 22) (X 22), wO cB (Q 23) (X 23), wM cI cB cZ q w2.2] ⟨hx, hb, hml, hown, hts⟩ (mX9_alwaysTrue l D cI cB cZ cO q _ fu z hcw2) (cwV 0 hts gL_law_X9_alwaysTrue rfl rfl rfl (by decide +kernel) ⟨Nat.le_of_ble_eq_true rfl, Nat.le_of_ble_eq_true rfl⟩) (hK.sub [0, 1, 2, 3] rfl) hP hD hS hA [25] [0, 1, 2, 3, 4, 5, 6, 7, 8, 9, 10, 11, 12, 13, 14, 15, 16, 17, 18, 19, 20, 21, 22, 23, 24] 26 rfl (by decide +kernel) rfl rfl [wL cJ a o, wXO Q, wC cI (Q 1) (X 1), wC cI (Q 2) (X 2), wS (Q 3) (Q 4 0) (Q 5 0) (Q 6 0) (Q 7 0) (X 3), wT cB (Q 4) (X 4), wC cI (Q 5) (X 5), wA (Q 6) (X 6), wP (Q 7) (X 7), wH cO (Q 8) (Q 9 0) (Q 10 0) (Q 11 0) (Q 12 0) (Q 13 0) (Q 14 0) (Q 15 0) (Q 16 0) (X 8), wC cI (Q 9) (X 9), wC cI (Q 10) (X 10), wC cI (Q 11) (X 11), wC cI (Q 12) (X 12), wC cI (Q 13) (X 13), wC cI (Q 14) (X 14), wC cI (Q 15) (X 15), wC cI (Q 16) (X 16), wXS cO (Q 17) (Q 18 0) (Q 19 0), wC cI (Q 18) (X 18), wC cI (Q 19) (X 19), wXF cZ (Q 20) (X 20), wA (Q 21) (X 21), wP (Q 22) (X 22), wO cB (Q 23) (X 23)] rfl rfl rfl (va_recv hK hP (ci := 8) (q0 := 106) rfl rfl) rfl hl.1 rfl (Nat.le_of_ble_eq_true rfl) dL_law_2089 ⟨by show _ ≤ 601024; omega, by show _ ≤ 7293034; omega⟩ (fun H locs hP hD hS => ?_)
  refine lv_icmp_eq (tgt := 2902) hx hb dL_law_2092 (by decide) (fun c3 => ?_) (fun c3 => ?_)
  · have hf := ip c3 hf
    cases hf
    refine W.widen (k := cells + 8) (n := slots + 48) (by omega) (by omega) ?_
    exact kk _ _ _ hP hD hS (lv_sub hl [0, 1, 2, 3, 4] rfl)
  · have hf := iq c3 hf
    exact no_ob hf
set_option maxRecDepth 100000 in
set_option maxHeartbeats 4000000 in
theorem wL_45 {p : Program} {l : Launch} {e : Env} {s : State} {m : MethodId} {args : Array Value} {below : List Frame} {meth : Method} {c : Code} {H : Heap} {locs : List Loc} {cells slots : Nat} {Qf : State → Prop} {ls : Array Slot} {D : va_G} {cI cB cZ cO cJ : ClassId} {aK aV mK : Nat → Nat} {Q : Nat → Nat → Nat} {q : Nat → Nat} {a b L fu : Nat} {xs : Nat → Int32} {A : Nat → Prop} {X X1 : Nat → OS} {z z1 : OS} {o o1 : Nat → Int64} {i a1 a2 a3 a4 a5 : Int32} (hst : l.stackTraces = false) (hx : p.tables.exec = Jvm.exec) (hb : c.code = cL_law) (hml : c.maxLocals = 9) (hown : s.vm.findClass RL = some m.cls) (hts : ∀ w ∈ lw_tbl, w.before args s = true) (hK : va_K D vwCl (gL cI cB cZ cO cJ) s) (hA : ∀ q : Nat, s.heap.size ≤ q → A q) (hX : va_X b L xs s s.heap) (hbl : b < s.heap.size) (hbA : ¬ A b) (hE : EW aK aV mK A s s.heap) (hS : va_S A s.heap H locs) (hl : lv_has ls 9 [(0, .ref b), (1, .ref (Q 0 0)), (2, .ref (q 0)), (3, .ref a), (4, .int i)]) (n1 : vp_in (i + 1) L) (n2 : vp_in (i + 2) L) (n3 : vp_in (i + 3) L) (n4 : vp_in (i + 4) L) (n5 : vp_in (i + 5) L) (e1 : xs (i + 1).toNatClampNeg = a1) (e2 : xs (i + 2).toNatClampNeg = a2) (e3 : xs (i + 3).toNatClampNeg = a3) (e4 : xs (i + 4).toNatClampNeg = a4) (e5 : xs (i + 5).toNatClampNeg = a5) (hcl : cells + 8 ≤ 601024) (hsl : slots + 48 ≤ 7293034) (kk : ∀ (H1 : Heap) (locs1 : List Loc) (ls1 : Array Slot), va_P D vwCl (fl (lawW cI cB cZ cO cJ Q q a X1 z1 o1)) H1 → va_D A (fl (lawW cI cB cZ cO cJ Q q a X1 z1 o1)) → va_S A s.heap H1 locs1 → lv_has ls1 9 [(0, .ref b), (1, .ref (Q 0 0)), (2, .ref (q 0)), (3, .ref a), (4, .int i)] → W p l e room_1 s m args below meth c H1 locs1 (cells + 8) (slots + 48) Qf (F0 m 2902 ls1 [])) (hP : va_P D vwCl (fl (lawW cI cB cZ cO cJ Q q a X z o)) H) (hD : va_D A (fl (lawW cI cB cZ cO cJ Q q a X z o))) (hf : cL_45 fu a1 a2 a3 a4 a5 X z o = some (X1, z1, o1)) : W p l e room_1 s m args below meth c H locs cells slots Qf (F0 m 2097 ls []) := by
  unfold cL_45 at hf
  refine lv_aload_n hx hb dL_law_2097 rfl (lv_at hl 1 rfl) ?_
  obtain ⟨w1, hcw1, hf⟩ := bd_ob hf
  refine rdV (As := []) (rest := []) ⟨hx, hb, hml, hown, hts⟩ (mX8_alwaysFalse l D cI cB cZ cO Q fu (X 0) (X 1) (X 2) (X 3) (X 4) (X 5) (X 6) (X 7) (X 8) (X 9) (X 10) (X 11) (X 12) (X 13) (X 14) (X 15) (X 16) (X 17) (X 18) (X 19) (X 20) (X 21) (X 22) (X 23) hcw1) (cwV 0 hts gL_law_X8_alwaysFalse rfl rfl rfl (by decide +kernel) ⟨Nat.le_of_ble_eq_true rfl, Nat.le_of_ble_eq_true rfl⟩) (hK.sub [0, 1, 2, 3] rfl) (hP.subb [1, 2, 3, 4, 5, 6, 7, 8, 9, 10, 11, 12, 13, 14, 15, 16, 17, 18, 19, 20, 21, 22, 23, 24] rfl) (va_recv hK hP (ci := 7) (q0 := 1) rfl rfl) rfl hl.1 rfl (Nat.le_of_ble_eq_true rfl) dL_law_2098 ⟨by show _ ≤ 601024; omega, by show _ ≤ 7293034; omega⟩ ?_
  refine lv_aload_n hx hb dL_law_2101 rfl (lv_at hl 2 rfl) ?_
  obtain ⟨w2, hcw2, hf⟩ := bd_ob hf
  refine wrVb (As := []) (rest := [.int w1]) [wL cJ a o, wXO Q, wC cI (Q 1) (X 1), wC cI (Q 2) (X 2), wS (Q 3) (Q 4 0) (Q 5 0) (Q 6 0) (Q 7 0) (X 3), wT cB (Q 4) (X 4), wC cI (Q 5) (X 5), wA (Q 6) (X 6), wP (Q 7) (X 7), wH cO (Q 8) (Q 9 0) (Q 10 0) (Q 11 0) (Q 12 0) (Q 13 0) (Q 14 0) (Q 15 0) (Q 16 0) (X 8), wC cI (Q 9) (X 9), wC cI (Q 10) (X 10), wC cI (Q 11) (X 11), wC cI (Q 12) (X 12), wC cI (Q 13) (X 13), wC cI (Q 14) (X 14), wC cI (Q 15) (X 15), wC cI (Q 16) (X 16), wXS cO (Q 17) (Q 18 0) (Q 19 0), wC cI (Q 18) (X 18), wC cI (Q 19) (X 19), wXF cZ (Q 20) (X 20), wA (Q 21) (X 21), wP (Q 22) (X 22), wO cB (Q 23) (X 23), wM cI cB cZ q w2.2] ⟨hx, hb, hml, hown, hts⟩ (mX9_alwaysFalse l D cI cB cZ cO q _ fu z hcw2) (cwV 0 hts gL_law_X9_alwaysFalse rfl rfl rfl (by decide +kernel) ⟨Nat.le_of_ble_eq_true rfl, Nat.le_of_ble_eq_true rfl⟩) (hK.sub [0, 1, 2, 3] rfl) hP hD hS hA [25] [0, 1, 2, 3, 4, 5, 6, 7, 8, 9, 10, 11, 12, 13, 14, 15, 16, 17, 18, 19, 20, 21, 22, 23, 24] 26 rfl (by decide +kernel) rfl rfl [wL cJ a o, wXO Q, wC cI (Q 1) (X 1), wC cI (Q 2) (X 2), wS (Q 3) (Q 4 0) (Q 5 0) (Q 6 0) (Q 7 0) (X 3), wT cB (Q 4) (X 4), wC cI (Q 5) (X 5), wA (Q 6) (X 6), wP (Q 7) (X 7), wH cO (Q 8) (Q 9 0) (Q 10 0) (Q 11 0) (Q 12 0) (Q 13 0) (Q 14 0) (Q 15 0) (Q 16 0) (X 8), wC cI (Q 9) (X 9), wC cI (Q 10) (X 10), wC cI (Q 11) (X 11), wC cI (Q 12) (X 12), wC cI (Q 13) (X 13), wC cI (Q 14) (X 14), wC cI (Q 15) (X 15), wC cI (Q 16) (X 16), wXS cO (Q 17) (Q 18 0) (Q 19 0), wC cI (Q 18) (X 18), wC cI (Q 19) (X 19), wXF cZ (Q 20) (X 20), wA (Q 21) (X 21), wP (Q 22) (X 22), wO cB (Q 23) (X 23)] rfl rfl rfl (va_recv hK hP (ci := 8) (q0 := 106) rfl rfl) rfl hl.1 rfl (Nat.le_of_ble_eq_true rfl) dL_law_2102 ⟨by show _ ≤ 601024; omega, by show _ ≤ 7293034; omega⟩ (fun H locs hP hD hS => ?_)
  refine lv_icmp_eq (tgt := 2902) hx hb dL_law_2105 (by decide) (fun c3 => ?_) (fun c3 => ?_)
  · have hf := ip c3 hf
    cases hf
    refine W.widen (k := cells + 8) (n := slots + 48) (by omega) (by omega) ?_
    exact kk _ _ _ hP hD hS (lv_sub hl [0, 1, 2, 3, 4] rfl)
  · have hf := iq c3 hf
    exact no_ob hf
set_option maxRecDepth 100000 in
set_option maxHeartbeats 4000000 in
theorem wL_46 {p : Program} {l : Launch} {e : Env} {s : State} {m : MethodId} {args : Array Value} {below : List Frame} {meth : Method} {c : Code} {H : Heap} {locs : List Loc} {cells slots : Nat} {Qf : State → Prop} {ls : Array Slot} {D : va_G} {cI cB cZ cO cJ : ClassId} {aK aV mK : Nat → Nat} {Q : Nat → Nat → Nat} {q : Nat → Nat} {a b L fu : Nat} {xs : Nat → Int32} {A : Nat → Prop} {X X1 : Nat → OS} {z z1 : OS} {o o1 : Nat → Int64} {i a1 a2 a3 a4 a5 : Int32} (hst : l.stackTraces = false) (hx : p.tables.exec = Jvm.exec) (hb : c.code = cL_law) (hml : c.maxLocals = 9) (hown : s.vm.findClass RL = some m.cls) (hts : ∀ w ∈ lw_tbl, w.before args s = true) (hK : va_K D vwCl (gL cI cB cZ cO cJ) s) (hA : ∀ q : Nat, s.heap.size ≤ q → A q) (hX : va_X b L xs s s.heap) (hbl : b < s.heap.size) (hbA : ¬ A b) (hE : EW aK aV mK A s s.heap) (hS : va_S A s.heap H locs) (hl : lv_has ls 9 [(0, .ref b), (1, .ref (Q 0 0)), (2, .ref (q 0)), (3, .ref a), (4, .int i)]) (n1 : vp_in (i + 1) L) (n2 : vp_in (i + 2) L) (n3 : vp_in (i + 3) L) (n4 : vp_in (i + 4) L) (n5 : vp_in (i + 5) L) (e1 : xs (i + 1).toNatClampNeg = a1) (e2 : xs (i + 2).toNatClampNeg = a2) (e3 : xs (i + 3).toNatClampNeg = a3) (e4 : xs (i + 4).toNatClampNeg = a4) (e5 : xs (i + 5).toNatClampNeg = a5) (hcl : cells + 8 ≤ 601024) (hsl : slots + 48 ≤ 7293034) (kk : ∀ (H1 : Heap) (locs1 : List Loc) (ls1 : Array Slot), va_P D vwCl (fl (lawW cI cB cZ cO cJ Q q a X1 z1 o1)) H1 → va_D A (fl (lawW cI cB cZ cO cJ Q q a X1 z1 o1)) → va_S A s.heap H1 locs1 → lv_has ls1 9 [(0, .ref b), (1, .ref (Q 0 0)), (2, .ref (q 0)), (3, .ref a), (4, .int i)] → W p l e room_1 s m args below meth c H1 locs1 (cells + 8) (slots + 48) Qf (F0 m 2902 ls1 [])) (hP : va_P D vwCl (fl (lawW cI cB cZ cO cJ Q q a X z o)) H) (hD : va_D A (fl (lawW cI cB cZ cO cJ Q q a X z o))) (hf : cL_46 fu a1 a2 a3 a4 a5 X z o = some (X1, z1, o1)) : W p l e room_1 s m args below meth c H locs cells slots Qf (F0 m 2110 ls []) := by
  unfold cL_46 at hf
  refine lv_aload_n hx hb dL_law_2110 rfl (lv_at hl 1 rfl) ?_
  refine lv_aload_n hx hb dL_law_2111 rfl (lv_at hl 0 rfl) ?_
  refine lv_iload hx hb dL_law_2112 (lv_at hl 4 rfl) ?_
  refine lv_iconst (v := 1) hx hb dL_law_2114 (by decide) ?_
  refine lv_iadd hx hb dL_law_2115 ?_
  refine va_sldE hx hb hX hbl hbA hS n1 e1 dL_law_2116 ?_
  refine lv_aload_n hx hb dL_law_2117 rfl (lv_at hl 0 rfl) ?_
  refine lv_iload hx hb dL_law_2118 (lv_at hl 4 rfl) ?_
  refine lv_iconst (v := 2) hx hb dL_law_2120 (by decide) ?_
  refine lv_iadd hx hb dL_law_2121 ?_
  refine va_sldE hx hb hX hbl hbA hS n2 e2 dL_law_2122 ?_
  refine lv_aload_n hx hb dL_law_2123 rfl (lv_at hl 3 rfl) ?_
  obtain ⟨w1, hcw1, hf⟩ := bd_ob hf
  refine wrSWb (As := [.ref (Q 0 0), .int a1, .int a2, .ref a]) (rest := []) [wL cJ a w1.2, wXO Q, wC cI (Q 1) (X 1), wC cI (Q 2) (X 2), wS (Q 3) (Q 4 0) (Q 5 0) (Q 6 0) (Q 7 0) (X 3), wT cB (Q 4) (X 4), wC cI (Q 5) (X 5), wA (Q 6) (X 6), wP (Q 7) (X 7), wH cO (Q 8) (Q 9 0) (Q 10 0) (Q 11 0) (Q 12 0) (Q 13 0) (Q 14 0) (Q 15 0) (Q 16 0) (X 8), wC cI (Q 9) (X 9), wC cI (Q 10) (X 10), wC cI (Q 11) (X 11), wC cI (Q 12) (X 12), wC cI (Q 13) (X 13), wC cI (Q 14) (X 14), wC cI (Q 15) (X 15), wC cI (Q 16) (X 16), wXS cO (Q 17) (Q 18 0) (Q 19 0), wC cI (Q 18) (X 18), wC cI (Q 19) (X 19), wXF cZ (Q 20) (X 20), wA (Q 21) (X 21), wP (Q 22) (X 22), wO cB (Q 23) (X 23), wM cI cB cZ q z] ⟨hx, hb, hml, hown, hts⟩ (mL_isImplied l D cI cB cZ cO cJ aK aV mK hst Q a _ fu o (X 0) (X 1) (X 2) (X 3) (X 4) (X 5) (X 6) (X 7) (X 8) (X 9) (X 10) (X 11) (X 12) (X 13) (X 14) (X 15) (X 16) (X 17) (X 18) (X 19) (X 20) (X 21) (X 22) (X 23) a1 a2 hcw1) (vx_cwSW 4 hts gL_law_L_isImplied rfl rfl rfl (by decide +kernel) ⟨Nat.le_of_ble_eq_true rfl, Nat.le_of_ble_eq_true rfl⟩) (EW_ok aK aV mK) ((EW_ok aK aV mK).2.2.1 _ _ _ _ hS.2.1 hE) hK hP hD hS hA [0, 1, 2, 3, 4, 5, 6, 7, 8, 9, 10, 11, 12, 13, 14, 15, 16, 17, 18, 19, 20, 21, 22, 23, 24] [25] 26 rfl (by decide +kernel) rfl rfl [wM cI cB cZ q z] rfl rfl rfl rfl hl.1 rfl (Nat.le_of_ble_eq_true rfl) dL_law_2124 ⟨by show _ ≤ 601024; omega, by show _ ≤ 7293034; omega⟩ (fun H locs hP hD hS => ?_)
  refine lv_istore (lv' := [(5, .int w1.1), (0, .ref b), (1, .ref (Q 0 0)), (2, .ref (q 0)), (3, .ref a), (4, .int i)]) hx hb dL_law_2127 hl (by decide) rfl (fun ls hl => ?_)
  refine lv_aload_n hx hb dL_law_2129 rfl (lv_at hl 3 rfl) ?_
  refine lv_aload_n hx hb dL_law_2130 rfl (lv_at hl 1 rfl) ?_
  refine lv_iload hx hb dL_law_2131 (lv_at hl 5 rfl) ?_
  refine lv_iconst (v := 1) hx hb dL_law_2133 (by decide) ?_
  refine lv_iadd hx hb dL_law_2134 ?_
  refine va_sldE hx hb hX hbl hbA hS n1 e1 dL_law_2135 ?_
  refine lv_aload_n hx hb dL_law_2136 rfl (lv_at hl 1 rfl) ?_
  refine lv_iload hx hb dL_law_2137 (lv_at hl 5 rfl) ?_
  refine lv_iconst (v := 2) hx hb dL_law_2139 (by decide) ?_
  refine lv_iadd hx hb dL_law_2140 ?_
  refine va_sldE hx hb hX hbl hbA hS n2 e2 dL_law_2141 ?_
  obtain ⟨w2, hcw2, hf⟩ := bd_ob hf
  refine wrVb (As := [.int a1, .int a2]) (rest := []) [wL cJ a w1.2, wXO Q, wC cI (Q 1) (X 1), wC cI (Q 2) (X 2), wS (Q 3) (Q 4 0) (Q 5 0) (Q 6 0) (Q 7 0) (X 3), wT cB (Q 4) (X 4), wC cI (Q 5) (X 5), wA (Q 6) (X 6), wP (Q 7) (X 7), wH cO (Q 8) (Q 9 0) (Q 10 0) (Q 11 0) (Q 12 0) (Q 13 0) (Q 14 0) (Q 15 0) (Q 16 0) (X 8), wC cI (Q 9) (X 9), wC cI (Q 10) (X 10), wC cI (Q 11) (X 11), wC cI (Q 12) (X 12), wC cI (Q 13) (X 13), wC cI (Q 14) (X 14), wC cI (Q 15) (X 15), wC cI (Q 16) (X 16), wXS cO (Q 17) (Q 18 0) (Q 19 0), wC cI (Q 18) (X 18), wC cI (Q 19) (X 19), wXF cZ (Q 20) (X 20), wA (Q 21) (X 21), wP (Q 22) (X 22), wO cB (Q 23) (X 23), wM cI cB cZ q w2.2] ⟨hx, hb, hml, hown, hts⟩ (mX9_isImplied l D cI cB cZ cO q _ fu z a1 a2 hcw2) (cwV 2 hts gL_law_X9_isImplied rfl rfl rfl (by decide +kernel) ⟨Nat.le_of_ble_eq_true rfl, Nat.le_of_ble_eq_true rfl⟩) (hK.sub [0, 1, 2, 3] rfl) hP hD hS hA [25] [0, 1, 2, 3, 4, 5, 6, 7, 8, 9, 10, 11, 12, 13, 14, 15, 16, 17, 18, 19, 20, 21, 22, 23, 24] 26 rfl (by decide +kernel) rfl rfl [wL cJ a w1.2, wXO Q, wC cI (Q 1) (X 1), wC cI (Q 2) (X 2), wS (Q 3) (Q 4 0) (Q 5 0) (Q 6 0) (Q 7 0) (X 3), wT cB (Q 4) (X 4), wC cI (Q 5) (X 5), wA (Q 6) (X 6), wP (Q 7) (X 7), wH cO (Q 8) (Q 9 0) (Q 10 0) (Q 11 0) (Q 12 0) (Q 13 0) (Q 14 0) (Q 15 0) (Q 16 0) (X 8), wC cI (Q 9) (X 9), wC cI (Q 10) (X 10), wC cI (Q 11) (X 11), wC cI (Q 12) (X 12), wC cI (Q 13) (X 13), wC cI (Q 14) (X 14), wC cI (Q 15) (X 15), wC cI (Q 16) (X 16), wXS cO (Q 17) (Q 18 0) (Q 19 0), wC cI (Q 18) (X 18), wC cI (Q 19) (X 19), wXF cZ (Q 20) (X 20), wA (Q 21) (X 21), wP (Q 22) (X 22), wO cB (Q 23) (X 23)] rfl rfl rfl (va_recv hK hP (ci := 8) (q0 := 106) rfl rfl) rfl hl.1 rfl (Nat.le_of_ble_eq_true rfl) dL_law_2142 ⟨by show _ ≤ 601024; omega, by show _ ≤ 7293034; omega⟩ (fun H locs hP hD hS => ?_)
  refine lv_istore (lv' := [(6, .int w2.1), (5, .int w1.1), (0, .ref b), (1, .ref (Q 0 0)), (2, .ref (q 0)), (3, .ref a), (4, .int i)]) hx hb dL_law_2145 hl (by decide) rfl (fun ls hl => ?_)
  refine lv_aload_n hx hb dL_law_2147 rfl (lv_at hl 4 rfl) ?_
  obtain ⟨w3, hcw3, hf⟩ := bd_ob hf
  refine rdV (As := []) (rest := []) ⟨hx, hb, hml, hown, hts⟩ (mX9_thrown l D cI cB cZ cO q fu w2.2 hcw3) (cwV 0 hts gL_law_X9_thrown rfl rfl rfl (by decide +kernel) ⟨Nat.le_of_ble_eq_true rfl, Nat.le_of_ble_eq_true rfl⟩) (hK.sub [0, 1, 2, 3] rfl) (hP.subb [25] rfl) (va_recv hK hP (ci := 8) (q0 := 106) rfl rfl) rfl hl.1 rfl (Nat.le_of_ble_eq_true rfl) dL_law_2148 ⟨by show _ ≤ 601024; omega, by show _ ≤ 7293034; omega⟩ ?_
  refine lv_iload hx hb dL_law_2151 (lv_at hl 1 rfl) ?_
  refine lv_icmp_eq (tgt := 2158) hx hb dL_law_2153 (by decide) (fun c8 => ?_) (fun c8 => ?_)
  · have hf := ip c8 hf
    refine lv_iload hx hb dL_law_2158 (lv_at hl 1 rfl) ?_
    refine lv_if_ne (tgt := 2182) hx hb dL_law_2160 (by decide) (fun c7 => ?_) (fun c7 => ?_)
    · have hf := iq c7 hf
      refine lv_goto (tgt := 2902) hx hb dL_law_2182 (by decide) ?_
      cases hf
      refine W.widen (k := cells + 8) (n := slots + 48) (by omega) (by omega) ?_
      exact kk _ _ _ hP hD hS (lv_sub hl [2, 3, 4, 5, 6] rfl)
    · have hf := ip c7 hf
      refine lv_aload_n hx hb dL_law_2163 rfl (lv_at hl 5 rfl) ?_
      refine lv_iconst (v := 0) hx hb dL_law_2164 (by decide) ?_
      refine va_lald hx hb hK hP 0 4 rfl rfl (inB_in (by decide)) dL_law_2165 ?_
      refine lv_iload hx hb dL_law_2166 (lv_at hl 0 rfl) ?_
      refine lv_if_eq (tgt := 2175) hx hb dL_law_2168 (by decide) (fun c6 => ?_) (fun c6 => ?_)
      · have hf := ip c6 hf
        refine lv_lconst (v := 0) hx hb dL_law_2175 (by decide) ?_
        refine W.lcmp hx hb dL_law_2176 ?_
        refine lv_if_eq (tgt := 2182) hx hb dL_law_2177 (by decide) (fun c4 => ?_) (fun c4 => ?_)
        · have hf := ip c4 hf
          refine lv_goto (tgt := 2902) hx hb dL_law_2182 (by decide) ?_
          cases hf
          refine W.widen (k := cells + 8) (n := slots + 48) (by omega) (by omega) ?_
          exact kk _ _ _ hP hD hS (lv_sub hl [2, 3, 4, 5, 6] rfl)
        · have hf := iq c4 hf
          exact no_ob hf
      · have hf := iq c6 hf
        refine lv_lconst (v := 1) hx hb dL_law_2171 (by decide) ?_
        refine lv_goto (tgt := 2176) hx hb dL_law_2172 (by decide) ?_
        refine W.lcmp hx hb dL_law_2176 ?_
        refine lv_if_eq (tgt := 2182) hx hb dL_law_2177 (by decide) (fun c5 => ?_) (fun c5 => ?_)
        · have hf := ip c5 hf
          refine lv_goto (tgt := 2902) hx hb dL_law_2182 (by decide) ?_
          cases hf
          refine W.widen (k := cells + 8) (n := slots + 48) (by omega) (by omega) ?_
          exact kk _ _ _ hP hD hS (lv_sub hl [2, 3, 4, 5, 6] rfl)
        · have hf := iq c5 hf
          exact no_ob hf
  · have hf := iq c8 hf
    exact no_ob hf
set_option maxRecDepth 100000 in
set_option maxHeartbeats 4000000 in
theorem wL_47 {p : Program} {l : Launch} {e : Env} {s : State} {m : MethodId} {args : Array Value} {below : List Frame} {meth : Method} {c : Code} {H : Heap} {locs : List Loc} {cells slots : Nat} {Qf : State → Prop} {ls : Array Slot} {D : va_G} {cI cB cZ cO cJ : ClassId} {aK aV mK : Nat → Nat} {Q : Nat → Nat → Nat} {q : Nat → Nat} {a b L fu : Nat} {xs : Nat → Int32} {A : Nat → Prop} {X X1 : Nat → OS} {z z1 : OS} {o o1 : Nat → Int64} {i a1 a2 a3 a4 a5 : Int32} (hst : l.stackTraces = false) (hx : p.tables.exec = Jvm.exec) (hb : c.code = cL_law) (hml : c.maxLocals = 9) (hown : s.vm.findClass RL = some m.cls) (hts : ∀ w ∈ lw_tbl, w.before args s = true) (hK : va_K D vwCl (gL cI cB cZ cO cJ) s) (hA : ∀ q : Nat, s.heap.size ≤ q → A q) (hX : va_X b L xs s s.heap) (hbl : b < s.heap.size) (hbA : ¬ A b) (hE : EW aK aV mK A s s.heap) (hS : va_S A s.heap H locs) (hl : lv_has ls 9 [(0, .ref b), (1, .ref (Q 0 0)), (2, .ref (q 0)), (3, .ref a), (4, .int i)]) (n1 : vp_in (i + 1) L) (n2 : vp_in (i + 2) L) (n3 : vp_in (i + 3) L) (n4 : vp_in (i + 4) L) (n5 : vp_in (i + 5) L) (e1 : xs (i + 1).toNatClampNeg = a1) (e2 : xs (i + 2).toNatClampNeg = a2) (e3 : xs (i + 3).toNatClampNeg = a3) (e4 : xs (i + 4).toNatClampNeg = a4) (e5 : xs (i + 5).toNatClampNeg = a5) (hcl : cells + 8 ≤ 601024) (hsl : slots + 48 ≤ 7293034) (kk : ∀ (H1 : Heap) (locs1 : List Loc) (ls1 : Array Slot), va_P D vwCl (fl (lawW cI cB cZ cO cJ Q q a X1 z1 o1)) H1 → va_D A (fl (lawW cI cB cZ cO cJ Q q a X1 z1 o1)) → va_S A s.heap H1 locs1 → lv_has ls1 9 [(0, .ref b), (1, .ref (Q 0 0)), (2, .ref (q 0)), (3, .ref a), (4, .int i)] → W p l e room_1 s m args below meth c H1 locs1 (cells + 8) (slots + 48) Qf (F0 m 2902 ls1 [])) (hP : va_P D vwCl (fl (lawW cI cB cZ cO cJ Q q a X z o)) H) (hD : va_D A (fl (lawW cI cB cZ cO cJ Q q a X z o))) (hf : cL_47 fu a1 a2 a3 a4 a5 X z o = some (X1, z1, o1)) : W p l e room_1 s m args below meth c H locs cells slots Qf (F0 m 2185 ls []) := by
  unfold cL_47 at hf
  refine lv_aload_n hx hb dL_law_2185 rfl (lv_at hl 1 rfl) ?_
  refine lv_aload_n hx hb dL_law_2186 rfl (lv_at hl 0 rfl) ?_
  refine lv_iload hx hb dL_law_2187 (lv_at hl 4 rfl) ?_
  refine lv_iconst (v := 1) hx hb dL_law_2189 (by decide) ?_
  refine lv_iadd hx hb dL_law_2190 ?_
  refine va_sldE hx hb hX hbl hbA hS n1 e1 dL_law_2191 ?_
  refine lv_aload_n hx hb dL_law_2192 rfl (lv_at hl 3 rfl) ?_
  obtain ⟨w1, hcw1, hf⟩ := bd_ob hf
  refine wrSWb (As := [.ref (Q 0 0), .int a1, .ref a]) (rest := []) [wL cJ a w1.2, wXO Q, wC cI (Q 1) (X 1), wC cI (Q 2) (X 2), wS (Q 3) (Q 4 0) (Q 5 0) (Q 6 0) (Q 7 0) (X 3), wT cB (Q 4) (X 4), wC cI (Q 5) (X 5), wA (Q 6) (X 6), wP (Q 7) (X 7), wH cO (Q 8) (Q 9 0) (Q 10 0) (Q 11 0) (Q 12 0) (Q 13 0) (Q 14 0) (Q 15 0) (Q 16 0) (X 8), wC cI (Q 9) (X 9), wC cI (Q 10) (X 10), wC cI (Q 11) (X 11), wC cI (Q 12) (X 12), wC cI (Q 13) (X 13), wC cI (Q 14) (X 14), wC cI (Q 15) (X 15), wC cI (Q 16) (X 16), wXS cO (Q 17) (Q 18 0) (Q 19 0), wC cI (Q 18) (X 18), wC cI (Q 19) (X 19), wXF cZ (Q 20) (X 20), wA (Q 21) (X 21), wP (Q 22) (X 22), wO cB (Q 23) (X 23), wM cI cB cZ q z] ⟨hx, hb, hml, hown, hts⟩ (mL_isRedundant l D cI cB cZ cO cJ aK aV mK hst Q a _ fu o (X 0) (X 1) (X 2) (X 3) (X 4) (X 5) (X 6) (X 7) (X 8) (X 9) (X 10) (X 11) (X 12) (X 13) (X 14) (X 15) (X 16) (X 17) (X 18) (X 19) (X 20) (X 21) (X 22) (X 23) a1 hcw1) (vx_cwSW 3 hts gL_law_L_isRedundant rfl rfl rfl (by decide +kernel) ⟨Nat.le_of_ble_eq_true rfl, Nat.le_of_ble_eq_true rfl⟩) (EW_ok aK aV mK) ((EW_ok aK aV mK).2.2.1 _ _ _ _ hS.2.1 hE) hK hP hD hS hA [0, 1, 2, 3, 4, 5, 6, 7, 8, 9, 10, 11, 12, 13, 14, 15, 16, 17, 18, 19, 20, 21, 22, 23, 24] [25] 26 rfl (by decide +kernel) rfl rfl [wM cI cB cZ q z] rfl rfl rfl rfl hl.1 rfl (Nat.le_of_ble_eq_true rfl) dL_law_2193 ⟨by show _ ≤ 601024; omega, by show _ ≤ 7293034; omega⟩ (fun H locs hP hD hS => ?_)
  refine lv_istore (lv' := [(5, .int w1.1), (0, .ref b), (1, .ref (Q 0 0)), (2, .ref (q 0)), (3, .ref a), (4, .int i)]) hx hb dL_law_2196 hl (by decide) rfl (fun ls hl => ?_)
  refine lv_aload_n hx hb dL_law_2198 rfl (lv_at hl 3 rfl) ?_
  refine lv_aload_n hx hb dL_law_2199 rfl (lv_at hl 1 rfl) ?_
  refine lv_iload hx hb dL_law_2200 (lv_at hl 5 rfl) ?_
  refine lv_iconst (v := 1) hx hb dL_law_2202 (by decide) ?_
  refine lv_iadd hx hb dL_law_2203 ?_
  refine va_sldE hx hb hX hbl hbA hS n1 e1 dL_law_2204 ?_
  obtain ⟨w2, hcw2, hf⟩ := bd_ob hf
  refine wrVb (As := [.int a1]) (rest := []) [wL cJ a w1.2, wXO Q, wC cI (Q 1) (X 1), wC cI (Q 2) (X 2), wS (Q 3) (Q 4 0) (Q 5 0) (Q 6 0) (Q 7 0) (X 3), wT cB (Q 4) (X 4), wC cI (Q 5) (X 5), wA (Q 6) (X 6), wP (Q 7) (X 7), wH cO (Q 8) (Q 9 0) (Q 10 0) (Q 11 0) (Q 12 0) (Q 13 0) (Q 14 0) (Q 15 0) (Q 16 0) (X 8), wC cI (Q 9) (X 9), wC cI (Q 10) (X 10), wC cI (Q 11) (X 11), wC cI (Q 12) (X 12), wC cI (Q 13) (X 13), wC cI (Q 14) (X 14), wC cI (Q 15) (X 15), wC cI (Q 16) (X 16), wXS cO (Q 17) (Q 18 0) (Q 19 0), wC cI (Q 18) (X 18), wC cI (Q 19) (X 19), wXF cZ (Q 20) (X 20), wA (Q 21) (X 21), wP (Q 22) (X 22), wO cB (Q 23) (X 23), wM cI cB cZ q w2.2] ⟨hx, hb, hml, hown, hts⟩ (mX9_isRedundant l D cI cB cZ cO q _ fu z a1 hcw2) (cwV 1 hts gL_law_X9_isRedundant rfl rfl rfl (by decide +kernel) ⟨Nat.le_of_ble_eq_true rfl, Nat.le_of_ble_eq_true rfl⟩) (hK.sub [0, 1, 2, 3] rfl) hP hD hS hA [25] [0, 1, 2, 3, 4, 5, 6, 7, 8, 9, 10, 11, 12, 13, 14, 15, 16, 17, 18, 19, 20, 21, 22, 23, 24] 26 rfl (by decide +kernel) rfl rfl [wL cJ a w1.2, wXO Q, wC cI (Q 1) (X 1), wC cI (Q 2) (X 2), wS (Q 3) (Q 4 0) (Q 5 0) (Q 6 0) (Q 7 0) (X 3), wT cB (Q 4) (X 4), wC cI (Q 5) (X 5), wA (Q 6) (X 6), wP (Q 7) (X 7), wH cO (Q 8) (Q 9 0) (Q 10 0) (Q 11 0) (Q 12 0) (Q 13 0) (Q 14 0) (Q 15 0) (Q 16 0) (X 8), wC cI (Q 9) (X 9), wC cI (Q 10) (X 10), wC cI (Q 11) (X 11), wC cI (Q 12) (X 12), wC cI (Q 13) (X 13), wC cI (Q 14) (X 14), wC cI (Q 15) (X 15), wC cI (Q 16) (X 16), wXS cO (Q 17) (Q 18 0) (Q 19 0), wC cI (Q 18) (X 18), wC cI (Q 19) (X 19), wXF cZ (Q 20) (X 20), wA (Q 21) (X 21), wP (Q 22) (X 22), wO cB (Q 23) (X 23)] rfl rfl rfl (va_recv hK hP (ci := 8) (q0 := 106) rfl rfl) rfl hl.1 rfl (Nat.le_of_ble_eq_true rfl) dL_law_2205 ⟨by show _ ≤ 601024; omega, by show _ ≤ 7293034; omega⟩ (fun H locs hP hD hS => ?_)
  refine lv_istore (lv' := [(6, .int w2.1), (5, .int w1.1), (0, .ref b), (1, .ref (Q 0 0)), (2, .ref (q 0)), (3, .ref a), (4, .int i)]) hx hb dL_law_2208 hl (by decide) rfl (fun ls hl => ?_)
  refine lv_aload_n hx hb dL_law_2210 rfl (lv_at hl 4 rfl) ?_
  obtain ⟨w3, hcw3, hf⟩ := bd_ob hf
  refine rdV (As := []) (rest := []) ⟨hx, hb, hml, hown, hts⟩ (mX9_thrown l D cI cB cZ cO q fu w2.2 hcw3) (cwV 0 hts gL_law_X9_thrown rfl rfl rfl (by decide +kernel) ⟨Nat.le_of_ble_eq_true rfl, Nat.le_of_ble_eq_true rfl⟩) (hK.sub [0, 1, 2, 3] rfl) (hP.subb [25] rfl) (va_recv hK hP (ci := 8) (q0 := 106) rfl rfl) rfl hl.1 rfl (Nat.le_of_ble_eq_true rfl) dL_law_2211 ⟨by show _ ≤ 601024; omega, by show _ ≤ 7293034; omega⟩ ?_
  refine lv_iload hx hb dL_law_2214 (lv_at hl 1 rfl) ?_
  refine lv_icmp_eq (tgt := 2221) hx hb dL_law_2216 (by decide) (fun c8 => ?_) (fun c8 => ?_)
  · have hf := ip c8 hf
    refine lv_iload hx hb dL_law_2221 (lv_at hl 1 rfl) ?_
    refine lv_if_ne (tgt := 2245) hx hb dL_law_2223 (by decide) (fun c7 => ?_) (fun c7 => ?_)
    · have hf := iq c7 hf
      refine lv_goto (tgt := 2902) hx hb dL_law_2245 (by decide) ?_
      cases hf
      refine W.widen (k := cells + 8) (n := slots + 48) (by omega) (by omega) ?_
      exact kk _ _ _ hP hD hS (lv_sub hl [2, 3, 4, 5, 6] rfl)
    · have hf := ip c7 hf
      refine lv_aload_n hx hb dL_law_2226 rfl (lv_at hl 5 rfl) ?_
      refine lv_iconst (v := 0) hx hb dL_law_2227 (by decide) ?_
      refine va_lald hx hb hK hP 0 4 rfl rfl (inB_in (by decide)) dL_law_2228 ?_
      refine lv_iload hx hb dL_law_2229 (lv_at hl 0 rfl) ?_
      refine lv_if_eq (tgt := 2238) hx hb dL_law_2231 (by decide) (fun c6 => ?_) (fun c6 => ?_)
      · have hf := ip c6 hf
        refine lv_lconst (v := 0) hx hb dL_law_2238 (by decide) ?_
        refine W.lcmp hx hb dL_law_2239 ?_
        refine lv_if_eq (tgt := 2245) hx hb dL_law_2240 (by decide) (fun c4 => ?_) (fun c4 => ?_)
        · have hf := ip c4 hf
          refine lv_goto (tgt := 2902) hx hb dL_law_2245 (by decide) ?_
          cases hf
          refine W.widen (k := cells + 8) (n := slots + 48) (by omega) (by omega) ?_
          exact kk _ _ _ hP hD hS (lv_sub hl [2, 3, 4, 5, 6] rfl)
        · have hf := iq c4 hf
          exact no_ob hf
      · have hf := iq c6 hf
        refine lv_lconst (v := 1) hx hb dL_law_2234 (by decide) ?_
        refine lv_goto (tgt := 2239) hx hb dL_law_2235 (by decide) ?_
        refine W.lcmp hx hb dL_law_2239 ?_
        refine lv_if_eq (tgt := 2245) hx hb dL_law_2240 (by decide) (fun c5 => ?_) (fun c5 => ?_)
        · have hf := ip c5 hf
          refine lv_goto (tgt := 2902) hx hb dL_law_2245 (by decide) ?_
          cases hf
          refine W.widen (k := cells + 8) (n := slots + 48) (by omega) (by omega) ?_
          exact kk _ _ _ hP hD hS (lv_sub hl [2, 3, 4, 5, 6] rfl)
        · have hf := iq c5 hf
          exact no_ob hf
  · have hf := iq c8 hf
    exact no_ob hf
set_option maxRecDepth 100000 in
set_option maxHeartbeats 4000000 in
theorem wL_48 {p : Program} {l : Launch} {e : Env} {s : State} {m : MethodId} {args : Array Value} {below : List Frame} {meth : Method} {c : Code} {H : Heap} {locs : List Loc} {cells slots : Nat} {Qf : State → Prop} {ls : Array Slot} {D : va_G} {cI cB cZ cO cJ : ClassId} {aK aV mK : Nat → Nat} {Q : Nat → Nat → Nat} {q : Nat → Nat} {a b L fu : Nat} {xs : Nat → Int32} {A : Nat → Prop} {X X1 : Nat → OS} {z z1 : OS} {o o1 : Nat → Int64} {i a1 a2 a3 a4 a5 : Int32} (hst : l.stackTraces = false) (hx : p.tables.exec = Jvm.exec) (hb : c.code = cL_law) (hml : c.maxLocals = 9) (hown : s.vm.findClass RL = some m.cls) (hts : ∀ w ∈ lw_tbl, w.before args s = true) (hK : va_K D vwCl (gL cI cB cZ cO cJ) s) (hA : ∀ q : Nat, s.heap.size ≤ q → A q) (hX : va_X b L xs s s.heap) (hbl : b < s.heap.size) (hbA : ¬ A b) (hE : EW aK aV mK A s s.heap) (hS : va_S A s.heap H locs) (hl : lv_has ls 9 [(0, .ref b), (1, .ref (Q 0 0)), (2, .ref (q 0)), (3, .ref a), (4, .int i)]) (n1 : vp_in (i + 1) L) (n2 : vp_in (i + 2) L) (n3 : vp_in (i + 3) L) (n4 : vp_in (i + 4) L) (n5 : vp_in (i + 5) L) (e1 : xs (i + 1).toNatClampNeg = a1) (e2 : xs (i + 2).toNatClampNeg = a2) (e3 : xs (i + 3).toNatClampNeg = a3) (e4 : xs (i + 4).toNatClampNeg = a4) (e5 : xs (i + 5).toNatClampNeg = a5) (hcl : cells + 8 ≤ 601024) (hsl : slots + 48 ≤ 7293034) (kk : ∀ (H1 : Heap) (locs1 : List Loc) (ls1 : Array Slot), va_P D vwCl (fl (lawW cI cB cZ cO cJ Q q a X1 z1 o1)) H1 → va_D A (fl (lawW cI cB cZ cO cJ Q q a X1 z1 o1)) → va_S A s.heap H1 locs1 → lv_has ls1 9 [(0, .ref b), (1, .ref (Q 0 0)), (2, .ref (q 0)), (3, .ref a), (4, .int i)] → W p l e room_1 s m args below meth c H1 locs1 (cells + 8) (slots + 48) Qf (F0 m 2902 ls1 [])) (hP : va_P D vwCl (fl (lawW cI cB cZ cO cJ Q q a X z o)) H) (hD : va_D A (fl (lawW cI cB cZ cO cJ Q q a X z o))) (hf : cL_48 fu a1 a2 a3 a4 a5 X z o = some (X1, z1, o1)) : W p l e room_1 s m args below meth c H locs cells slots Qf (F0 m 2248 ls []) := by
  unfold cL_48 at hf
  refine lv_aload_n hx hb dL_law_2248 rfl (lv_at hl 1 rfl) ?_
  obtain ⟨w1, hcw1, hf⟩ := bd_ob hf
  refine rdV (As := []) (rest := []) ⟨hx, hb, hml, hown, hts⟩ (mX8_modelShare l D cI cB cZ cO Q fu (X 0) (X 1) (X 2) (X 3) (X 4) (X 5) (X 6) (X 7) (X 8) (X 9) (X 10) (X 11) (X 12) (X 13) (X 14) (X 15) (X 16) (X 17) (X 18) (X 19) (X 20) (X 21) (X 22) (X 23) hcw1) (cwV 0 hts gL_law_X8_modelShare rfl rfl rfl (by decide +kernel) ⟨Nat.le_of_ble_eq_true rfl, Nat.le_of_ble_eq_true rfl⟩) (hK.sub [0, 1, 2, 3] rfl) (hP.subb [1, 2, 3, 4, 5, 6, 7, 8, 9, 10, 11, 12, 13, 14, 15, 16, 17, 18, 19, 20, 21, 22, 23, 24] rfl) (va_recv hK hP (ci := 7) (q0 := 1) rfl rfl) rfl hl.1 rfl (Nat.le_of_ble_eq_true rfl) dL_law_2249 ⟨by show _ ≤ 601024; omega, by show _ ≤ 7293034; omega⟩ ?_
  refine lv_dstore (lv' := [(5, .double w1), (0, .ref b), (1, .ref (Q 0 0)), (2, .ref (q 0)), (3, .ref a), (4, .int i)]) hx hb dL_law_2252 hl (by decide) rfl (fun ls hl => ?_)
  refine lv_aload_n hx hb dL_law_2254 rfl (lv_at hl 3 rfl) ?_
  obtain ⟨w2, hcw2, hf⟩ := bd_ob hf
  refine wrVb (As := []) (rest := []) [wL cJ a o, wXO Q, wC cI (Q 1) (X 1), wC cI (Q 2) (X 2), wS (Q 3) (Q 4 0) (Q 5 0) (Q 6 0) (Q 7 0) (X 3), wT cB (Q 4) (X 4), wC cI (Q 5) (X 5), wA (Q 6) (X 6), wP (Q 7) (X 7), wH cO (Q 8) (Q 9 0) (Q 10 0) (Q 11 0) (Q 12 0) (Q 13 0) (Q 14 0) (Q 15 0) (Q 16 0) (X 8), wC cI (Q 9) (X 9), wC cI (Q 10) (X 10), wC cI (Q 11) (X 11), wC cI (Q 12) (X 12), wC cI (Q 13) (X 13), wC cI (Q 14) (X 14), wC cI (Q 15) (X 15), wC cI (Q 16) (X 16), wXS cO (Q 17) (Q 18 0) (Q 19 0), wC cI (Q 18) (X 18), wC cI (Q 19) (X 19), wXF cZ (Q 20) (X 20), wA (Q 21) (X 21), wP (Q 22) (X 22), wO cB (Q 23) (X 23), wM cI cB cZ q w2.2] ⟨hx, hb, hml, hown, hts⟩ (mX9_modelShare l D cI cB cZ cO q _ fu z hcw2) (cwV 0 hts gL_law_X9_modelShare rfl rfl rfl (by decide +kernel) ⟨Nat.le_of_ble_eq_true rfl, Nat.le_of_ble_eq_true rfl⟩) (hK.sub [0, 1, 2, 3] rfl) hP hD hS hA [25] [0, 1, 2, 3, 4, 5, 6, 7, 8, 9, 10, 11, 12, 13, 14, 15, 16, 17, 18, 19, 20, 21, 22, 23, 24] 26 rfl (by decide +kernel) rfl rfl [wL cJ a o, wXO Q, wC cI (Q 1) (X 1), wC cI (Q 2) (X 2), wS (Q 3) (Q 4 0) (Q 5 0) (Q 6 0) (Q 7 0) (X 3), wT cB (Q 4) (X 4), wC cI (Q 5) (X 5), wA (Q 6) (X 6), wP (Q 7) (X 7), wH cO (Q 8) (Q 9 0) (Q 10 0) (Q 11 0) (Q 12 0) (Q 13 0) (Q 14 0) (Q 15 0) (Q 16 0) (X 8), wC cI (Q 9) (X 9), wC cI (Q 10) (X 10), wC cI (Q 11) (X 11), wC cI (Q 12) (X 12), wC cI (Q 13) (X 13), wC cI (Q 14) (X 14), wC cI (Q 15) (X 15), wC cI (Q 16) (X 16), wXS cO (Q 17) (Q 18 0) (Q 19 0), wC cI (Q 18) (X 18), wC cI (Q 19) (X 19), wXF cZ (Q 20) (X 20), wA (Q 21) (X 21), wP (Q 22) (X 22), wO cB (Q 23) (X 23)] rfl rfl rfl (va_recv hK hP (ci := 8) (q0 := 106) rfl rfl) rfl hl.1 rfl (Nat.le_of_ble_eq_true rfl) dL_law_2255 ⟨by show _ ≤ 601024; omega, by show _ ≤ 7293034; omega⟩ (fun H locs hP hD hS => ?_)
  refine lv_dstore (lv' := [(7, .double w2.1), (5, .double w1), (0, .ref b), (1, .ref (Q 0 0)), (2, .ref (q 0)), (3, .ref a), (4, .int i)]) hx hb dL_law_2258 hl (by decide) rfl (fun ls hl => ?_)
  refine lv_dload hx hb dL_law_2260 (lv_at hl 1 rfl) ?_
  refine lv_dload hx hb dL_law_2262 (lv_at hl 0 rfl) ?_
  refine lv_dcmp hx hb dL_law_2264 ?_
  refine lv_if_eq (tgt := 2286) hx hb dL_law_2265 (by decide) (fun c5 => ?_) (fun c5 => ?_)
  · have hf := ip c5 hf
    refine lv_goto (tgt := 2902) hx hb dL_law_2286 (by decide) ?_
    cases hf
    refine W.widen (k := cells + 8) (n := slots + 48) (by omega) (by omega) ?_
    exact kk _ _ _ hP hD hS (lv_sub hl [2, 3, 4, 5, 6] rfl)
  · have hf := iq c5 hf
    refine lv_dload hx hb dL_law_2268 (lv_at hl 1 rfl) ?_
    refine lv_dload hx hb dL_law_2270 (lv_at hl 1 rfl) ?_
    refine lv_dcmp hx hb dL_law_2272 ?_
    refine lv_if_eq (tgt := 2284) hx hb dL_law_2273 (by decide) (fun c4 => ?_) (fun c4 => ?_)
    · have hf := ip c4 hf
      exact no_ob hf
    · have hf := iq c4 hf
      refine lv_dload hx hb dL_law_2276 (lv_at hl 0 rfl) ?_
      refine lv_dload hx hb dL_law_2278 (lv_at hl 0 rfl) ?_
      refine lv_dcmp hx hb dL_law_2280 ?_
      refine lv_if_ne (tgt := 2286) hx hb dL_law_2281 (by decide) (fun c3 => ?_) (fun c3 => ?_)
      · have hf := iq c3 hf
        refine lv_goto (tgt := 2902) hx hb dL_law_2286 (by decide) ?_
        cases hf
        refine W.widen (k := cells + 8) (n := slots + 48) (by omega) (by omega) ?_
        exact kk _ _ _ hP hD hS (lv_sub hl [2, 3, 4, 5, 6] rfl)
      · have hf := ip c3 hf
        exact no_ob hf
set_option maxRecDepth 100000 in
set_option maxHeartbeats 4000000 in
theorem wL_49 {p : Program} {l : Launch} {e : Env} {s : State} {m : MethodId} {args : Array Value} {below : List Frame} {meth : Method} {c : Code} {H : Heap} {locs : List Loc} {cells slots : Nat} {Qf : State → Prop} {ls : Array Slot} {D : va_G} {cI cB cZ cO cJ : ClassId} {aK aV mK : Nat → Nat} {Q : Nat → Nat → Nat} {q : Nat → Nat} {a b L fu : Nat} {xs : Nat → Int32} {A : Nat → Prop} {X X1 : Nat → OS} {z z1 : OS} {o o1 : Nat → Int64} {i a1 a2 a3 a4 a5 : Int32} (hst : l.stackTraces = false) (hx : p.tables.exec = Jvm.exec) (hb : c.code = cL_law) (hml : c.maxLocals = 9) (hown : s.vm.findClass RL = some m.cls) (hts : ∀ w ∈ lw_tbl, w.before args s = true) (hK : va_K D vwCl (gL cI cB cZ cO cJ) s) (hA : ∀ q : Nat, s.heap.size ≤ q → A q) (hX : va_X b L xs s s.heap) (hbl : b < s.heap.size) (hbA : ¬ A b) (hE : EW aK aV mK A s s.heap) (hS : va_S A s.heap H locs) (hl : lv_has ls 9 [(0, .ref b), (1, .ref (Q 0 0)), (2, .ref (q 0)), (3, .ref a), (4, .int i)]) (n1 : vp_in (i + 1) L) (n2 : vp_in (i + 2) L) (n3 : vp_in (i + 3) L) (n4 : vp_in (i + 4) L) (n5 : vp_in (i + 5) L) (e1 : xs (i + 1).toNatClampNeg = a1) (e2 : xs (i + 2).toNatClampNeg = a2) (e3 : xs (i + 3).toNatClampNeg = a3) (e4 : xs (i + 4).toNatClampNeg = a4) (e5 : xs (i + 5).toNatClampNeg = a5) (hcl : cells + 8 ≤ 601024) (hsl : slots + 48 ≤ 7293034) (kk : ∀ (H1 : Heap) (locs1 : List Loc) (ls1 : Array Slot), va_P D vwCl (fl (lawW cI cB cZ cO cJ Q q a X1 z1 o1)) H1 → va_D A (fl (lawW cI cB cZ cO cJ Q q a X1 z1 o1)) → va_S A s.heap H1 locs1 → lv_has ls1 9 [(0, .ref b), (1, .ref (Q 0 0)), (2, .ref (q 0)), (3, .ref a), (4, .int i)] → W p l e room_1 s m args below meth c H1 locs1 (cells + 8) (slots + 48) Qf (F0 m 2902 ls1 [])) (hP : va_P D vwCl (fl (lawW cI cB cZ cO cJ Q q a X z o)) H) (hD : va_D A (fl (lawW cI cB cZ cO cJ Q q a X z o))) (hf : cL_49 fu a1 a2 a3 a4 a5 X z o = some (X1, z1, o1)) : W p l e room_1 s m args below meth c H locs cells slots Qf (F0 m 2289 ls []) := by
  unfold cL_49 at hf
  refine lv_aload_n hx hb dL_law_2289 rfl (lv_at hl 1 rfl) ?_
  obtain ⟨w1, hcw1, hf⟩ := bd_ob hf
  refine wrVb (As := []) (rest := []) [wL cJ a o, wXO Q, wC cI (Q 1) (X 1), wC cI (Q 2) (X 2), wS (Q 3) (Q 4 0) (Q 5 0) (Q 6 0) (Q 7 0) (X 3), wT cB (Q 4) (X 4), wC cI (Q 5) (X 5), wA (Q 6) (X 6), wP (Q 7) (X 7), wH cO (Q 8) (Q 9 0) (Q 10 0) (Q 11 0) (Q 12 0) (Q 13 0) (Q 14 0) (Q 15 0) (Q 16 0) (X 8), wC cI (Q 9) (X 9), wC cI (Q 10) (X 10), wC cI (Q 11) (X 11), wC cI (Q 12) (X 12), wC cI (Q 13) (X 13), wC cI (Q 14) (X 14), wC cI (Q 15) (X 15), wC cI (Q 16) (X 16), wXS cO (Q 17) (Q 18 0) (Q 19 0), wC cI (Q 18) (X 18), wC cI (Q 19) (X 19), wXF cZ (Q 20) (X 20), wA (Q 21) (X 21), wP (Q 22) w1.2, wO cB (Q 23) (X 23), wM cI cB cZ q z] ⟨hx, hb, hml, hown, hts⟩ (mX8_fixedTrue l D cI cB cZ cO Q _ fu (X 0) (X 1) (X 2) (X 3) (X 4) (X 5) (X 6) (X 7) (X 8) (X 9) (X 10) (X 11) (X 12) (X 13) (X 14) (X 15) (X 16) (X 17) (X 18) (X 19) (X 20) (X 21) (X 22) (X 23) hcw1) (cwV 0 hts gL_law_X8_fixedTrue rfl rfl rfl (by decide +kernel) ⟨Nat.le_of_ble_eq_true rfl, Nat.le_of_ble_eq_true rfl⟩) (hK.sub [0, 1, 2, 3] rfl) hP hD hS hA [1, 2, 3, 4, 5, 6, 7, 8, 9, 10, 11, 12, 13, 14, 15, 16, 17, 18, 19, 20, 21, 22, 23, 24] [0, 25] 26 rfl (by decide +kernel) rfl rfl [wL cJ a o, wM cI cB cZ q z] rfl rfl rfl (va_recv hK hP (ci := 7) (q0 := 1) rfl rfl) rfl hl.1 rfl (Nat.le_of_ble_eq_true rfl) dL_law_2290 ⟨by show _ ≤ 601024; omega, by show _ ≤ 7293034; omega⟩ (fun H locs hP hD hS => ?_)
  refine lv_aload_n hx hb dL_law_2293 rfl (lv_at hl 2 rfl) ?_
  obtain ⟨w2, hcw2, hf⟩ := bd_ob hf
  refine wrVb (As := []) (rest := [.int w1.1]) [wL cJ a o, wXO Q, wC cI (Q 1) (X 1), wC cI (Q 2) (X 2), wS (Q 3) (Q 4 0) (Q 5 0) (Q 6 0) (Q 7 0) (X 3), wT cB (Q 4) (X 4), wC cI (Q 5) (X 5), wA (Q 6) (X 6), wP (Q 7) (X 7), wH cO (Q 8) (Q 9 0) (Q 10 0) (Q 11 0) (Q 12 0) (Q 13 0) (Q 14 0) (Q 15 0) (Q 16 0) (X 8), wC cI (Q 9) (X 9), wC cI (Q 10) (X 10), wC cI (Q 11) (X 11), wC cI (Q 12) (X 12), wC cI (Q 13) (X 13), wC cI (Q 14) (X 14), wC cI (Q 15) (X 15), wC cI (Q 16) (X 16), wXS cO (Q 17) (Q 18 0) (Q 19 0), wC cI (Q 18) (X 18), wC cI (Q 19) (X 19), wXF cZ (Q 20) (X 20), wA (Q 21) (X 21), wP (Q 22) w1.2, wO cB (Q 23) (X 23), wM cI cB cZ q w2.2] ⟨hx, hb, hml, hown, hts⟩ (mX9_fixedTrue l D cI cB cZ cO q _ fu z hcw2) (cwV 0 hts gL_law_X9_fixedTrue rfl rfl rfl (by decide +kernel) ⟨Nat.le_of_ble_eq_true rfl, Nat.le_of_ble_eq_true rfl⟩) (hK.sub [0, 1, 2, 3] rfl) hP hD hS hA [25] [0, 1, 2, 3, 4, 5, 6, 7, 8, 9, 10, 11, 12, 13, 14, 15, 16, 17, 18, 19, 20, 21, 22, 23, 24] 26 rfl (by decide +kernel) rfl rfl [wL cJ a o, wXO Q, wC cI (Q 1) (X 1), wC cI (Q 2) (X 2), wS (Q 3) (Q 4 0) (Q 5 0) (Q 6 0) (Q 7 0) (X 3), wT cB (Q 4) (X 4), wC cI (Q 5) (X 5), wA (Q 6) (X 6), wP (Q 7) (X 7), wH cO (Q 8) (Q 9 0) (Q 10 0) (Q 11 0) (Q 12 0) (Q 13 0) (Q 14 0) (Q 15 0) (Q 16 0) (X 8), wC cI (Q 9) (X 9), wC cI (Q 10) (X 10), wC cI (Q 11) (X 11), wC cI (Q 12) (X 12), wC cI (Q 13) (X 13), wC cI (Q 14) (X 14), wC cI (Q 15) (X 15), wC cI (Q 16) (X 16), wXS cO (Q 17) (Q 18 0) (Q 19 0), wC cI (Q 18) (X 18), wC cI (Q 19) (X 19), wXF cZ (Q 20) (X 20), wA (Q 21) (X 21), wP (Q 22) w1.2, wO cB (Q 23) (X 23)] rfl rfl rfl (va_recv hK hP (ci := 8) (q0 := 106) rfl rfl) rfl hl.1 rfl (Nat.le_of_ble_eq_true rfl) dL_law_2294 ⟨by show _ ≤ 601024; omega, by show _ ≤ 7293034; omega⟩ (fun H locs hP hD hS => ?_)
  refine lv_icmp_eq (tgt := 2902) hx hb dL_law_2297 (by decide) (fun c3 => ?_) (fun c3 => ?_)
  · have hf := ip c3 hf
    cases hf
    refine W.widen (k := cells + 8) (n := slots + 48) (by omega) (by omega) ?_
    exact kk _ _ _ hP hD hS (lv_sub hl [0, 1, 2, 3, 4] rfl)
  · have hf := iq c3 hf
    exact no_ob hf
set_option maxRecDepth 100000 in
set_option maxHeartbeats 4000000 in
theorem wL_50 {p : Program} {l : Launch} {e : Env} {s : State} {m : MethodId} {args : Array Value} {below : List Frame} {meth : Method} {c : Code} {H : Heap} {locs : List Loc} {cells slots : Nat} {Qf : State → Prop} {ls : Array Slot} {D : va_G} {cI cB cZ cO cJ : ClassId} {aK aV mK : Nat → Nat} {Q : Nat → Nat → Nat} {q : Nat → Nat} {a b L fu : Nat} {xs : Nat → Int32} {A : Nat → Prop} {X X1 : Nat → OS} {z z1 : OS} {o o1 : Nat → Int64} {i a1 a2 a3 a4 a5 : Int32} (hst : l.stackTraces = false) (hx : p.tables.exec = Jvm.exec) (hb : c.code = cL_law) (hml : c.maxLocals = 9) (hown : s.vm.findClass RL = some m.cls) (hts : ∀ w ∈ lw_tbl, w.before args s = true) (hK : va_K D vwCl (gL cI cB cZ cO cJ) s) (hA : ∀ q : Nat, s.heap.size ≤ q → A q) (hX : va_X b L xs s s.heap) (hbl : b < s.heap.size) (hbA : ¬ A b) (hE : EW aK aV mK A s s.heap) (hS : va_S A s.heap H locs) (hl : lv_has ls 9 [(0, .ref b), (1, .ref (Q 0 0)), (2, .ref (q 0)), (3, .ref a), (4, .int i)]) (n1 : vp_in (i + 1) L) (n2 : vp_in (i + 2) L) (n3 : vp_in (i + 3) L) (n4 : vp_in (i + 4) L) (n5 : vp_in (i + 5) L) (e1 : xs (i + 1).toNatClampNeg = a1) (e2 : xs (i + 2).toNatClampNeg = a2) (e3 : xs (i + 3).toNatClampNeg = a3) (e4 : xs (i + 4).toNatClampNeg = a4) (e5 : xs (i + 5).toNatClampNeg = a5) (hcl : cells + 8 ≤ 601024) (hsl : slots + 48 ≤ 7293034) (kk : ∀ (H1 : Heap) (locs1 : List Loc) (ls1 : Array Slot), va_P D vwCl (fl (lawW cI cB cZ cO cJ Q q a X1 z1 o1)) H1 → va_D A (fl (lawW cI cB cZ cO cJ Q q a X1 z1 o1)) → va_S A s.heap H1 locs1 → lv_has ls1 9 [(0, .ref b), (1, .ref (Q 0 0)), (2, .ref (q 0)), (3, .ref a), (4, .int i)] → W p l e room_1 s m args below meth c H1 locs1 (cells + 8) (slots + 48) Qf (F0 m 2902 ls1 [])) (hP : va_P D vwCl (fl (lawW cI cB cZ cO cJ Q q a X z o)) H) (hD : va_D A (fl (lawW cI cB cZ cO cJ Q q a X z o))) (hf : cL_50 fu a1 a2 a3 a4 a5 X z o = some (X1, z1, o1)) : W p l e room_1 s m args below meth c H locs cells slots Qf (F0 m 2302 ls []) := by
  unfold cL_50 at hf
  refine lv_aload_n hx hb dL_law_2302 rfl (lv_at hl 1 rfl) ?_
  obtain ⟨w1, hcw1, hf⟩ := bd_ob hf
  refine wrVb (As := []) (rest := []) [wL cJ a o, wXO Q, wC cI (Q 1) (X 1), wC cI (Q 2) (X 2), wS (Q 3) (Q 4 0) (Q 5 0) (Q 6 0) (Q 7 0) (X 3), wT cB (Q 4) (X 4), wC cI (Q 5) (X 5), wA (Q 6) (X 6), wP (Q 7) (X 7), wH cO (Q 8) (Q 9 0) (Q 10 0) (Q 11 0) (Q 12 0) (Q 13 0) (Q 14 0) (Q 15 0) (Q 16 0) (X 8), wC cI (Q 9) (X 9), wC cI (Q 10) (X 10), wC cI (Q 11) (X 11), wC cI (Q 12) (X 12), wC cI (Q 13) (X 13), wC cI (Q 14) (X 14), wC cI (Q 15) (X 15), wC cI (Q 16) (X 16), wXS cO (Q 17) (Q 18 0) (Q 19 0), wC cI (Q 18) (X 18), wC cI (Q 19) (X 19), wXF cZ (Q 20) (X 20), wA (Q 21) (X 21), wP (Q 22) w1.2, wO cB (Q 23) (X 23), wM cI cB cZ q z] ⟨hx, hb, hml, hown, hts⟩ (mX8_fixedFalse l D cI cB cZ cO Q _ fu (X 0) (X 1) (X 2) (X 3) (X 4) (X 5) (X 6) (X 7) (X 8) (X 9) (X 10) (X 11) (X 12) (X 13) (X 14) (X 15) (X 16) (X 17) (X 18) (X 19) (X 20) (X 21) (X 22) (X 23) hcw1) (cwV 0 hts gL_law_X8_fixedFalse rfl rfl rfl (by decide +kernel) ⟨Nat.le_of_ble_eq_true rfl, Nat.le_of_ble_eq_true rfl⟩) (hK.sub [0, 1, 2, 3] rfl) hP hD hS hA [1, 2, 3, 4, 5, 6, 7, 8, 9, 10, 11, 12, 13, 14, 15, 16, 17, 18, 19, 20, 21, 22, 23, 24] [0, 25] 26 rfl (by decide +kernel) rfl rfl [wL cJ a o, wM cI cB cZ q z] rfl rfl rfl (va_recv hK hP (ci := 7) (q0 := 1) rfl rfl) rfl hl.1 rfl (Nat.le_of_ble_eq_true rfl) dL_law_2303 ⟨by show _ ≤ 601024; omega, by show _ ≤ 7293034; omega⟩ (fun H locs hP hD hS => ?_)
  refine lv_aload_n hx hb dL_law_2306 rfl (lv_at hl 2 rfl) ?_
  obtain ⟨w2, hcw2, hf⟩ := bd_ob hf
  refine wrVb (As := []) (rest := [.int w1.1]) [wL cJ a o, wXO Q, wC cI (Q 1) (X 1), wC cI (Q 2) (X 2), wS (Q 3) (Q 4 0) (Q 5 0) (Q 6 0) (Q 7 0) (X 3), wT cB (Q 4) (X 4), wC cI (Q 5) (X 5), wA (Q 6) (X 6), wP (Q 7) (X 7), wH cO (Q 8) (Q 9 0) (Q 10 0) (Q 11 0) (Q 12 0) (Q 13 0) (Q 14 0) (Q 15 0) (Q 16 0) (X 8), wC cI (Q 9) (X 9), wC cI (Q 10) (X 10), wC cI (Q 11) (X 11), wC cI (Q 12) (X 12), wC cI (Q 13) (X 13), wC cI (Q 14) (X 14), wC cI (Q 15) (X 15), wC cI (Q 16) (X 16), wXS cO (Q 17) (Q 18 0) (Q 19 0), wC cI (Q 18) (X 18), wC cI (Q 19) (X 19), wXF cZ (Q 20) (X 20), wA (Q 21) (X 21), wP (Q 22) w1.2, wO cB (Q 23) (X 23), wM cI cB cZ q w2.2] ⟨hx, hb, hml, hown, hts⟩ (mX9_fixedFalse l D cI cB cZ cO q _ fu z hcw2) (cwV 0 hts gL_law_X9_fixedFalse rfl rfl rfl (by decide +kernel) ⟨Nat.le_of_ble_eq_true rfl, Nat.le_of_ble_eq_true rfl⟩) (hK.sub [0, 1, 2, 3] rfl) hP hD hS hA [25] [0, 1, 2, 3, 4, 5, 6, 7, 8, 9, 10, 11, 12, 13, 14, 15, 16, 17, 18, 19, 20, 21, 22, 23, 24] 26 rfl (by decide +kernel) rfl rfl [wL cJ a o, wXO Q, wC cI (Q 1) (X 1), wC cI (Q 2) (X 2), wS (Q 3) (Q 4 0) (Q 5 0) (Q 6 0) (Q 7 0) (X 3), wT cB (Q 4) (X 4), wC cI (Q 5) (X 5), wA (Q 6) (X 6), wP (Q 7) (X 7), wH cO (Q 8) (Q 9 0) (Q 10 0) (Q 11 0) (Q 12 0) (Q 13 0) (Q 14 0) (Q 15 0) (Q 16 0) (X 8), wC cI (Q 9) (X 9), wC cI (Q 10) (X 10), wC cI (Q 11) (X 11), wC cI (Q 12) (X 12), wC cI (Q 13) (X 13), wC cI (Q 14) (X 14), wC cI (Q 15) (X 15), wC cI (Q 16) (X 16), wXS cO (Q 17) (Q 18 0) (Q 19 0), wC cI (Q 18) (X 18), wC cI (Q 19) (X 19), wXF cZ (Q 20) (X 20), wA (Q 21) (X 21), wP (Q 22) w1.2, wO cB (Q 23) (X 23)] rfl rfl rfl (va_recv hK hP (ci := 8) (q0 := 106) rfl rfl) rfl hl.1 rfl (Nat.le_of_ble_eq_true rfl) dL_law_2307 ⟨by show _ ≤ 601024; omega, by show _ ≤ 7293034; omega⟩ (fun H locs hP hD hS => ?_)
  refine lv_icmp_eq (tgt := 2902) hx hb dL_law_2310 (by decide) (fun c3 => ?_) (fun c3 => ?_)
  · have hf := ip c3 hf
    cases hf
    refine W.widen (k := cells + 8) (n := slots + 48) (by omega) (by omega) ?_
    exact kk _ _ _ hP hD hS (lv_sub hl [0, 1, 2, 3, 4] rfl)
  · have hf := iq c3 hf
    exact no_ob hf
set_option maxRecDepth 100000 in
set_option maxHeartbeats 4000000 in
theorem wL_51 {p : Program} {l : Launch} {e : Env} {s : State} {m : MethodId} {args : Array Value} {below : List Frame} {meth : Method} {c : Code} {H : Heap} {locs : List Loc} {cells slots : Nat} {Qf : State → Prop} {ls : Array Slot} {D : va_G} {cI cB cZ cO cJ : ClassId} {aK aV mK : Nat → Nat} {Q : Nat → Nat → Nat} {q : Nat → Nat} {a b L fu : Nat} {xs : Nat → Int32} {A : Nat → Prop} {X X1 : Nat → OS} {z z1 : OS} {o o1 : Nat → Int64} {i a1 a2 a3 a4 a5 : Int32} (hst : l.stackTraces = false) (hx : p.tables.exec = Jvm.exec) (hb : c.code = cL_law) (hml : c.maxLocals = 9) (hown : s.vm.findClass RL = some m.cls) (hts : ∀ w ∈ lw_tbl, w.before args s = true) (hK : va_K D vwCl (gL cI cB cZ cO cJ) s) (hA : ∀ q : Nat, s.heap.size ≤ q → A q) (hX : va_X b L xs s s.heap) (hbl : b < s.heap.size) (hbA : ¬ A b) (hE : EW aK aV mK A s s.heap) (hS : va_S A s.heap H locs) (hl : lv_has ls 9 [(0, .ref b), (1, .ref (Q 0 0)), (2, .ref (q 0)), (3, .ref a), (4, .int i)]) (n1 : vp_in (i + 1) L) (n2 : vp_in (i + 2) L) (n3 : vp_in (i + 3) L) (n4 : vp_in (i + 4) L) (n5 : vp_in (i + 5) L) (e1 : xs (i + 1).toNatClampNeg = a1) (e2 : xs (i + 2).toNatClampNeg = a2) (e3 : xs (i + 3).toNatClampNeg = a3) (e4 : xs (i + 4).toNatClampNeg = a4) (e5 : xs (i + 5).toNatClampNeg = a5) (hcl : cells + 8 ≤ 601024) (hsl : slots + 48 ≤ 7293034) (kk : ∀ (H1 : Heap) (locs1 : List Loc) (ls1 : Array Slot), va_P D vwCl (fl (lawW cI cB cZ cO cJ Q q a X1 z1 o1)) H1 → va_D A (fl (lawW cI cB cZ cO cJ Q q a X1 z1 o1)) → va_S A s.heap H1 locs1 → lv_has ls1 9 [(0, .ref b), (1, .ref (Q 0 0)), (2, .ref (q 0)), (3, .ref a), (4, .int i)] → W p l e room_1 s m args below meth c H1 locs1 (cells + 8) (slots + 48) Qf (F0 m 2902 ls1 [])) (hP : va_P D vwCl (fl (lawW cI cB cZ cO cJ Q q a X z o)) H) (hD : va_D A (fl (lawW cI cB cZ cO cJ Q q a X z o))) (hf : cL_51 fu a1 a2 a3 a4 a5 X z o = some (X1, z1, o1)) : W p l e room_1 s m args below meth c H locs cells slots Qf (F0 m 2315 ls []) := by
  unfold cL_51 at hf
  refine lv_aload_n hx hb dL_law_2315 rfl (lv_at hl 1 rfl) ?_
  obtain ⟨w1, hcw1, hf⟩ := bd_ob hf
  refine wrVb (As := []) (rest := []) [wL cJ a o, wXO Q, wC cI (Q 1) (X 1), wC cI (Q 2) (X 2), wS (Q 3) (Q 4 0) (Q 5 0) (Q 6 0) (Q 7 0) (X 3), wT cB (Q 4) (X 4), wC cI (Q 5) (X 5), wA (Q 6) (X 6), wP (Q 7) (X 7), wH cO (Q 8) (Q 9 0) (Q 10 0) (Q 11 0) (Q 12 0) (Q 13 0) (Q 14 0) (Q 15 0) (Q 16 0) (X 8), wC cI (Q 9) (X 9), wC cI (Q 10) (X 10), wC cI (Q 11) (X 11), wC cI (Q 12) (X 12), wC cI (Q 13) (X 13), wC cI (Q 14) (X 14), wC cI (Q 15) (X 15), wC cI (Q 16) (X 16), wXS cO (Q 17) (Q 18 0) (Q 19 0), wC cI (Q 18) (X 18), wC cI (Q 19) (X 19), wXF cZ (Q 20) (X 20), wA (Q 21) (X 21), wP (Q 22) w1.2, wO cB (Q 23) (X 23), wM cI cB cZ q z] ⟨hx, hb, hml, hown, hts⟩ (mX8_hasConflict l D cI cB cZ cO Q _ fu (X 0) (X 1) (X 2) (X 3) (X 4) (X 5) (X 6) (X 7) (X 8) (X 9) (X 10) (X 11) (X 12) (X 13) (X 14) (X 15) (X 16) (X 17) (X 18) (X 19) (X 20) (X 21) (X 22) (X 23) hcw1) (cwV 0 hts gL_law_X8_hasConflict rfl rfl rfl (by decide +kernel) ⟨Nat.le_of_ble_eq_true rfl, Nat.le_of_ble_eq_true rfl⟩) (hK.sub [0, 1, 2, 3] rfl) hP hD hS hA [1, 2, 3, 4, 5, 6, 7, 8, 9, 10, 11, 12, 13, 14, 15, 16, 17, 18, 19, 20, 21, 22, 23, 24] [0, 25] 26 rfl (by decide +kernel) rfl rfl [wL cJ a o, wM cI cB cZ q z] rfl rfl rfl (va_recv hK hP (ci := 7) (q0 := 1) rfl rfl) rfl hl.1 rfl (Nat.le_of_ble_eq_true rfl) dL_law_2316 ⟨by show _ ≤ 601024; omega, by show _ ≤ 7293034; omega⟩ (fun H locs hP hD hS => ?_)
  refine lv_aload_n hx hb dL_law_2319 rfl (lv_at hl 2 rfl) ?_
  obtain ⟨w2, hcw2, hf⟩ := bd_ob hf
  refine wrVb (As := []) (rest := [.int w1.1]) [wL cJ a o, wXO Q, wC cI (Q 1) (X 1), wC cI (Q 2) (X 2), wS (Q 3) (Q 4 0) (Q 5 0) (Q 6 0) (Q 7 0) (X 3), wT cB (Q 4) (X 4), wC cI (Q 5) (X 5), wA (Q 6) (X 6), wP (Q 7) (X 7), wH cO (Q 8) (Q 9 0) (Q 10 0) (Q 11 0) (Q 12 0) (Q 13 0) (Q 14 0) (Q 15 0) (Q 16 0) (X 8), wC cI (Q 9) (X 9), wC cI (Q 10) (X 10), wC cI (Q 11) (X 11), wC cI (Q 12) (X 12), wC cI (Q 13) (X 13), wC cI (Q 14) (X 14), wC cI (Q 15) (X 15), wC cI (Q 16) (X 16), wXS cO (Q 17) (Q 18 0) (Q 19 0), wC cI (Q 18) (X 18), wC cI (Q 19) (X 19), wXF cZ (Q 20) (X 20), wA (Q 21) (X 21), wP (Q 22) w1.2, wO cB (Q 23) (X 23), wM cI cB cZ q w2.2] ⟨hx, hb, hml, hown, hts⟩ (mX9_hasConflict l D cI cB cZ cO q _ fu z hcw2) (cwV 0 hts gL_law_X9_hasConflict rfl rfl rfl (by decide +kernel) ⟨Nat.le_of_ble_eq_true rfl, Nat.le_of_ble_eq_true rfl⟩) (hK.sub [0, 1, 2, 3] rfl) hP hD hS hA [25] [0, 1, 2, 3, 4, 5, 6, 7, 8, 9, 10, 11, 12, 13, 14, 15, 16, 17, 18, 19, 20, 21, 22, 23, 24] 26 rfl (by decide +kernel) rfl rfl [wL cJ a o, wXO Q, wC cI (Q 1) (X 1), wC cI (Q 2) (X 2), wS (Q 3) (Q 4 0) (Q 5 0) (Q 6 0) (Q 7 0) (X 3), wT cB (Q 4) (X 4), wC cI (Q 5) (X 5), wA (Q 6) (X 6), wP (Q 7) (X 7), wH cO (Q 8) (Q 9 0) (Q 10 0) (Q 11 0) (Q 12 0) (Q 13 0) (Q 14 0) (Q 15 0) (Q 16 0) (X 8), wC cI (Q 9) (X 9), wC cI (Q 10) (X 10), wC cI (Q 11) (X 11), wC cI (Q 12) (X 12), wC cI (Q 13) (X 13), wC cI (Q 14) (X 14), wC cI (Q 15) (X 15), wC cI (Q 16) (X 16), wXS cO (Q 17) (Q 18 0) (Q 19 0), wC cI (Q 18) (X 18), wC cI (Q 19) (X 19), wXF cZ (Q 20) (X 20), wA (Q 21) (X 21), wP (Q 22) w1.2, wO cB (Q 23) (X 23)] rfl rfl rfl (va_recv hK hP (ci := 8) (q0 := 106) rfl rfl) rfl hl.1 rfl (Nat.le_of_ble_eq_true rfl) dL_law_2320 ⟨by show _ ≤ 601024; omega, by show _ ≤ 7293034; omega⟩ (fun H locs hP hD hS => ?_)
  refine lv_icmp_eq (tgt := 2902) hx hb dL_law_2323 (by decide) (fun c3 => ?_) (fun c3 => ?_)
  · have hf := ip c3 hf
    cases hf
    refine W.widen (k := cells + 8) (n := slots + 48) (by omega) (by omega) ?_
    exact kk _ _ _ hP hD hS (lv_sub hl [0, 1, 2, 3, 4] rfl)
  · have hf := iq c3 hf
    exact no_ob hf
set_option maxRecDepth 100000 in
set_option maxHeartbeats 4000000 in
theorem wL_52 {p : Program} {l : Launch} {e : Env} {s : State} {m : MethodId} {args : Array Value} {below : List Frame} {meth : Method} {c : Code} {H : Heap} {locs : List Loc} {cells slots : Nat} {Qf : State → Prop} {ls : Array Slot} {D : va_G} {cI cB cZ cO cJ : ClassId} {aK aV mK : Nat → Nat} {Q : Nat → Nat → Nat} {q : Nat → Nat} {a b L fu : Nat} {xs : Nat → Int32} {A : Nat → Prop} {X X1 : Nat → OS} {z z1 : OS} {o o1 : Nat → Int64} {i a1 a2 a3 a4 a5 : Int32} (hst : l.stackTraces = false) (hx : p.tables.exec = Jvm.exec) (hb : c.code = cL_law) (hml : c.maxLocals = 9) (hown : s.vm.findClass RL = some m.cls) (hts : ∀ w ∈ lw_tbl, w.before args s = true) (hK : va_K D vwCl (gL cI cB cZ cO cJ) s) (hA : ∀ q : Nat, s.heap.size ≤ q → A q) (hX : va_X b L xs s s.heap) (hbl : b < s.heap.size) (hbA : ¬ A b) (hE : EW aK aV mK A s s.heap) (hS : va_S A s.heap H locs) (hl : lv_has ls 9 [(0, .ref b), (1, .ref (Q 0 0)), (2, .ref (q 0)), (3, .ref a), (4, .int i)]) (n1 : vp_in (i + 1) L) (n2 : vp_in (i + 2) L) (n3 : vp_in (i + 3) L) (n4 : vp_in (i + 4) L) (n5 : vp_in (i + 5) L) (e1 : xs (i + 1).toNatClampNeg = a1) (e2 : xs (i + 2).toNatClampNeg = a2) (e3 : xs (i + 3).toNatClampNeg = a3) (e4 : xs (i + 4).toNatClampNeg = a4) (e5 : xs (i + 5).toNatClampNeg = a5) (hcl : cells + 8 ≤ 601024) (hsl : slots + 48 ≤ 7293034) (kk : ∀ (H1 : Heap) (locs1 : List Loc) (ls1 : Array Slot), va_P D vwCl (fl (lawW cI cB cZ cO cJ Q q a X1 z1 o1)) H1 → va_D A (fl (lawW cI cB cZ cO cJ Q q a X1 z1 o1)) → va_S A s.heap H1 locs1 → lv_has ls1 9 [(0, .ref b), (1, .ref (Q 0 0)), (2, .ref (q 0)), (3, .ref a), (4, .int i)] → W p l e room_1 s m args below meth c H1 locs1 (cells + 8) (slots + 48) Qf (F0 m 2902 ls1 [])) (hP : va_P D vwCl (fl (lawW cI cB cZ cO cJ Q q a X z o)) H) (hD : va_D A (fl (lawW cI cB cZ cO cJ Q q a X z o))) (hf : cL_52 fu a1 a2 a3 a4 a5 X z o = some (X1, z1, o1)) : W p l e room_1 s m args below meth c H locs cells slots Qf (F0 m 2328 ls []) := by
  unfold cL_52 at hf
  refine lv_aload_n hx hb dL_law_2328 rfl (lv_at hl 1 rfl) ?_
  refine lv_aload_n hx hb dL_law_2329 rfl (lv_at hl 0 rfl) ?_
  refine lv_iload hx hb dL_law_2330 (lv_at hl 4 rfl) ?_
  refine lv_iconst (v := 1) hx hb dL_law_2332 (by decide) ?_
  refine lv_iadd hx hb dL_law_2333 ?_
  refine va_sldE hx hb hX hbl hbA hS n1 e1 dL_law_2334 ?_
  refine lv_aload_n hx hb dL_law_2335 rfl (lv_at hl 0 rfl) ?_
  refine lv_iload hx hb dL_law_2336 (lv_at hl 4 rfl) ?_
  refine lv_iconst (v := 2) hx hb dL_law_2338 (by decide) ?_
  refine lv_iadd hx hb dL_law_2339 ?_
  refine va_sldE hx hb hX hbl hbA hS n2 e2 dL_law_2340 ?_
  refine lv_aload_n hx hb dL_law_2341 rfl (lv_at hl 3 rfl) ?_
  obtain ⟨w1, hcw1, hf⟩ := bd_ob hf
  refine wrSWb (As := [.ref (Q 0 0), .int a1, .int a2, .ref a]) (rest := []) [wL cJ a w1.2.1, wXO Q, wC cI (Q 1) w1.2.2.1, wC cI (Q 2) (X 2), wS (Q 3) (Q 4 0) (Q 5 0) (Q 6 0) (Q 7 0) (X 3), wT cB (Q 4) (X 4), wC cI (Q 5) (X 5), wA (Q 6) (X 6), wP (Q 7) (X 7), wH cO (Q 8) (Q 9 0) (Q 10 0) (Q 11 0) (Q 12 0) (Q 13 0) (Q 14 0) (Q 15 0) (Q 16 0) w1.2.2.2.1, wC cI (Q 9) w1.2.2.2.2.1, wC cI (Q 10) w1.2.2.2.2.2.1, wC cI (Q 11) w1.2.2.2.2.2.2.1, wC cI (Q 12) w1.2.2.2.2.2.2.2.1, wC cI (Q 13) w1.2.2.2.2.2.2.2.2.1, wC cI (Q 14) w1.2.2.2.2.2.2.2.2.2.1, wC cI (Q 15) w1.2.2.2.2.2.2.2.2.2.2.1, wC cI (Q 16) w1.2.2.2.2.2.2.2.2.2.2.2, wXS cO (Q 17) (Q 18 0) (Q 19 0), wC cI (Q 18) (X 18), wC cI (Q 19) (X 19), wXF cZ (Q 20) (X 20), wA (Q 21) (X 21), wP (Q 22) (X 22), wO cB (Q 23) (X 23), wM cI cB cZ q z] ⟨hx, hb, hml, hown, hts⟩ (mL_addClause l D cI cB cZ cO cJ aK aV mK hst Q a _ fu o (X 0) (X 1) (X 2) (X 3) (X 4) (X 5) (X 6) (X 7) (X 8) (X 9) (X 10) (X 11) (X 12) (X 13) (X 14) (X 15) (X 16) (X 17) (X 18) (X 19) (X 20) (X 21) (X 22) (X 23) a1 a2 hcw1) (vx_cwSW 4 hts gL_law_L_addClause rfl rfl rfl (by decide +kernel) ⟨Nat.le_of_ble_eq_true rfl, Nat.le_of_ble_eq_true rfl⟩) (EW_ok aK aV mK) ((EW_ok aK aV mK).2.2.1 _ _ _ _ hS.2.1 hE) hK hP hD hS hA [0, 1, 2, 3, 4, 5, 6, 7, 8, 9, 10, 11, 12, 13, 14, 15, 16, 17, 18, 19, 20, 21, 22, 23, 24] [25] 26 rfl (by decide +kernel) rfl rfl [wM cI cB cZ q z] rfl rfl rfl rfl hl.1 rfl (Nat.le_of_ble_eq_true rfl) dL_law_2342 ⟨by show _ ≤ 601024; omega, by show _ ≤ 7293034; omega⟩ (fun H locs hP hD hS => ?_)
  refine lv_istore (lv' := [(5, .int w1.1), (0, .ref b), (1, .ref (Q 0 0)), (2, .ref (q 0)), (3, .ref a), (4, .int i)]) hx hb dL_law_2345 hl (by decide) rfl (fun ls hl => ?_)
  refine lv_aload_n hx hb dL_law_2347 rfl (lv_at hl 3 rfl) ?_
  refine lv_aload_n hx hb dL_law_2348 rfl (lv_at hl 1 rfl) ?_
  refine lv_iload hx hb dL_law_2349 (lv_at hl 5 rfl) ?_
  refine lv_iconst (v := 1) hx hb dL_law_2351 (by decide) ?_
  refine lv_iadd hx hb dL_law_2352 ?_
  refine va_sldE hx hb hX hbl hbA hS n1 e1 dL_law_2353 ?_
  refine lv_aload_n hx hb dL_law_2354 rfl (lv_at hl 1 rfl) ?_
  refine lv_iload hx hb dL_law_2355 (lv_at hl 5 rfl) ?_
  refine lv_iconst (v := 2) hx hb dL_law_2357 (by decide) ?_
  refine lv_iadd hx hb dL_law_2358 ?_
  refine va_sldE hx hb hX hbl hbA hS n2 e2 dL_law_2359 ?_
  obtain ⟨w2, hcw2, hf⟩ := bd_ob hf
  refine wrVb (As := [.int a1, .int a2]) (rest := []) [wL cJ a w1.2.1, wXO Q, wC cI (Q 1) w1.2.2.1, wC cI (Q 2) (X 2), wS (Q 3) (Q 4 0) (Q 5 0) (Q 6 0) (Q 7 0) (X 3), wT cB (Q 4) (X 4), wC cI (Q 5) (X 5), wA (Q 6) (X 6), wP (Q 7) (X 7), wH cO (Q 8) (Q 9 0) (Q 10 0) (Q 11 0) (Q 12 0) (Q 13 0) (Q 14 0) (Q 15 0) (Q 16 0) w1.2.2.2.1, wC cI (Q 9) w1.2.2.2.2.1, wC cI (Q 10) w1.2.2.2.2.2.1, wC cI (Q 11) w1.2.2.2.2.2.2.1, wC cI (Q 12) w1.2.2.2.2.2.2.2.1, wC cI (Q 13) w1.2.2.2.2.2.2.2.2.1, wC cI (Q 14) w1.2.2.2.2.2.2.2.2.2.1, wC cI (Q 15) w1.2.2.2.2.2.2.2.2.2.2.1, wC cI (Q 16) w1.2.2.2.2.2.2.2.2.2.2.2, wXS cO (Q 17) (Q 18 0) (Q 19 0), wC cI (Q 18) (X 18), wC cI (Q 19) (X 19), wXF cZ (Q 20) (X 20), wA (Q 21) (X 21), wP (Q 22) (X 22), wO cB (Q 23) (X 23), wM cI cB cZ q w2.2] ⟨hx, hb, hml, hown, hts⟩ (mX9_addClause l D cI cB cZ cO q _ fu z a1 a2 hcw2) (cwV 2 hts gL_law_X9_addClause rfl rfl rfl (by decide +kernel) ⟨Nat.le_of_ble_eq_true rfl, Nat.le_of_ble_eq_true rfl⟩) (hK.sub [0, 1, 2, 3] rfl) hP hD hS hA [25] [0, 1, 2, 3, 4, 5, 6, 7, 8, 9, 10, 11, 12, 13, 14, 15, 16, 17, 18, 19, 20, 21, 22, 23, 24] 26 rfl (by decide +kernel) rfl rfl [wL cJ a w1.2.1, wXO Q, wC cI (Q 1) w1.2.2.1, wC cI (Q 2) (X 2), wS (Q 3) (Q 4 0) (Q 5 0) (Q 6 0) (Q 7 0) (X 3), wT cB (Q 4) (X 4), wC cI (Q 5) (X 5), wA (Q 6) (X 6), wP (Q 7) (X 7), wH cO (Q 8) (Q 9 0) (Q 10 0) (Q 11 0) (Q 12 0) (Q 13 0) (Q 14 0) (Q 15 0) (Q 16 0) w1.2.2.2.1, wC cI (Q 9) w1.2.2.2.2.1, wC cI (Q 10) w1.2.2.2.2.2.1, wC cI (Q 11) w1.2.2.2.2.2.2.1, wC cI (Q 12) w1.2.2.2.2.2.2.2.1, wC cI (Q 13) w1.2.2.2.2.2.2.2.2.1, wC cI (Q 14) w1.2.2.2.2.2.2.2.2.2.1, wC cI (Q 15) w1.2.2.2.2.2.2.2.2.2.2.1, wC cI (Q 16) w1.2.2.2.2.2.2.2.2.2.2.2, wXS cO (Q 17) (Q 18 0) (Q 19 0), wC cI (Q 18) (X 18), wC cI (Q 19) (X 19), wXF cZ (Q 20) (X 20), wA (Q 21) (X 21), wP (Q 22) (X 22), wO cB (Q 23) (X 23)] rfl rfl rfl (va_recv hK hP (ci := 8) (q0 := 106) rfl rfl) rfl hl.1 rfl (Nat.le_of_ble_eq_true rfl) dL_law_2360 ⟨by show _ ≤ 601024; omega, by show _ ≤ 7293034; omega⟩ (fun H locs hP hD hS => ?_)
  refine lv_istore (lv' := [(6, .int w2.1), (5, .int w1.1), (0, .ref b), (1, .ref (Q 0 0)), (2, .ref (q 0)), (3, .ref a), (4, .int i)]) hx hb dL_law_2363 hl (by decide) rfl (fun ls hl => ?_)
  refine lv_aload_n hx hb dL_law_2365 rfl (lv_at hl 4 rfl) ?_
  obtain ⟨w3, hcw3, hf⟩ := bd_ob hf
  refine rdV (As := []) (rest := []) ⟨hx, hb, hml, hown, hts⟩ (mX9_thrown l D cI cB cZ cO q fu w2.2 hcw3) (cwV 0 hts gL_law_X9_thrown rfl rfl rfl (by decide +kernel) ⟨Nat.le_of_ble_eq_true rfl, Nat.le_of_ble_eq_true rfl⟩) (hK.sub [0, 1, 2, 3] rfl) (hP.subb [25] rfl) (va_recv hK hP (ci := 8) (q0 := 106) rfl rfl) rfl hl.1 rfl (Nat.le_of_ble_eq_true rfl) dL_law_2366 ⟨by show _ ≤ 601024; omega, by show _ ≤ 7293034; omega⟩ ?_
  refine lv_iload hx hb dL_law_2369 (lv_at hl 1 rfl) ?_
  refine lv_icmp_eq (tgt := 2376) hx hb dL_law_2371 (by decide) (fun c6 => ?_) (fun c6 => ?_)
  · have hf := ip c6 hf
    refine lv_iload hx hb dL_law_2376 (lv_at hl 1 rfl) ?_
    refine lv_if_ne (tgt := 2393) hx hb dL_law_2378 (by decide) (fun c5 => ?_) (fun c5 => ?_)
    · have hf := iq c5 hf
      refine lv_goto (tgt := 2902) hx hb dL_law_2393 (by decide) ?_
      cases hf
      refine W.widen (k := cells + 8) (n := slots + 48) (by omega) (by omega) ?_
      exact kk _ _ _ hP hD hS (lv_sub hl [2, 3, 4, 5, 6] rfl)
    · have hf := ip c5 hf
      refine lv_aload_n hx hb dL_law_2381 rfl (lv_at hl 5 rfl) ?_
      refine lv_iconst (v := 0) hx hb dL_law_2382 (by decide) ?_
      refine va_lald hx hb hK hP 0 4 rfl rfl (inB_in (by decide)) dL_law_2383 ?_
      refine lv_iload hx hb dL_law_2384 (lv_at hl 0 rfl) ?_
      refine lv_i2l hx hb dL_law_2386 rfl ?_
      refine W.lcmp hx hb dL_law_2387 ?_
      refine lv_if_eq (tgt := 2393) hx hb dL_law_2388 (by decide) (fun c4 => ?_) (fun c4 => ?_)
      · have hf := ip c4 hf
        refine lv_goto (tgt := 2902) hx hb dL_law_2393 (by decide) ?_
        cases hf
        refine W.widen (k := cells + 8) (n := slots + 48) (by omega) (by omega) ?_
        exact kk _ _ _ hP hD hS (lv_sub hl [2, 3, 4, 5, 6] rfl)
      · have hf := iq c4 hf
        exact no_ob hf
  · have hf := iq c6 hf
    exact no_ob hf
set_option maxRecDepth 100000 in
set_option maxHeartbeats 4000000 in
theorem wL_53 {p : Program} {l : Launch} {e : Env} {s : State} {m : MethodId} {args : Array Value} {below : List Frame} {meth : Method} {c : Code} {H : Heap} {locs : List Loc} {cells slots : Nat} {Qf : State → Prop} {ls : Array Slot} {D : va_G} {cI cB cZ cO cJ : ClassId} {aK aV mK : Nat → Nat} {Q : Nat → Nat → Nat} {q : Nat → Nat} {a b L fu : Nat} {xs : Nat → Int32} {A : Nat → Prop} {X X1 : Nat → OS} {z z1 : OS} {o o1 : Nat → Int64} {i a1 a2 a3 a4 a5 : Int32} (hst : l.stackTraces = false) (hx : p.tables.exec = Jvm.exec) (hb : c.code = cL_law) (hml : c.maxLocals = 9) (hown : s.vm.findClass RL = some m.cls) (hts : ∀ w ∈ lw_tbl, w.before args s = true) (hK : va_K D vwCl (gL cI cB cZ cO cJ) s) (hA : ∀ q : Nat, s.heap.size ≤ q → A q) (hX : va_X b L xs s s.heap) (hbl : b < s.heap.size) (hbA : ¬ A b) (hE : EW aK aV mK A s s.heap) (hS : va_S A s.heap H locs) (hl : lv_has ls 9 [(0, .ref b), (1, .ref (Q 0 0)), (2, .ref (q 0)), (3, .ref a), (4, .int i)]) (n1 : vp_in (i + 1) L) (n2 : vp_in (i + 2) L) (n3 : vp_in (i + 3) L) (n4 : vp_in (i + 4) L) (n5 : vp_in (i + 5) L) (e1 : xs (i + 1).toNatClampNeg = a1) (e2 : xs (i + 2).toNatClampNeg = a2) (e3 : xs (i + 3).toNatClampNeg = a3) (e4 : xs (i + 4).toNatClampNeg = a4) (e5 : xs (i + 5).toNatClampNeg = a5) (hcl : cells + 8 ≤ 601024) (hsl : slots + 48 ≤ 7293034) (kk : ∀ (H1 : Heap) (locs1 : List Loc) (ls1 : Array Slot), va_P D vwCl (fl (lawW cI cB cZ cO cJ Q q a X1 z1 o1)) H1 → va_D A (fl (lawW cI cB cZ cO cJ Q q a X1 z1 o1)) → va_S A s.heap H1 locs1 → lv_has ls1 9 [(0, .ref b), (1, .ref (Q 0 0)), (2, .ref (q 0)), (3, .ref a), (4, .int i)] → W p l e room_1 s m args below meth c H1 locs1 (cells + 8) (slots + 48) Qf (F0 m 2902 ls1 [])) (hP : va_P D vwCl (fl (lawW cI cB cZ cO cJ Q q a X z o)) H) (hD : va_D A (fl (lawW cI cB cZ cO cJ Q q a X z o))) (hf : cL_53 fu a1 a2 a3 a4 a5 X z o = some (X1, z1, o1)) : W p l e room_1 s m args below meth c H locs cells slots Qf (F0 m 2396 ls []) := by
  unfold cL_53 at hf
  refine lv_aload_n hx hb dL_law_2396 rfl (lv_at hl 1 rfl) ?_
  refine lv_aload_n hx hb dL_law_2397 rfl (lv_at hl 0 rfl) ?_
  refine lv_iload hx hb dL_law_2398 (lv_at hl 4 rfl) ?_
  refine lv_iconst (v := 1) hx hb dL_law_2400 (by decide) ?_
  refine lv_iadd hx hb dL_law_2401 ?_
  refine va_sldE hx hb hX hbl hbA hS n1 e1 dL_law_2402 ?_
  refine lv_aload_n hx hb dL_law_2403 rfl (lv_at hl 0 rfl) ?_
  refine lv_iload hx hb dL_law_2404 (lv_at hl 4 rfl) ?_
  refine lv_iconst (v := 2) hx hb dL_law_2406 (by decide) ?_
  refine lv_iadd hx hb dL_law_2407 ?_
  refine va_sldE hx hb hX hbl hbA hS n2 e2 dL_law_2408 ?_
  refine lv_aload_n hx hb dL_law_2409 rfl (lv_at hl 3 rfl) ?_
  obtain ⟨w1, hcw1, hf⟩ := bd_ob hf
  refine wrSWb (As := [.ref (Q 0 0), .int a1, .int a2, .ref a]) (rest := []) [wL cJ a w1.2.1, wXO Q, wC cI (Q 1) w1.2.2.1, wC cI (Q 2) (X 2), wS (Q 3) (Q 4 0) (Q 5 0) (Q 6 0) (Q 7 0) (X 3), wT cB (Q 4) (X 4), wC cI (Q 5) (X 5), wA (Q 6) (X 6), wP (Q 7) (X 7), wH cO (Q 8) (Q 9 0) (Q 10 0) (Q 11 0) (Q 12 0) (Q 13 0) (Q 14 0) (Q 15 0) (Q 16 0) w1.2.2.2.1, wC cI (Q 9) w1.2.2.2.2.1, wC cI (Q 10) w1.2.2.2.2.2.1, wC cI (Q 11) w1.2.2.2.2.2.2.1, wC cI (Q 12) w1.2.2.2.2.2.2.2.1, wC cI (Q 13) w1.2.2.2.2.2.2.2.2.1, wC cI (Q 14) w1.2.2.2.2.2.2.2.2.2.1, wC cI (Q 15) w1.2.2.2.2.2.2.2.2.2.2.1, wC cI (Q 16) w1.2.2.2.2.2.2.2.2.2.2.2, wXS cO (Q 17) (Q 18 0) (Q 19 0), wC cI (Q 18) (X 18), wC cI (Q 19) (X 19), wXF cZ (Q 20) (X 20), wA (Q 21) (X 21), wP (Q 22) (X 22), wO cB (Q 23) (X 23), wM cI cB cZ q z] ⟨hx, hb, hml, hown, hts⟩ (mL_resolve l D cI cB cZ cO cJ aK aV mK hst Q a _ fu o (X 0) (X 1) (X 2) (X 3) (X 4) (X 5) (X 6) (X 7) (X 8) (X 9) (X 10) (X 11) (X 12) (X 13) (X 14) (X 15) (X 16) (X 17) (X 18) (X 19) (X 20) (X 21) (X 22) (X 23) a1 a2 hcw1) (vx_cwSW 4 hts gL_law_L_resolve rfl rfl rfl (by decide +kernel) ⟨Nat.le_of_ble_eq_true rfl, Nat.le_of_ble_eq_true rfl⟩) (EW_ok aK aV mK) ((EW_ok aK aV mK).2.2.1 _ _ _ _ hS.2.1 hE) hK hP hD hS hA [0, 1, 2, 3, 4, 5, 6, 7, 8, 9, 10, 11, 12, 13, 14, 15, 16, 17, 18, 19, 20, 21, 22, 23, 24] [25] 26 rfl (by decide +kernel) rfl rfl [wM cI cB cZ q z] rfl rfl rfl rfl hl.1 rfl (Nat.le_of_ble_eq_true rfl) dL_law_2410 ⟨by show _ ≤ 601024; omega, by show _ ≤ 7293034; omega⟩ (fun H locs hP hD hS => ?_)
  refine lv_istore (lv' := [(5, .int w1.1), (0, .ref b), (1, .ref (Q 0 0)), (2, .ref (q 0)), (3, .ref a), (4, .int i)]) hx hb dL_law_2413 hl (by decide) rfl (fun ls hl => ?_)
  refine lv_aload_n hx hb dL_law_2415 rfl (lv_at hl 3 rfl) ?_
  refine lv_aload_n hx hb dL_law_2416 rfl (lv_at hl 1 rfl) ?_
  refine lv_iload hx hb dL_law_2417 (lv_at hl 5 rfl) ?_
  refine lv_iconst (v := 1) hx hb dL_law_2419 (by decide) ?_
  refine lv_iadd hx hb dL_law_2420 ?_
  refine va_sldE hx hb hX hbl hbA hS n1 e1 dL_law_2421 ?_
  refine lv_aload_n hx hb dL_law_2422 rfl (lv_at hl 1 rfl) ?_
  refine lv_iload hx hb dL_law_2423 (lv_at hl 5 rfl) ?_
  refine lv_iconst (v := 2) hx hb dL_law_2425 (by decide) ?_
  refine lv_iadd hx hb dL_law_2426 ?_
  refine va_sldE hx hb hX hbl hbA hS n2 e2 dL_law_2427 ?_
  obtain ⟨w2, hcw2, hf⟩ := bd_ob hf
  refine wrVb (As := [.int a1, .int a2]) (rest := []) [wL cJ a w1.2.1, wXO Q, wC cI (Q 1) w1.2.2.1, wC cI (Q 2) (X 2), wS (Q 3) (Q 4 0) (Q 5 0) (Q 6 0) (Q 7 0) (X 3), wT cB (Q 4) (X 4), wC cI (Q 5) (X 5), wA (Q 6) (X 6), wP (Q 7) (X 7), wH cO (Q 8) (Q 9 0) (Q 10 0) (Q 11 0) (Q 12 0) (Q 13 0) (Q 14 0) (Q 15 0) (Q 16 0) w1.2.2.2.1, wC cI (Q 9) w1.2.2.2.2.1, wC cI (Q 10) w1.2.2.2.2.2.1, wC cI (Q 11) w1.2.2.2.2.2.2.1, wC cI (Q 12) w1.2.2.2.2.2.2.2.1, wC cI (Q 13) w1.2.2.2.2.2.2.2.2.1, wC cI (Q 14) w1.2.2.2.2.2.2.2.2.2.1, wC cI (Q 15) w1.2.2.2.2.2.2.2.2.2.2.1, wC cI (Q 16) w1.2.2.2.2.2.2.2.2.2.2.2, wXS cO (Q 17) (Q 18 0) (Q 19 0), wC cI (Q 18) (X 18), wC cI (Q 19) (X 19), wXF cZ (Q 20) (X 20), wA (Q 21) (X 21), wP (Q 22) (X 22), wO cB (Q 23) (X 23), wM cI cB cZ q w2.2] ⟨hx, hb, hml, hown, hts⟩ (mX9_resolve l D cI cB cZ cO q _ fu z a1 a2 hcw2) (cwV 2 hts gL_law_X9_resolve rfl rfl rfl (by decide +kernel) ⟨Nat.le_of_ble_eq_true rfl, Nat.le_of_ble_eq_true rfl⟩) (hK.sub [0, 1, 2, 3] rfl) hP hD hS hA [25] [0, 1, 2, 3, 4, 5, 6, 7, 8, 9, 10, 11, 12, 13, 14, 15, 16, 17, 18, 19, 20, 21, 22, 23, 24] 26 rfl (by decide +kernel) rfl rfl [wL cJ a w1.2.1, wXO Q, wC cI (Q 1) w1.2.2.1, wC cI (Q 2) (X 2), wS (Q 3) (Q 4 0) (Q 5 0) (Q 6 0) (Q 7 0) (X 3), wT cB (Q 4) (X 4), wC cI (Q 5) (X 5), wA (Q 6) (X 6), wP (Q 7) (X 7), wH cO (Q 8) (Q 9 0) (Q 10 0) (Q 11 0) (Q 12 0) (Q 13 0) (Q 14 0) (Q 15 0) (Q 16 0) w1.2.2.2.1, wC cI (Q 9) w1.2.2.2.2.1, wC cI (Q 10) w1.2.2.2.2.2.1, wC cI (Q 11) w1.2.2.2.2.2.2.1, wC cI (Q 12) w1.2.2.2.2.2.2.2.1, wC cI (Q 13) w1.2.2.2.2.2.2.2.2.1, wC cI (Q 14) w1.2.2.2.2.2.2.2.2.2.1, wC cI (Q 15) w1.2.2.2.2.2.2.2.2.2.2.1, wC cI (Q 16) w1.2.2.2.2.2.2.2.2.2.2.2, wXS cO (Q 17) (Q 18 0) (Q 19 0), wC cI (Q 18) (X 18), wC cI (Q 19) (X 19), wXF cZ (Q 20) (X 20), wA (Q 21) (X 21), wP (Q 22) (X 22), wO cB (Q 23) (X 23)] rfl rfl rfl (va_recv hK hP (ci := 8) (q0 := 106) rfl rfl) rfl hl.1 rfl (Nat.le_of_ble_eq_true rfl) dL_law_2428 ⟨by show _ ≤ 601024; omega, by show _ ≤ 7293034; omega⟩ (fun H locs hP hD hS => ?_)
  refine lv_istore (lv' := [(6, .int w2.1), (5, .int w1.1), (0, .ref b), (1, .ref (Q 0 0)), (2, .ref (q 0)), (3, .ref a), (4, .int i)]) hx hb dL_law_2431 hl (by decide) rfl (fun ls hl => ?_)
  refine lv_aload_n hx hb dL_law_2433 rfl (lv_at hl 4 rfl) ?_
  obtain ⟨w3, hcw3, hf⟩ := bd_ob hf
  refine rdV (As := []) (rest := []) ⟨hx, hb, hml, hown, hts⟩ (mX9_thrown l D cI cB cZ cO q fu w2.2 hcw3) (cwV 0 hts gL_law_X9_thrown rfl rfl rfl (by decide +kernel) ⟨Nat.le_of_ble_eq_true rfl, Nat.le_of_ble_eq_true rfl⟩) (hK.sub [0, 1, 2, 3] rfl) (hP.subb [25] rfl) (va_recv hK hP (ci := 8) (q0 := 106) rfl rfl) rfl hl.1 rfl (Nat.le_of_ble_eq_true rfl) dL_law_2434 ⟨by show _ ≤ 601024; omega, by show _ ≤ 7293034; omega⟩ ?_
  refine lv_iload hx hb dL_law_2437 (lv_at hl 1 rfl) ?_
  refine lv_icmp_eq (tgt := 2444) hx hb dL_law_2439 (by decide) (fun c6 => ?_) (fun c6 => ?_)
  · have hf := ip c6 hf
    refine lv_iload hx hb dL_law_2444 (lv_at hl 1 rfl) ?_
    refine lv_if_ne (tgt := 2461) hx hb dL_law_2446 (by decide) (fun c5 => ?_) (fun c5 => ?_)
    · have hf := iq c5 hf
      refine lv_goto (tgt := 2902) hx hb dL_law_2461 (by decide) ?_
      cases hf
      refine W.widen (k := cells + 8) (n := slots + 48) (by omega) (by omega) ?_
      exact kk _ _ _ hP hD hS (lv_sub hl [2, 3, 4, 5, 6] rfl)
    · have hf := ip c5 hf
      refine lv_aload_n hx hb dL_law_2449 rfl (lv_at hl 5 rfl) ?_
      refine lv_iconst (v := 0) hx hb dL_law_2450 (by decide) ?_
      refine va_lald hx hb hK hP 0 4 rfl rfl (inB_in (by decide)) dL_law_2451 ?_
      refine lv_iload hx hb dL_law_2452 (lv_at hl 0 rfl) ?_
      refine lv_i2l hx hb dL_law_2454 rfl ?_
      refine W.lcmp hx hb dL_law_2455 ?_
      refine lv_if_eq (tgt := 2461) hx hb dL_law_2456 (by decide) (fun c4 => ?_) (fun c4 => ?_)
      · have hf := ip c4 hf
        refine lv_goto (tgt := 2902) hx hb dL_law_2461 (by decide) ?_
        cases hf
        refine W.widen (k := cells + 8) (n := slots + 48) (by omega) (by omega) ?_
        exact kk _ _ _ hP hD hS (lv_sub hl [2, 3, 4, 5, 6] rfl)
      · have hf := iq c4 hf
        exact no_ob hf
  · have hf := iq c6 hf
    exact no_ob hf
set_option maxRecDepth 100000 in
set_option maxHeartbeats 4000000 in
theorem wL_54 {p : Program} {l : Launch} {e : Env} {s : State} {m : MethodId} {args : Array Value} {below : List Frame} {meth : Method} {c : Code} {H : Heap} {locs : List Loc} {cells slots : Nat} {Qf : State → Prop} {ls : Array Slot} {D : va_G} {cI cB cZ cO cJ : ClassId} {aK aV mK : Nat → Nat} {Q : Nat → Nat → Nat} {q : Nat → Nat} {a b L fu : Nat} {xs : Nat → Int32} {A : Nat → Prop} {X X1 : Nat → OS} {z z1 : OS} {o o1 : Nat → Int64} {i a1 a2 a3 a4 a5 : Int32} (hst : l.stackTraces = false) (hx : p.tables.exec = Jvm.exec) (hb : c.code = cL_law) (hml : c.maxLocals = 9) (hown : s.vm.findClass RL = some m.cls) (hts : ∀ w ∈ lw_tbl, w.before args s = true) (hK : va_K D vwCl (gL cI cB cZ cO cJ) s) (hA : ∀ q : Nat, s.heap.size ≤ q → A q) (hX : va_X b L xs s s.heap) (hbl : b < s.heap.size) (hbA : ¬ A b) (hE : EW aK aV mK A s s.heap) (hS : va_S A s.heap H locs) (hl : lv_has ls 9 [(0, .ref b), (1, .ref (Q 0 0)), (2, .ref (q 0)), (3, .ref a), (4, .int i)]) (n1 : vp_in (i + 1) L) (n2 : vp_in (i + 2) L) (n3 : vp_in (i + 3) L) (n4 : vp_in (i + 4) L) (n5 : vp_in (i + 5) L) (e1 : xs (i + 1).toNatClampNeg = a1) (e2 : xs (i + 2).toNatClampNeg = a2) (e3 : xs (i + 3).toNatClampNeg = a3) (e4 : xs (i + 4).toNatClampNeg = a4) (e5 : xs (i + 5).toNatClampNeg = a5) (hcl : cells + 8 ≤ 601024) (hsl : slots + 48 ≤ 7293034) (kk : ∀ (H1 : Heap) (locs1 : List Loc) (ls1 : Array Slot), va_P D vwCl (fl (lawW cI cB cZ cO cJ Q q a X1 z1 o1)) H1 → va_D A (fl (lawW cI cB cZ cO cJ Q q a X1 z1 o1)) → va_S A s.heap H1 locs1 → lv_has ls1 9 [(0, .ref b), (1, .ref (Q 0 0)), (2, .ref (q 0)), (3, .ref a), (4, .int i)] → W p l e room_1 s m args below meth c H1 locs1 (cells + 8) (slots + 48) Qf (F0 m 2902 ls1 [])) (hP : va_P D vwCl (fl (lawW cI cB cZ cO cJ Q q a X z o)) H) (hD : va_D A (fl (lawW cI cB cZ cO cJ Q q a X z o))) (hf : cL_54 fu a1 a2 a3 a4 a5 X z o = some (X1, z1, o1)) : W p l e room_1 s m args below meth c H locs cells slots Qf (F0 m 2464 ls []) := by
  unfold cL_54 at hf
  refine lv_aload_n hx hb dL_law_2464 rfl (lv_at hl 1 rfl) ?_
  refine lv_aload_n hx hb dL_law_2465 rfl (lv_at hl 0 rfl) ?_
  refine lv_iload hx hb dL_law_2466 (lv_at hl 4 rfl) ?_
  refine lv_iconst (v := 1) hx hb dL_law_2468 (by decide) ?_
  refine lv_iadd hx hb dL_law_2469 ?_
  refine va_sldE hx hb hX hbl hbA hS n1 e1 dL_law_2470 ?_
  refine lv_aload_n hx hb dL_law_2471 rfl (lv_at hl 3 rfl) ?_
  obtain ⟨w1, hcw1, hf⟩ := bd_ob hf
  refine wrSWb (As := [.ref (Q 0 0), .int a1, .ref a]) (rest := []) [wL cJ a w1.2.1, wXO Q, wC cI (Q 1) w1.2.2.1, wC cI (Q 2) (X 2), wS (Q 3) (Q 4 0) (Q 5 0) (Q 6 0) (Q 7 0) (X 3), wT cB (Q 4) (X 4), wC cI (Q 5) (X 5), wA (Q 6) (X 6), wP (Q 7) (X 7), wH cO (Q 8) (Q 9 0) (Q 10 0) (Q 11 0) (Q 12 0) (Q 13 0) (Q 14 0) (Q 15 0) (Q 16 0) w1.2.2.2.1, wC cI (Q 9) w1.2.2.2.2.1, wC cI (Q 10) w1.2.2.2.2.2.1, wC cI (Q 11) w1.2.2.2.2.2.2.1, wC cI (Q 12) w1.2.2.2.2.2.2.2.1, wC cI (Q 13) w1.2.2.2.2.2.2.2.2.1, wC cI (Q 14) w1.2.2.2.2.2.2.2.2.2.1, wC cI (Q 15) w1.2.2.2.2.2.2.2.2.2.2.1, wC cI (Q 16) w1.2.2.2.2.2.2.2.2.2.2.2.1, wXS cO (Q 17) (Q 18 0) (Q 19 0), wC cI (Q 18) (X 18), wC cI (Q 19) (X 19), wXF cZ (Q 20) (X 20), wA (Q 21) w1.2.2.2.2.2.2.2.2.2.2.2.2, wP (Q 22) (X 22), wO cB (Q 23) (X 23), wM cI cB cZ q z] ⟨hx, hb, hml, hown, hts⟩ (mL_saturate l D cI cB cZ cO cJ aK aV mK hst Q a _ fu o (X 0) (X 1) (X 2) (X 3) (X 4) (X 5) (X 6) (X 7) (X 8) (X 9) (X 10) (X 11) (X 12) (X 13) (X 14) (X 15) (X 16) (X 17) (X 18) (X 19) (X 20) (X 21) (X 22) (X 23) a1 hcw1) (vx_cwSW 3 hts gL_law_L_saturate rfl rfl rfl (by decide +kernel) ⟨Nat.le_of_ble_eq_true rfl, Nat.le_of_ble_eq_true rfl⟩) (EW_ok aK aV mK) ((EW_ok aK aV mK).2.2.1 _ _ _ _ hS.2.1 hE) hK hP hD hS hA [0, 1, 2, 3, 4, 5, 6, 7, 8, 9, 10, 11, 12, 13, 14, 15, 16, 17, 18, 19, 20, 21, 22, 23, 24] [25] 26 rfl (by decide +kernel) rfl rfl [wM cI cB cZ q z] rfl rfl rfl rfl hl.1 rfl (Nat.le_of_ble_eq_true rfl) dL_law_2472 ⟨by show _ ≤ 601024; omega, by show _ ≤ 7293034; omega⟩ (fun H locs hP hD hS => ?_)
  refine lv_istore (lv' := [(5, .int w1.1), (0, .ref b), (1, .ref (Q 0 0)), (2, .ref (q 0)), (3, .ref a), (4, .int i)]) hx hb dL_law_2475 hl (by decide) rfl (fun ls hl => ?_)
  refine lv_aload_n hx hb dL_law_2477 rfl (lv_at hl 3 rfl) ?_
  refine lv_aload_n hx hb dL_law_2478 rfl (lv_at hl 1 rfl) ?_
  refine lv_iload hx hb dL_law_2479 (lv_at hl 5 rfl) ?_
  refine lv_iconst (v := 1) hx hb dL_law_2481 (by decide) ?_
  refine lv_iadd hx hb dL_law_2482 ?_
  refine va_sldE hx hb hX hbl hbA hS n1 e1 dL_law_2483 ?_
  obtain ⟨w2, hcw2, hf⟩ := bd_ob hf
  refine wrVb (As := [.int a1]) (rest := []) [wL cJ a w1.2.1, wXO Q, wC cI (Q 1) w1.2.2.1, wC cI (Q 2) (X 2), wS (Q 3) (Q 4 0) (Q 5 0) (Q 6 0) (Q 7 0) (X 3), wT cB (Q 4) (X 4), wC cI (Q 5) (X 5), wA (Q 6) (X 6), wP (Q 7) (X 7), wH cO (Q 8) (Q 9 0) (Q 10 0) (Q 11 0) (Q 12 0) (Q 13 0) (Q 14 0) (Q 15 0) (Q 16 0) w1.2.2.2.1, wC cI (Q 9) w1.2.2.2.2.1, wC cI (Q 10) w1.2.2.2.2.2.1, wC cI (Q 11) w1.2.2.2.2.2.2.1, wC cI (Q 12) w1.2.2.2.2.2.2.2.1, wC cI (Q 13) w1.2.2.2.2.2.2.2.2.1, wC cI (Q 14) w1.2.2.2.2.2.2.2.2.2.1, wC cI (Q 15) w1.2.2.2.2.2.2.2.2.2.2.1, wC cI (Q 16) w1.2.2.2.2.2.2.2.2.2.2.2.1, wXS cO (Q 17) (Q 18 0) (Q 19 0), wC cI (Q 18) (X 18), wC cI (Q 19) (X 19), wXF cZ (Q 20) (X 20), wA (Q 21) w1.2.2.2.2.2.2.2.2.2.2.2.2, wP (Q 22) (X 22), wO cB (Q 23) (X 23), wM cI cB cZ q w2.2] ⟨hx, hb, hml, hown, hts⟩ (mX9_saturate l D cI cB cZ cO q _ fu z a1 hcw2) (cwV 1 hts gL_law_X9_saturate rfl rfl rfl (by decide +kernel) ⟨Nat.le_of_ble_eq_true rfl, Nat.le_of_ble_eq_true rfl⟩) (hK.sub [0, 1, 2, 3] rfl) hP hD hS hA [25] [0, 1, 2, 3, 4, 5, 6, 7, 8, 9, 10, 11, 12, 13, 14, 15, 16, 17, 18, 19, 20, 21, 22, 23, 24] 26 rfl (by decide +kernel) rfl rfl [wL cJ a w1.2.1, wXO Q, wC cI (Q 1) w1.2.2.1, wC cI (Q 2) (X 2), wS (Q 3) (Q 4 0) (Q 5 0) (Q 6 0) (Q 7 0) (X 3), wT cB (Q 4) (X 4), wC cI (Q 5) (X 5), wA (Q 6) (X 6), wP (Q 7) (X 7), wH cO (Q 8) (Q 9 0) (Q 10 0) (Q 11 0) (Q 12 0) (Q 13 0) (Q 14 0) (Q 15 0) (Q 16 0) w1.2.2.2.1, wC cI (Q 9) w1.2.2.2.2.1, wC cI (Q 10) w1.2.2.2.2.2.1, wC cI (Q 11) w1.2.2.2.2.2.2.1, wC cI (Q 12) w1.2.2.2.2.2.2.2.1, wC cI (Q 13) w1.2.2.2.2.2.2.2.2.1, wC cI (Q 14) w1.2.2.2.2.2.2.2.2.2.1, wC cI (Q 15) w1.2.2.2.2.2.2.2.2.2.2.1, wC cI (Q 16) w1.2.2.2.2.2.2.2.2.2.2.2.1, wXS cO (Q 17) (Q 18 0) (Q 19 0), wC cI (Q 18) (X 18), wC cI (Q 19) (X 19), wXF cZ (Q 20) (X 20), wA (Q 21) w1.2.2.2.2.2.2.2.2.2.2.2.2, wP (Q 22) (X 22), wO cB (Q 23) (X 23)] rfl rfl rfl (va_recv hK hP (ci := 8) (q0 := 106) rfl rfl) rfl hl.1 rfl (Nat.le_of_ble_eq_true rfl) dL_law_2484 ⟨by show _ ≤ 601024; omega, by show _ ≤ 7293034; omega⟩ (fun H locs hP hD hS => ?_)
  refine lv_istore (lv' := [(6, .int w2.1), (5, .int w1.1), (0, .ref b), (1, .ref (Q 0 0)), (2, .ref (q 0)), (3, .ref a), (4, .int i)]) hx hb dL_law_2487 hl (by decide) rfl (fun ls hl => ?_)
  refine lv_aload_n hx hb dL_law_2489 rfl (lv_at hl 4 rfl) ?_
  obtain ⟨w3, hcw3, hf⟩ := bd_ob hf
  refine rdV (As := []) (rest := []) ⟨hx, hb, hml, hown, hts⟩ (mX9_thrown l D cI cB cZ cO q fu w2.2 hcw3) (cwV 0 hts gL_law_X9_thrown rfl rfl rfl (by decide +kernel) ⟨Nat.le_of_ble_eq_true rfl, Nat.le_of_ble_eq_true rfl⟩) (hK.sub [0, 1, 2, 3] rfl) (hP.subb [25] rfl) (va_recv hK hP (ci := 8) (q0 := 106) rfl rfl) rfl hl.1 rfl (Nat.le_of_ble_eq_true rfl) dL_law_2490 ⟨by show _ ≤ 601024; omega, by show _ ≤ 7293034; omega⟩ ?_
  refine lv_iload hx hb dL_law_2493 (lv_at hl 1 rfl) ?_
  refine lv_icmp_eq (tgt := 2500) hx hb dL_law_2495 (by decide) (fun c6 => ?_) (fun c6 => ?_)
  · have hf := ip c6 hf
    refine lv_iload hx hb dL_law_2500 (lv_at hl 1 rfl) ?_
    refine lv_if_ne (tgt := 2517) hx hb dL_law_2502 (by decide) (fun c5 => ?_) (fun c5 => ?_)
    · have hf := iq c5 hf
      refine lv_goto (tgt := 2902) hx hb dL_law_2517 (by decide) ?_
      cases hf
      refine W.widen (k := cells + 8) (n := slots + 48) (by omega) (by omega) ?_
      exact kk _ _ _ hP hD hS (lv_sub hl [2, 3, 4, 5, 6] rfl)
    · have hf := ip c5 hf
      refine lv_aload_n hx hb dL_law_2505 rfl (lv_at hl 5 rfl) ?_
      refine lv_iconst (v := 0) hx hb dL_law_2506 (by decide) ?_
      refine va_lald hx hb hK hP 0 4 rfl rfl (inB_in (by decide)) dL_law_2507 ?_
      refine lv_iload hx hb dL_law_2508 (lv_at hl 0 rfl) ?_
      refine lv_i2l hx hb dL_law_2510 rfl ?_
      refine W.lcmp hx hb dL_law_2511 ?_
      refine lv_if_eq (tgt := 2517) hx hb dL_law_2512 (by decide) (fun c4 => ?_) (fun c4 => ?_)
      · have hf := ip c4 hf
        refine lv_goto (tgt := 2902) hx hb dL_law_2517 (by decide) ?_
        cases hf
        refine W.widen (k := cells + 8) (n := slots + 48) (by omega) (by omega) ?_
        exact kk _ _ _ hP hD hS (lv_sub hl [2, 3, 4, 5, 6] rfl)
      · have hf := iq c4 hf
        exact no_ob hf
  · have hf := iq c6 hf
    exact no_ob hf
set_option maxRecDepth 100000 in
set_option maxHeartbeats 4000000 in
theorem wL_55 {p : Program} {l : Launch} {e : Env} {s : State} {m : MethodId} {args : Array Value} {below : List Frame} {meth : Method} {c : Code} {H : Heap} {locs : List Loc} {cells slots : Nat} {Qf : State → Prop} {ls : Array Slot} {D : va_G} {cI cB cZ cO cJ : ClassId} {aK aV mK : Nat → Nat} {Q : Nat → Nat → Nat} {q : Nat → Nat} {a b L fu : Nat} {xs : Nat → Int32} {A : Nat → Prop} {X X1 : Nat → OS} {z z1 : OS} {o o1 : Nat → Int64} {i a1 a2 a3 a4 a5 : Int32} (hst : l.stackTraces = false) (hx : p.tables.exec = Jvm.exec) (hb : c.code = cL_law) (hml : c.maxLocals = 9) (hown : s.vm.findClass RL = some m.cls) (hts : ∀ w ∈ lw_tbl, w.before args s = true) (hK : va_K D vwCl (gL cI cB cZ cO cJ) s) (hA : ∀ q : Nat, s.heap.size ≤ q → A q) (hX : va_X b L xs s s.heap) (hbl : b < s.heap.size) (hbA : ¬ A b) (hE : EW aK aV mK A s s.heap) (hS : va_S A s.heap H locs) (hl : lv_has ls 9 [(0, .ref b), (1, .ref (Q 0 0)), (2, .ref (q 0)), (3, .ref a), (4, .int i)]) (n1 : vp_in (i + 1) L) (n2 : vp_in (i + 2) L) (n3 : vp_in (i + 3) L) (n4 : vp_in (i + 4) L) (n5 : vp_in (i + 5) L) (e1 : xs (i + 1).toNatClampNeg = a1) (e2 : xs (i + 2).toNatClampNeg = a2) (e3 : xs (i + 3).toNatClampNeg = a3) (e4 : xs (i + 4).toNatClampNeg = a4) (e5 : xs (i + 5).toNatClampNeg = a5) (hcl : cells + 8 ≤ 601024) (hsl : slots + 48 ≤ 7293034) (kk : ∀ (H1 : Heap) (locs1 : List Loc) (ls1 : Array Slot), va_P D vwCl (fl (lawW cI cB cZ cO cJ Q q a X1 z1 o1)) H1 → va_D A (fl (lawW cI cB cZ cO cJ Q q a X1 z1 o1)) → va_S A s.heap H1 locs1 → lv_has ls1 9 [(0, .ref b), (1, .ref (Q 0 0)), (2, .ref (q 0)), (3, .ref a), (4, .int i)] → W p l e room_1 s m args below meth c H1 locs1 (cells + 8) (slots + 48) Qf (F0 m 2902 ls1 [])) (hP : va_P D vwCl (fl (lawW cI cB cZ cO cJ Q q a X z o)) H) (hD : va_D A (fl (lawW cI cB cZ cO cJ Q q a X z o))) (hf : cL_55 fu a1 a2 a3 a4 a5 X z o = some (X1, z1, o1)) : W p l e room_1 s m args below meth c H locs cells slots Qf (F0 m 2520 ls []) := by
  unfold cL_55 at hf
  refine lv_aload_n hx hb dL_law_2520 rfl (lv_at hl 1 rfl) ?_
  refine lv_aload_n hx hb dL_law_2521 rfl (lv_at hl 0 rfl) ?_
  refine lv_iload hx hb dL_law_2522 (lv_at hl 4 rfl) ?_
  refine lv_iconst (v := 1) hx hb dL_law_2524 (by decide) ?_
  refine lv_iadd hx hb dL_law_2525 ?_
  refine va_sldE hx hb hX hbl hbA hS n1 e1 dL_law_2526 ?_
  refine lv_aload_n hx hb dL_law_2527 rfl (lv_at hl 3 rfl) ?_
  obtain ⟨w1, hcw1, hf⟩ := bd_ob hf
  refine wrSWb (As := [.ref (Q 0 0), .int a1, .ref a]) (rest := []) [wL cJ a w1.2.1, wXO Q, wC cI (Q 1) w1.2.2.1, wC cI (Q 2) (X 2), wS (Q 3) (Q 4 0) (Q 5 0) (Q 6 0) (Q 7 0) (X 3), wT cB (Q 4) (X 4), wC cI (Q 5) (X 5), wA (Q 6) (X 6), wP (Q 7) (X 7), wH cO (Q 8) (Q 9 0) (Q 10 0) (Q 11 0) (Q 12 0) (Q 13 0) (Q 14 0) (Q 15 0) (Q 16 0) w1.2.2.2.1, wC cI (Q 9) w1.2.2.2.2.1, wC cI (Q 10) w1.2.2.2.2.2.1, wC cI (Q 11) w1.2.2.2.2.2.2.1, wC cI (Q 12) w1.2.2.2.2.2.2.2.1, wC cI (Q 13) w1.2.2.2.2.2.2.2.2.1, wC cI (Q 14) w1.2.2.2.2.2.2.2.2.2.1, wC cI (Q 15) w1.2.2.2.2.2.2.2.2.2.2.1, wC cI (Q 16) w1.2.2.2.2.2.2.2.2.2.2.2, wXS cO (Q 17) (Q 18 0) (Q 19 0), wC cI (Q 18) (X 18), wC cI (Q 19) (X 19), wXF cZ (Q 20) (X 20), wA (Q 21) (X 21), wP (Q 22) (X 22), wO cB (Q 23) (X 23), wM cI cB cZ q z] ⟨hx, hb, hml, hown, hts⟩ (mL_dropClause l D cI cB cZ cO cJ aK aV mK hst Q a _ fu o (X 0) (X 1) (X 2) (X 3) (X 4) (X 5) (X 6) (X 7) (X 8) (X 9) (X 10) (X 11) (X 12) (X 13) (X 14) (X 15) (X 16) (X 17) (X 18) (X 19) (X 20) (X 21) (X 22) (X 23) a1 hcw1) (vx_cwSW 3 hts gL_law_L_dropClause rfl rfl rfl (by decide +kernel) ⟨Nat.le_of_ble_eq_true rfl, Nat.le_of_ble_eq_true rfl⟩) (EW_ok aK aV mK) ((EW_ok aK aV mK).2.2.1 _ _ _ _ hS.2.1 hE) hK hP hD hS hA [0, 1, 2, 3, 4, 5, 6, 7, 8, 9, 10, 11, 12, 13, 14, 15, 16, 17, 18, 19, 20, 21, 22, 23, 24] [25] 26 rfl (by decide +kernel) rfl rfl [wM cI cB cZ q z] rfl rfl rfl rfl hl.1 rfl (Nat.le_of_ble_eq_true rfl) dL_law_2528 ⟨by show _ ≤ 601024; omega, by show _ ≤ 7293034; omega⟩ (fun H locs hP hD hS => ?_)
  refine lv_istore (lv' := [(5, .int w1.1), (0, .ref b), (1, .ref (Q 0 0)), (2, .ref (q 0)), (3, .ref a), (4, .int i)]) hx hb dL_law_2531 hl (by decide) rfl (fun ls hl => ?_)
  refine lv_aload_n hx hb dL_law_2533 rfl (lv_at hl 3 rfl) ?_
  refine lv_aload_n hx hb dL_law_2534 rfl (lv_at hl 1 rfl) ?_
  refine lv_iload hx hb dL_law_2535 (lv_at hl 5 rfl) ?_
  refine lv_iconst (v := 1) hx hb dL_law_2537 (by decide) ?_
  refine lv_iadd hx hb dL_law_2538 ?_
  refine va_sldE hx hb hX hbl hbA hS n1 e1 dL_law_2539 ?_
  obtain ⟨w2, hcw2, hf⟩ := bd_ob hf
  refine wrVb (As := [.int a1]) (rest := []) [wL cJ a w1.2.1, wXO Q, wC cI (Q 1) w1.2.2.1, wC cI (Q 2) (X 2), wS (Q 3) (Q 4 0) (Q 5 0) (Q 6 0) (Q 7 0) (X 3), wT cB (Q 4) (X 4), wC cI (Q 5) (X 5), wA (Q 6) (X 6), wP (Q 7) (X 7), wH cO (Q 8) (Q 9 0) (Q 10 0) (Q 11 0) (Q 12 0) (Q 13 0) (Q 14 0) (Q 15 0) (Q 16 0) w1.2.2.2.1, wC cI (Q 9) w1.2.2.2.2.1, wC cI (Q 10) w1.2.2.2.2.2.1, wC cI (Q 11) w1.2.2.2.2.2.2.1, wC cI (Q 12) w1.2.2.2.2.2.2.2.1, wC cI (Q 13) w1.2.2.2.2.2.2.2.2.1, wC cI (Q 14) w1.2.2.2.2.2.2.2.2.2.1, wC cI (Q 15) w1.2.2.2.2.2.2.2.2.2.2.1, wC cI (Q 16) w1.2.2.2.2.2.2.2.2.2.2.2, wXS cO (Q 17) (Q 18 0) (Q 19 0), wC cI (Q 18) (X 18), wC cI (Q 19) (X 19), wXF cZ (Q 20) (X 20), wA (Q 21) (X 21), wP (Q 22) (X 22), wO cB (Q 23) (X 23), wM cI cB cZ q w2.2] ⟨hx, hb, hml, hown, hts⟩ (mX9_dropClause l D cI cB cZ cO q _ fu z a1 hcw2) (cwV 1 hts gL_law_X9_dropClause rfl rfl rfl (by decide +kernel) ⟨Nat.le_of_ble_eq_true rfl, Nat.le_of_ble_eq_true rfl⟩) (hK.sub [0, 1, 2, 3] rfl) hP hD hS hA [25] [0, 1, 2, 3, 4, 5, 6, 7, 8, 9, 10, 11, 12, 13, 14, 15, 16, 17, 18, 19, 20, 21, 22, 23, 24] 26 rfl (by decide +kernel) rfl rfl [wL cJ a w1.2.1, wXO Q, wC cI (Q 1) w1.2.2.1, wC cI (Q 2) (X 2), wS (Q 3) (Q 4 0) (Q 5 0) (Q 6 0) (Q 7 0) (X 3), wT cB (Q 4) (X 4), wC cI (Q 5) (X 5), wA (Q 6) (X 6), wP (Q 7) (X 7), wH cO (Q 8) (Q 9 0) (Q 10 0) (Q 11 0) (Q 12 0) (Q 13 0) (Q 14 0) (Q 15 0) (Q 16 0) w1.2.2.2.1, wC cI (Q 9) w1.2.2.2.2.1, wC cI (Q 10) w1.2.2.2.2.2.1, wC cI (Q 11) w1.2.2.2.2.2.2.1, wC cI (Q 12) w1.2.2.2.2.2.2.2.1, wC cI (Q 13) w1.2.2.2.2.2.2.2.2.1, wC cI (Q 14) w1.2.2.2.2.2.2.2.2.2.1, wC cI (Q 15) w1.2.2.2.2.2.2.2.2.2.2.1, wC cI (Q 16) w1.2.2.2.2.2.2.2.2.2.2.2, wXS cO (Q 17) (Q 18 0) (Q 19 0), wC cI (Q 18) (X 18), wC cI (Q 19) (X 19), wXF cZ (Q 20) (X 20), wA (Q 21) (X 21), wP (Q 22) (X 22), wO cB (Q 23) (X 23)] rfl rfl rfl (va_recv hK hP (ci := 8) (q0 := 106) rfl rfl) rfl hl.1 rfl (Nat.le_of_ble_eq_true rfl) dL_law_2540 ⟨by show _ ≤ 601024; omega, by show _ ≤ 7293034; omega⟩ (fun H locs hP hD hS => ?_)
  refine lv_istore (lv' := [(6, .int w2.1), (5, .int w1.1), (0, .ref b), (1, .ref (Q 0 0)), (2, .ref (q 0)), (3, .ref a), (4, .int i)]) hx hb dL_law_2543 hl (by decide) rfl (fun ls hl => ?_)
  refine lv_aload_n hx hb dL_law_2545 rfl (lv_at hl 4 rfl) ?_
  obtain ⟨w3, hcw3, hf⟩ := bd_ob hf
  refine rdV (As := []) (rest := []) ⟨hx, hb, hml, hown, hts⟩ (mX9_thrown l D cI cB cZ cO q fu w2.2 hcw3) (cwV 0 hts gL_law_X9_thrown rfl rfl rfl (by decide +kernel) ⟨Nat.le_of_ble_eq_true rfl, Nat.le_of_ble_eq_true rfl⟩) (hK.sub [0, 1, 2, 3] rfl) (hP.subb [25] rfl) (va_recv hK hP (ci := 8) (q0 := 106) rfl rfl) rfl hl.1 rfl (Nat.le_of_ble_eq_true rfl) dL_law_2546 ⟨by show _ ≤ 601024; omega, by show _ ≤ 7293034; omega⟩ ?_
  refine lv_iload hx hb dL_law_2549 (lv_at hl 1 rfl) ?_
  refine lv_icmp_eq (tgt := 2556) hx hb dL_law_2551 (by decide) (fun c6 => ?_) (fun c6 => ?_)
  · have hf := ip c6 hf
    refine lv_iload hx hb dL_law_2556 (lv_at hl 1 rfl) ?_
    refine lv_if_ne (tgt := 2573) hx hb dL_law_2558 (by decide) (fun c5 => ?_) (fun c5 => ?_)
    · have hf := iq c5 hf
      refine lv_goto (tgt := 2902) hx hb dL_law_2573 (by decide) ?_
      cases hf
      refine W.widen (k := cells + 8) (n := slots + 48) (by omega) (by omega) ?_
      exact kk _ _ _ hP hD hS (lv_sub hl [2, 3, 4, 5, 6] rfl)
    · have hf := ip c5 hf
      refine lv_aload_n hx hb dL_law_2561 rfl (lv_at hl 5 rfl) ?_
      refine lv_iconst (v := 0) hx hb dL_law_2562 (by decide) ?_
      refine va_lald hx hb hK hP 0 4 rfl rfl (inB_in (by decide)) dL_law_2563 ?_
      refine lv_iload hx hb dL_law_2564 (lv_at hl 0 rfl) ?_
      refine lv_i2l hx hb dL_law_2566 rfl ?_
      refine W.lcmp hx hb dL_law_2567 ?_
      refine lv_if_eq (tgt := 2573) hx hb dL_law_2568 (by decide) (fun c4 => ?_) (fun c4 => ?_)
      · have hf := ip c4 hf
        refine lv_goto (tgt := 2902) hx hb dL_law_2573 (by decide) ?_
        cases hf
        refine W.widen (k := cells + 8) (n := slots + 48) (by omega) (by omega) ?_
        exact kk _ _ _ hP hD hS (lv_sub hl [2, 3, 4, 5, 6] rfl)
      · have hf := iq c4 hf
        exact no_ob hf
  · have hf := iq c6 hf
    exact no_ob hf
set_option maxRecDepth 100000 in
set_option maxHeartbeats 4000000 in
theorem wL_56 {p : Program} {l : Launch} {e : Env} {s : State} {m : MethodId} {args : Array Value} {below : List Frame} {meth : Method} {c : Code} {H : Heap} {locs : List Loc} {cells slots : Nat} {Qf : State → Prop} {ls : Array Slot} {D : va_G} {cI cB cZ cO cJ : ClassId} {aK aV mK : Nat → Nat} {Q : Nat → Nat → Nat} {q : Nat → Nat} {a b L fu : Nat} {xs : Nat → Int32} {A : Nat → Prop} {X X1 : Nat → OS} {z z1 : OS} {o o1 : Nat → Int64} {i a1 a2 a3 a4 a5 : Int32} (hst : l.stackTraces = false) (hx : p.tables.exec = Jvm.exec) (hb : c.code = cL_law) (hml : c.maxLocals = 9) (hown : s.vm.findClass RL = some m.cls) (hts : ∀ w ∈ lw_tbl, w.before args s = true) (hK : va_K D vwCl (gL cI cB cZ cO cJ) s) (hA : ∀ q : Nat, s.heap.size ≤ q → A q) (hX : va_X b L xs s s.heap) (hbl : b < s.heap.size) (hbA : ¬ A b) (hE : EW aK aV mK A s s.heap) (hS : va_S A s.heap H locs) (hl : lv_has ls 9 [(0, .ref b), (1, .ref (Q 0 0)), (2, .ref (q 0)), (3, .ref a), (4, .int i)]) (n1 : vp_in (i + 1) L) (n2 : vp_in (i + 2) L) (n3 : vp_in (i + 3) L) (n4 : vp_in (i + 4) L) (n5 : vp_in (i + 5) L) (e1 : xs (i + 1).toNatClampNeg = a1) (e2 : xs (i + 2).toNatClampNeg = a2) (e3 : xs (i + 3).toNatClampNeg = a3) (e4 : xs (i + 4).toNatClampNeg = a4) (e5 : xs (i + 5).toNatClampNeg = a5) (hcl : cells + 8 ≤ 601024) (hsl : slots + 48 ≤ 7293034) (kk : ∀ (H1 : Heap) (locs1 : List Loc) (ls1 : Array Slot), va_P D vwCl (fl (lawW cI cB cZ cO cJ Q q a X1 z1 o1)) H1 → va_D A (fl (lawW cI cB cZ cO cJ Q q a X1 z1 o1)) → va_S A s.heap H1 locs1 → lv_has ls1 9 [(0, .ref b), (1, .ref (Q 0 0)), (2, .ref (q 0)), (3, .ref a), (4, .int i)] → W p l e room_1 s m args below meth c H1 locs1 (cells + 8) (slots + 48) Qf (F0 m 2902 ls1 [])) (hP : va_P D vwCl (fl (lawW cI cB cZ cO cJ Q q a X z o)) H) (hD : va_D A (fl (lawW cI cB cZ cO cJ Q q a X z o))) (hf : cL_56 fu a1 a2 a3 a4 a5 X z o = some (X1, z1, o1)) : W p l e room_1 s m args below meth c H locs cells slots Qf (F0 m 2576 ls []) := by
  unfold cL_56 at hf
  refine lv_aload_n hx hb dL_law_2576 rfl (lv_at hl 1 rfl) ?_
  refine lv_aload_n hx hb dL_law_2577 rfl (lv_at hl 0 rfl) ?_
  refine lv_iload hx hb dL_law_2578 (lv_at hl 4 rfl) ?_
  refine lv_iconst (v := 1) hx hb dL_law_2580 (by decide) ?_
  refine lv_iadd hx hb dL_law_2581 ?_
  refine va_sldE hx hb hX hbl hbA hS n1 e1 dL_law_2582 ?_
  refine lv_aload_n hx hb dL_law_2583 rfl (lv_at hl 3 rfl) ?_
  obtain ⟨w1, hcw1, hf⟩ := bd_ob hf
  refine wrSWb (As := [.ref (Q 0 0), .int a1, .ref a]) (rest := []) [wL cJ a w1.2.1, wXO Q, wC cI (Q 1) w1.2.2.1, wC cI (Q 2) (X 2), wS (Q 3) (Q 4 0) (Q 5 0) (Q 6 0) (Q 7 0) (X 3), wT cB (Q 4) (X 4), wC cI (Q 5) (X 5), wA (Q 6) (X 6), wP (Q 7) (X 7), wH cO (Q 8) (Q 9 0) (Q 10 0) (Q 11 0) (Q 12 0) (Q 13 0) (Q 14 0) (Q 15 0) (Q 16 0) w1.2.2.2.1, wC cI (Q 9) w1.2.2.2.2.1, wC cI (Q 10) w1.2.2.2.2.2.1, wC cI (Q 11) w1.2.2.2.2.2.2.1, wC cI (Q 12) w1.2.2.2.2.2.2.2.1, wC cI (Q 13) w1.2.2.2.2.2.2.2.2.1, wC cI (Q 14) w1.2.2.2.2.2.2.2.2.2.1, wC cI (Q 15) w1.2.2.2.2.2.2.2.2.2.2.1, wC cI (Q 16) w1.2.2.2.2.2.2.2.2.2.2.2, wXS cO (Q 17) (Q 18 0) (Q 19 0), wC cI (Q 18) (X 18), wC cI (Q 19) (X 19), wXF cZ (Q 20) (X 20), wA (Q 21) (X 21), wP (Q 22) (X 22), wO cB (Q 23) (X 23), wM cI cB cZ q z] ⟨hx, hb, hml, hown, hts⟩ (mL_negateVariable l D cI cB cZ cO cJ aK aV mK hst Q a _ fu o (X 0) (X 1) (X 2) (X 3) (X 4) (X 5) (X 6) (X 7) (X 8) (X 9) (X 10) (X 11) (X 12) (X 13) (X 14) (X 15) (X 16) (X 17) (X 18) (X 19) (X 20) (X 21) (X 22) (X 23) a1 hcw1) (vx_cwSW 3 hts gL_law_L_negateVariable rfl rfl rfl (by decide +kernel) ⟨Nat.le_of_ble_eq_true rfl, Nat.le_of_ble_eq_true rfl⟩) (EW_ok aK aV mK) ((EW_ok aK aV mK).2.2.1 _ _ _ _ hS.2.1 hE) hK hP hD hS hA [0, 1, 2, 3, 4, 5, 6, 7, 8, 9, 10, 11, 12, 13, 14, 15, 16, 17, 18, 19, 20, 21, 22, 23, 24] [25] 26 rfl (by decide +kernel) rfl rfl [wM cI cB cZ q z] rfl rfl rfl rfl hl.1 rfl (Nat.le_of_ble_eq_true rfl) dL_law_2584 ⟨by show _ ≤ 601024; omega, by show _ ≤ 7293034; omega⟩ (fun H locs hP hD hS => ?_)
  refine lv_istore (lv' := [(5, .int w1.1), (0, .ref b), (1, .ref (Q 0 0)), (2, .ref (q 0)), (3, .ref a), (4, .int i)]) hx hb dL_law_2587 hl (by decide) rfl (fun ls hl => ?_)
  refine lv_aload_n hx hb dL_law_2589 rfl (lv_at hl 3 rfl) ?_
  refine lv_aload_n hx hb dL_law_2590 rfl (lv_at hl 1 rfl) ?_
  refine lv_iload hx hb dL_law_2591 (lv_at hl 5 rfl) ?_
  refine lv_iconst (v := 1) hx hb dL_law_2593 (by decide) ?_
  refine lv_iadd hx hb dL_law_2594 ?_
  refine va_sldE hx hb hX hbl hbA hS n1 e1 dL_law_2595 ?_
  obtain ⟨w2, hcw2, hf⟩ := bd_ob hf
  refine wrVb (As := [.int a1]) (rest := []) [wL cJ a w1.2.1, wXO Q, wC cI (Q 1) w1.2.2.1, wC cI (Q 2) (X 2), wS (Q 3) (Q 4 0) (Q 5 0) (Q 6 0) (Q 7 0) (X 3), wT cB (Q 4) (X 4), wC cI (Q 5) (X 5), wA (Q 6) (X 6), wP (Q 7) (X 7), wH cO (Q 8) (Q 9 0) (Q 10 0) (Q 11 0) (Q 12 0) (Q 13 0) (Q 14 0) (Q 15 0) (Q 16 0) w1.2.2.2.1, wC cI (Q 9) w1.2.2.2.2.1, wC cI (Q 10) w1.2.2.2.2.2.1, wC cI (Q 11) w1.2.2.2.2.2.2.1, wC cI (Q 12) w1.2.2.2.2.2.2.2.1, wC cI (Q 13) w1.2.2.2.2.2.2.2.2.1, wC cI (Q 14) w1.2.2.2.2.2.2.2.2.2.1, wC cI (Q 15) w1.2.2.2.2.2.2.2.2.2.2.1, wC cI (Q 16) w1.2.2.2.2.2.2.2.2.2.2.2, wXS cO (Q 17) (Q 18 0) (Q 19 0), wC cI (Q 18) (X 18), wC cI (Q 19) (X 19), wXF cZ (Q 20) (X 20), wA (Q 21) (X 21), wP (Q 22) (X 22), wO cB (Q 23) (X 23), wM cI cB cZ q w2.2] ⟨hx, hb, hml, hown, hts⟩ (mX9_negateVariable l D cI cB cZ cO q _ fu z a1 hcw2) (cwV 1 hts gL_law_X9_negateVariable rfl rfl rfl (by decide +kernel) ⟨Nat.le_of_ble_eq_true rfl, Nat.le_of_ble_eq_true rfl⟩) (hK.sub [0, 1, 2, 3] rfl) hP hD hS hA [25] [0, 1, 2, 3, 4, 5, 6, 7, 8, 9, 10, 11, 12, 13, 14, 15, 16, 17, 18, 19, 20, 21, 22, 23, 24] 26 rfl (by decide +kernel) rfl rfl [wL cJ a w1.2.1, wXO Q, wC cI (Q 1) w1.2.2.1, wC cI (Q 2) (X 2), wS (Q 3) (Q 4 0) (Q 5 0) (Q 6 0) (Q 7 0) (X 3), wT cB (Q 4) (X 4), wC cI (Q 5) (X 5), wA (Q 6) (X 6), wP (Q 7) (X 7), wH cO (Q 8) (Q 9 0) (Q 10 0) (Q 11 0) (Q 12 0) (Q 13 0) (Q 14 0) (Q 15 0) (Q 16 0) w1.2.2.2.1, wC cI (Q 9) w1.2.2.2.2.1, wC cI (Q 10) w1.2.2.2.2.2.1, wC cI (Q 11) w1.2.2.2.2.2.2.1, wC cI (Q 12) w1.2.2.2.2.2.2.2.1, wC cI (Q 13) w1.2.2.2.2.2.2.2.2.1, wC cI (Q 14) w1.2.2.2.2.2.2.2.2.2.1, wC cI (Q 15) w1.2.2.2.2.2.2.2.2.2.2.1, wC cI (Q 16) w1.2.2.2.2.2.2.2.2.2.2.2, wXS cO (Q 17) (Q 18 0) (Q 19 0), wC cI (Q 18) (X 18), wC cI (Q 19) (X 19), wXF cZ (Q 20) (X 20), wA (Q 21) (X 21), wP (Q 22) (X 22), wO cB (Q 23) (X 23)] rfl rfl rfl (va_recv hK hP (ci := 8) (q0 := 106) rfl rfl) rfl hl.1 rfl (Nat.le_of_ble_eq_true rfl) dL_law_2596 ⟨by show _ ≤ 601024; omega, by show _ ≤ 7293034; omega⟩ (fun H locs hP hD hS => ?_)
  refine lv_istore (lv' := [(6, .int w2.1), (5, .int w1.1), (0, .ref b), (1, .ref (Q 0 0)), (2, .ref (q 0)), (3, .ref a), (4, .int i)]) hx hb dL_law_2599 hl (by decide) rfl (fun ls hl => ?_)
  refine lv_aload_n hx hb dL_law_2601 rfl (lv_at hl 4 rfl) ?_
  obtain ⟨w3, hcw3, hf⟩ := bd_ob hf
  refine rdV (As := []) (rest := []) ⟨hx, hb, hml, hown, hts⟩ (mX9_thrown l D cI cB cZ cO q fu w2.2 hcw3) (cwV 0 hts gL_law_X9_thrown rfl rfl rfl (by decide +kernel) ⟨Nat.le_of_ble_eq_true rfl, Nat.le_of_ble_eq_true rfl⟩) (hK.sub [0, 1, 2, 3] rfl) (hP.subb [25] rfl) (va_recv hK hP (ci := 8) (q0 := 106) rfl rfl) rfl hl.1 rfl (Nat.le_of_ble_eq_true rfl) dL_law_2602 ⟨by show _ ≤ 601024; omega, by show _ ≤ 7293034; omega⟩ ?_
  refine lv_iload hx hb dL_law_2605 (lv_at hl 1 rfl) ?_
  refine lv_icmp_eq (tgt := 2612) hx hb dL_law_2607 (by decide) (fun c6 => ?_) (fun c6 => ?_)
  · have hf := ip c6 hf
    refine lv_iload hx hb dL_law_2612 (lv_at hl 1 rfl) ?_
    refine lv_if_ne (tgt := 2629) hx hb dL_law_2614 (by decide) (fun c5 => ?_) (fun c5 => ?_)
    · have hf := iq c5 hf
      refine lv_goto (tgt := 2902) hx hb dL_law_2629 (by decide) ?_
      cases hf
      refine W.widen (k := cells + 8) (n := slots + 48) (by omega) (by omega) ?_
      exact kk _ _ _ hP hD hS (lv_sub hl [2, 3, 4, 5, 6] rfl)
    · have hf := ip c5 hf
      refine lv_aload_n hx hb dL_law_2617 rfl (lv_at hl 5 rfl) ?_
      refine lv_iconst (v := 0) hx hb dL_law_2618 (by decide) ?_
      refine va_lald hx hb hK hP 0 4 rfl rfl (inB_in (by decide)) dL_law_2619 ?_
      refine lv_iload hx hb dL_law_2620 (lv_at hl 0 rfl) ?_
      refine lv_i2l hx hb dL_law_2622 rfl ?_
      refine W.lcmp hx hb dL_law_2623 ?_
      refine lv_if_eq (tgt := 2629) hx hb dL_law_2624 (by decide) (fun c4 => ?_) (fun c4 => ?_)
      · have hf := ip c4 hf
        refine lv_goto (tgt := 2902) hx hb dL_law_2629 (by decide) ?_
        cases hf
        refine W.widen (k := cells + 8) (n := slots + 48) (by omega) (by omega) ?_
        exact kk _ _ _ hP hD hS (lv_sub hl [2, 3, 4, 5, 6] rfl)
      · have hf := iq c4 hf
        exact no_ob hf
  · have hf := iq c6 hf
    exact no_ob hf
end Cases
