section Cases
set_option maxRecDepth 100000 in
set_option maxHeartbeats 4000000 in
theorem wL_57 {p : Program} {l : Launch} {e : Env} {s : State} {m : MethodId} {args : Array Value} {below : List Frame} {meth : Method} {c : Code} {H : Heap} {locs : List Loc} {cells slots : Nat} {Qf : State → Prop} {ls : Array Slot} {D : va_G} {cI cB cZ cO cJ : ClassId} {aK aV mK : Nat → Nat} {Q : Nat → Nat → Nat} {q : Nat → Nat} {a b L fu : Nat} {xs : Nat → Int32} {A : Nat → Prop} {X X1 : Nat → OS} {z z1 : OS} {o o1 : Nat → Int64} {i a1 a2 a3 a4 a5 : Int32} (hst : l.stackTraces = false) (hx : p.tables.exec = Jvm.exec) (hb : c.code = cL_law) (hml : c.maxLocals = 9) (hown : s.vm.findClass RL = some m.cls) (hts : ∀ w ∈ lw_tbl, w.before args s = true) (hK : va_K D vwCl (gL cI cB cZ cO cJ) s) (hA : ∀ q : Nat, s.heap.size ≤ q → A q) (hX : va_X b L xs s s.heap) (hbl : b < s.heap.size) (hbA : ¬ A b) (hE : EW aK aV mK A s s.heap) (hS : va_S A s.heap H locs) (hl : lv_has ls 9 [(0, .ref b), (1, .ref (Q 0 0)), (2, .ref (q 0)), (3, .ref a), (4, .int i)]) (n1 : vp_in (i + 1) L) (n2 : vp_in (i + 2) L) (n3 : vp_in (i + 3) L) (n4 : vp_in (i + 4) L) (n5 : vp_in (i + 5) L) (e1 : xs (i + 1).toNatClampNeg = a1) (e2 : xs (i + 2).toNatClampNeg = a2) (e3 : xs (i + 3).toNatClampNeg = a3) (e4 : xs (i + 4).toNatClampNeg = a4) (e5 : xs (i + 5).toNatClampNeg = a5) (hcl : cells + 8 ≤ 601024) (hsl : slots + 48 ≤ 7293034) (kk : ∀ (H1 : Heap) (locs1 : List Loc) (ls1 : Array Slot), va_P D vwCl (fl (lawW cI cB cZ cO cJ Q q a X1 z1 o1)) H1 → va_D A (fl (lawW cI cB cZ cO cJ Q q a X1 z1 o1)) → va_S A s.heap H1 locs1 → lv_has ls1 9 [(0, .ref b), (1, .ref (Q 0 0)), (2, .ref (q 0)), (3, .ref a), (4, .int i)] → W p l e room_1 s m args below meth c H1 locs1 (cells + 8) (slots + 48) Qf (F0 m 2902 ls1 [])) (hP : va_P D vwCl (fl (lawW cI cB cZ cO cJ Q q a X z o)) H) (hD : va_D A (fl (lawW cI cB cZ cO cJ Q q a X z o))) (hf : cL_57 fu a1 a2 a3 a4 a5 X z o = some (X1, z1, o1)) : W p l e room_1 s m args below meth c H locs cells slots Qf (F0 m 2632 ls []) := by
  unfold cL_57 at hf
  refine lv_aload_n hx hb dL_law_2632 rfl (lv_at hl 1 rfl) ?_
  obtain ⟨w1, hcw1, hf⟩ := bd_ob hf
  refine wrVb (As := []) (rest := []) [wL cJ a o, wXO Q, wC cI (Q 1) w1.2.1, wC cI (Q 2) (X 2), wS (Q 3) (Q 4 0) (Q 5 0) (Q 6 0) (Q 7 0) (X 3), wT cB (Q 4) (X 4), wC cI (Q 5) (X 5), wA (Q 6) (X 6), wP (Q 7) (X 7), wH cO (Q 8) (Q 9 0) (Q 10 0) (Q 11 0) (Q 12 0) (Q 13 0) (Q 14 0) (Q 15 0) (Q 16 0) w1.2.2.1, wC cI (Q 9) w1.2.2.2.1, wC cI (Q 10) w1.2.2.2.2.1, wC cI (Q 11) w1.2.2.2.2.2.1, wC cI (Q 12) w1.2.2.2.2.2.2.1, wC cI (Q 13) w1.2.2.2.2.2.2.2.1, wC cI (Q 14) w1.2.2.2.2.2.2.2.2.1, wC cI (Q 15) w1.2.2.2.2.2.2.2.2.2.1, wC cI (Q 16) w1.2.2.2.2.2.2.2.2.2.2, wXS cO (Q 17) (Q 18 0) (Q 19 0), wC cI (Q 18) (X 18), wC cI (Q 19) (X 19), wXF cZ (Q 20) (X 20), wA (Q 21) (X 21), wP (Q 22) (X 22), wO cB (Q 23) (X 23), wM cI cB cZ q z] ⟨hx, hb, hml, hown, hts⟩ (mX8_reduce l D cI cB cZ cO Q _ fu (X 0) (X 1) (X 2) (X 3) (X 4) (X 5) (X 6) (X 7) (X 8) (X 9) (X 10) (X 11) (X 12) (X 13) (X 14) (X 15) (X 16) (X 17) (X 18) (X 19) (X 20) (X 21) (X 22) (X 23) hcw1) (cwV 0 hts gL_law_X8_reduce rfl rfl rfl (by decide +kernel) ⟨Nat.le_of_ble_eq_true rfl, Nat.le_of_ble_eq_true rfl⟩) (hK.sub [0, 1, 2, 3] rfl) hP hD hS hA [1, 2, 3, 4, 5, 6, 7, 8, 9, 10, 11, 12, 13, 14, 15, 16, 17, 18, 19, 20, 21, 22, 23, 24] [0, 25] 26 rfl (by decide +kernel) rfl rfl [wL cJ a o, wM cI cB cZ q z] rfl rfl rfl (va_recv hK hP (ci := 7) (q0 := 1) rfl rfl) rfl hl.1 rfl (Nat.le_of_ble_eq_true rfl) dL_law_2633 ⟨by show _ ≤ 601024; omega, by show _ ≤ 7293034; omega⟩ (fun H locs hP hD hS => ?_)
  refine lv_aload_n hx hb dL_law_2636 rfl (lv_at hl 2 rfl) ?_
  obtain ⟨w2, hcw2, hf⟩ := bd_ob hf
  refine wrVb (As := []) (rest := [.int w1.1]) [wL cJ a o, wXO Q, wC cI (Q 1) w1.2.1, wC cI (Q 2) (X 2), wS (Q 3) (Q 4 0) (Q 5 0) (Q 6 0) (Q 7 0) (X 3), wT cB (Q 4) (X 4), wC cI (Q 5) (X 5), wA (Q 6) (X 6), wP (Q 7) (X 7), wH cO (Q 8) (Q 9 0) (Q 10 0) (Q 11 0) (Q 12 0) (Q 13 0) (Q 14 0) (Q 15 0) (Q 16 0) w1.2.2.1, wC cI (Q 9) w1.2.2.2.1, wC cI (Q 10) w1.2.2.2.2.1, wC cI (Q 11) w1.2.2.2.2.2.1, wC cI (Q 12) w1.2.2.2.2.2.2.1, wC cI (Q 13) w1.2.2.2.2.2.2.2.1, wC cI (Q 14) w1.2.2.2.2.2.2.2.2.1, wC cI (Q 15) w1.2.2.2.2.2.2.2.2.2.1, wC cI (Q 16) w1.2.2.2.2.2.2.2.2.2.2, wXS cO (Q 17) (Q 18 0) (Q 19 0), wC cI (Q 18) (X 18), wC cI (Q 19) (X 19), wXF cZ (Q 20) (X 20), wA (Q 21) (X 21), wP (Q 22) (X 22), wO cB (Q 23) (X 23), wM cI cB cZ q w2.2] ⟨hx, hb, hml, hown, hts⟩ (mX9_reduce l D cI cB cZ cO q _ fu z hcw2) (cwV 0 hts gL_law_X9_reduce rfl rfl rfl (by decide +kernel) ⟨Nat.le_of_ble_eq_true rfl, Nat.le_of_ble_eq_true rfl⟩) (hK.sub [0, 1, 2, 3] rfl) hP hD hS hA [25] [0, 1, 2, 3, 4, 5, 6, 7, 8, 9, 10, 11, 12, 13, 14, 15, 16, 17, 18, 19, 20, 21, 22, 23, 24] 26 rfl (by decide +kernel) rfl rfl [wL cJ a o, wXO Q, wC cI (Q 1) w1.2.1, wC cI (Q 2) (X 2), wS (Q 3) (Q 4 0) (Q 5 0) (Q 6 0) (Q 7 0) (X 3), wT cB (Q 4) (X 4), wC cI (Q 5) (X 5), wA (Q 6) (X 6), wP (Q 7) (X 7), wH cO (Q 8) (Q 9 0) (Q 10 0) (Q 11 0) (Q 12 0) (Q 13 0) (Q 14 0) (Q 15 0) (Q 16 0) w1.2.2.1, wC cI (Q 9) w1.2.2.2.1, wC cI (Q 10) w1.2.2.2.2.1, wC cI (Q 11) w1.2.2.2.2.2.1, wC cI (Q 12) w1.2.2.2.2.2.2.1, wC cI (Q 13) w1.2.2.2.2.2.2.2.1, wC cI (Q 14) w1.2.2.2.2.2.2.2.2.1, wC cI (Q 15) w1.2.2.2.2.2.2.2.2.2.1, wC cI (Q 16) w1.2.2.2.2.2.2.2.2.2.2, wXS cO (Q 17) (Q 18 0) (Q 19 0), wC cI (Q 18) (X 18), wC cI (Q 19) (X 19), wXF cZ (Q 20) (X 20), wA (Q 21) (X 21), wP (Q 22) (X 22), wO cB (Q 23) (X 23)] rfl rfl rfl (va_recv hK hP (ci := 8) (q0 := 106) rfl rfl) rfl hl.1 rfl (Nat.le_of_ble_eq_true rfl) dL_law_2637 ⟨by show _ ≤ 601024; omega, by show _ ≤ 7293034; omega⟩ (fun H locs hP hD hS => ?_)
  refine lv_icmp_eq (tgt := 2902) hx hb dL_law_2640 (by decide) (fun c3 => ?_) (fun c3 => ?_)
  · have hf := ip c3 hf
    cases hf
    refine W.widen (k := cells + 8) (n := slots + 48) (by omega) (by omega) ?_
    exact kk _ _ _ hP hD hS (lv_sub hl [0, 1, 2, 3, 4] rfl)
  · have hf := iq c3 hf
    exact no_ob hf
set_option maxRecDepth 100000 in
set_option maxHeartbeats 4000000 in
theorem wL_58 {p : Program} {l : Launch} {e : Env} {s : State} {m : MethodId} {args : Array Value} {below : List Frame} {meth : Method} {c : Code} {H : Heap} {locs : List Loc} {cells slots : Nat} {Qf : State → Prop} {ls : Array Slot} {D : va_G} {cI cB cZ cO cJ : ClassId} {aK aV mK : Nat → Nat} {Q : Nat → Nat → Nat} {q : Nat → Nat} {a b L fu : Nat} {xs : Nat → Int32} {A : Nat → Prop} {X X1 : Nat → OS} {z z1 : OS} {o o1 : Nat → Int64} {i a1 a2 a3 a4 a5 : Int32} (hst : l.stackTraces = false) (hx : p.tables.exec = Jvm.exec) (hb : c.code = cL_law) (hml : c.maxLocals = 9) (hown : s.vm.findClass RL = some m.cls) (hts : ∀ w ∈ lw_tbl, w.before args s = true) (hK : va_K D vwCl (gL cI cB cZ cO cJ) s) (hA : ∀ q : Nat, s.heap.size ≤ q → A q) (hX : va_X b L xs s s.heap) (hbl : b < s.heap.size) (hbA : ¬ A b) (hE : EW aK aV mK A s s.heap) (hS : va_S A s.heap H locs) (hl : lv_has ls 9 [(0, .ref b), (1, .ref (Q 0 0)), (2, .ref (q 0)), (3, .ref a), (4, .int i)]) (n1 : vp_in (i + 1) L) (n2 : vp_in (i + 2) L) (n3 : vp_in (i + 3) L) (n4 : vp_in (i + 4) L) (n5 : vp_in (i + 5) L) (e1 : xs (i + 1).toNatClampNeg = a1) (e2 : xs (i + 2).toNatClampNeg = a2) (e3 : xs (i + 3).toNatClampNeg = a3) (e4 : xs (i + 4).toNatClampNeg = a4) (e5 : xs (i + 5).toNatClampNeg = a5) (hcl : cells + 8 ≤ 601024) (hsl : slots + 48 ≤ 7293034) (kk : ∀ (H1 : Heap) (locs1 : List Loc) (ls1 : Array Slot), va_P D vwCl (fl (lawW cI cB cZ cO cJ Q q a X1 z1 o1)) H1 → va_D A (fl (lawW cI cB cZ cO cJ Q q a X1 z1 o1)) → va_S A s.heap H1 locs1 → lv_has ls1 9 [(0, .ref b), (1, .ref (Q 0 0)), (2, .ref (q 0)), (3, .ref a), (4, .int i)] → W p l e room_1 s m args below meth c H1 locs1 (cells + 8) (slots + 48) Qf (F0 m 2902 ls1 [])) (hP : va_P D vwCl (fl (lawW cI cB cZ cO cJ Q q a X z o)) H) (hD : va_D A (fl (lawW cI cB cZ cO cJ Q q a X z o))) (hf : cL_58 fu a1 a2 a3 a4 a5 X z o = some (X1, z1, o1)) : W p l e room_1 s m args below meth c H locs cells slots Qf (F0 m 2645 ls []) := by
  unfold cL_58 at hf
  refine lv_aload_n hx hb dL_law_2645 rfl (lv_at hl 1 rfl) ?_
  refine lv_aload_n hx hb dL_law_2646 rfl (lv_at hl 3 rfl) ?_
  obtain ⟨w1, hcw1, hf⟩ := bd_ob hf
  refine wrSWb (As := [.ref (Q 0 0), .ref a]) (rest := []) [wL cJ a w1.2.1, wXO Q, wC cI (Q 1) w1.2.2.1, wC cI (Q 2) (X 2), wS (Q 3) (Q 4 0) (Q 5 0) (Q 6 0) (Q 7 0) (X 3), wT cB (Q 4) (X 4), wC cI (Q 5) (X 5), wA (Q 6) (X 6), wP (Q 7) (X 7), wH cO (Q 8) (Q 9 0) (Q 10 0) (Q 11 0) (Q 12 0) (Q 13 0) (Q 14 0) (Q 15 0) (Q 16 0) w1.2.2.2, wC cI (Q 9) (X 9), wC cI (Q 10) (X 10), wC cI (Q 11) (X 11), wC cI (Q 12) (X 12), wC cI (Q 13) (X 13), wC cI (Q 14) (X 14), wC cI (Q 15) (X 15), wC cI (Q 16) (X 16), wXS cO (Q 17) (Q 18 0) (Q 19 0), wC cI (Q 18) (X 18), wC cI (Q 19) (X 19), wXF cZ (Q 20) (X 20), wA (Q 21) (X 21), wP (Q 22) (X 22), wO cB (Q 23) (X 23), wM cI cB cZ q z] ⟨hx, hb, hml, hown, hts⟩ (mL_undo l D cI cB cZ cO cJ aK aV mK hst Q a _ fu o (X 0) (X 1) (X 2) (X 3) (X 4) (X 5) (X 6) (X 7) (X 8) (X 9) (X 10) (X 11) (X 12) (X 13) (X 14) (X 15) (X 16) (X 17) (X 18) (X 19) (X 20) (X 21) (X 22) (X 23) hcw1) (vx_cwSW 2 hts gL_law_L_undo rfl rfl rfl (by decide +kernel) ⟨Nat.le_of_ble_eq_true rfl, Nat.le_of_ble_eq_true rfl⟩) (EW_ok aK aV mK) ((EW_ok aK aV mK).2.2.1 _ _ _ _ hS.2.1 hE) hK hP hD hS hA [0, 1, 2, 3, 4, 5, 6, 7, 8, 9, 10, 11, 12, 13, 14, 15, 16, 17, 18, 19, 20, 21, 22, 23, 24] [25] 26 rfl (by decide +kernel) rfl rfl [wM cI cB cZ q z] rfl rfl rfl rfl hl.1 rfl (Nat.le_of_ble_eq_true rfl) dL_law_2647 ⟨by show _ ≤ 601024; omega, by show _ ≤ 7293034; omega⟩ (fun H locs hP hD hS => ?_)
  refine lv_istore (lv' := [(5, .int w1.1), (0, .ref b), (1, .ref (Q 0 0)), (2, .ref (q 0)), (3, .ref a), (4, .int i)]) hx hb dL_law_2650 hl (by decide) rfl (fun ls hl => ?_)
  refine lv_aload_n hx hb dL_law_2652 rfl (lv_at hl 3 rfl) ?_
  obtain ⟨w2, hcw2, hf⟩ := bd_ob hf
  refine wrVb (As := []) (rest := []) [wL cJ a w1.2.1, wXO Q, wC cI (Q 1) w1.2.2.1, wC cI (Q 2) (X 2), wS (Q 3) (Q 4 0) (Q 5 0) (Q 6 0) (Q 7 0) (X 3), wT cB (Q 4) (X 4), wC cI (Q 5) (X 5), wA (Q 6) (X 6), wP (Q 7) (X 7), wH cO (Q 8) (Q 9 0) (Q 10 0) (Q 11 0) (Q 12 0) (Q 13 0) (Q 14 0) (Q 15 0) (Q 16 0) w1.2.2.2, wC cI (Q 9) (X 9), wC cI (Q 10) (X 10), wC cI (Q 11) (X 11), wC cI (Q 12) (X 12), wC cI (Q 13) (X 13), wC cI (Q 14) (X 14), wC cI (Q 15) (X 15), wC cI (Q 16) (X 16), wXS cO (Q 17) (Q 18 0) (Q 19 0), wC cI (Q 18) (X 18), wC cI (Q 19) (X 19), wXF cZ (Q 20) (X 20), wA (Q 21) (X 21), wP (Q 22) (X 22), wO cB (Q 23) (X 23), wM cI cB cZ q w2.2] ⟨hx, hb, hml, hown, hts⟩ (mX9_undo l D cI cB cZ cO q _ fu z hcw2) (cwV 0 hts gL_law_X9_undo rfl rfl rfl (by decide +kernel) ⟨Nat.le_of_ble_eq_true rfl, Nat.le_of_ble_eq_true rfl⟩) (hK.sub [0, 1, 2, 3] rfl) hP hD hS hA [25] [0, 1, 2, 3, 4, 5, 6, 7, 8, 9, 10, 11, 12, 13, 14, 15, 16, 17, 18, 19, 20, 21, 22, 23, 24] 26 rfl (by decide +kernel) rfl rfl [wL cJ a w1.2.1, wXO Q, wC cI (Q 1) w1.2.2.1, wC cI (Q 2) (X 2), wS (Q 3) (Q 4 0) (Q 5 0) (Q 6 0) (Q 7 0) (X 3), wT cB (Q 4) (X 4), wC cI (Q 5) (X 5), wA (Q 6) (X 6), wP (Q 7) (X 7), wH cO (Q 8) (Q 9 0) (Q 10 0) (Q 11 0) (Q 12 0) (Q 13 0) (Q 14 0) (Q 15 0) (Q 16 0) w1.2.2.2, wC cI (Q 9) (X 9), wC cI (Q 10) (X 10), wC cI (Q 11) (X 11), wC cI (Q 12) (X 12), wC cI (Q 13) (X 13), wC cI (Q 14) (X 14), wC cI (Q 15) (X 15), wC cI (Q 16) (X 16), wXS cO (Q 17) (Q 18 0) (Q 19 0), wC cI (Q 18) (X 18), wC cI (Q 19) (X 19), wXF cZ (Q 20) (X 20), wA (Q 21) (X 21), wP (Q 22) (X 22), wO cB (Q 23) (X 23)] rfl rfl rfl (va_recv hK hP (ci := 8) (q0 := 106) rfl rfl) rfl hl.1 rfl (Nat.le_of_ble_eq_true rfl) dL_law_2653 ⟨by show _ ≤ 601024; omega, by show _ ≤ 7293034; omega⟩ (fun H locs hP hD hS => ?_)
  refine lv_istore (lv' := [(6, .int w2.1), (5, .int w1.1), (0, .ref b), (1, .ref (Q 0 0)), (2, .ref (q 0)), (3, .ref a), (4, .int i)]) hx hb dL_law_2656 hl (by decide) rfl (fun ls hl => ?_)
  refine lv_aload_n hx hb dL_law_2658 rfl (lv_at hl 4 rfl) ?_
  obtain ⟨w3, hcw3, hf⟩ := bd_ob hf
  refine rdV (As := []) (rest := []) ⟨hx, hb, hml, hown, hts⟩ (mX9_thrown l D cI cB cZ cO q fu w2.2 hcw3) (cwV 0 hts gL_law_X9_thrown rfl rfl rfl (by decide +kernel) ⟨Nat.le_of_ble_eq_true rfl, Nat.le_of_ble_eq_true rfl⟩) (hK.sub [0, 1, 2, 3] rfl) (hP.subb [25] rfl) (va_recv hK hP (ci := 8) (q0 := 106) rfl rfl) rfl hl.1 rfl (Nat.le_of_ble_eq_true rfl) dL_law_2659 ⟨by show _ ≤ 601024; omega, by show _ ≤ 7293034; omega⟩ ?_
  refine lv_iload hx hb dL_law_2662 (lv_at hl 1 rfl) ?_
  refine lv_icmp_eq (tgt := 2669) hx hb dL_law_2664 (by decide) (fun c6 => ?_) (fun c6 => ?_)
  · have hf := ip c6 hf
    refine lv_iload hx hb dL_law_2669 (lv_at hl 1 rfl) ?_
    refine lv_if_ne (tgt := 2686) hx hb dL_law_2671 (by decide) (fun c5 => ?_) (fun c5 => ?_)
    · have hf := iq c5 hf
      refine lv_goto (tgt := 2902) hx hb dL_law_2686 (by decide) ?_
      cases hf
      refine W.widen (k := cells + 8) (n := slots + 48) (by omega) (by omega) ?_
      exact kk _ _ _ hP hD hS (lv_sub hl [2, 3, 4, 5, 6] rfl)
    · have hf := ip c5 hf
      refine lv_aload_n hx hb dL_law_2674 rfl (lv_at hl 5 rfl) ?_
      refine lv_iconst (v := 0) hx hb dL_law_2675 (by decide) ?_
      refine va_lald hx hb hK hP 0 4 rfl rfl (inB_in (by decide)) dL_law_2676 ?_
      refine lv_iload hx hb dL_law_2677 (lv_at hl 0 rfl) ?_
      refine lv_i2l hx hb dL_law_2679 rfl ?_
      refine W.lcmp hx hb dL_law_2680 ?_
      refine lv_if_eq (tgt := 2686) hx hb dL_law_2681 (by decide) (fun c4 => ?_) (fun c4 => ?_)
      · have hf := ip c4 hf
        refine lv_goto (tgt := 2902) hx hb dL_law_2686 (by decide) ?_
        cases hf
        refine W.widen (k := cells + 8) (n := slots + 48) (by omega) (by omega) ?_
        exact kk _ _ _ hP hD hS (lv_sub hl [2, 3, 4, 5, 6] rfl)
      · have hf := iq c4 hf
        exact no_ob hf
  · have hf := iq c6 hf
    exact no_ob hf
set_option maxRecDepth 100000 in
set_option maxHeartbeats 4000000 in
theorem wL_59 {p : Program} {l : Launch} {e : Env} {s : State} {m : MethodId} {args : Array Value} {below : List Frame} {meth : Method} {c : Code} {H : Heap} {locs : List Loc} {cells slots : Nat} {Qf : State → Prop} {ls : Array Slot} {D : va_G} {cI cB cZ cO cJ : ClassId} {aK aV mK : Nat → Nat} {Q : Nat → Nat → Nat} {q : Nat → Nat} {a b L fu : Nat} {xs : Nat → Int32} {A : Nat → Prop} {X X1 : Nat → OS} {z z1 : OS} {o o1 : Nat → Int64} {i a1 a2 a3 a4 a5 : Int32} (hst : l.stackTraces = false) (hx : p.tables.exec = Jvm.exec) (hb : c.code = cL_law) (hml : c.maxLocals = 9) (hown : s.vm.findClass RL = some m.cls) (hts : ∀ w ∈ lw_tbl, w.before args s = true) (hK : va_K D vwCl (gL cI cB cZ cO cJ) s) (hA : ∀ q : Nat, s.heap.size ≤ q → A q) (hX : va_X b L xs s s.heap) (hbl : b < s.heap.size) (hbA : ¬ A b) (hE : EW aK aV mK A s s.heap) (hS : va_S A s.heap H locs) (hl : lv_has ls 9 [(0, .ref b), (1, .ref (Q 0 0)), (2, .ref (q 0)), (3, .ref a), (4, .int i)]) (n1 : vp_in (i + 1) L) (n2 : vp_in (i + 2) L) (n3 : vp_in (i + 3) L) (n4 : vp_in (i + 4) L) (n5 : vp_in (i + 5) L) (e1 : xs (i + 1).toNatClampNeg = a1) (e2 : xs (i + 2).toNatClampNeg = a2) (e3 : xs (i + 3).toNatClampNeg = a3) (e4 : xs (i + 4).toNatClampNeg = a4) (e5 : xs (i + 5).toNatClampNeg = a5) (hcl : cells + 8 ≤ 601024) (hsl : slots + 48 ≤ 7293034) (kk : ∀ (H1 : Heap) (locs1 : List Loc) (ls1 : Array Slot), va_P D vwCl (fl (lawW cI cB cZ cO cJ Q q a X1 z1 o1)) H1 → va_D A (fl (lawW cI cB cZ cO cJ Q q a X1 z1 o1)) → va_S A s.heap H1 locs1 → lv_has ls1 9 [(0, .ref b), (1, .ref (Q 0 0)), (2, .ref (q 0)), (3, .ref a), (4, .int i)] → W p l e room_1 s m args below meth c H1 locs1 (cells + 8) (slots + 48) Qf (F0 m 2902 ls1 [])) (hP : va_P D vwCl (fl (lawW cI cB cZ cO cJ Q q a X z o)) H) (hD : va_D A (fl (lawW cI cB cZ cO cJ Q q a X z o))) (hf : cL_59 fu a1 a2 a3 a4 a5 X z o = some (X1, z1, o1)) : W p l e room_1 s m args below meth c H locs cells slots Qf (F0 m 2689 ls []) := by
  unfold cL_59 at hf
  refine lv_aload_n hx hb dL_law_2689 rfl (lv_at hl 1 rfl) ?_
  obtain ⟨w1, hcw1, hf⟩ := bd_ob hf
  refine rdV (As := []) (rest := []) ⟨hx, hb, hml, hown, hts⟩ (mX8_undoDepth l D cI cB cZ cO Q fu (X 0) (X 1) (X 2) (X 3) (X 4) (X 5) (X 6) (X 7) (X 8) (X 9) (X 10) (X 11) (X 12) (X 13) (X 14) (X 15) (X 16) (X 17) (X 18) (X 19) (X 20) (X 21) (X 22) (X 23) hcw1) (cwV 0 hts gL_law_X8_undoDepth rfl rfl rfl (by decide +kernel) ⟨Nat.le_of_ble_eq_true rfl, Nat.le_of_ble_eq_true rfl⟩) (hK.sub [0, 1, 2, 3] rfl) (hP.subb [1, 2, 3, 4, 5, 6, 7, 8, 9, 10, 11, 12, 13, 14, 15, 16, 17, 18, 19, 20, 21, 22, 23, 24] rfl) (va_recv hK hP (ci := 7) (q0 := 1) rfl rfl) rfl hl.1 rfl (Nat.le_of_ble_eq_true rfl) dL_law_2690 ⟨by show _ ≤ 601024; omega, by show _ ≤ 7293034; omega⟩ ?_
  refine lv_aload_n hx hb dL_law_2693 rfl (lv_at hl 2 rfl) ?_
  obtain ⟨w2, hcw2, hf⟩ := bd_ob hf
  refine wrVb (As := []) (rest := [.int w1]) [wL cJ a o, wXO Q, wC cI (Q 1) (X 1), wC cI (Q 2) (X 2), wS (Q 3) (Q 4 0) (Q 5 0) (Q 6 0) (Q 7 0) (X 3), wT cB (Q 4) (X 4), wC cI (Q 5) (X 5), wA (Q 6) (X 6), wP (Q 7) (X 7), wH cO (Q 8) (Q 9 0) (Q 10 0) (Q 11 0) (Q 12 0) (Q 13 0) (Q 14 0) (Q 15 0) (Q 16 0) (X 8), wC cI (Q 9) (X 9), wC cI (Q 10) (X 10), wC cI (Q 11) (X 11), wC cI (Q 12) (X 12), wC cI (Q 13) (X 13), wC cI (Q 14) (X 14), wC cI (Q 15) (X 15), wC cI (Q 16) (X 16), wXS cO (Q 17) (Q 18 0) (Q 19 0), wC cI (Q 18) (X 18), wC cI (Q 19) (X 19), wXF cZ (Q 20) (X 20), wA (Q 21) (X 21), wP (Q 22) (X 22), wO cB (Q 23) (X 23), wM cI cB cZ q w2.2] ⟨hx, hb, hml, hown, hts⟩ (mX9_undoDepth l D cI cB cZ cO q _ fu z hcw2) (cwV 0 hts gL_law_X9_undoDepth rfl rfl rfl (by decide +kernel) ⟨Nat.le_of_ble_eq_true rfl, Nat.le_of_ble_eq_true rfl⟩) (hK.sub [0, 1, 2, 3] rfl) hP hD hS hA [25] [0, 1, 2, 3, 4, 5, 6, 7, 8, 9, 10, 11, 12, 13, 14, 15, 16, 17, 18, 19, 20, 21, 22, 23, 24] 26 rfl (by decide +kernel) rfl rfl [wL cJ a o, wXO Q, wC cI (Q 1) (X 1), wC cI (Q 2) (X 2), wS (Q 3) (Q 4 0) (Q 5 0) (Q 6 0) (Q 7 0) (X 3), wT cB (Q 4) (X 4), wC cI (Q 5) (X 5), wA (Q 6) (X 6), wP (Q 7) (X 7), wH cO (Q 8) (Q 9 0) (Q 10 0) (Q 11 0) (Q 12 0) (Q 13 0) (Q 14 0) (Q 15 0) (Q 16 0) (X 8), wC cI (Q 9) (X 9), wC cI (Q 10) (X 10), wC cI (Q 11) (X 11), wC cI (Q 12) (X 12), wC cI (Q 13) (X 13), wC cI (Q 14) (X 14), wC cI (Q 15) (X 15), wC cI (Q 16) (X 16), wXS cO (Q 17) (Q 18 0) (Q 19 0), wC cI (Q 18) (X 18), wC cI (Q 19) (X 19), wXF cZ (Q 20) (X 20), wA (Q 21) (X 21), wP (Q 22) (X 22), wO cB (Q 23) (X 23)] rfl rfl rfl (va_recv hK hP (ci := 8) (q0 := 106) rfl rfl) rfl hl.1 rfl (Nat.le_of_ble_eq_true rfl) dL_law_2694 ⟨by show _ ≤ 601024; omega, by show _ ≤ 7293034; omega⟩ (fun H locs hP hD hS => ?_)
  refine lv_icmp_eq (tgt := 2902) hx hb dL_law_2697 (by decide) (fun c3 => ?_) (fun c3 => ?_)
  · have hf := ip c3 hf
    cases hf
    refine W.widen (k := cells + 8) (n := slots + 48) (by omega) (by omega) ?_
    exact kk _ _ _ hP hD hS (lv_sub hl [0, 1, 2, 3, 4] rfl)
  · have hf := iq c3 hf
    exact no_ob hf
set_option maxRecDepth 100000 in
set_option maxHeartbeats 4000000 in
theorem wL_60 {p : Program} {l : Launch} {e : Env} {s : State} {m : MethodId} {args : Array Value} {below : List Frame} {meth : Method} {c : Code} {H : Heap} {locs : List Loc} {cells slots : Nat} {Qf : State → Prop} {ls : Array Slot} {D : va_G} {cI cB cZ cO cJ : ClassId} {aK aV mK : Nat → Nat} {Q : Nat → Nat → Nat} {q : Nat → Nat} {a b L fu : Nat} {xs : Nat → Int32} {A : Nat → Prop} {X X1 : Nat → OS} {z z1 : OS} {o o1 : Nat → Int64} {i a1 a2 a3 a4 a5 : Int32} (hst : l.stackTraces = false) (hx : p.tables.exec = Jvm.exec) (hb : c.code = cL_law) (hml : c.maxLocals = 9) (hown : s.vm.findClass RL = some m.cls) (hts : ∀ w ∈ lw_tbl, w.before args s = true) (hK : va_K D vwCl (gL cI cB cZ cO cJ) s) (hA : ∀ q : Nat, s.heap.size ≤ q → A q) (hX : va_X b L xs s s.heap) (hbl : b < s.heap.size) (hbA : ¬ A b) (hE : EW aK aV mK A s s.heap) (hS : va_S A s.heap H locs) (hl : lv_has ls 9 [(0, .ref b), (1, .ref (Q 0 0)), (2, .ref (q 0)), (3, .ref a), (4, .int i)]) (n1 : vp_in (i + 1) L) (n2 : vp_in (i + 2) L) (n3 : vp_in (i + 3) L) (n4 : vp_in (i + 4) L) (n5 : vp_in (i + 5) L) (e1 : xs (i + 1).toNatClampNeg = a1) (e2 : xs (i + 2).toNatClampNeg = a2) (e3 : xs (i + 3).toNatClampNeg = a3) (e4 : xs (i + 4).toNatClampNeg = a4) (e5 : xs (i + 5).toNatClampNeg = a5) (hcl : cells + 8 ≤ 601024) (hsl : slots + 48 ≤ 7293034) (kk : ∀ (H1 : Heap) (locs1 : List Loc) (ls1 : Array Slot), va_P D vwCl (fl (lawW cI cB cZ cO cJ Q q a X1 z1 o1)) H1 → va_D A (fl (lawW cI cB cZ cO cJ Q q a X1 z1 o1)) → va_S A s.heap H1 locs1 → lv_has ls1 9 [(0, .ref b), (1, .ref (Q 0 0)), (2, .ref (q 0)), (3, .ref a), (4, .int i)] → W p l e room_1 s m args below meth c H1 locs1 (cells + 8) (slots + 48) Qf (F0 m 2902 ls1 [])) (hP : va_P D vwCl (fl (lawW cI cB cZ cO cJ Q q a X z o)) H) (hD : va_D A (fl (lawW cI cB cZ cO cJ Q q a X z o))) (hf : cL_60 fu a1 a2 a3 a4 a5 X z o = some (X1, z1, o1)) : W p l e room_1 s m args below meth c H locs cells slots Qf (F0 m 2702 ls []) := by
  unfold cL_60 at hf
  refine lv_aload_n hx hb dL_law_2702 rfl (lv_at hl 1 rfl) ?_
  refine lv_aload_n hx hb dL_law_2703 rfl (lv_at hl 0 rfl) ?_
  refine lv_iload hx hb dL_law_2704 (lv_at hl 4 rfl) ?_
  refine lv_iconst (v := 1) hx hb dL_law_2706 (by decide) ?_
  refine lv_iadd hx hb dL_law_2707 ?_
  refine va_sldE hx hb hX hbl hbA hS n1 e1 dL_law_2708 ?_
  refine lv_aload_n hx hb dL_law_2709 rfl (lv_at hl 3 rfl) ?_
  obtain ⟨w1, hcw1, hf⟩ := bd_ob hf
  refine wrSWb (As := [.ref (Q 0 0), .int a1, .ref a]) (rest := []) [wL cJ a w1.2.1, wXO Q, wC cI (Q 1) (X 1), wC cI (Q 2) (X 2), wS (Q 3) (Q 4 0) (Q 5 0) (Q 6 0) (Q 7 0) (X 3), wT cB (Q 4) (X 4), wC cI (Q 5) (X 5), wA (Q 6) (X 6), wP (Q 7) (X 7), wH cO (Q 8) (Q 9 0) (Q 10 0) (Q 11 0) (Q 12 0) (Q 13 0) (Q 14 0) (Q 15 0) (Q 16 0) (X 8), wC cI (Q 9) (X 9), wC cI (Q 10) (X 10), wC cI (Q 11) (X 11), wC cI (Q 12) (X 12), wC cI (Q 13) (X 13), wC cI (Q 14) (X 14), wC cI (Q 15) (X 15), wC cI (Q 16) (X 16), wXS cO (Q 17) (Q 18 0) (Q 19 0), wC cI (Q 18) w1.2.2.1, wC cI (Q 19) w1.2.2.2.1, wXF cZ (Q 20) w1.2.2.2.2, wA (Q 21) (X 21), wP (Q 22) (X 22), wO cB (Q 23) (X 23), wM cI cB cZ q z] ⟨hx, hb, hml, hown, hts⟩ (mL_save l D cI cB cZ cO cJ aK aV mK hst Q a _ fu o (X 0) (X 1) (X 2) (X 3) (X 4) (X 5) (X 6) (X 7) (X 8) (X 9) (X 10) (X 11) (X 12) (X 13) (X 14) (X 15) (X 16) (X 17) (X 18) (X 19) (X 20) (X 21) (X 22) (X 23) a1 hcw1) (vx_cwSW 3 hts gL_law_L_save rfl rfl rfl (by decide +kernel) ⟨Nat.le_of_ble_eq_true rfl, Nat.le_of_ble_eq_true rfl⟩) (EW_ok aK aV mK) ((EW_ok aK aV mK).2.2.1 _ _ _ _ hS.2.1 hE) hK hP hD hS hA [0, 1, 2, 3, 4, 5, 6, 7, 8, 9, 10, 11, 12, 13, 14, 15, 16, 17, 18, 19, 20, 21, 22, 23, 24] [25] 26 rfl (by decide +kernel) rfl rfl [wM cI cB cZ q z] rfl rfl rfl rfl hl.1 rfl (Nat.le_of_ble_eq_true rfl) dL_law_2710 ⟨by show _ ≤ 601024; omega, by show _ ≤ 7293034; omega⟩ (fun H locs hP hD hS => ?_)
  refine lv_istore (lv' := [(5, .int w1.1), (0, .ref b), (1, .ref (Q 0 0)), (2, .ref (q 0)), (3, .ref a), (4, .int i)]) hx hb dL_law_2713 hl (by decide) rfl (fun ls hl => ?_)
  refine lv_aload_n hx hb dL_law_2715 rfl (lv_at hl 3 rfl) ?_
  refine lv_aload_n hx hb dL_law_2716 rfl (lv_at hl 1 rfl) ?_
  refine lv_iload hx hb dL_law_2717 (lv_at hl 5 rfl) ?_
  refine lv_iconst (v := 1) hx hb dL_law_2719 (by decide) ?_
  refine lv_iadd hx hb dL_law_2720 ?_
  refine va_sldE hx hb hX hbl hbA hS n1 e1 dL_law_2721 ?_
  obtain ⟨w2, hcw2, hf⟩ := bd_ob hf
  refine wrVb (As := [.int a1]) (rest := []) [wL cJ a w1.2.1, wXO Q, wC cI (Q 1) (X 1), wC cI (Q 2) (X 2), wS (Q 3) (Q 4 0) (Q 5 0) (Q 6 0) (Q 7 0) (X 3), wT cB (Q 4) (X 4), wC cI (Q 5) (X 5), wA (Q 6) (X 6), wP (Q 7) (X 7), wH cO (Q 8) (Q 9 0) (Q 10 0) (Q 11 0) (Q 12 0) (Q 13 0) (Q 14 0) (Q 15 0) (Q 16 0) (X 8), wC cI (Q 9) (X 9), wC cI (Q 10) (X 10), wC cI (Q 11) (X 11), wC cI (Q 12) (X 12), wC cI (Q 13) (X 13), wC cI (Q 14) (X 14), wC cI (Q 15) (X 15), wC cI (Q 16) (X 16), wXS cO (Q 17) (Q 18 0) (Q 19 0), wC cI (Q 18) w1.2.2.1, wC cI (Q 19) w1.2.2.2.1, wXF cZ (Q 20) w1.2.2.2.2, wA (Q 21) (X 21), wP (Q 22) (X 22), wO cB (Q 23) (X 23), wM cI cB cZ q w2.2] ⟨hx, hb, hml, hown, hts⟩ (mX9_save l D cI cB cZ cO q _ fu z a1 hcw2) (cwV 1 hts gL_law_X9_save rfl rfl rfl (by decide +kernel) ⟨Nat.le_of_ble_eq_true rfl, Nat.le_of_ble_eq_true rfl⟩) (hK.sub [0, 1, 2, 3] rfl) hP hD hS hA [25] [0, 1, 2, 3, 4, 5, 6, 7, 8, 9, 10, 11, 12, 13, 14, 15, 16, 17, 18, 19, 20, 21, 22, 23, 24] 26 rfl (by decide +kernel) rfl rfl [wL cJ a w1.2.1, wXO Q, wC cI (Q 1) (X 1), wC cI (Q 2) (X 2), wS (Q 3) (Q 4 0) (Q 5 0) (Q 6 0) (Q 7 0) (X 3), wT cB (Q 4) (X 4), wC cI (Q 5) (X 5), wA (Q 6) (X 6), wP (Q 7) (X 7), wH cO (Q 8) (Q 9 0) (Q 10 0) (Q 11 0) (Q 12 0) (Q 13 0) (Q 14 0) (Q 15 0) (Q 16 0) (X 8), wC cI (Q 9) (X 9), wC cI (Q 10) (X 10), wC cI (Q 11) (X 11), wC cI (Q 12) (X 12), wC cI (Q 13) (X 13), wC cI (Q 14) (X 14), wC cI (Q 15) (X 15), wC cI (Q 16) (X 16), wXS cO (Q 17) (Q 18 0) (Q 19 0), wC cI (Q 18) w1.2.2.1, wC cI (Q 19) w1.2.2.2.1, wXF cZ (Q 20) w1.2.2.2.2, wA (Q 21) (X 21), wP (Q 22) (X 22), wO cB (Q 23) (X 23)] rfl rfl rfl (va_recv hK hP (ci := 8) (q0 := 106) rfl rfl) rfl hl.1 rfl (Nat.le_of_ble_eq_true rfl) dL_law_2722 ⟨by show _ ≤ 601024; omega, by show _ ≤ 7293034; omega⟩ (fun H locs hP hD hS => ?_)
  refine lv_istore (lv' := [(6, .int w2.1), (5, .int w1.1), (0, .ref b), (1, .ref (Q 0 0)), (2, .ref (q 0)), (3, .ref a), (4, .int i)]) hx hb dL_law_2725 hl (by decide) rfl (fun ls hl => ?_)
  refine lv_aload_n hx hb dL_law_2727 rfl (lv_at hl 4 rfl) ?_
  obtain ⟨w3, hcw3, hf⟩ := bd_ob hf
  refine rdV (As := []) (rest := []) ⟨hx, hb, hml, hown, hts⟩ (mX9_thrown l D cI cB cZ cO q fu w2.2 hcw3) (cwV 0 hts gL_law_X9_thrown rfl rfl rfl (by decide +kernel) ⟨Nat.le_of_ble_eq_true rfl, Nat.le_of_ble_eq_true rfl⟩) (hK.sub [0, 1, 2, 3] rfl) (hP.subb [25] rfl) (va_recv hK hP (ci := 8) (q0 := 106) rfl rfl) rfl hl.1 rfl (Nat.le_of_ble_eq_true rfl) dL_law_2728 ⟨by show _ ≤ 601024; omega, by show _ ≤ 7293034; omega⟩ ?_
  refine lv_iload hx hb dL_law_2731 (lv_at hl 1 rfl) ?_
  refine lv_icmp_eq (tgt := 2738) hx hb dL_law_2733 (by decide) (fun c8 => ?_) (fun c8 => ?_)
  · have hf := ip c8 hf
    refine lv_iload hx hb dL_law_2738 (lv_at hl 1 rfl) ?_
    refine lv_if_ne (tgt := 2762) hx hb dL_law_2740 (by decide) (fun c7 => ?_) (fun c7 => ?_)
    · have hf := iq c7 hf
      refine lv_goto (tgt := 2902) hx hb dL_law_2762 (by decide) ?_
      cases hf
      refine W.widen (k := cells + 8) (n := slots + 48) (by omega) (by omega) ?_
      exact kk _ _ _ hP hD hS (lv_sub hl [2, 3, 4, 5, 6] rfl)
    · have hf := ip c7 hf
      refine lv_aload_n hx hb dL_law_2743 rfl (lv_at hl 5 rfl) ?_
      refine lv_iconst (v := 0) hx hb dL_law_2744 (by decide) ?_
      refine va_lald hx hb hK hP 0 4 rfl rfl (inB_in (by decide)) dL_law_2745 ?_
      refine lv_iload hx hb dL_law_2746 (lv_at hl 0 rfl) ?_
      refine lv_if_eq (tgt := 2755) hx hb dL_law_2748 (by decide) (fun c6 => ?_) (fun c6 => ?_)
      · have hf := ip c6 hf
        refine lv_lconst (v := 0) hx hb dL_law_2755 (by decide) ?_
        refine W.lcmp hx hb dL_law_2756 ?_
        refine lv_if_eq (tgt := 2762) hx hb dL_law_2757 (by decide) (fun c4 => ?_) (fun c4 => ?_)
        · have hf := ip c4 hf
          refine lv_goto (tgt := 2902) hx hb dL_law_2762 (by decide) ?_
          cases hf
          refine W.widen (k := cells + 8) (n := slots + 48) (by omega) (by omega) ?_
          exact kk _ _ _ hP hD hS (lv_sub hl [2, 3, 4, 5, 6] rfl)
        · have hf := iq c4 hf
          exact no_ob hf
      · have hf := iq c6 hf
        refine lv_lconst (v := 1) hx hb dL_law_2751 (by decide) ?_
        refine lv_goto (tgt := 2756) hx hb dL_law_2752 (by decide) ?_
        refine W.lcmp hx hb dL_law_2756 ?_
        refine lv_if_eq (tgt := 2762) hx hb dL_law_2757 (by decide) (fun c5 => ?_) (fun c5 => ?_)
        · have hf := ip c5 hf
          refine lv_goto (tgt := 2902) hx hb dL_law_2762 (by decide) ?_
          cases hf
          refine W.widen (k := cells + 8) (n := slots + 48) (by omega) (by omega) ?_
          exact kk _ _ _ hP hD hS (lv_sub hl [2, 3, 4, 5, 6] rfl)
        · have hf := iq c5 hf
          exact no_ob hf
  · have hf := iq c8 hf
    exact no_ob hf
set_option maxRecDepth 100000 in
set_option maxHeartbeats 4000000 in
theorem wL_61 {p : Program} {l : Launch} {e : Env} {s : State} {m : MethodId} {args : Array Value} {below : List Frame} {meth : Method} {c : Code} {H : Heap} {locs : List Loc} {cells slots : Nat} {Qf : State → Prop} {ls : Array Slot} {D : va_G} {cI cB cZ cO cJ : ClassId} {aK aV mK : Nat → Nat} {Q : Nat → Nat → Nat} {q : Nat → Nat} {a b L fu : Nat} {xs : Nat → Int32} {A : Nat → Prop} {X X1 : Nat → OS} {z z1 : OS} {o o1 : Nat → Int64} {i a1 a2 a3 a4 a5 : Int32} (hst : l.stackTraces = false) (hx : p.tables.exec = Jvm.exec) (hb : c.code = cL_law) (hml : c.maxLocals = 9) (hown : s.vm.findClass RL = some m.cls) (hts : ∀ w ∈ lw_tbl, w.before args s = true) (hK : va_K D vwCl (gL cI cB cZ cO cJ) s) (hA : ∀ q : Nat, s.heap.size ≤ q → A q) (hX : va_X b L xs s s.heap) (hbl : b < s.heap.size) (hbA : ¬ A b) (hE : EW aK aV mK A s s.heap) (hS : va_S A s.heap H locs) (hl : lv_has ls 9 [(0, .ref b), (1, .ref (Q 0 0)), (2, .ref (q 0)), (3, .ref a), (4, .int i)]) (n1 : vp_in (i + 1) L) (n2 : vp_in (i + 2) L) (n3 : vp_in (i + 3) L) (n4 : vp_in (i + 4) L) (n5 : vp_in (i + 5) L) (e1 : xs (i + 1).toNatClampNeg = a1) (e2 : xs (i + 2).toNatClampNeg = a2) (e3 : xs (i + 3).toNatClampNeg = a3) (e4 : xs (i + 4).toNatClampNeg = a4) (e5 : xs (i + 5).toNatClampNeg = a5) (hcl : cells + 8 ≤ 601024) (hsl : slots + 48 ≤ 7293034) (kk : ∀ (H1 : Heap) (locs1 : List Loc) (ls1 : Array Slot), va_P D vwCl (fl (lawW cI cB cZ cO cJ Q q a X1 z1 o1)) H1 → va_D A (fl (lawW cI cB cZ cO cJ Q q a X1 z1 o1)) → va_S A s.heap H1 locs1 → lv_has ls1 9 [(0, .ref b), (1, .ref (Q 0 0)), (2, .ref (q 0)), (3, .ref a), (4, .int i)] → W p l e room_1 s m args below meth c H1 locs1 (cells + 8) (slots + 48) Qf (F0 m 2902 ls1 [])) (hP : va_P D vwCl (fl (lawW cI cB cZ cO cJ Q q a X z o)) H) (hD : va_D A (fl (lawW cI cB cZ cO cJ Q q a X z o))) (hf : cL_61 fu a1 a2 a3 a4 a5 X z o = some (X1, z1, o1)) : W p l e room_1 s m args below meth c H locs cells slots Qf (F0 m 2765 ls []) := by
  unfold cL_61 at hf
  refine lv_aload_n hx hb dL_law_2765 rfl (lv_at hl 1 rfl) ?_
  refine lv_aload_n hx hb dL_law_2766 rfl (lv_at hl 0 rfl) ?_
  refine lv_iload hx hb dL_law_2767 (lv_at hl 4 rfl) ?_
  refine lv_iconst (v := 1) hx hb dL_law_2769 (by decide) ?_
  refine lv_iadd hx hb dL_law_2770 ?_
  refine va_sldE hx hb hX hbl hbA hS n1 e1 dL_law_2771 ?_
  refine lv_aload_n hx hb dL_law_2772 rfl (lv_at hl 3 rfl) ?_
  obtain ⟨w1, hcw1, hf⟩ := bd_ob hf
  refine wrSWb (As := [.ref (Q 0 0), .int a1, .ref a]) (rest := []) [wL cJ a w1.2.1, wXO Q, wC cI (Q 1) w1.2.2.1, wC cI (Q 2) (X 2), wS (Q 3) (Q 4 0) (Q 5 0) (Q 6 0) (Q 7 0) (X 3), wT cB (Q 4) (X 4), wC cI (Q 5) (X 5), wA (Q 6) (X 6), wP (Q 7) (X 7), wH cO (Q 8) (Q 9 0) (Q 10 0) (Q 11 0) (Q 12 0) (Q 13 0) (Q 14 0) (Q 15 0) (Q 16 0) w1.2.2.2, wC cI (Q 9) (X 9), wC cI (Q 10) (X 10), wC cI (Q 11) (X 11), wC cI (Q 12) (X 12), wC cI (Q 13) (X 13), wC cI (Q 14) (X 14), wC cI (Q 15) (X 15), wC cI (Q 16) (X 16), wXS cO (Q 17) (Q 18 0) (Q 19 0), wC cI (Q 18) (X 18), wC cI (Q 19) (X 19), wXF cZ (Q 20) (X 20), wA (Q 21) (X 21), wP (Q 22) (X 22), wO cB (Q 23) (X 23), wM cI cB cZ q z] ⟨hx, hb, hml, hown, hts⟩ (mL_restore l D cI cB cZ cO cJ aK aV mK hst Q a _ fu o (X 0) (X 1) (X 2) (X 3) (X 4) (X 5) (X 6) (X 7) (X 8) (X 9) (X 10) (X 11) (X 12) (X 13) (X 14) (X 15) (X 16) (X 17) (X 18) (X 19) (X 20) (X 21) (X 22) (X 23) a1 hcw1) (vx_cwSW 3 hts gL_law_L_restore rfl rfl rfl (by decide +kernel) ⟨Nat.le_of_ble_eq_true rfl, Nat.le_of_ble_eq_true rfl⟩) (EW_ok aK aV mK) ((EW_ok aK aV mK).2.2.1 _ _ _ _ hS.2.1 hE) hK hP hD hS hA [0, 1, 2, 3, 4, 5, 6, 7, 8, 9, 10, 11, 12, 13, 14, 15, 16, 17, 18, 19, 20, 21, 22, 23, 24] [25] 26 rfl (by decide +kernel) rfl rfl [wM cI cB cZ q z] rfl rfl rfl rfl hl.1 rfl (Nat.le_of_ble_eq_true rfl) dL_law_2773 ⟨by show _ ≤ 601024; omega, by show _ ≤ 7293034; omega⟩ (fun H locs hP hD hS => ?_)
  refine lv_istore (lv' := [(5, .int w1.1), (0, .ref b), (1, .ref (Q 0 0)), (2, .ref (q 0)), (3, .ref a), (4, .int i)]) hx hb dL_law_2776 hl (by decide) rfl (fun ls hl => ?_)
  refine lv_aload_n hx hb dL_law_2778 rfl (lv_at hl 3 rfl) ?_
  refine lv_aload_n hx hb dL_law_2779 rfl (lv_at hl 1 rfl) ?_
  refine lv_iload hx hb dL_law_2780 (lv_at hl 5 rfl) ?_
  refine lv_iconst (v := 1) hx hb dL_law_2782 (by decide) ?_
  refine lv_iadd hx hb dL_law_2783 ?_
  refine va_sldE hx hb hX hbl hbA hS n1 e1 dL_law_2784 ?_
  obtain ⟨w2, hcw2, hf⟩ := bd_ob hf
  refine wrVb (As := [.int a1]) (rest := []) [wL cJ a w1.2.1, wXO Q, wC cI (Q 1) w1.2.2.1, wC cI (Q 2) (X 2), wS (Q 3) (Q 4 0) (Q 5 0) (Q 6 0) (Q 7 0) (X 3), wT cB (Q 4) (X 4), wC cI (Q 5) (X 5), wA (Q 6) (X 6), wP (Q 7) (X 7), wH cO (Q 8) (Q 9 0) (Q 10 0) (Q 11 0) (Q 12 0) (Q 13 0) (Q 14 0) (Q 15 0) (Q 16 0) w1.2.2.2, wC cI (Q 9) (X 9), wC cI (Q 10) (X 10), wC cI (Q 11) (X 11), wC cI (Q 12) (X 12), wC cI (Q 13) (X 13), wC cI (Q 14) (X 14), wC cI (Q 15) (X 15), wC cI (Q 16) (X 16), wXS cO (Q 17) (Q 18 0) (Q 19 0), wC cI (Q 18) (X 18), wC cI (Q 19) (X 19), wXF cZ (Q 20) (X 20), wA (Q 21) (X 21), wP (Q 22) (X 22), wO cB (Q 23) (X 23), wM cI cB cZ q w2.2] ⟨hx, hb, hml, hown, hts⟩ (mX9_restore l D cI cB cZ cO q _ fu z a1 hcw2) (cwV 1 hts gL_law_X9_restore rfl rfl rfl (by decide +kernel) ⟨Nat.le_of_ble_eq_true rfl, Nat.le_of_ble_eq_true rfl⟩) (hK.sub [0, 1, 2, 3] rfl) hP hD hS hA [25] [0, 1, 2, 3, 4, 5, 6, 7, 8, 9, 10, 11, 12, 13, 14, 15, 16, 17, 18, 19, 20, 21, 22, 23, 24] 26 rfl (by decide +kernel) rfl rfl [wL cJ a w1.2.1, wXO Q, wC cI (Q 1) w1.2.2.1, wC cI (Q 2) (X 2), wS (Q 3) (Q 4 0) (Q 5 0) (Q 6 0) (Q 7 0) (X 3), wT cB (Q 4) (X 4), wC cI (Q 5) (X 5), wA (Q 6) (X 6), wP (Q 7) (X 7), wH cO (Q 8) (Q 9 0) (Q 10 0) (Q 11 0) (Q 12 0) (Q 13 0) (Q 14 0) (Q 15 0) (Q 16 0) w1.2.2.2, wC cI (Q 9) (X 9), wC cI (Q 10) (X 10), wC cI (Q 11) (X 11), wC cI (Q 12) (X 12), wC cI (Q 13) (X 13), wC cI (Q 14) (X 14), wC cI (Q 15) (X 15), wC cI (Q 16) (X 16), wXS cO (Q 17) (Q 18 0) (Q 19 0), wC cI (Q 18) (X 18), wC cI (Q 19) (X 19), wXF cZ (Q 20) (X 20), wA (Q 21) (X 21), wP (Q 22) (X 22), wO cB (Q 23) (X 23)] rfl rfl rfl (va_recv hK hP (ci := 8) (q0 := 106) rfl rfl) rfl hl.1 rfl (Nat.le_of_ble_eq_true rfl) dL_law_2785 ⟨by show _ ≤ 601024; omega, by show _ ≤ 7293034; omega⟩ (fun H locs hP hD hS => ?_)
  refine lv_istore (lv' := [(6, .int w2.1), (5, .int w1.1), (0, .ref b), (1, .ref (Q 0 0)), (2, .ref (q 0)), (3, .ref a), (4, .int i)]) hx hb dL_law_2788 hl (by decide) rfl (fun ls hl => ?_)
  refine lv_aload_n hx hb dL_law_2790 rfl (lv_at hl 4 rfl) ?_
  obtain ⟨w3, hcw3, hf⟩ := bd_ob hf
  refine rdV (As := []) (rest := []) ⟨hx, hb, hml, hown, hts⟩ (mX9_thrown l D cI cB cZ cO q fu w2.2 hcw3) (cwV 0 hts gL_law_X9_thrown rfl rfl rfl (by decide +kernel) ⟨Nat.le_of_ble_eq_true rfl, Nat.le_of_ble_eq_true rfl⟩) (hK.sub [0, 1, 2, 3] rfl) (hP.subb [25] rfl) (va_recv hK hP (ci := 8) (q0 := 106) rfl rfl) rfl hl.1 rfl (Nat.le_of_ble_eq_true rfl) dL_law_2791 ⟨by show _ ≤ 601024; omega, by show _ ≤ 7293034; omega⟩ ?_
  refine lv_iload hx hb dL_law_2794 (lv_at hl 1 rfl) ?_
  refine lv_icmp_eq (tgt := 2801) hx hb dL_law_2796 (by decide) (fun c6 => ?_) (fun c6 => ?_)
  · have hf := ip c6 hf
    refine lv_iload hx hb dL_law_2801 (lv_at hl 1 rfl) ?_
    refine lv_if_ne (tgt := 2818) hx hb dL_law_2803 (by decide) (fun c5 => ?_) (fun c5 => ?_)
    · have hf := iq c5 hf
      refine lv_goto (tgt := 2902) hx hb dL_law_2818 (by decide) ?_
      cases hf
      refine W.widen (k := cells + 8) (n := slots + 48) (by omega) (by omega) ?_
      exact kk _ _ _ hP hD hS (lv_sub hl [2, 3, 4, 5, 6] rfl)
    · have hf := ip c5 hf
      refine lv_aload_n hx hb dL_law_2806 rfl (lv_at hl 5 rfl) ?_
      refine lv_iconst (v := 0) hx hb dL_law_2807 (by decide) ?_
      refine va_lald hx hb hK hP 0 4 rfl rfl (inB_in (by decide)) dL_law_2808 ?_
      refine lv_iload hx hb dL_law_2809 (lv_at hl 0 rfl) ?_
      refine lv_i2l hx hb dL_law_2811 rfl ?_
      refine W.lcmp hx hb dL_law_2812 ?_
      refine lv_if_eq (tgt := 2818) hx hb dL_law_2813 (by decide) (fun c4 => ?_) (fun c4 => ?_)
      · have hf := ip c4 hf
        refine lv_goto (tgt := 2902) hx hb dL_law_2818 (by decide) ?_
        cases hf
        refine W.widen (k := cells + 8) (n := slots + 48) (by omega) (by omega) ?_
        exact kk _ _ _ hP hD hS (lv_sub hl [2, 3, 4, 5, 6] rfl)
      · have hf := iq c4 hf
        exact no_ob hf
  · have hf := iq c6 hf
    exact no_ob hf
set_option maxRecDepth 100000 in
set_option maxHeartbeats 4000000 in
theorem wL_62 {p : Program} {l : Launch} {e : Env} {s : State} {m : MethodId} {args : Array Value} {below : List Frame} {meth : Method} {c : Code} {H : Heap} {locs : List Loc} {cells slots : Nat} {Qf : State → Prop} {ls : Array Slot} {D : va_G} {cI cB cZ cO cJ : ClassId} {aK aV mK : Nat → Nat} {Q : Nat → Nat → Nat} {q : Nat → Nat} {a b L fu : Nat} {xs : Nat → Int32} {A : Nat → Prop} {X X1 : Nat → OS} {z z1 : OS} {o o1 : Nat → Int64} {i a1 a2 a3 a4 a5 : Int32} (hst : l.stackTraces = false) (hx : p.tables.exec = Jvm.exec) (hb : c.code = cL_law) (hml : c.maxLocals = 9) (hown : s.vm.findClass RL = some m.cls) (hts : ∀ w ∈ lw_tbl, w.before args s = true) (hK : va_K D vwCl (gL cI cB cZ cO cJ) s) (hA : ∀ q : Nat, s.heap.size ≤ q → A q) (hX : va_X b L xs s s.heap) (hbl : b < s.heap.size) (hbA : ¬ A b) (hE : EW aK aV mK A s s.heap) (hS : va_S A s.heap H locs) (hl : lv_has ls 9 [(0, .ref b), (1, .ref (Q 0 0)), (2, .ref (q 0)), (3, .ref a), (4, .int i)]) (n1 : vp_in (i + 1) L) (n2 : vp_in (i + 2) L) (n3 : vp_in (i + 3) L) (n4 : vp_in (i + 4) L) (n5 : vp_in (i + 5) L) (e1 : xs (i + 1).toNatClampNeg = a1) (e2 : xs (i + 2).toNatClampNeg = a2) (e3 : xs (i + 3).toNatClampNeg = a3) (e4 : xs (i + 4).toNatClampNeg = a4) (e5 : xs (i + 5).toNatClampNeg = a5) (hcl : cells + 8 ≤ 601024) (hsl : slots + 48 ≤ 7293034) (kk : ∀ (H1 : Heap) (locs1 : List Loc) (ls1 : Array Slot), va_P D vwCl (fl (lawW cI cB cZ cO cJ Q q a X1 z1 o1)) H1 → va_D A (fl (lawW cI cB cZ cO cJ Q q a X1 z1 o1)) → va_S A s.heap H1 locs1 → lv_has ls1 9 [(0, .ref b), (1, .ref (Q 0 0)), (2, .ref (q 0)), (3, .ref a), (4, .int i)] → W p l e room_1 s m args below meth c H1 locs1 (cells + 8) (slots + 48) Qf (F0 m 2902 ls1 [])) (hP : va_P D vwCl (fl (lawW cI cB cZ cO cJ Q q a X z o)) H) (hD : va_D A (fl (lawW cI cB cZ cO cJ Q q a X z o))) (hf : cL_62 fu a1 a2 a3 a4 a5 X z o = some (X1, z1, o1)) : W p l e room_1 s m args below meth c H locs cells slots Qf (F0 m 2821 ls []) := by
  unfold cL_62 at hf
  refine lv_aload_n hx hb dL_law_2821 rfl (lv_at hl 1 rfl) ?_
  refine lv_aload_n hx hb dL_law_2822 rfl (lv_at hl 0 rfl) ?_
  refine lv_iload hx hb dL_law_2823 (lv_at hl 4 rfl) ?_
  refine lv_iconst (v := 1) hx hb dL_law_2825 (by decide) ?_
  refine lv_iadd hx hb dL_law_2826 ?_
  refine va_sldE hx hb hX hbl hbA hS n1 e1 dL_law_2827 ?_
  refine lv_aload_n hx hb dL_law_2828 rfl (lv_at hl 3 rfl) ?_
  obtain ⟨w1, hcw1, hf⟩ := bd_ob hf
  refine wrSWb (As := [.ref (Q 0 0), .int a1, .ref a]) (rest := []) [wL cJ a w1.2.1, wXO Q, wC cI (Q 1) (X 1), wC cI (Q 2) (X 2), wS (Q 3) (Q 4 0) (Q 5 0) (Q 6 0) (Q 7 0) (X 3), wT cB (Q 4) (X 4), wC cI (Q 5) (X 5), wA (Q 6) (X 6), wP (Q 7) (X 7), wH cO (Q 8) (Q 9 0) (Q 10 0) (Q 11 0) (Q 12 0) (Q 13 0) (Q 14 0) (Q 15 0) (Q 16 0) (X 8), wC cI (Q 9) (X 9), wC cI (Q 10) (X 10), wC cI (Q 11) (X 11), wC cI (Q 12) (X 12), wC cI (Q 13) (X 13), wC cI (Q 14) (X 14), wC cI (Q 15) (X 15), wC cI (Q 16) (X 16), wXS cO (Q 17) (Q 18 0) (Q 19 0), wC cI (Q 18) (X 18), wC cI (Q 19) (X 19), wXF cZ (Q 20) (X 20), wA (Q 21) (X 21), wP (Q 22) (X 22), wO cB (Q 23) w1.2.2, wM cI cB cZ q z] ⟨hx, hb, hml, hown, hts⟩ (mL_writeClause l D cI cB cZ cO cJ aK aV mK hst Q a _ fu o (X 0) (X 1) (X 2) (X 3) (X 4) (X 5) (X 6) (X 7) (X 8) (X 9) (X 10) (X 11) (X 12) (X 13) (X 14) (X 15) (X 16) (X 17) (X 18) (X 19) (X 20) (X 21) (X 22) (X 23) a1 hcw1) (vx_cwSW 3 hts gL_law_L_writeClause rfl rfl rfl (by decide +kernel) ⟨Nat.le_of_ble_eq_true rfl, Nat.le_of_ble_eq_true rfl⟩) (EW_ok aK aV mK) ((EW_ok aK aV mK).2.2.1 _ _ _ _ hS.2.1 hE) hK hP hD hS hA [0, 1, 2, 3, 4, 5, 6, 7, 8, 9, 10, 11, 12, 13, 14, 15, 16, 17, 18, 19, 20, 21, 22, 23, 24] [25] 26 rfl (by decide +kernel) rfl rfl [wM cI cB cZ q z] rfl rfl rfl rfl hl.1 rfl (Nat.le_of_ble_eq_true rfl) dL_law_2829 ⟨by show _ ≤ 601024; omega, by show _ ≤ 7293034; omega⟩ (fun H locs hP hD hS => ?_)
  refine lv_istore (lv' := [(5, .int w1.1), (0, .ref b), (1, .ref (Q 0 0)), (2, .ref (q 0)), (3, .ref a), (4, .int i)]) hx hb dL_law_2832 hl (by decide) rfl (fun ls hl => ?_)
  refine lv_aload_n hx hb dL_law_2834 rfl (lv_at hl 3 rfl) ?_
  refine lv_aload_n hx hb dL_law_2835 rfl (lv_at hl 1 rfl) ?_
  refine lv_iload hx hb dL_law_2836 (lv_at hl 5 rfl) ?_
  refine lv_iconst (v := 1) hx hb dL_law_2838 (by decide) ?_
  refine lv_iadd hx hb dL_law_2839 ?_
  refine va_sldE hx hb hX hbl hbA hS n1 e1 dL_law_2840 ?_
  obtain ⟨w2, hcw2, hf⟩ := bd_ob hf
  refine wrVb (As := [.int a1]) (rest := []) [wL cJ a w1.2.1, wXO Q, wC cI (Q 1) (X 1), wC cI (Q 2) (X 2), wS (Q 3) (Q 4 0) (Q 5 0) (Q 6 0) (Q 7 0) (X 3), wT cB (Q 4) (X 4), wC cI (Q 5) (X 5), wA (Q 6) (X 6), wP (Q 7) (X 7), wH cO (Q 8) (Q 9 0) (Q 10 0) (Q 11 0) (Q 12 0) (Q 13 0) (Q 14 0) (Q 15 0) (Q 16 0) (X 8), wC cI (Q 9) (X 9), wC cI (Q 10) (X 10), wC cI (Q 11) (X 11), wC cI (Q 12) (X 12), wC cI (Q 13) (X 13), wC cI (Q 14) (X 14), wC cI (Q 15) (X 15), wC cI (Q 16) (X 16), wXS cO (Q 17) (Q 18 0) (Q 19 0), wC cI (Q 18) (X 18), wC cI (Q 19) (X 19), wXF cZ (Q 20) (X 20), wA (Q 21) (X 21), wP (Q 22) (X 22), wO cB (Q 23) w1.2.2, wM cI cB cZ q w2.2] ⟨hx, hb, hml, hown, hts⟩ (mX9_writeClause l D cI cB cZ cO q _ fu z a1 hcw2) (cwV 1 hts gL_law_X9_writeClause rfl rfl rfl (by decide +kernel) ⟨Nat.le_of_ble_eq_true rfl, Nat.le_of_ble_eq_true rfl⟩) (hK.sub [0, 1, 2, 3] rfl) hP hD hS hA [25] [0, 1, 2, 3, 4, 5, 6, 7, 8, 9, 10, 11, 12, 13, 14, 15, 16, 17, 18, 19, 20, 21, 22, 23, 24] 26 rfl (by decide +kernel) rfl rfl [wL cJ a w1.2.1, wXO Q, wC cI (Q 1) (X 1), wC cI (Q 2) (X 2), wS (Q 3) (Q 4 0) (Q 5 0) (Q 6 0) (Q 7 0) (X 3), wT cB (Q 4) (X 4), wC cI (Q 5) (X 5), wA (Q 6) (X 6), wP (Q 7) (X 7), wH cO (Q 8) (Q 9 0) (Q 10 0) (Q 11 0) (Q 12 0) (Q 13 0) (Q 14 0) (Q 15 0) (Q 16 0) (X 8), wC cI (Q 9) (X 9), wC cI (Q 10) (X 10), wC cI (Q 11) (X 11), wC cI (Q 12) (X 12), wC cI (Q 13) (X 13), wC cI (Q 14) (X 14), wC cI (Q 15) (X 15), wC cI (Q 16) (X 16), wXS cO (Q 17) (Q 18 0) (Q 19 0), wC cI (Q 18) (X 18), wC cI (Q 19) (X 19), wXF cZ (Q 20) (X 20), wA (Q 21) (X 21), wP (Q 22) (X 22), wO cB (Q 23) w1.2.2] rfl rfl rfl (va_recv hK hP (ci := 8) (q0 := 106) rfl rfl) rfl hl.1 rfl (Nat.le_of_ble_eq_true rfl) dL_law_2841 ⟨by show _ ≤ 601024; omega, by show _ ≤ 7293034; omega⟩ (fun H locs hP hD hS => ?_)
  refine lv_istore (lv' := [(6, .int w2.1), (5, .int w1.1), (0, .ref b), (1, .ref (Q 0 0)), (2, .ref (q 0)), (3, .ref a), (4, .int i)]) hx hb dL_law_2844 hl (by decide) rfl (fun ls hl => ?_)
  refine lv_aload_n hx hb dL_law_2846 rfl (lv_at hl 4 rfl) ?_
  obtain ⟨w3, hcw3, hf⟩ := bd_ob hf
  refine rdV (As := []) (rest := []) ⟨hx, hb, hml, hown, hts⟩ (mX9_thrown l D cI cB cZ cO q fu w2.2 hcw3) (cwV 0 hts gL_law_X9_thrown rfl rfl rfl (by decide +kernel) ⟨Nat.le_of_ble_eq_true rfl, Nat.le_of_ble_eq_true rfl⟩) (hK.sub [0, 1, 2, 3] rfl) (hP.subb [25] rfl) (va_recv hK hP (ci := 8) (q0 := 106) rfl rfl) rfl hl.1 rfl (Nat.le_of_ble_eq_true rfl) dL_law_2847 ⟨by show _ ≤ 601024; omega, by show _ ≤ 7293034; omega⟩ ?_
  refine lv_iload hx hb dL_law_2850 (lv_at hl 1 rfl) ?_
  refine lv_icmp_eq (tgt := 2857) hx hb dL_law_2852 (by decide) (fun c6 => ?_) (fun c6 => ?_)
  · have hf := ip c6 hf
    refine lv_iload hx hb dL_law_2857 (lv_at hl 1 rfl) ?_
    refine lv_if_ne (tgt := 2874) hx hb dL_law_2859 (by decide) (fun c5 => ?_) (fun c5 => ?_)
    · have hf := iq c5 hf
      refine lv_goto (tgt := 2902) hx hb dL_law_2874 (by decide) ?_
      cases hf
      refine W.widen (k := cells + 8) (n := slots + 48) (by omega) (by omega) ?_
      exact kk _ _ _ hP hD hS (lv_sub hl [2, 3, 4, 5, 6] rfl)
    · have hf := ip c5 hf
      refine lv_aload_n hx hb dL_law_2862 rfl (lv_at hl 5 rfl) ?_
      refine lv_iconst (v := 0) hx hb dL_law_2863 (by decide) ?_
      refine va_lald hx hb hK hP 0 4 rfl rfl (inB_in (by decide)) dL_law_2864 ?_
      refine lv_iload hx hb dL_law_2865 (lv_at hl 0 rfl) ?_
      refine lv_i2l hx hb dL_law_2867 rfl ?_
      refine W.lcmp hx hb dL_law_2868 ?_
      refine lv_if_eq (tgt := 2874) hx hb dL_law_2869 (by decide) (fun c4 => ?_) (fun c4 => ?_)
      · have hf := ip c4 hf
        refine lv_goto (tgt := 2902) hx hb dL_law_2874 (by decide) ?_
        cases hf
        refine W.widen (k := cells + 8) (n := slots + 48) (by omega) (by omega) ?_
        exact kk _ _ _ hP hD hS (lv_sub hl [2, 3, 4, 5, 6] rfl)
      · have hf := iq c4 hf
        exact no_ob hf
  · have hf := iq c6 hf
    exact no_ob hf
set_option maxRecDepth 100000 in
set_option maxHeartbeats 4000000 in
theorem wL_63 {p : Program} {l : Launch} {e : Env} {s : State} {m : MethodId} {args : Array Value} {below : List Frame} {meth : Method} {c : Code} {H : Heap} {locs : List Loc} {cells slots : Nat} {Qf : State → Prop} {ls : Array Slot} {D : va_G} {cI cB cZ cO cJ : ClassId} {aK aV mK : Nat → Nat} {Q : Nat → Nat → Nat} {q : Nat → Nat} {a b L fu : Nat} {xs : Nat → Int32} {A : Nat → Prop} {X X1 : Nat → OS} {z z1 : OS} {o o1 : Nat → Int64} {i a1 a2 a3 a4 a5 : Int32} (hst : l.stackTraces = false) (hx : p.tables.exec = Jvm.exec) (hb : c.code = cL_law) (hml : c.maxLocals = 9) (hown : s.vm.findClass RL = some m.cls) (hts : ∀ w ∈ lw_tbl, w.before args s = true) (hK : va_K D vwCl (gL cI cB cZ cO cJ) s) (hA : ∀ q : Nat, s.heap.size ≤ q → A q) (hX : va_X b L xs s s.heap) (hbl : b < s.heap.size) (hbA : ¬ A b) (hE : EW aK aV mK A s s.heap) (hS : va_S A s.heap H locs) (hl : lv_has ls 9 [(0, .ref b), (1, .ref (Q 0 0)), (2, .ref (q 0)), (3, .ref a), (4, .int i)]) (n1 : vp_in (i + 1) L) (n2 : vp_in (i + 2) L) (n3 : vp_in (i + 3) L) (n4 : vp_in (i + 4) L) (n5 : vp_in (i + 5) L) (e1 : xs (i + 1).toNatClampNeg = a1) (e2 : xs (i + 2).toNatClampNeg = a2) (e3 : xs (i + 3).toNatClampNeg = a3) (e4 : xs (i + 4).toNatClampNeg = a4) (e5 : xs (i + 5).toNatClampNeg = a5) (hcl : cells + 8 ≤ 601024) (hsl : slots + 48 ≤ 7293034) (kk : ∀ (H1 : Heap) (locs1 : List Loc) (ls1 : Array Slot), va_P D vwCl (fl (lawW cI cB cZ cO cJ Q q a X1 z1 o1)) H1 → va_D A (fl (lawW cI cB cZ cO cJ Q q a X1 z1 o1)) → va_S A s.heap H1 locs1 → lv_has ls1 9 [(0, .ref b), (1, .ref (Q 0 0)), (2, .ref (q 0)), (3, .ref a), (4, .int i)] → W p l e room_1 s m args below meth c H1 locs1 (cells + 8) (slots + 48) Qf (F0 m 2902 ls1 [])) (hP : va_P D vwCl (fl (lawW cI cB cZ cO cJ Q q a X z o)) H) (hD : va_D A (fl (lawW cI cB cZ cO cJ Q q a X z o))) (hf : cL_63 fu a1 a2 a3 a4 a5 X z o = some (X1, z1, o1)) : W p l e room_1 s m args below meth c H locs cells slots Qf (F0 m 2877 ls []) := by
  unfold cL_63 at hf
  refine lv_aload_n hx hb dL_law_2877 rfl (lv_at hl 1 rfl) ?_
  refine lv_aload_n hx hb dL_law_2878 rfl (lv_at hl 0 rfl) ?_
  refine lv_iload hx hb dL_law_2879 (lv_at hl 4 rfl) ?_
  refine lv_iconst (v := 1) hx hb dL_law_2881 (by decide) ?_
  refine lv_iadd hx hb dL_law_2882 ?_
  refine va_sldE hx hb hX hbl hbA hS n1 e1 dL_law_2883 ?_
  obtain ⟨w1, hcw1, hf⟩ := bd_ob hf
  refine rdV (As := [.int a1]) (rest := []) ⟨hx, hb, hml, hown, hts⟩ (mX8_outputByte l D cI cB cZ cO Q fu (X 0) (X 1) (X 2) (X 3) (X 4) (X 5) (X 6) (X 7) (X 8) (X 9) (X 10) (X 11) (X 12) (X 13) (X 14) (X 15) (X 16) (X 17) (X 18) (X 19) (X 20) (X 21) (X 22) (X 23) a1 hcw1) (cwV 1 hts gL_law_X8_outputByte rfl rfl rfl (by decide +kernel) ⟨Nat.le_of_ble_eq_true rfl, Nat.le_of_ble_eq_true rfl⟩) (hK.sub [0, 1, 2, 3] rfl) (hP.subb [1, 2, 3, 4, 5, 6, 7, 8, 9, 10, 11, 12, 13, 14, 15, 16, 17, 18, 19, 20, 21, 22, 23, 24] rfl) (va_recv hK hP (ci := 7) (q0 := 1) rfl rfl) rfl hl.1 rfl (Nat.le_of_ble_eq_true rfl) dL_law_2884 ⟨by show _ ≤ 601024; omega, by show _ ≤ 7293034; omega⟩ ?_
  refine lv_aload_n hx hb dL_law_2887 rfl (lv_at hl 2 rfl) ?_
  refine lv_aload_n hx hb dL_law_2888 rfl (lv_at hl 0 rfl) ?_
  refine lv_iload hx hb dL_law_2889 (lv_at hl 4 rfl) ?_
  refine lv_iconst (v := 1) hx hb dL_law_2891 (by decide) ?_
  refine lv_iadd hx hb dL_law_2892 ?_
  refine va_sldE hx hb hX hbl hbA hS n1 e1 dL_law_2893 ?_
  obtain ⟨w2, hcw2, hf⟩ := bd_ob hf
  refine wrVb (As := [.int a1]) (rest := [.int w1]) [wL cJ a o, wXO Q, wC cI (Q 1) (X 1), wC cI (Q 2) (X 2), wS (Q 3) (Q 4 0) (Q 5 0) (Q 6 0) (Q 7 0) (X 3), wT cB (Q 4) (X 4), wC cI (Q 5) (X 5), wA (Q 6) (X 6), wP (Q 7) (X 7), wH cO (Q 8) (Q 9 0) (Q 10 0) (Q 11 0) (Q 12 0) (Q 13 0) (Q 14 0) (Q 15 0) (Q 16 0) (X 8), wC cI (Q 9) (X 9), wC cI (Q 10) (X 10), wC cI (Q 11) (X 11), wC cI (Q 12) (X 12), wC cI (Q 13) (X 13), wC cI (Q 14) (X 14), wC cI (Q 15) (X 15), wC cI (Q 16) (X 16), wXS cO (Q 17) (Q 18 0) (Q 19 0), wC cI (Q 18) (X 18), wC cI (Q 19) (X 19), wXF cZ (Q 20) (X 20), wA (Q 21) (X 21), wP (Q 22) (X 22), wO cB (Q 23) (X 23), wM cI cB cZ q w2.2] ⟨hx, hb, hml, hown, hts⟩ (mX9_outputByte l D cI cB cZ cO q _ fu z a1 hcw2) (cwV 1 hts gL_law_X9_outputByte rfl rfl rfl (by decide +kernel) ⟨Nat.le_of_ble_eq_true rfl, Nat.le_of_ble_eq_true rfl⟩) (hK.sub [0, 1, 2, 3] rfl) hP hD hS hA [25] [0, 1, 2, 3, 4, 5, 6, 7, 8, 9, 10, 11, 12, 13, 14, 15, 16, 17, 18, 19, 20, 21, 22, 23, 24] 26 rfl (by decide +kernel) rfl rfl [wL cJ a o, wXO Q, wC cI (Q 1) (X 1), wC cI (Q 2) (X 2), wS (Q 3) (Q 4 0) (Q 5 0) (Q 6 0) (Q 7 0) (X 3), wT cB (Q 4) (X 4), wC cI (Q 5) (X 5), wA (Q 6) (X 6), wP (Q 7) (X 7), wH cO (Q 8) (Q 9 0) (Q 10 0) (Q 11 0) (Q 12 0) (Q 13 0) (Q 14 0) (Q 15 0) (Q 16 0) (X 8), wC cI (Q 9) (X 9), wC cI (Q 10) (X 10), wC cI (Q 11) (X 11), wC cI (Q 12) (X 12), wC cI (Q 13) (X 13), wC cI (Q 14) (X 14), wC cI (Q 15) (X 15), wC cI (Q 16) (X 16), wXS cO (Q 17) (Q 18 0) (Q 19 0), wC cI (Q 18) (X 18), wC cI (Q 19) (X 19), wXF cZ (Q 20) (X 20), wA (Q 21) (X 21), wP (Q 22) (X 22), wO cB (Q 23) (X 23)] rfl rfl rfl (va_recv hK hP (ci := 8) (q0 := 106) rfl rfl) rfl hl.1 rfl (Nat.le_of_ble_eq_true rfl) dL_law_2894 ⟨by show _ ≤ 601024; omega, by show _ ≤ 7293034; omega⟩ (fun H locs hP hD hS => ?_)
  refine lv_icmp_eq (tgt := 2902) hx hb dL_law_2897 (by decide) (fun c3 => ?_) (fun c3 => ?_)
  · have hf := ip c3 hf
    cases hf
    refine W.widen (k := cells + 8) (n := slots + 48) (by omega) (by omega) ?_
    exact kk _ _ _ hP hD hS (lv_sub hl [0, 1, 2, 3, 4] rfl)
  · have hf := iq c3 hf
    exact no_ob hf
end Cases
