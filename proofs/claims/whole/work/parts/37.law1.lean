/-! The 64 cases of the law's loop: each goes on behind itself, where both sides answered alike. -/
theorem va_sldE {p : Program} {l : Launch} {e : Env} {R : Room} {s : State} {m : MethodId} {args : Array Value} {below : List Frame} {meth : Method} {c : Code} {H H0 : Heap} {locs : List Loc} {cells slots : Nat} {Q : State → Prop} {pc : Nat} {ls : Array Slot} {rest : List Value} {cc : ByteArray} {A : Nat → Prop} (hexec : p.tables.exec = Jvm.exec) (hb : c.code = cc) {b L : Nat} {xs : Nat → Int32} (hX : va_X b L xs s H0) (hbl : b < H0.size) (hbA : ¬ A b) (hS : va_S A H0 H locs) {i v : Int32} (hin : vp_in i L) (he : xs i.toNatClampNeg = v) (hdg : decode cc pc = .ok (.iaload, 1))
    (kk : W p l e R s m args below meth c H locs cells slots Q (F0 m (pc + 1) ls (.int v :: rest))) : W p l e R s m args below meth c H locs cells slots Q (F0 m pc ls (.int i :: .ref b :: rest)) := by
  subst he
  exact va_sld hexec hb hX hbl hbA hS hin hdg kk
abbrev lawW (cI cB cZ cO cJ : ClassId) (Q : Nat → Nat → Nat) (q : Nat → Nat) (a : Nat) (X : Nat → OS) (z : OS) (o : Nat → Int64) : List va_W := [wL cJ a o, wXO Q, wC cI (Q 1) (X 1), wC cI (Q 2) (X 2), wS (Q 3) (Q 4 0) (Q 5 0) (Q 6 0) (Q 7 0) (X 3), wT cB (Q 4) (X 4), wC cI (Q 5) (X 5), wA (Q 6) (X 6), wP (Q 7) (X 7), wH cO (Q 8) (Q 9 0) (Q 10 0) (Q 11 0) (Q 12 0) (Q 13 0) (Q 14 0) (Q 15 0) (Q 16 0) (X 8), wC cI (Q 9) (X 9), wC cI (Q 10) (X 10), wC cI (Q 11) (X 11), wC cI (Q 12) (X 12), wC cI (Q 13) (X 13), wC cI (Q 14) (X 14), wC cI (Q 15) (X 15), wC cI (Q 16) (X 16), wXS cO (Q 17) (Q 18 0) (Q 19 0), wC cI (Q 18) (X 18), wC cI (Q 19) (X 19), wXF cZ (Q 20) (X 20), wA (Q 21) (X 21), wP (Q 22) (X 22), wO cB (Q 23) (X 23), wM cI cB cZ q z]
section Cases
set_option maxRecDepth 100000 in
set_option maxHeartbeats 4000000 in
theorem wL_0 {p : Program} {l : Launch} {e : Env} {s : State} {m : MethodId} {args : Array Value} {below : List Frame} {meth : Method} {c : Code} {H : Heap} {locs : List Loc} {cells slots : Nat} {Qf : State → Prop} {ls : Array Slot} {D : va_G} {cI cB cZ cO cJ : ClassId} {aK aV mK : Nat → Nat} {Q : Nat → Nat → Nat} {q : Nat → Nat} {a b L fu : Nat} {xs : Nat → Int32} {A : Nat → Prop} {X X1 : Nat → OS} {z z1 : OS} {o o1 : Nat → Int64} {i a1 a2 a3 a4 a5 : Int32} (hst : l.stackTraces = false) (hx : p.tables.exec = Jvm.exec) (hb : c.code = cL_law) (hml : c.maxLocals = 9) (hown : s.vm.findClass RL = some m.cls) (hts : ∀ w ∈ lw_tbl, w.before args s = true) (hK : va_K D vwCl (gL cI cB cZ cO cJ) s) (hA : ∀ q : Nat, s.heap.size ≤ q → A q) (hX : va_X b L xs s s.heap) (hbl : b < s.heap.size) (hbA : ¬ A b) (hE : EW aK aV mK A s s.heap) (hS : va_S A s.heap H locs) (hl : lv_has ls 9 [(0, .ref b), (1, .ref (Q 0 0)), (2, .ref (q 0)), (3, .ref a), (4, .int i)]) (n1 : vp_in (i + 1) L) (n2 : vp_in (i + 2) L) (n3 : vp_in (i + 3) L) (n4 : vp_in (i + 4) L) (n5 : vp_in (i + 5) L) (e1 : xs (i + 1).toNatClampNeg = a1) (e2 : xs (i + 2).toNatClampNeg = a2) (e3 : xs (i + 3).toNatClampNeg = a3) (e4 : xs (i + 4).toNatClampNeg = a4) (e5 : xs (i + 5).toNatClampNeg = a5) (hcl : cells + 8 ≤ 601024) (hsl : slots + 48 ≤ 7293034) (kk : ∀ (H1 : Heap) (locs1 : List Loc) (ls1 : Array Slot), va_P D vwCl (fl (lawW cI cB cZ cO cJ Q q a X1 z1 o1)) H1 → va_D A (fl (lawW cI cB cZ cO cJ Q q a X1 z1 o1)) → va_S A s.heap H1 locs1 → lv_has ls1 9 [(0, .ref b), (1, .ref (Q 0 0)), (2, .ref (q 0)), (3, .ref a), (4, .int i)] → W p l e room_1 s m args below meth c H1 locs1 (cells + 8) (slots + 48) Qf (F0 m 2902 ls1 [])) (hP : va_P D vwCl (fl (lawW cI cB cZ cO cJ Q q a X z o)) H) (hD : va_D A (fl (lawW cI cB cZ cO cJ Q q a X z o))) (hf : cL_0 fu a1 a2 a3 a4 a5 X z o = some (X1, z1, o1)) : W p l e room_1 s m args below meth c H locs cells slots Qf (F0 m 312 ls []) := by
  unfold cL_0 at hf
  refine lv_aload_n hx hb dL_law_312 rfl (lv_at hl 1 rfl) ?_
  refine lv_aload_n hx hb dL_law_313 rfl (lv_at hl 0 rfl) ?_
  refine lv_iload hx hb dL_law_314 (lv_at hl 4 rfl) ?_
  refine lv_iconst (v := 1) hx hb dL_law_316 (by decide) ?_
  refine lv_iadd hx hb dL_law_317 ?_
  refine va_sldE hx hb hX hbl hbA hS n1 e1 dL_law_318 ?_
  refine lv_aload_n hx hb dL_law_319 rfl (lv_at hl 0 rfl) ?_
  refine lv_iload hx hb dL_law_320 (lv_at hl 4 rfl) ?_
  refine lv_iconst (v := 2) hx hb dL_law_322 (by decide) ?_
  refine lv_iadd hx hb dL_law_323 ?_
  refine va_sldE hx hb hX hbl hbA hS n2 e2 dL_law_324 ?_
  refine lv_aload_n hx hb dL_law_325 rfl (lv_at hl 0 rfl) ?_
  refine lv_iload hx hb dL_law_326 (lv_at hl 4 rfl) ?_
  refine lv_iconst (v := 3) hx hb dL_law_328 (by decide) ?_
  refine lv_iadd hx hb dL_law_329 ?_
  refine va_sldE hx hb hX hbl hbA hS n3 e3 dL_law_330 ?_
  refine lv_aload_n hx hb dL_law_331 rfl (lv_at hl 0 rfl) ?_
  refine lv_iload hx hb dL_law_332 (lv_at hl 4 rfl) ?_
  refine lv_iconst (v := 4) hx hb dL_law_334 (by decide) ?_
  refine lv_iadd hx hb dL_law_335 ?_
  refine va_sldE hx hb hX hbl hbA hS n4 e4 dL_law_336 ?_
  refine lv_aload_n hx hb dL_law_337 rfl (lv_at hl 0 rfl) ?_
  refine lv_iload hx hb dL_law_338 (lv_at hl 4 rfl) ?_
  refine lv_iconst (v := 5) hx hb dL_law_340 (by decide) ?_
  refine lv_iadd hx hb dL_law_341 ?_
  refine va_sldE hx hb hX hbl hbA hS n5 e5 dL_law_342 ?_
  obtain ⟨w1, hcw1, hf⟩ := bd_ob hf
  refine wrVb (As := [.int a1, .int a2, .int a3, .int a4, .int a5]) (rest := []) [wL cJ a o, wXO Q, wC cI (Q 1) (X 1), wC cI (Q 2) (X 2), wS (Q 3) (Q 4 0) (Q 5 0) (Q 6 0) (Q 7 0) (X 3), wT cB (Q 4) w1.2, wC cI (Q 5) (X 5), wA (Q 6) (X 6), wP (Q 7) (X 7), wH cO (Q 8) (Q 9 0) (Q 10 0) (Q 11 0) (Q 12 0) (Q 13 0) (Q 14 0) (Q 15 0) (Q 16 0) (X 8), wC cI (Q 9) (X 9), wC cI (Q 10) (X 10), wC cI (Q 11) (X 11), wC cI (Q 12) (X 12), wC cI (Q 13) (X 13), wC cI (Q 14) (X 14), wC cI (Q 15) (X 15), wC cI (Q 16) (X 16), wXS cO (Q 17) (Q 18 0) (Q 19 0), wC cI (Q 18) (X 18), wC cI (Q 19) (X 19), wXF cZ (Q 20) (X 20), wA (Q 21) (X 21), wP (Q 22) (X 22), wO cB (Q 23) (X 23), wM cI cB cZ q z] ⟨hx, hb, hml, hown, hts⟩ (mX8_append l D cI cB cZ cO Q _ fu (X 0) (X 1) (X 2) (X 3) (X 4) (X 5) (X 6) (X 7) (X 8) (X 9) (X 10) (X 11) (X 12) (X 13) (X 14) (X 15) (X 16) (X 17) (X 18) (X 19) (X 20) (X 21) (X 22) (X 23) a1 a2 a3 a4 a5 hcw1) (cwV 5 hts gL_law_X8_append rfl rfl rfl (by decide +kernel) ⟨Nat.le_of_ble_eq_true rfl, Nat.le_of_ble_eq_true rfl⟩) (hK.sub [0, 1, 2, 3] rfl) hP hD hS hA [1, 2, 3, 4, 5, 6, 7, 8, 9, 10, 11, 12, 13, 14, 15, 16, 17, 18, 19, 20, 21, 22, 23, 24] [0, 25] 26 rfl (by decide +kernel) rfl rfl [wL cJ a o, wM cI cB cZ q z] rfl rfl rfl (va_recv hK hP (ci := 7) (q0 := 1) rfl rfl) rfl hl.1 rfl (Nat.le_of_ble_eq_true rfl) dL_law_343 ⟨by show _ ≤ 601024; omega, by show _ ≤ 7293034; omega⟩ (fun H locs hP hD hS => ?_)
  refine lv_aload_n hx hb dL_law_346 rfl (lv_at hl 2 rfl) ?_
  refine lv_aload_n hx hb dL_law_347 rfl (lv_at hl 0 rfl) ?_
  refine lv_iload hx hb dL_law_348 (lv_at hl 4 rfl) ?_
  refine lv_iconst (v := 1) hx hb dL_law_350 (by decide) ?_
  refine lv_iadd hx hb dL_law_351 ?_
  refine va_sldE hx hb hX hbl hbA hS n1 e1 dL_law_352 ?_
  refine lv_aload_n hx hb dL_law_353 rfl (lv_at hl 0 rfl) ?_
  refine lv_iload hx hb dL_law_354 (lv_at hl 4 rfl) ?_
  refine lv_iconst (v := 2) hx hb dL_law_356 (by decide) ?_
  refine lv_iadd hx hb dL_law_357 ?_
  refine va_sldE hx hb hX hbl hbA hS n2 e2 dL_law_358 ?_
  refine lv_aload_n hx hb dL_law_359 rfl (lv_at hl 0 rfl) ?_
  refine lv_iload hx hb dL_law_360 (lv_at hl 4 rfl) ?_
  refine lv_iconst (v := 3) hx hb dL_law_362 (by decide) ?_
  refine lv_iadd hx hb dL_law_363 ?_
  refine va_sldE hx hb hX hbl hbA hS n3 e3 dL_law_364 ?_
  refine lv_aload_n hx hb dL_law_365 rfl (lv_at hl 0 rfl) ?_
  refine lv_iload hx hb dL_law_366 (lv_at hl 4 rfl) ?_
  refine lv_iconst (v := 4) hx hb dL_law_368 (by decide) ?_
  refine lv_iadd hx hb dL_law_369 ?_
  refine va_sldE hx hb hX hbl hbA hS n4 e4 dL_law_370 ?_
  refine lv_aload_n hx hb dL_law_371 rfl (lv_at hl 0 rfl) ?_
  refine lv_iload hx hb dL_law_372 (lv_at hl 4 rfl) ?_
  refine lv_iconst (v := 5) hx hb dL_law_374 (by decide) ?_
  refine lv_iadd hx hb dL_law_375 ?_
  refine va_sldE hx hb hX hbl hbA hS n5 e5 dL_law_376 ?_
  obtain ⟨w2, hcw2, hf⟩ := bd_ob hf
  refine wrVb (As := [.int a1, .int a2, .int a3, .int a4, .int a5]) (rest := [.int w1.1]) [wL cJ a o, wXO Q, wC cI (Q 1) (X 1), wC cI (Q 2) (X 2), wS (Q 3) (Q 4 0) (Q 5 0) (Q 6 0) (Q 7 0) (X 3), wT cB (Q 4) w1.2, wC cI (Q 5) (X 5), wA (Q 6) (X 6), wP (Q 7) (X 7), wH cO (Q 8) (Q 9 0) (Q 10 0) (Q 11 0) (Q 12 0) (Q 13 0) (Q 14 0) (Q 15 0) (Q 16 0) (X 8), wC cI (Q 9) (X 9), wC cI (Q 10) (X 10), wC cI (Q 11) (X 11), wC cI (Q 12) (X 12), wC cI (Q 13) (X 13), wC cI (Q 14) (X 14), wC cI (Q 15) (X 15), wC cI (Q 16) (X 16), wXS cO (Q 17) (Q 18 0) (Q 19 0), wC cI (Q 18) (X 18), wC cI (Q 19) (X 19), wXF cZ (Q 20) (X 20), wA (Q 21) (X 21), wP (Q 22) (X 22), wO cB (Q 23) (X 23), wM cI cB cZ q w2.2] ⟨hx, hb, hml, hown, hts⟩ (mX9_append l D cI cB cZ cO q _ fu z a1 a2 a3 a4 a5 hcw2) (cwV 5 hts gL_law_X9_append rfl rfl rfl (by decide +kernel) ⟨Nat.le_of_ble_eq_true rfl, Nat.le_of_ble_eq_true rfl⟩) (hK.sub [0, 1, 2, 3] rfl) hP hD hS hA [25] [0, 1, 2, 3, 4, 5, 6, 7, 8, 9, 10, 11, 12, 13, 14, 15, 16, 17, 18, 19, 20, 21, 22, 23, 24] 26 rfl (by decide +kernel) rfl rfl [wL cJ a o, wXO Q, wC cI (Q 1) (X 1), wC cI (Q 2) (X 2), wS (Q 3) (Q 4 0) (Q 5 0) (Q 6 0) (Q 7 0) (X 3), wT cB (Q 4) w1.2, wC cI (Q 5) (X 5), wA (Q 6) (X 6), wP (Q 7) (X 7), wH cO (Q 8) (Q 9 0) (Q 10 0) (Q 11 0) (Q 12 0) (Q 13 0) (Q 14 0) (Q 15 0) (Q 16 0) (X 8), wC cI (Q 9) (X 9), wC cI (Q 10) (X 10), wC cI (Q 11) (X 11), wC cI (Q 12) (X 12), wC cI (Q 13) (X 13), wC cI (Q 14) (X 14), wC cI (Q 15) (X 15), wC cI (Q 16) (X 16), wXS cO (Q 17) (Q 18 0) (Q 19 0), wC cI (Q 18) (X 18), wC cI (Q 19) (X 19), wXF cZ (Q 20) (X 20), wA (Q 21) (X 21), wP (Q 22) (X 22), wO cB (Q 23) (X 23)] rfl rfl rfl (va_recv hK hP (ci := 8) (q0 := 106) rfl rfl) rfl hl.1 rfl (Nat.le_of_ble_eq_true rfl) dL_law_377 ⟨by show _ ≤ 601024; omega, by show _ ≤ 7293034; omega⟩ (fun H locs hP hD hS => ?_)
  refine lv_icmp_eq (tgt := 2902) hx hb dL_law_380 (by decide) (fun c3 => ?_) (fun c3 => ?_)
  · have hf := ip c3 hf
    cases hf
    refine W.widen (k := cells + 8) (n := slots + 48) (by omega) (by omega) ?_
    exact kk _ _ _ hP hD hS (lv_sub hl [0, 1, 2, 3, 4] rfl)
  · have hf := iq c3 hf
    exact no_ob hf
set_option maxRecDepth 100000 in
set_option maxHeartbeats 4000000 in
theorem wL_1 {p : Program} {l : Launch} {e : Env} {s : State} {m : MethodId} {args : Array Value} {below : List Frame} {meth : Method} {c : Code} {H : Heap} {locs : List Loc} {cells slots : Nat} {Qf : State → Prop} {ls : Array Slot} {D : va_G} {cI cB cZ cO cJ : ClassId} {aK aV mK : Nat → Nat} {Q : Nat → Nat → Nat} {q : Nat → Nat} {a b L fu : Nat} {xs : Nat → Int32} {A : Nat → Prop} {X X1 : Nat → OS} {z z1 : OS} {o o1 : Nat → Int64} {i a1 a2 a3 a4 a5 : Int32} (hst : l.stackTraces = false) (hx : p.tables.exec = Jvm.exec) (hb : c.code = cL_law) (hml : c.maxLocals = 9) (hown : s.vm.findClass RL = some m.cls) (hts : ∀ w ∈ lw_tbl, w.before args s = true) (hK : va_K D vwCl (gL cI cB cZ cO cJ) s) (hA : ∀ q : Nat, s.heap.size ≤ q → A q) (hX : va_X b L xs s s.heap) (hbl : b < s.heap.size) (hbA : ¬ A b) (hE : EW aK aV mK A s s.heap) (hS : va_S A s.heap H locs) (hl : lv_has ls 9 [(0, .ref b), (1, .ref (Q 0 0)), (2, .ref (q 0)), (3, .ref a), (4, .int i)]) (n1 : vp_in (i + 1) L) (n2 : vp_in (i + 2) L) (n3 : vp_in (i + 3) L) (n4 : vp_in (i + 4) L) (n5 : vp_in (i + 5) L) (e1 : xs (i + 1).toNatClampNeg = a1) (e2 : xs (i + 2).toNatClampNeg = a2) (e3 : xs (i + 3).toNatClampNeg = a3) (e4 : xs (i + 4).toNatClampNeg = a4) (e5 : xs (i + 5).toNatClampNeg = a5) (hcl : cells + 8 ≤ 601024) (hsl : slots + 48 ≤ 7293034) (kk : ∀ (H1 : Heap) (locs1 : List Loc) (ls1 : Array Slot), va_P D vwCl (fl (lawW cI cB cZ cO cJ Q q a X1 z1 o1)) H1 → va_D A (fl (lawW cI cB cZ cO cJ Q q a X1 z1 o1)) → va_S A s.heap H1 locs1 → lv_has ls1 9 [(0, .ref b), (1, .ref (Q 0 0)), (2, .ref (q 0)), (3, .ref a), (4, .int i)] → W p l e room_1 s m args below meth c H1 locs1 (cells + 8) (slots + 48) Qf (F0 m 2902 ls1 [])) (hP : va_P D vwCl (fl (lawW cI cB cZ cO cJ Q q a X z o)) H) (hD : va_D A (fl (lawW cI cB cZ cO cJ Q q a X z o))) (hf : cL_1 fu a1 a2 a3 a4 a5 X z o = some (X1, z1, o1)) : W p l e room_1 s m args below meth c H locs cells slots Qf (F0 m 385 ls []) := by
  unfold cL_1 at hf
  refine lv_aload_n hx hb dL_law_385 rfl (lv_at hl 1 rfl) ?_
  refine lv_aload_n hx hb dL_law_386 rfl (lv_at hl 0 rfl) ?_
  refine lv_iload hx hb dL_law_387 (lv_at hl 4 rfl) ?_
  refine lv_iconst (v := 1) hx hb dL_law_389 (by decide) ?_
  refine lv_iadd hx hb dL_law_390 ?_
  refine va_sldE hx hb hX hbl hbA hS n1 e1 dL_law_391 ?_
  obtain ⟨w1, hcw1, hf⟩ := bd_ob hf
  refine wrVb (As := [.int a1]) (rest := []) [wL cJ a o, wXO Q, wC cI (Q 1) (X 1), wC cI (Q 2) (X 2), wS (Q 3) (Q 4 0) (Q 5 0) (Q 6 0) (Q 7 0) (X 3), wT cB (Q 4) w1.2, wC cI (Q 5) (X 5), wA (Q 6) (X 6), wP (Q 7) (X 7), wH cO (Q 8) (Q 9 0) (Q 10 0) (Q 11 0) (Q 12 0) (Q 13 0) (Q 14 0) (Q 15 0) (Q 16 0) (X 8), wC cI (Q 9) (X 9), wC cI (Q 10) (X 10), wC cI (Q 11) (X 11), wC cI (Q 12) (X 12), wC cI (Q 13) (X 13), wC cI (Q 14) (X 14), wC cI (Q 15) (X 15), wC cI (Q 16) (X 16), wXS cO (Q 17) (Q 18 0) (Q 19 0), wC cI (Q 18) (X 18), wC cI (Q 19) (X 19), wXF cZ (Q 20) (X 20), wA (Q 21) (X 21), wP (Q 22) (X 22), wO cB (Q 23) (X 23), wM cI cB cZ q z] ⟨hx, hb, hml, hown, hts⟩ (mX8_truncate l D cI cB cZ cO Q _ fu (X 0) (X 1) (X 2) (X 3) (X 4) (X 5) (X 6) (X 7) (X 8) (X 9) (X 10) (X 11) (X 12) (X 13) (X 14) (X 15) (X 16) (X 17) (X 18) (X 19) (X 20) (X 21) (X 22) (X 23) a1 hcw1) (cwV 1 hts gL_law_X8_truncate rfl rfl rfl (by decide +kernel) ⟨Nat.le_of_ble_eq_true rfl, Nat.le_of_ble_eq_true rfl⟩) (hK.sub [0, 1, 2, 3] rfl) hP hD hS hA [1, 2, 3, 4, 5, 6, 7, 8, 9, 10, 11, 12, 13, 14, 15, 16, 17, 18, 19, 20, 21, 22, 23, 24] [0, 25] 26 rfl (by decide +kernel) rfl rfl [wL cJ a o, wM cI cB cZ q z] rfl rfl rfl (va_recv hK hP (ci := 7) (q0 := 1) rfl rfl) rfl hl.1 rfl (Nat.le_of_ble_eq_true rfl) dL_law_392 ⟨by show _ ≤ 601024; omega, by show _ ≤ 7293034; omega⟩ (fun H locs hP hD hS => ?_)
  refine lv_aload_n hx hb dL_law_395 rfl (lv_at hl 2 rfl) ?_
  refine lv_aload_n hx hb dL_law_396 rfl (lv_at hl 0 rfl) ?_
  refine lv_iload hx hb dL_law_397 (lv_at hl 4 rfl) ?_
  refine lv_iconst (v := 1) hx hb dL_law_399 (by decide) ?_
  refine lv_iadd hx hb dL_law_400 ?_
  refine va_sldE hx hb hX hbl hbA hS n1 e1 dL_law_401 ?_
  obtain ⟨w2, hcw2, hf⟩ := bd_ob hf
  refine wrVb (As := [.int a1]) (rest := [.int w1.1]) [wL cJ a o, wXO Q, wC cI (Q 1) (X 1), wC cI (Q 2) (X 2), wS (Q 3) (Q 4 0) (Q 5 0) (Q 6 0) (Q 7 0) (X 3), wT cB (Q 4) w1.2, wC cI (Q 5) (X 5), wA (Q 6) (X 6), wP (Q 7) (X 7), wH cO (Q 8) (Q 9 0) (Q 10 0) (Q 11 0) (Q 12 0) (Q 13 0) (Q 14 0) (Q 15 0) (Q 16 0) (X 8), wC cI (Q 9) (X 9), wC cI (Q 10) (X 10), wC cI (Q 11) (X 11), wC cI (Q 12) (X 12), wC cI (Q 13) (X 13), wC cI (Q 14) (X 14), wC cI (Q 15) (X 15), wC cI (Q 16) (X 16), wXS cO (Q 17) (Q 18 0) (Q 19 0), wC cI (Q 18) (X 18), wC cI (Q 19) (X 19), wXF cZ (Q 20) (X 20), wA (Q 21) (X 21), wP (Q 22) (X 22), wO cB (Q 23) (X 23), wM cI cB cZ q w2.2] ⟨hx, hb, hml, hown, hts⟩ (mX9_truncate l D cI cB cZ cO q _ fu z a1 hcw2) (cwV 1 hts gL_law_X9_truncate rfl rfl rfl (by decide +kernel) ⟨Nat.le_of_ble_eq_true rfl, Nat.le_of_ble_eq_true rfl⟩) (hK.sub [0, 1, 2, 3] rfl) hP hD hS hA [25] [0, 1, 2, 3, 4, 5, 6, 7, 8, 9, 10, 11, 12, 13, 14, 15, 16, 17, 18, 19, 20, 21, 22, 23, 24] 26 rfl (by decide +kernel) rfl rfl [wL cJ a o, wXO Q, wC cI (Q 1) (X 1), wC cI (Q 2) (X 2), wS (Q 3) (Q 4 0) (Q 5 0) (Q 6 0) (Q 7 0) (X 3), wT cB (Q 4) w1.2, wC cI (Q 5) (X 5), wA (Q 6) (X 6), wP (Q 7) (X 7), wH cO (Q 8) (Q 9 0) (Q 10 0) (Q 11 0) (Q 12 0) (Q 13 0) (Q 14 0) (Q 15 0) (Q 16 0) (X 8), wC cI (Q 9) (X 9), wC cI (Q 10) (X 10), wC cI (Q 11) (X 11), wC cI (Q 12) (X 12), wC cI (Q 13) (X 13), wC cI (Q 14) (X 14), wC cI (Q 15) (X 15), wC cI (Q 16) (X 16), wXS cO (Q 17) (Q 18 0) (Q 19 0), wC cI (Q 18) (X 18), wC cI (Q 19) (X 19), wXF cZ (Q 20) (X 20), wA (Q 21) (X 21), wP (Q 22) (X 22), wO cB (Q 23) (X 23)] rfl rfl rfl (va_recv hK hP (ci := 8) (q0 := 106) rfl rfl) rfl hl.1 rfl (Nat.le_of_ble_eq_true rfl) dL_law_402 ⟨by show _ ≤ 601024; omega, by show _ ≤ 7293034; omega⟩ (fun H locs hP hD hS => ?_)
  refine lv_icmp_eq (tgt := 2902) hx hb dL_law_405 (by decide) (fun c3 => ?_) (fun c3 => ?_)
  · have hf := ip c3 hf
    cases hf
    refine W.widen (k := cells + 8) (n := slots + 48) (by omega) (by omega) ?_
    exact kk _ _ _ hP hD hS (lv_sub hl [0, 1, 2, 3, 4] rfl)
  · have hf := iq c3 hf
    exact no_ob hf
set_option maxRecDepth 100000 in
set_option maxHeartbeats 4000000 in
theorem wL_2 {p : Program} {l : Launch} {e : Env} {s : State} {m : MethodId} {args : Array Value} {below : List Frame} {meth : Method} {c : Code} {H : Heap} {locs : List Loc} {cells slots : Nat} {Qf : State → Prop} {ls : Array Slot} {D : va_G} {cI cB cZ cO cJ : ClassId} {aK aV mK : Nat → Nat} {Q : Nat → Nat → Nat} {q : Nat → Nat} {a b L fu : Nat} {xs : Nat → Int32} {A : Nat → Prop} {X X1 : Nat → OS} {z z1 : OS} {o o1 : Nat → Int64} {i a1 a2 a3 a4 a5 : Int32} (hst : l.stackTraces = false) (hx : p.tables.exec = Jvm.exec) (hb : c.code = cL_law) (hml : c.maxLocals = 9) (hown : s.vm.findClass RL = some m.cls) (hts : ∀ w ∈ lw_tbl, w.before args s = true) (hK : va_K D vwCl (gL cI cB cZ cO cJ) s) (hA : ∀ q : Nat, s.heap.size ≤ q → A q) (hX : va_X b L xs s s.heap) (hbl : b < s.heap.size) (hbA : ¬ A b) (hE : EW aK aV mK A s s.heap) (hS : va_S A s.heap H locs) (hl : lv_has ls 9 [(0, .ref b), (1, .ref (Q 0 0)), (2, .ref (q 0)), (3, .ref a), (4, .int i)]) (n1 : vp_in (i + 1) L) (n2 : vp_in (i + 2) L) (n3 : vp_in (i + 3) L) (n4 : vp_in (i + 4) L) (n5 : vp_in (i + 5) L) (e1 : xs (i + 1).toNatClampNeg = a1) (e2 : xs (i + 2).toNatClampNeg = a2) (e3 : xs (i + 3).toNatClampNeg = a3) (e4 : xs (i + 4).toNatClampNeg = a4) (e5 : xs (i + 5).toNatClampNeg = a5) (hcl : cells + 8 ≤ 601024) (hsl : slots + 48 ≤ 7293034) (kk : ∀ (H1 : Heap) (locs1 : List Loc) (ls1 : Array Slot), va_P D vwCl (fl (lawW cI cB cZ cO cJ Q q a X1 z1 o1)) H1 → va_D A (fl (lawW cI cB cZ cO cJ Q q a X1 z1 o1)) → va_S A s.heap H1 locs1 → lv_has ls1 9 [(0, .ref b), (1, .ref (Q 0 0)), (2, .ref (q 0)), (3, .ref a), (4, .int i)] → W p l e room_1 s m args below meth c H1 locs1 (cells + 8) (slots + 48) Qf (F0 m 2902 ls1 [])) (hP : va_P D vwCl (fl (lawW cI cB cZ cO cJ Q q a X z o)) H) (hD : va_D A (fl (lawW cI cB cZ cO cJ Q q a X z o))) (hf : cL_2 fu a1 a2 a3 a4 a5 X z o = some (X1, z1, o1)) : W p l e room_1 s m args below meth c H locs cells slots Qf (F0 m 410 ls []) := by
  unfold cL_2 at hf
  refine lv_aload_n hx hb dL_law_410 rfl (lv_at hl 1 rfl) ?_
  refine lv_aload_n hx hb dL_law_411 rfl (lv_at hl 3 rfl) ?_
  obtain ⟨w1, hcw1, hf⟩ := bd_ob hf
  refine wrSWb (As := [.ref (Q 0 0), .ref a]) (rest := []) [wL cJ a w1.2.1, wXO Q, wC cI (Q 1) w1.2.2.1, wC cI (Q 2) (X 2), wS (Q 3) (Q 4 0) (Q 5 0) (Q 6 0) (Q 7 0) w1.2.2.2.1, wT cB (Q 4) w1.2.2.2.2.1, wC cI (Q 5) w1.2.2.2.2.2.1, wA (Q 6) w1.2.2.2.2.2.2.1, wP (Q 7) w1.2.2.2.2.2.2.2.1, wH cO (Q 8) (Q 9 0) (Q 10 0) (Q 11 0) (Q 12 0) (Q 13 0) (Q 14 0) (Q 15 0) (Q 16 0) w1.2.2.2.2.2.2.2.2.1, wC cI (Q 9) (X 9), wC cI (Q 10) (X 10), wC cI (Q 11) (X 11), wC cI (Q 12) (X 12), wC cI (Q 13) (X 13), wC cI (Q 14) (X 14), wC cI (Q 15) (X 15), wC cI (Q 16) (X 16), wXS cO (Q 17) (Q 18 0) (Q 19 0), wC cI (Q 18) (X 18), wC cI (Q 19) (X 19), wXF cZ (Q 20) w1.2.2.2.2.2.2.2.2.2, wA (Q 21) (X 21), wP (Q 22) (X 22), wO cB (Q 23) (X 23), wM cI cB cZ q z] ⟨hx, hb, hml, hown, hts⟩ (mL_load l D cI cB cZ cO cJ aK aV mK hst Q a _ fu o (X 0) (X 1) (X 2) (X 3) (X 4) (X 5) (X 6) (X 7) (X 8) (X 9) (X 10) (X 11) (X 12) (X 13) (X 14) (X 15) (X 16) (X 17) (X 18) (X 19) (X 20) (X 21) (X 22) (X 23) hcw1) (vx_cwSW 2 hts gL_law_L_load rfl rfl rfl (by decide +kernel) ⟨Nat.le_of_ble_eq_true rfl, Nat.le_of_ble_eq_true rfl⟩) (EW_ok aK aV mK) ((EW_ok aK aV mK).2.2.1 _ _ _ _ hS.2.1 hE) hK hP hD hS hA [0, 1, 2, 3, 4, 5, 6, 7, 8, 9, 10, 11, 12, 13, 14, 15, 16, 17, 18, 19, 20, 21, 22, 23, 24] [25] 26 rfl (by decide +kernel) rfl rfl [wM cI cB cZ q z] rfl rfl rfl rfl hl.1 rfl (Nat.le_of_ble_eq_true rfl) dL_law_412 ⟨by show _ ≤ 601024; omega, by show _ ≤ 7293034; omega⟩ (fun H locs hP hD hS => ?_)
  refine lv_istore (lv' := [(5, .int w1.1), (0, .ref b), (1, .ref (Q 0 0)), (2, .ref (q 0)), (3, .ref a), (4, .int i)]) hx hb dL_law_415 hl (by decide) rfl (fun ls hl => ?_)
  refine lv_aload_n hx hb dL_law_417 rfl (lv_at hl 3 rfl) ?_
  obtain ⟨w2, hcw2, hf⟩ := bd_ob hf
  refine wrVXb (As := []) (rest := []) [wL cJ a w1.2.1, wXO Q, wC cI (Q 1) w1.2.2.1, wC cI (Q 2) (X 2), wS (Q 3) (Q 4 0) (Q 5 0) (Q 6 0) (Q 7 0) w1.2.2.2.1, wT cB (Q 4) w1.2.2.2.2.1, wC cI (Q 5) w1.2.2.2.2.2.1, wA (Q 6) w1.2.2.2.2.2.2.1, wP (Q 7) w1.2.2.2.2.2.2.2.1, wH cO (Q 8) (Q 9 0) (Q 10 0) (Q 11 0) (Q 12 0) (Q 13 0) (Q 14 0) (Q 15 0) (Q 16 0) w1.2.2.2.2.2.2.2.2.1, wC cI (Q 9) (X 9), wC cI (Q 10) (X 10), wC cI (Q 11) (X 11), wC cI (Q 12) (X 12), wC cI (Q 13) (X 13), wC cI (Q 14) (X 14), wC cI (Q 15) (X 15), wC cI (Q 16) (X 16), wXS cO (Q 17) (Q 18 0) (Q 19 0), wC cI (Q 18) (X 18), wC cI (Q 19) (X 19), wXF cZ (Q 20) w1.2.2.2.2.2.2.2.2.2, wA (Q 21) (X 21), wP (Q 22) (X 22), wO cB (Q 23) (X 23), wM cI cB cZ q w2.2] ⟨hx, hb, hml, hown, hts⟩ (mX9_load l D cI cB cZ cO aK aV q _ fu z hcw2) (cwV 0 hts gL_law_X9_load rfl rfl rfl (by decide +kernel) ⟨Nat.le_of_ble_eq_true rfl, Nat.le_of_ble_eq_true rfl⟩) (EL_ok aK aV) ((EL_ok aK aV).2.2.1 _ _ _ _ hS.2.1 hE.1.1) (hK.sub [0, 1, 2, 3] rfl) hP hD hS hA [25] [0, 1, 2, 3, 4, 5, 6, 7, 8, 9, 10, 11, 12, 13, 14, 15, 16, 17, 18, 19, 20, 21, 22, 23, 24] 26 rfl (by decide +kernel) rfl rfl [wL cJ a w1.2.1, wXO Q, wC cI (Q 1) w1.2.2.1, wC cI (Q 2) (X 2), wS (Q 3) (Q 4 0) (Q 5 0) (Q 6 0) (Q 7 0) w1.2.2.2.1, wT cB (Q 4) w1.2.2.2.2.1, wC cI (Q 5) w1.2.2.2.2.2.1, wA (Q 6) w1.2.2.2.2.2.2.1, wP (Q 7) w1.2.2.2.2.2.2.2.1, wH cO (Q 8) (Q 9 0) (Q 10 0) (Q 11 0) (Q 12 0) (Q 13 0) (Q 14 0) (Q 15 0) (Q 16 0) w1.2.2.2.2.2.2.2.2.1, wC cI (Q 9) (X 9), wC cI (Q 10) (X 10), wC cI (Q 11) (X 11), wC cI (Q 12) (X 12), wC cI (Q 13) (X 13), wC cI (Q 14) (X 14), wC cI (Q 15) (X 15), wC cI (Q 16) (X 16), wXS cO (Q 17) (Q 18 0) (Q 19 0), wC cI (Q 18) (X 18), wC cI (Q 19) (X 19), wXF cZ (Q 20) w1.2.2.2.2.2.2.2.2.2, wA (Q 21) (X 21), wP (Q 22) (X 22), wO cB (Q 23) (X 23)] rfl rfl rfl (va_recv hK hP (ci := 8) (q0 := 106) rfl rfl) rfl hl.1 rfl (Nat.le_of_ble_eq_true rfl) dL_law_418 ⟨by show _ ≤ 601024; omega, by show _ ≤ 7293034; omega⟩ (fun H locs hP hD hS => ?_)
  refine lv_istore (lv' := [(6, .int w2.1), (5, .int w1.1), (0, .ref b), (1, .ref (Q 0 0)), (2, .ref (q 0)), (3, .ref a), (4, .int i)]) hx hb dL_law_421 hl (by decide) rfl (fun ls hl => ?_)
  refine lv_aload_n hx hb dL_law_423 rfl (lv_at hl 4 rfl) ?_
  obtain ⟨w3, hcw3, hf⟩ := bd_ob hf
  refine rdV (As := []) (rest := []) ⟨hx, hb, hml, hown, hts⟩ (mX9_thrown l D cI cB cZ cO q fu w2.2 hcw3) (cwV 0 hts gL_law_X9_thrown rfl rfl rfl (by decide +kernel) ⟨Nat.le_of_ble_eq_true rfl, Nat.le_of_ble_eq_true rfl⟩) (hK.sub [0, 1, 2, 3] rfl) (hP.subb [25] rfl) (va_recv hK hP (ci := 8) (q0 := 106) rfl rfl) rfl hl.1 rfl (Nat.le_of_ble_eq_true rfl) dL_law_424 ⟨by show _ ≤ 601024; omega, by show _ ≤ 7293034; omega⟩ ?_
  refine lv_iload hx hb dL_law_427 (lv_at hl 1 rfl) ?_
  refine lv_icmp_eq (tgt := 434) hx hb dL_law_429 (by decide) (fun c6 => ?_) (fun c6 => ?_)
  · have hf := ip c6 hf
    refine lv_iload hx hb dL_law_434 (lv_at hl 1 rfl) ?_
    refine lv_if_ne (tgt := 451) hx hb dL_law_436 (by decide) (fun c5 => ?_) (fun c5 => ?_)
    · have hf := iq c5 hf
      refine lv_goto (tgt := 2902) hx hb dL_law_451 (by decide) ?_
      cases hf
      refine W.widen (k := cells + 8) (n := slots + 48) (by omega) (by omega) ?_
      exact kk _ _ _ hP hD hS (lv_sub hl [2, 3, 4, 5, 6] rfl)
    · have hf := ip c5 hf
      refine lv_aload_n hx hb dL_law_439 rfl (lv_at hl 5 rfl) ?_
      refine lv_iconst (v := 0) hx hb dL_law_440 (by decide) ?_
      refine va_lald hx hb hK hP 0 4 rfl rfl (inB_in (by decide)) dL_law_441 ?_
      refine lv_iload hx hb dL_law_442 (lv_at hl 0 rfl) ?_
      refine lv_i2l hx hb dL_law_444 rfl ?_
      refine W.lcmp hx hb dL_law_445 ?_
      refine lv_if_eq (tgt := 451) hx hb dL_law_446 (by decide) (fun c4 => ?_) (fun c4 => ?_)
      · have hf := ip c4 hf
        refine lv_goto (tgt := 2902) hx hb dL_law_451 (by decide) ?_
        cases hf
        refine W.widen (k := cells + 8) (n := slots + 48) (by omega) (by omega) ?_
        exact kk _ _ _ hP hD hS (lv_sub hl [2, 3, 4, 5, 6] rfl)
      · have hf := iq c4 hf
        exact no_ob hf
  · have hf := iq c6 hf
    exact no_ob hf
set_option maxRecDepth 100000 in
set_option maxHeartbeats 4000000 in
theorem wL_3 {p : Program} {l : Launch} {e : Env} {s : State} {m : MethodId} {args : Array Value} {below : List Frame} {meth : Method} {c : Code} {H : Heap} {locs : List Loc} {cells slots : Nat} {Qf : State → Prop} {ls : Array Slot} {D : va_G} {cI cB cZ cO cJ : ClassId} {aK aV mK : Nat → Nat} {Q : Nat → Nat → Nat} {q : Nat → Nat} {a b L fu : Nat} {xs : Nat → Int32} {A : Nat → Prop} {X X1 : Nat → OS} {z z1 : OS} {o o1 : Nat → Int64} {i a1 a2 a3 a4 a5 : Int32} (hst : l.stackTraces = false) (hx : p.tables.exec = Jvm.exec) (hb : c.code = cL_law) (hml : c.maxLocals = 9) (hown : s.vm.findClass RL = some m.cls) (hts : ∀ w ∈ lw_tbl, w.before args s = true) (hK : va_K D vwCl (gL cI cB cZ cO cJ) s) (hA : ∀ q : Nat, s.heap.size ≤ q → A q) (hX : va_X b L xs s s.heap) (hbl : b < s.heap.size) (hbA : ¬ A b) (hE : EW aK aV mK A s s.heap) (hS : va_S A s.heap H locs) (hl : lv_has ls 9 [(0, .ref b), (1, .ref (Q 0 0)), (2, .ref (q 0)), (3, .ref a), (4, .int i)]) (n1 : vp_in (i + 1) L) (n2 : vp_in (i + 2) L) (n3 : vp_in (i + 3) L) (n4 : vp_in (i + 4) L) (n5 : vp_in (i + 5) L) (e1 : xs (i + 1).toNatClampNeg = a1) (e2 : xs (i + 2).toNatClampNeg = a2) (e3 : xs (i + 3).toNatClampNeg = a3) (e4 : xs (i + 4).toNatClampNeg = a4) (e5 : xs (i + 5).toNatClampNeg = a5) (hcl : cells + 8 ≤ 601024) (hsl : slots + 48 ≤ 7293034) (kk : ∀ (H1 : Heap) (locs1 : List Loc) (ls1 : Array Slot), va_P D vwCl (fl (lawW cI cB cZ cO cJ Q q a X1 z1 o1)) H1 → va_D A (fl (lawW cI cB cZ cO cJ Q q a X1 z1 o1)) → va_S A s.heap H1 locs1 → lv_has ls1 9 [(0, .ref b), (1, .ref (Q 0 0)), (2, .ref (q 0)), (3, .ref a), (4, .int i)] → W p l e room_1 s m args below meth c H1 locs1 (cells + 8) (slots + 48) Qf (F0 m 2902 ls1 [])) (hP : va_P D vwCl (fl (lawW cI cB cZ cO cJ Q q a X z o)) H) (hD : va_D A (fl (lawW cI cB cZ cO cJ Q q a X z o))) (hf : cL_3 fu a1 a2 a3 a4 a5 X z o = some (X1, z1, o1)) : W p l e room_1 s m args below meth c H locs cells slots Qf (F0 m 454 ls []) := by
  unfold cL_3 at hf
  refine lv_aload_n hx hb dL_law_454 rfl (lv_at hl 1 rfl) ?_
  refine lv_aload_n hx hb dL_law_455 rfl (lv_at hl 3 rfl) ?_
  obtain ⟨w1, hcw1, hf⟩ := bd_ob hf
  refine wrSWb (As := [.ref (Q 0 0), .ref a]) (rest := []) [wL cJ a w1.2.1, wXO Q, wC cI (Q 1) w1.2.2.1, wC cI (Q 2) (X 2), wS (Q 3) (Q 4 0) (Q 5 0) (Q 6 0) (Q 7 0) w1.2.2.2.1, wT cB (Q 4) w1.2.2.2.2.1, wC cI (Q 5) w1.2.2.2.2.2.1, wA (Q 6) w1.2.2.2.2.2.2.1, wP (Q 7) w1.2.2.2.2.2.2.2.1, wH cO (Q 8) (Q 9 0) (Q 10 0) (Q 11 0) (Q 12 0) (Q 13 0) (Q 14 0) (Q 15 0) (Q 16 0) w1.2.2.2.2.2.2.2.2.1, wC cI (Q 9) w1.2.2.2.2.2.2.2.2.2.1, wC cI (Q 10) w1.2.2.2.2.2.2.2.2.2.2.1, wC cI (Q 11) w1.2.2.2.2.2.2.2.2.2.2.2.1, wC cI (Q 12) w1.2.2.2.2.2.2.2.2.2.2.2.2.1, wC cI (Q 13) w1.2.2.2.2.2.2.2.2.2.2.2.2.2.1, wC cI (Q 14) w1.2.2.2.2.2.2.2.2.2.2.2.2.2.2.1, wC cI (Q 15) w1.2.2.2.2.2.2.2.2.2.2.2.2.2.2.2.1, wC cI (Q 16) w1.2.2.2.2.2.2.2.2.2.2.2.2.2.2.2.2, wXS cO (Q 17) (Q 18 0) (Q 19 0), wC cI (Q 18) (X 18), wC cI (Q 19) (X 19), wXF cZ (Q 20) (X 20), wA (Q 21) (X 21), wP (Q 22) (X 22), wO cB (Q 23) (X 23), wM cI cB cZ q z] ⟨hx, hb, hml, hown, hts⟩ (mL_play l D cI cB cZ cO cJ aK aV mK hst Q a _ fu o (X 0) (X 1) (X 2) (X 3) (X 4) (X 5) (X 6) (X 7) (X 8) (X 9) (X 10) (X 11) (X 12) (X 13) (X 14) (X 15) (X 16) (X 17) (X 18) (X 19) (X 20) (X 21) (X 22) (X 23) hcw1) (vx_cwSW 2 hts gL_law_L_play rfl rfl rfl (by decide +kernel) ⟨Nat.le_of_ble_eq_true rfl, Nat.le_of_ble_eq_true rfl⟩) (EW_ok aK aV mK) ((EW_ok aK aV mK).2.2.1 _ _ _ _ hS.2.1 hE) hK hP hD hS hA [0, 1, 2, 3, 4, 5, 6, 7, 8, 9, 10, 11, 12, 13, 14, 15, 16, 17, 18, 19, 20, 21, 22, 23, 24] [25] 26 rfl (by decide +kernel) rfl rfl [wM cI cB cZ q z] rfl rfl rfl rfl hl.1 rfl (Nat.le_of_ble_eq_true rfl) dL_law_456 ⟨by show _ ≤ 601024; omega, by show _ ≤ 7293034; omega⟩ (fun H locs hP hD hS => ?_)
  refine lv_istore (lv' := [(5, .int w1.1), (0, .ref b), (1, .ref (Q 0 0)), (2, .ref (q 0)), (3, .ref a), (4, .int i)]) hx hb dL_law_459 hl (by decide) rfl (fun ls hl => ?_)
  refine lv_aload_n hx hb dL_law_461 rfl (lv_at hl 3 rfl) ?_
  obtain ⟨w2, hcw2, hf⟩ := bd_ob hf
  refine wrVXb (As := []) (rest := []) [wL cJ a w1.2.1, wXO Q, wC cI (Q 1) w1.2.2.1, wC cI (Q 2) (X 2), wS (Q 3) (Q 4 0) (Q 5 0) (Q 6 0) (Q 7 0) w1.2.2.2.1, wT cB (Q 4) w1.2.2.2.2.1, wC cI (Q 5) w1.2.2.2.2.2.1, wA (Q 6) w1.2.2.2.2.2.2.1, wP (Q 7) w1.2.2.2.2.2.2.2.1, wH cO (Q 8) (Q 9 0) (Q 10 0) (Q 11 0) (Q 12 0) (Q 13 0) (Q 14 0) (Q 15 0) (Q 16 0) w1.2.2.2.2.2.2.2.2.1, wC cI (Q 9) w1.2.2.2.2.2.2.2.2.2.1, wC cI (Q 10) w1.2.2.2.2.2.2.2.2.2.2.1, wC cI (Q 11) w1.2.2.2.2.2.2.2.2.2.2.2.1, wC cI (Q 12) w1.2.2.2.2.2.2.2.2.2.2.2.2.1, wC cI (Q 13) w1.2.2.2.2.2.2.2.2.2.2.2.2.2.1, wC cI (Q 14) w1.2.2.2.2.2.2.2.2.2.2.2.2.2.2.1, wC cI (Q 15) w1.2.2.2.2.2.2.2.2.2.2.2.2.2.2.2.1, wC cI (Q 16) w1.2.2.2.2.2.2.2.2.2.2.2.2.2.2.2.2, wXS cO (Q 17) (Q 18 0) (Q 19 0), wC cI (Q 18) (X 18), wC cI (Q 19) (X 19), wXF cZ (Q 20) (X 20), wA (Q 21) (X 21), wP (Q 22) (X 22), wO cB (Q 23) (X 23), wM cI cB cZ q w2.2] ⟨hx, hb, hml, hown, hts⟩ (mX9_play l D cI cB cZ cO aK aV q _ fu z hcw2) (cwV 0 hts gL_law_X9_play rfl rfl rfl (by decide +kernel) ⟨Nat.le_of_ble_eq_true rfl, Nat.le_of_ble_eq_true rfl⟩) (EL_ok aK aV) ((EL_ok aK aV).2.2.1 _ _ _ _ hS.2.1 hE.1.1) (hK.sub [0, 1, 2, 3] rfl) hP hD hS hA [25] [0, 1, 2, 3, 4, 5, 6, 7, 8, 9, 10, 11, 12, 13, 14, 15, 16, 17, 18, 19, 20, 21, 22, 23, 24] 26 rfl (by decide +kernel) rfl rfl [wL cJ a w1.2.1, wXO Q, wC cI (Q 1) w1.2.2.1, wC cI (Q 2) (X 2), wS (Q 3) (Q 4 0) (Q 5 0) (Q 6 0) (Q 7 0) w1.2.2.2.1, wT cB (Q 4) w1.2.2.2.2.1, wC cI (Q 5) w1.2.2.2.2.2.1, wA (Q 6) w1.2.2.2.2.2.2.1, wP (Q 7) w1.2.2.2.2.2.2.2.1, wH cO (Q 8) (Q 9 0) (Q 10 0) (Q 11 0) (Q 12 0) (Q 13 0) (Q 14 0) (Q 15 0) (Q 16 0) w1.2.2.2.2.2.2.2.2.1, wC cI (Q 9) w1.2.2.2.2.2.2.2.2.2.1, wC cI (Q 10) w1.2.2.2.2.2.2.2.2.2.2.1, wC cI (Q 11) w1.2.2.2.2.2.2.2.2.2.2.2.1, wC cI (Q 12) w1.2.2.2.2.2.2.2.2.2.2.2.2.1, wC cI (Q 13) w1.2.2.2.2.2.2.2.2.2.2.2.2.2.1, wC cI (Q 14) w1.2.2.2.2.2.2.2.2.2.2.2.2.2.2.1, wC cI (Q 15) w1.2.2.2.2.2.2.2.2.2.2.2.2.2.2.2.1, wC cI (Q 16) w1.2.2.2.2.2.2.2.2.2.2.2.2.2.2.2.2, wXS cO (Q 17) (Q 18 0) (Q 19 0), wC cI (Q 18) (X 18), wC cI (Q 19) (X 19), wXF cZ (Q 20) (X 20), wA (Q 21) (X 21), wP (Q 22) (X 22), wO cB (Q 23) (X 23)] rfl rfl rfl (va_recv hK hP (ci := 8) (q0 := 106) rfl rfl) rfl hl.1 rfl (Nat.le_of_ble_eq_true rfl) dL_law_462 ⟨by show _ ≤ 601024; omega, by show _ ≤ 7293034; omega⟩ (fun H locs hP hD hS => ?_)
  refine lv_istore (lv' := [(6, .int w2.1), (5, .int w1.1), (0, .ref b), (1, .ref (Q 0 0)), (2, .ref (q 0)), (3, .ref a), (4, .int i)]) hx hb dL_law_465 hl (by decide) rfl (fun ls hl => ?_)
  refine lv_aload_n hx hb dL_law_467 rfl (lv_at hl 4 rfl) ?_
  obtain ⟨w3, hcw3, hf⟩ := bd_ob hf
  refine rdV (As := []) (rest := []) ⟨hx, hb, hml, hown, hts⟩ (mX9_thrown l D cI cB cZ cO q fu w2.2 hcw3) (cwV 0 hts gL_law_X9_thrown rfl rfl rfl (by decide +kernel) ⟨Nat.le_of_ble_eq_true rfl, Nat.le_of_ble_eq_true rfl⟩) (hK.sub [0, 1, 2, 3] rfl) (hP.subb [25] rfl) (va_recv hK hP (ci := 8) (q0 := 106) rfl rfl) rfl hl.1 rfl (Nat.le_of_ble_eq_true rfl) dL_law_468 ⟨by show _ ≤ 601024; omega, by show _ ≤ 7293034; omega⟩ ?_
  refine lv_iload hx hb dL_law_471 (lv_at hl 1 rfl) ?_
  refine lv_icmp_eq (tgt := 478) hx hb dL_law_473 (by decide) (fun c6 => ?_) (fun c6 => ?_)
  · have hf := ip c6 hf
    refine lv_iload hx hb dL_law_478 (lv_at hl 1 rfl) ?_
    refine lv_if_ne (tgt := 495) hx hb dL_law_480 (by decide) (fun c5 => ?_) (fun c5 => ?_)
    · have hf := iq c5 hf
      refine lv_goto (tgt := 2902) hx hb dL_law_495 (by decide) ?_
      cases hf
      refine W.widen (k := cells + 8) (n := slots + 48) (by omega) (by omega) ?_
      exact kk _ _ _ hP hD hS (lv_sub hl [2, 3, 4, 5, 6] rfl)
    · have hf := ip c5 hf
      refine lv_aload_n hx hb dL_law_483 rfl (lv_at hl 5 rfl) ?_
      refine lv_iconst (v := 0) hx hb dL_law_484 (by decide) ?_
      refine va_lald hx hb hK hP 0 4 rfl rfl (inB_in (by decide)) dL_law_485 ?_
      refine lv_iload hx hb dL_law_486 (lv_at hl 0 rfl) ?_
      refine lv_i2l hx hb dL_law_488 rfl ?_
      refine W.lcmp hx hb dL_law_489 ?_
      refine lv_if_eq (tgt := 495) hx hb dL_law_490 (by decide) (fun c4 => ?_) (fun c4 => ?_)
      · have hf := ip c4 hf
        refine lv_goto (tgt := 2902) hx hb dL_law_495 (by decide) ?_
        cases hf
        refine W.widen (k := cells + 8) (n := slots + 48) (by omega) (by omega) ?_
        exact kk _ _ _ hP hD hS (lv_sub hl [2, 3, 4, 5, 6] rfl)
      · have hf := iq c4 hf
        exact no_ob hf
  · have hf := iq c6 hf
    exact no_ob hf
set_option maxRecDepth 100000 in
set_option maxHeartbeats 4000000 in
theorem wL_4 {p : Program} {l : Launch} {e : Env} {s : State} {m : MethodId} {args : Array Value} {below : List Frame} {meth : Method} {c : Code} {H : Heap} {locs : List Loc} {cells slots : Nat} {Qf : State → Prop} {ls : Array Slot} {D : va_G} {cI cB cZ cO cJ : ClassId} {aK aV mK : Nat → Nat} {Q : Nat → Nat → Nat} {q : Nat → Nat} {a b L fu : Nat} {xs : Nat → Int32} {A : Nat → Prop} {X X1 : Nat → OS} {z z1 : OS} {o o1 : Nat → Int64} {i a1 a2 a3 a4 a5 : Int32} (hst : l.stackTraces = false) (hx : p.tables.exec = Jvm.exec) (hb : c.code = cL_law) (hml : c.maxLocals = 9) (hown : s.vm.findClass RL = some m.cls) (hts : ∀ w ∈ lw_tbl, w.before args s = true) (hK : va_K D vwCl (gL cI cB cZ cO cJ) s) (hA : ∀ q : Nat, s.heap.size ≤ q → A q) (hX : va_X b L xs s s.heap) (hbl : b < s.heap.size) (hbA : ¬ A b) (hE : EW aK aV mK A s s.heap) (hS : va_S A s.heap H locs) (hl : lv_has ls 9 [(0, .ref b), (1, .ref (Q 0 0)), (2, .ref (q 0)), (3, .ref a), (4, .int i)]) (n1 : vp_in (i + 1) L) (n2 : vp_in (i + 2) L) (n3 : vp_in (i + 3) L) (n4 : vp_in (i + 4) L) (n5 : vp_in (i + 5) L) (e1 : xs (i + 1).toNatClampNeg = a1) (e2 : xs (i + 2).toNatClampNeg = a2) (e3 : xs (i + 3).toNatClampNeg = a3) (e4 : xs (i + 4).toNatClampNeg = a4) (e5 : xs (i + 5).toNatClampNeg = a5) (hcl : cells + 8 ≤ 601024) (hsl : slots + 48 ≤ 7293034) (kk : ∀ (H1 : Heap) (locs1 : List Loc) (ls1 : Array Slot), va_P D vwCl (fl (lawW cI cB cZ cO cJ Q q a X1 z1 o1)) H1 → va_D A (fl (lawW cI cB cZ cO cJ Q q a X1 z1 o1)) → va_S A s.heap H1 locs1 → lv_has ls1 9 [(0, .ref b), (1, .ref (Q 0 0)), (2, .ref (q 0)), (3, .ref a), (4, .int i)] → W p l e room_1 s m args below meth c H1 locs1 (cells + 8) (slots + 48) Qf (F0 m 2902 ls1 [])) (hP : va_P D vwCl (fl (lawW cI cB cZ cO cJ Q q a X z o)) H) (hD : va_D A (fl (lawW cI cB cZ cO cJ Q q a X z o))) (hf : cL_4 fu a1 a2 a3 a4 a5 X z o = some (X1, z1, o1)) : W p l e room_1 s m args below meth c H locs cells slots Qf (F0 m 498 ls []) := by
  unfold cL_4 at hf
  refine lv_aload_n hx hb dL_law_498 rfl (lv_at hl 1 rfl) ?_
  obtain ⟨w1, hcw1, hf⟩ := bd_ob hf
  refine rdV (As := []) (rest := []) ⟨hx, hb, hml, hown, hts⟩ (mX8_parseError l D cI cB cZ cO Q fu (X 0) (X 1) (X 2) (X 3) (X 4) (X 5) (X 6) (X 7) (X 8) (X 9) (X 10) (X 11) (X 12) (X 13) (X 14) (X 15) (X 16) (X 17) (X 18) (X 19) (X 20) (X 21) (X 22) (X 23) hcw1) (cwV 0 hts gL_law_X8_parseError rfl rfl rfl (by decide +kernel) ⟨Nat.le_of_ble_eq_true rfl, Nat.le_of_ble_eq_true rfl⟩) (hK.sub [0, 1, 2, 3] rfl) (hP.subb [1, 2, 3, 4, 5, 6, 7, 8, 9, 10, 11, 12, 13, 14, 15, 16, 17, 18, 19, 20, 21, 22, 23, 24] rfl) (va_recv hK hP (ci := 7) (q0 := 1) rfl rfl) rfl hl.1 rfl (Nat.le_of_ble_eq_true rfl) dL_law_499 ⟨by show _ ≤ 601024; omega, by show _ ≤ 7293034; omega⟩ ?_
  refine lv_aload_n hx hb dL_law_502 rfl (lv_at hl 2 rfl) ?_
  obtain ⟨w2, hcw2, hf⟩ := bd_ob hf
  refine wrVb (As := []) (rest := [.int w1]) [wL cJ a o, wXO Q, wC cI (Q 1) (X 1), wC cI (Q 2) (X 2), wS (Q 3) (Q 4 0) (Q 5 0) (Q 6 0) (Q 7 0) (X 3), wT cB (Q 4) (X 4), wC cI (Q 5) (X 5), wA (Q 6) (X 6), wP (Q 7) (X 7), wH cO (Q 8) (Q 9 0) (Q 10 0) (Q 11 0) (Q 12 0) (Q 13 0) (Q 14 0) (Q 15 0) (Q 16 0) (X 8), wC cI (Q 9) (X 9), wC cI (Q 10) (X 10), wC cI (Q 11) (X 11), wC cI (Q 12) (X 12), wC cI (Q 13) (X 13), wC cI (Q 14) (X 14), wC cI (Q 15) (X 15), wC cI (Q 16) (X 16), wXS cO (Q 17) (Q 18 0) (Q 19 0), wC cI (Q 18) (X 18), wC cI (Q 19) (X 19), wXF cZ (Q 20) (X 20), wA (Q 21) (X 21), wP (Q 22) (X 22), wO cB (Q 23) (X 23), wM cI cB cZ q w2.2] ⟨hx, hb, hml, hown, hts⟩ (mX9_parseError l D cI cB cZ cO q _ fu z hcw2) (cwV 0 hts gL_law_X9_parseError rfl rfl rfl (by decide +kernel) ⟨Nat.le_of_ble_eq_true rfl, Nat.le_of_ble_eq_true rfl⟩) (hK.sub [0, 1, 2, 3] rfl) hP hD hS hA [25] [0, 1, 2, 3, 4, 5, 6, 7, 8, 9, 10, 11, 12, 13, 14, 15, 16, 17, 18, 19, 20, 21, 22, 23, 24] 26 rfl (by decide +kernel) rfl rfl [wL cJ a o, wXO Q, wC cI (Q 1) (X 1), wC cI (Q 2) (X 2), wS (Q 3) (Q 4 0) (Q 5 0) (Q 6 0) (Q 7 0) (X 3), wT cB (Q 4) (X 4), wC cI (Q 5) (X 5), wA (Q 6) (X 6), wP (Q 7) (X 7), wH cO (Q 8) (Q 9 0) (Q 10 0) (Q 11 0) (Q 12 0) (Q 13 0) (Q 14 0) (Q 15 0) (Q 16 0) (X 8), wC cI (Q 9) (X 9), wC cI (Q 10) (X 10), wC cI (Q 11) (X 11), wC cI (Q 12) (X 12), wC cI (Q 13) (X 13), wC cI (Q 14) (X 14), wC cI (Q 15) (X 15), wC cI (Q 16) (X 16), wXS cO (Q 17) (Q 18 0) (Q 19 0), wC cI (Q 18) (X 18), wC cI (Q 19) (X 19), wXF cZ (Q 20) (X 20), wA (Q 21) (X 21), wP (Q 22) (X 22), wO cB (Q 23) (X 23)] rfl rfl rfl (va_recv hK hP (ci := 8) (q0 := 106) rfl rfl) rfl hl.1 rfl (Nat.le_of_ble_eq_true rfl) dL_law_503 ⟨by show _ ≤ 601024; omega, by show _ ≤ 7293034; omega⟩ (fun H locs hP hD hS => ?_)
  refine lv_icmp_eq (tgt := 2902) hx hb dL_law_506 (by decide) (fun c3 => ?_) (fun c3 => ?_)
  · have hf := ip c3 hf
    cases hf
    refine W.widen (k := cells + 8) (n := slots + 48) (by omega) (by omega) ?_
    exact kk _ _ _ hP hD hS (lv_sub hl [0, 1, 2, 3, 4] rfl)
  · have hf := iq c3 hf
    exact no_ob hf
set_option maxRecDepth 100000 in
set_option maxHeartbeats 4000000 in
theorem wL_5 {p : Program} {l : Launch} {e : Env} {s : State} {m : MethodId} {args : Array Value} {below : List Frame} {meth : Method} {c : Code} {H : Heap} {locs : List Loc} {cells slots : Nat} {Qf : State → Prop} {ls : Array Slot} {D : va_G} {cI cB cZ cO cJ : ClassId} {aK aV mK : Nat → Nat} {Q : Nat → Nat → Nat} {q : Nat → Nat} {a b L fu : Nat} {xs : Nat → Int32} {A : Nat → Prop} {X X1 : Nat → OS} {z z1 : OS} {o o1 : Nat → Int64} {i a1 a2 a3 a4 a5 : Int32} (hst : l.stackTraces = false) (hx : p.tables.exec = Jvm.exec) (hb : c.code = cL_law) (hml : c.maxLocals = 9) (hown : s.vm.findClass RL = some m.cls) (hts : ∀ w ∈ lw_tbl, w.before args s = true) (hK : va_K D vwCl (gL cI cB cZ cO cJ) s) (hA : ∀ q : Nat, s.heap.size ≤ q → A q) (hX : va_X b L xs s s.heap) (hbl : b < s.heap.size) (hbA : ¬ A b) (hE : EW aK aV mK A s s.heap) (hS : va_S A s.heap H locs) (hl : lv_has ls 9 [(0, .ref b), (1, .ref (Q 0 0)), (2, .ref (q 0)), (3, .ref a), (4, .int i)]) (n1 : vp_in (i + 1) L) (n2 : vp_in (i + 2) L) (n3 : vp_in (i + 3) L) (n4 : vp_in (i + 4) L) (n5 : vp_in (i + 5) L) (e1 : xs (i + 1).toNatClampNeg = a1) (e2 : xs (i + 2).toNatClampNeg = a2) (e3 : xs (i + 3).toNatClampNeg = a3) (e4 : xs (i + 4).toNatClampNeg = a4) (e5 : xs (i + 5).toNatClampNeg = a5) (hcl : cells + 8 ≤ 601024) (hsl : slots + 48 ≤ 7293034) (kk : ∀ (H1 : Heap) (locs1 : List Loc) (ls1 : Array Slot), va_P D vwCl (fl (lawW cI cB cZ cO cJ Q q a X1 z1 o1)) H1 → va_D A (fl (lawW cI cB cZ cO cJ Q q a X1 z1 o1)) → va_S A s.heap H1 locs1 → lv_has ls1 9 [(0, .ref b), (1, .ref (Q 0 0)), (2, .ref (q 0)), (3, .ref a), (4, .int i)] → W p l e room_1 s m args below meth c H1 locs1 (cells + 8) (slots + 48) Qf (F0 m 2902 ls1 [])) (hP : va_P D vwCl (fl (lawW cI cB cZ cO cJ Q q a X z o)) H) (hD : va_D A (fl (lawW cI cB cZ cO cJ Q q a X z o))) (hf : cL_5 fu a1 a2 a3 a4 a5 X z o = some (X1, z1, o1)) : W p l e room_1 s m args below meth c H locs cells slots Qf (F0 m 511 ls []) := by
  unfold cL_5 at hf
  refine lv_aload_n hx hb dL_law_511 rfl (lv_at hl 1 rfl) ?_
  obtain ⟨w1, hcw1, hf⟩ := bd_ob hf
  refine rdV (As := []) (rest := []) ⟨hx, hb, hml, hown, hts⟩ (mX8_parseErrorPosition l D cI cB cZ cO Q fu (X 0) (X 1) (X 2) (X 3) (X 4) (X 5) (X 6) (X 7) (X 8) (X 9) (X 10) (X 11) (X 12) (X 13) (X 14) (X 15) (X 16) (X 17) (X 18) (X 19) (X 20) (X 21) (X 22) (X 23) hcw1) (cwV 0 hts gL_law_X8_parseErrorPosition rfl rfl rfl (by decide +kernel) ⟨Nat.le_of_ble_eq_true rfl, Nat.le_of_ble_eq_true rfl⟩) (hK.sub [0, 1, 2, 3] rfl) (hP.subb [1, 2, 3, 4, 5, 6, 7, 8, 9, 10, 11, 12, 13, 14, 15, 16, 17, 18, 19, 20, 21, 22, 23, 24] rfl) (va_recv hK hP (ci := 7) (q0 := 1) rfl rfl) rfl hl.1 rfl (Nat.le_of_ble_eq_true rfl) dL_law_512 ⟨by show _ ≤ 601024; omega, by show _ ≤ 7293034; omega⟩ ?_
  refine lv_aload_n hx hb dL_law_515 rfl (lv_at hl 2 rfl) ?_
  obtain ⟨w2, hcw2, hf⟩ := bd_ob hf
  refine wrVb (As := []) (rest := [.int w1]) [wL cJ a o, wXO Q, wC cI (Q 1) (X 1), wC cI (Q 2) (X 2), wS (Q 3) (Q 4 0) (Q 5 0) (Q 6 0) (Q 7 0) (X 3), wT cB (Q 4) (X 4), wC cI (Q 5) (X 5), wA (Q 6) (X 6), wP (Q 7) (X 7), wH cO (Q 8) (Q 9 0) (Q 10 0) (Q 11 0) (Q 12 0) (Q 13 0) (Q 14 0) (Q 15 0) (Q 16 0) (X 8), wC cI (Q 9) (X 9), wC cI (Q 10) (X 10), wC cI (Q 11) (X 11), wC cI (Q 12) (X 12), wC cI (Q 13) (X 13), wC cI (Q 14) (X 14), wC cI (Q 15) (X 15), wC cI (Q 16) (X 16), wXS cO (Q 17) (Q 18 0) (Q 19 0), wC cI (Q 18) (X 18), wC cI (Q 19) (X 19), wXF cZ (Q 20) (X 20), wA (Q 21) (X 21), wP (Q 22) (X 22), wO cB (Q 23) (X 23), wM cI cB cZ q w2.2] ⟨hx, hb, hml, hown, hts⟩ (mX9_parseErrorPosition l D cI cB cZ cO q _ fu z hcw2) (cwV 0 hts gL_law_X9_parseErrorPosition rfl rfl rfl (by decide +kernel) ⟨Nat.le_of_ble_eq_true rfl, Nat.le_of_ble_eq_true rfl⟩) (hK.sub [0, 1, 2, 3] rfl) hP hD hS hA [25] [0, 1, 2, 3, 4, 5, 6, 7, 8, 9, 10, 11, 12, 13, 14, 15, 16, 17, 18, 19, 20, 21, 22, 23, 24] 26 rfl (by decide +kernel) rfl rfl [wL cJ a o, wXO Q, wC cI (Q 1) (X 1), wC cI (Q 2) (X 2), wS (Q 3) (Q 4 0) (Q 5 0) (Q 6 0) (Q 7 0) (X 3), wT cB (Q 4) (X 4), wC cI (Q 5) (X 5), wA (Q 6) (X 6), wP (Q 7) (X 7), wH cO (Q 8) (Q 9 0) (Q 10 0) (Q 11 0) (Q 12 0) (Q 13 0) (Q 14 0) (Q 15 0) (Q 16 0) (X 8), wC cI (Q 9) (X 9), wC cI (Q 10) (X 10), wC cI (Q 11) (X 11), wC cI (Q 12) (X 12), wC cI (Q 13) (X 13), wC cI (Q 14) (X 14), wC cI (Q 15) (X 15), wC cI (Q 16) (X 16), wXS cO (Q 17) (Q 18 0) (Q 19 0), wC cI (Q 18) (X 18), wC cI (Q 19) (X 19), wXF cZ (Q 20) (X 20), wA (Q 21) (X 21), wP (Q 22) (X 22), wO cB (Q 23) (X 23)] rfl rfl rfl (va_recv hK hP (ci := 8) (q0 := 106) rfl rfl) rfl hl.1 rfl (Nat.le_of_ble_eq_true rfl) dL_law_516 ⟨by show _ ≤ 601024; omega, by show _ ≤ 7293034; omega⟩ (fun H locs hP hD hS => ?_)
  refine lv_icmp_eq (tgt := 2902) hx hb dL_law_519 (by decide) (fun c3 => ?_) (fun c3 => ?_)
  · have hf := ip c3 hf
    cases hf
    refine W.widen (k := cells + 8) (n := slots + 48) (by omega) (by omega) ?_
    exact kk _ _ _ hP hD hS (lv_sub hl [0, 1, 2, 3, 4] rfl)
  · have hf := iq c3 hf
    exact no_ob hf
set_option maxRecDepth 100000 in
set_option maxHeartbeats 4000000 in
theorem wL_6 {p : Program} {l : Launch} {e : Env} {s : State} {m : MethodId} {args : Array Value} {below : List Frame} {meth : Method} {c : Code} {H : Heap} {locs : List Loc} {cells slots : Nat} {Qf : State → Prop} {ls : Array Slot} {D : va_G} {cI cB cZ cO cJ : ClassId} {aK aV mK : Nat → Nat} {Q : Nat → Nat → Nat} {q : Nat → Nat} {a b L fu : Nat} {xs : Nat → Int32} {A : Nat → Prop} {X X1 : Nat → OS} {z z1 : OS} {o o1 : Nat → Int64} {i a1 a2 a3 a4 a5 : Int32} (hst : l.stackTraces = false) (hx : p.tables.exec = Jvm.exec) (hb : c.code = cL_law) (hml : c.maxLocals = 9) (hown : s.vm.findClass RL = some m.cls) (hts : ∀ w ∈ lw_tbl, w.before args s = true) (hK : va_K D vwCl (gL cI cB cZ cO cJ) s) (hA : ∀ q : Nat, s.heap.size ≤ q → A q) (hX : va_X b L xs s s.heap) (hbl : b < s.heap.size) (hbA : ¬ A b) (hE : EW aK aV mK A s s.heap) (hS : va_S A s.heap H locs) (hl : lv_has ls 9 [(0, .ref b), (1, .ref (Q 0 0)), (2, .ref (q 0)), (3, .ref a), (4, .int i)]) (n1 : vp_in (i + 1) L) (n2 : vp_in (i + 2) L) (n3 : vp_in (i + 3) L) (n4 : vp_in (i + 4) L) (n5 : vp_in (i + 5) L) (e1 : xs (i + 1).toNatClampNeg = a1) (e2 : xs (i + 2).toNatClampNeg = a2) (e3 : xs (i + 3).toNatClampNeg = a3) (e4 : xs (i + 4).toNatClampNeg = a4) (e5 : xs (i + 5).toNatClampNeg = a5) (hcl : cells + 8 ≤ 601024) (hsl : slots + 48 ≤ 7293034) (kk : ∀ (H1 : Heap) (locs1 : List Loc) (ls1 : Array Slot), va_P D vwCl (fl (lawW cI cB cZ cO cJ Q q a X1 z1 o1)) H1 → va_D A (fl (lawW cI cB cZ cO cJ Q q a X1 z1 o1)) → va_S A s.heap H1 locs1 → lv_has ls1 9 [(0, .ref b), (1, .ref (Q 0 0)), (2, .ref (q 0)), (3, .ref a), (4, .int i)] → W p l e room_1 s m args below meth c H1 locs1 (cells + 8) (slots + 48) Qf (F0 m 2902 ls1 [])) (hP : va_P D vwCl (fl (lawW cI cB cZ cO cJ Q q a X z o)) H) (hD : va_D A (fl (lawW cI cB cZ cO cJ Q q a X z o))) (hf : cL_6 fu a1 a2 a3 a4 a5 X z o = some (X1, z1, o1)) : W p l e room_1 s m args below meth c H locs cells slots Qf (F0 m 524 ls []) := by
  unfold cL_6 at hf
  refine lv_aload_n hx hb dL_law_524 rfl (lv_at hl 1 rfl) ?_
  obtain ⟨w1, hcw1, hf⟩ := bd_ob hf
  refine rdV (As := []) (rest := []) ⟨hx, hb, hml, hown, hts⟩ (mX8_variableCount l D cI cB cZ cO Q fu (X 0) (X 1) (X 2) (X 3) (X 4) (X 5) (X 6) (X 7) (X 8) (X 9) (X 10) (X 11) (X 12) (X 13) (X 14) (X 15) (X 16) (X 17) (X 18) (X 19) (X 20) (X 21) (X 22) (X 23) hcw1) (cwV 0 hts gL_law_X8_variableCount rfl rfl rfl (by decide +kernel) ⟨Nat.le_of_ble_eq_true rfl, Nat.le_of_ble_eq_true rfl⟩) (hK.sub [0, 1, 2, 3] rfl) (hP.subb [1, 2, 3, 4, 5, 6, 7, 8, 9, 10, 11, 12, 13, 14, 15, 16, 17, 18, 19, 20, 21, 22, 23, 24] rfl) (va_recv hK hP (ci := 7) (q0 := 1) rfl rfl) rfl hl.1 rfl (Nat.le_of_ble_eq_true rfl) dL_law_525 ⟨by show _ ≤ 601024; omega, by show _ ≤ 7293034; omega⟩ ?_
  refine lv_aload_n hx hb dL_law_528 rfl (lv_at hl 2 rfl) ?_
  obtain ⟨w2, hcw2, hf⟩ := bd_ob hf
  refine wrVb (As := []) (rest := [.int w1]) [wL cJ a o, wXO Q, wC cI (Q 1) (X 1), wC cI (Q 2) (X 2), wS (Q 3) (Q 4 0) (Q 5 0) (Q 6 0) (Q 7 0) (X 3), wT cB (Q 4) (X 4), wC cI (Q 5) (X 5), wA (Q 6) (X 6), wP (Q 7) (X 7), wH cO (Q 8) (Q 9 0) (Q 10 0) (Q 11 0) (Q 12 0) (Q 13 0) (Q 14 0) (Q 15 0) (Q 16 0) (X 8), wC cI (Q 9) (X 9), wC cI (Q 10) (X 10), wC cI (Q 11) (X 11), wC cI (Q 12) (X 12), wC cI (Q 13) (X 13), wC cI (Q 14) (X 14), wC cI (Q 15) (X 15), wC cI (Q 16) (X 16), wXS cO (Q 17) (Q 18 0) (Q 19 0), wC cI (Q 18) (X 18), wC cI (Q 19) (X 19), wXF cZ (Q 20) (X 20), wA (Q 21) (X 21), wP (Q 22) (X 22), wO cB (Q 23) (X 23), wM cI cB cZ q w2.2] ⟨hx, hb, hml, hown, hts⟩ (mX9_variableCount l D cI cB cZ cO q _ fu z hcw2) (cwV 0 hts gL_law_X9_variableCount rfl rfl rfl (by decide +kernel) ⟨Nat.le_of_ble_eq_true rfl, Nat.le_of_ble_eq_true rfl⟩) (hK.sub [0, 1, 2, 3] rfl) hP hD hS hA [25] [0, 1, 2, 3, 4, 5, 6, 7, 8, 9, 10, 11, 12, 13, 14, 15, 16, 17, 18, 19, 20, 21, 22, 23, 24] 26 rfl (by decide +kernel) rfl rfl [wL cJ a o, wXO Q, wC cI (Q 1) (X 1), wC cI (Q 2) (X 2), wS (Q 3) (Q 4 0) (Q 5 0) (Q 6 0) (Q 7 0) (X 3), wT cB (Q 4) (X 4), wC cI (Q 5) (X 5), wA (Q 6) (X 6), wP (Q 7) (X 7), wH cO (Q 8) (Q 9 0) (Q 10 0) (Q 11 0) (Q 12 0) (Q 13 0) (Q 14 0) (Q 15 0) (Q 16 0) (X 8), wC cI (Q 9) (X 9), wC cI (Q 10) (X 10), wC cI (Q 11) (X 11), wC cI (Q 12) (X 12), wC cI (Q 13) (X 13), wC cI (Q 14) (X 14), wC cI (Q 15) (X 15), wC cI (Q 16) (X 16), wXS cO (Q 17) (Q 18 0) (Q 19 0), wC cI (Q 18) (X 18), wC cI (Q 19) (X 19), wXF cZ (Q 20) (X 20), wA (Q 21) (X 21), wP (Q 22) (X 22), wO cB (Q 23) (X 23)] rfl rfl rfl (va_recv hK hP (ci := 8) (q0 := 106) rfl rfl) rfl hl.1 rfl (Nat.le_of_ble_eq_true rfl) dL_law_529 ⟨by show _ ≤ 601024; omega, by show _ ≤ 7293034; omega⟩ (fun H locs hP hD hS => ?_)
  refine lv_icmp_eq (tgt := 2902) hx hb dL_law_532 (by decide) (fun c3 => ?_) (fun c3 => ?_)
  · have hf := ip c3 hf
    cases hf
    refine W.widen (k := cells + 8) (n := slots + 48) (by omega) (by omega) ?_
    exact kk _ _ _ hP hD hS (lv_sub hl [0, 1, 2, 3, 4] rfl)
  · have hf := iq c3 hf
    exact no_ob hf
set_option maxRecDepth 100000 in
set_option maxHeartbeats 4000000 in
theorem wL_7 {p : Program} {l : Launch} {e : Env} {s : State} {m : MethodId} {args : Array Value} {below : List Frame} {meth : Method} {c : Code} {H : Heap} {locs : List Loc} {cells slots : Nat} {Qf : State → Prop} {ls : Array Slot} {D : va_G} {cI cB cZ cO cJ : ClassId} {aK aV mK : Nat → Nat} {Q : Nat → Nat → Nat} {q : Nat → Nat} {a b L fu : Nat} {xs : Nat → Int32} {A : Nat → Prop} {X X1 : Nat → OS} {z z1 : OS} {o o1 : Nat → Int64} {i a1 a2 a3 a4 a5 : Int32} (hst : l.stackTraces = false) (hx : p.tables.exec = Jvm.exec) (hb : c.code = cL_law) (hml : c.maxLocals = 9) (hown : s.vm.findClass RL = some m.cls) (hts : ∀ w ∈ lw_tbl, w.before args s = true) (hK : va_K D vwCl (gL cI cB cZ cO cJ) s) (hA : ∀ q : Nat, s.heap.size ≤ q → A q) (hX : va_X b L xs s s.heap) (hbl : b < s.heap.size) (hbA : ¬ A b) (hE : EW aK aV mK A s s.heap) (hS : va_S A s.heap H locs) (hl : lv_has ls 9 [(0, .ref b), (1, .ref (Q 0 0)), (2, .ref (q 0)), (3, .ref a), (4, .int i)]) (n1 : vp_in (i + 1) L) (n2 : vp_in (i + 2) L) (n3 : vp_in (i + 3) L) (n4 : vp_in (i + 4) L) (n5 : vp_in (i + 5) L) (e1 : xs (i + 1).toNatClampNeg = a1) (e2 : xs (i + 2).toNatClampNeg = a2) (e3 : xs (i + 3).toNatClampNeg = a3) (e4 : xs (i + 4).toNatClampNeg = a4) (e5 : xs (i + 5).toNatClampNeg = a5) (hcl : cells + 8 ≤ 601024) (hsl : slots + 48 ≤ 7293034) (kk : ∀ (H1 : Heap) (locs1 : List Loc) (ls1 : Array Slot), va_P D vwCl (fl (lawW cI cB cZ cO cJ Q q a X1 z1 o1)) H1 → va_D A (fl (lawW cI cB cZ cO cJ Q q a X1 z1 o1)) → va_S A s.heap H1 locs1 → lv_has ls1 9 [(0, .ref b), (1, .ref (Q 0 0)), (2, .ref (q 0)), (3, .ref a), (4, .int i)] → W p l e room_1 s m args below meth c H1 locs1 (cells + 8) (slots + 48) Qf (F0 m 2902 ls1 [])) (hP : va_P D vwCl (fl (lawW cI cB cZ cO cJ Q q a X z o)) H) (hD : va_D A (fl (lawW cI cB cZ cO cJ Q q a X z o))) (hf : cL_7 fu a1 a2 a3 a4 a5 X z o = some (X1, z1, o1)) : W p l e room_1 s m args below meth c H locs cells slots Qf (F0 m 537 ls []) := by
  unfold cL_7 at hf
  refine lv_aload_n hx hb dL_law_537 rfl (lv_at hl 1 rfl) ?_
  obtain ⟨w1, hcw1, hf⟩ := bd_ob hf
  refine rdV (As := []) (rest := []) ⟨hx, hb, hml, hown, hts⟩ (mX8_clauseCount l D cI cB cZ cO Q fu (X 0) (X 1) (X 2) (X 3) (X 4) (X 5) (X 6) (X 7) (X 8) (X 9) (X 10) (X 11) (X 12) (X 13) (X 14) (X 15) (X 16) (X 17) (X 18) (X 19) (X 20) (X 21) (X 22) (X 23) hcw1) (cwV 0 hts gL_law_X8_clauseCount rfl rfl rfl (by decide +kernel) ⟨Nat.le_of_ble_eq_true rfl, Nat.le_of_ble_eq_true rfl⟩) (hK.sub [0, 1, 2, 3] rfl) (hP.subb [1, 2, 3, 4, 5, 6, 7, 8, 9, 10, 11, 12, 13, 14, 15, 16, 17, 18, 19, 20, 21, 22, 23, 24] rfl) (va_recv hK hP (ci := 7) (q0 := 1) rfl rfl) rfl hl.1 rfl (Nat.le_of_ble_eq_true rfl) dL_law_538 ⟨by show _ ≤ 601024; omega, by show _ ≤ 7293034; omega⟩ ?_
  refine lv_aload_n hx hb dL_law_541 rfl (lv_at hl 2 rfl) ?_
  obtain ⟨w2, hcw2, hf⟩ := bd_ob hf
  refine wrVb (As := []) (rest := [.int w1]) [wL cJ a o, wXO Q, wC cI (Q 1) (X 1), wC cI (Q 2) (X 2), wS (Q 3) (Q 4 0) (Q 5 0) (Q 6 0) (Q 7 0) (X 3), wT cB (Q 4) (X 4), wC cI (Q 5) (X 5), wA (Q 6) (X 6), wP (Q 7) (X 7), wH cO (Q 8) (Q 9 0) (Q 10 0) (Q 11 0) (Q 12 0) (Q 13 0) (Q 14 0) (Q 15 0) (Q 16 0) (X 8), wC cI (Q 9) (X 9), wC cI (Q 10) (X 10), wC cI (Q 11) (X 11), wC cI (Q 12) (X 12), wC cI (Q 13) (X 13), wC cI (Q 14) (X 14), wC cI (Q 15) (X 15), wC cI (Q 16) (X 16), wXS cO (Q 17) (Q 18 0) (Q 19 0), wC cI (Q 18) (X 18), wC cI (Q 19) (X 19), wXF cZ (Q 20) (X 20), wA (Q 21) (X 21), wP (Q 22) (X 22), wO cB (Q 23) (X 23), wM cI cB cZ q w2.2] ⟨hx, hb, hml, hown, hts⟩ (mX9_clauseCount l D cI cB cZ cO q _ fu z hcw2) (cwV 0 hts gL_law_X9_clauseCount rfl rfl rfl (by decide +kernel) ⟨Nat.le_of_ble_eq_true rfl, Nat.le_of_ble_eq_true rfl⟩) (hK.sub [0, 1, 2, 3] rfl) hP hD hS hA [25] [0, 1, 2, 3, 4, 5, 6, 7, 8, 9, 10, 11, 12, 13, 14, 15, 16, 17, 18, 19, 20, 21, 22, 23, 24] 26 rfl (by decide +kernel) rfl rfl [wL cJ a o, wXO Q, wC cI (Q 1) (X 1), wC cI (Q 2) (X 2), wS (Q 3) (Q 4 0) (Q 5 0) (Q 6 0) (Q 7 0) (X 3), wT cB (Q 4) (X 4), wC cI (Q 5) (X 5), wA (Q 6) (X 6), wP (Q 7) (X 7), wH cO (Q 8) (Q 9 0) (Q 10 0) (Q 11 0) (Q 12 0) (Q 13 0) (Q 14 0) (Q 15 0) (Q 16 0) (X 8), wC cI (Q 9) (X 9), wC cI (Q 10) (X 10), wC cI (Q 11) (X 11), wC cI (Q 12) (X 12), wC cI (Q 13) (X 13), wC cI (Q 14) (X 14), wC cI (Q 15) (X 15), wC cI (Q 16) (X 16), wXS cO (Q 17) (Q 18 0) (Q 19 0), wC cI (Q 18) (X 18), wC cI (Q 19) (X 19), wXF cZ (Q 20) (X 20), wA (Q 21) (X 21), wP (Q 22) (X 22), wO cB (Q 23) (X 23)] rfl rfl rfl (va_recv hK hP (ci := 8) (q0 := 106) rfl rfl) rfl hl.1 rfl (Nat.le_of_ble_eq_true rfl) dL_law_542 ⟨by show _ ≤ 601024; omega, by show _ ≤ 7293034; omega⟩ (fun H locs hP hD hS => ?_)
  refine lv_icmp_eq (tgt := 2902) hx hb dL_law_545 (by decide) (fun c3 => ?_) (fun c3 => ?_)
  · have hf := ip c3 hf
    cases hf
    refine W.widen (k := cells + 8) (n := slots + 48) (by omega) (by omega) ?_
    exact kk _ _ _ hP hD hS (lv_sub hl [0, 1, 2, 3, 4] rfl)
  · have hf := iq c3 hf
    exact no_ob hf
set_option maxRecDepth 100000 in
set_option maxHeartbeats 4000000 in
theorem wL_8 {p : Program} {l : Launch} {e : Env} {s : State} {m : MethodId} {args : Array Value} {below : List Frame} {meth : Method} {c : Code} {H : Heap} {locs : List Loc} {cells slots : Nat} {Qf : State → Prop} {ls : Array Slot} {D : va_G} {cI cB cZ cO cJ : ClassId} {aK aV mK : Nat → Nat} {Q : Nat → Nat → Nat} {q : Nat → Nat} {a b L fu : Nat} {xs : Nat → Int32} {A : Nat → Prop} {X X1 : Nat → OS} {z z1 : OS} {o o1 : Nat → Int64} {i a1 a2 a3 a4 a5 : Int32} (hst : l.stackTraces = false) (hx : p.tables.exec = Jvm.exec) (hb : c.code = cL_law) (hml : c.maxLocals = 9) (hown : s.vm.findClass RL = some m.cls) (hts : ∀ w ∈ lw_tbl, w.before args s = true) (hK : va_K D vwCl (gL cI cB cZ cO cJ) s) (hA : ∀ q : Nat, s.heap.size ≤ q → A q) (hX : va_X b L xs s s.heap) (hbl : b < s.heap.size) (hbA : ¬ A b) (hE : EW aK aV mK A s s.heap) (hS : va_S A s.heap H locs) (hl : lv_has ls 9 [(0, .ref b), (1, .ref (Q 0 0)), (2, .ref (q 0)), (3, .ref a), (4, .int i)]) (n1 : vp_in (i + 1) L) (n2 : vp_in (i + 2) L) (n3 : vp_in (i + 3) L) (n4 : vp_in (i + 4) L) (n5 : vp_in (i + 5) L) (e1 : xs (i + 1).toNatClampNeg = a1) (e2 : xs (i + 2).toNatClampNeg = a2) (e3 : xs (i + 3).toNatClampNeg = a3) (e4 : xs (i + 4).toNatClampNeg = a4) (e5 : xs (i + 5).toNatClampNeg = a5) (hcl : cells + 8 ≤ 601024) (hsl : slots + 48 ≤ 7293034) (kk : ∀ (H1 : Heap) (locs1 : List Loc) (ls1 : Array Slot), va_P D vwCl (fl (lawW cI cB cZ cO cJ Q q a X1 z1 o1)) H1 → va_D A (fl (lawW cI cB cZ cO cJ Q q a X1 z1 o1)) → va_S A s.heap H1 locs1 → lv_has ls1 9 [(0, .ref b), (1, .ref (Q 0 0)), (2, .ref (q 0)), (3, .ref a), (4, .int i)] → W p l e room_1 s m args below meth c H1 locs1 (cells + 8) (slots + 48) Qf (F0 m 2902 ls1 [])) (hP : va_P D vwCl (fl (lawW cI cB cZ cO cJ Q q a X z o)) H) (hD : va_D A (fl (lawW cI cB cZ cO cJ Q q a X z o))) (hf : cL_8 fu a1 a2 a3 a4 a5 X z o = some (X1, z1, o1)) : W p l e room_1 s m args below meth c H locs cells slots Qf (F0 m 550 ls []) := by
  unfold cL_8 at hf
  refine lv_aload_n hx hb dL_law_550 rfl (lv_at hl 1 rfl) ?_
  refine lv_aload_n hx hb dL_law_551 rfl (lv_at hl 0 rfl) ?_
  refine lv_iload hx hb dL_law_552 (lv_at hl 4 rfl) ?_
  refine lv_iconst (v := 1) hx hb dL_law_554 (by decide) ?_
  refine lv_iadd hx hb dL_law_555 ?_
  refine va_sldE hx hb hX hbl hbA hS n1 e1 dL_law_556 ?_
  refine lv_aload_n hx hb dL_law_557 rfl (lv_at hl 3 rfl) ?_
  obtain ⟨w1, hcw1, hf⟩ := bd_ob hf
  refine wrSWb (As := [.ref (Q 0 0), .int a1, .ref a]) (rest := []) [wL cJ a w1.2, wXO Q, wC cI (Q 1) (X 1), wC cI (Q 2) (X 2), wS (Q 3) (Q 4 0) (Q 5 0) (Q 6 0) (Q 7 0) (X 3), wT cB (Q 4) (X 4), wC cI (Q 5) (X 5), wA (Q 6) (X 6), wP (Q 7) (X 7), wH cO (Q 8) (Q 9 0) (Q 10 0) (Q 11 0) (Q 12 0) (Q 13 0) (Q 14 0) (Q 15 0) (Q 16 0) (X 8), wC cI (Q 9) (X 9), wC cI (Q 10) (X 10), wC cI (Q 11) (X 11), wC cI (Q 12) (X 12), wC cI (Q 13) (X 13), wC cI (Q 14) (X 14), wC cI (Q 15) (X 15), wC cI (Q 16) (X 16), wXS cO (Q 17) (Q 18 0) (Q 19 0), wC cI (Q 18) (X 18), wC cI (Q 19) (X 19), wXF cZ (Q 20) (X 20), wA (Q 21) (X 21), wP (Q 22) (X 22), wO cB (Q 23) (X 23), wM cI cB cZ q z] ⟨hx, hb, hml, hown, hts⟩ (mL_positiveOf l D cI cB cZ cO cJ aK aV mK hst Q a _ fu o (X 0) (X 1) (X 2) (X 3) (X 4) (X 5) (X 6) (X 7) (X 8) (X 9) (X 10) (X 11) (X 12) (X 13) (X 14) (X 15) (X 16) (X 17) (X 18) (X 19) (X 20) (X 21) (X 22) (X 23) a1 hcw1) (vx_cwSW 3 hts gL_law_L_positiveOf rfl rfl rfl (by decide +kernel) ⟨Nat.le_of_ble_eq_true rfl, Nat.le_of_ble_eq_true rfl⟩) (EW_ok aK aV mK) ((EW_ok aK aV mK).2.2.1 _ _ _ _ hS.2.1 hE) hK hP hD hS hA [0, 1, 2, 3, 4, 5, 6, 7, 8, 9, 10, 11, 12, 13, 14, 15, 16, 17, 18, 19, 20, 21, 22, 23, 24] [25] 26 rfl (by decide +kernel) rfl rfl [wM cI cB cZ q z] rfl rfl rfl rfl hl.1 rfl (Nat.le_of_ble_eq_true rfl) dL_law_558 ⟨by show _ ≤ 601024; omega, by show _ ≤ 7293034; omega⟩ (fun H locs hP hD hS => ?_)
  refine lv_istore (lv' := [(5, .int w1.1), (0, .ref b), (1, .ref (Q 0 0)), (2, .ref (q 0)), (3, .ref a), (4, .int i)]) hx hb dL_law_561 hl (by decide) rfl (fun ls hl => ?_)
  refine lv_aload_n hx hb dL_law_563 rfl (lv_at hl 3 rfl) ?_
  refine lv_aload_n hx hb dL_law_564 rfl (lv_at hl 1 rfl) ?_
  refine lv_iload hx hb dL_law_565 (lv_at hl 5 rfl) ?_
  refine lv_iconst (v := 1) hx hb dL_law_567 (by decide) ?_
  refine lv_iadd hx hb dL_law_568 ?_
  refine va_sldE hx hb hX hbl hbA hS n1 e1 dL_law_569 ?_
  obtain ⟨w2, hcw2, hf⟩ := bd_ob hf
  refine wrVb (As := [.int a1]) (rest := []) [wL cJ a w1.2, wXO Q, wC cI (Q 1) (X 1), wC cI (Q 2) (X 2), wS (Q 3) (Q 4 0) (Q 5 0) (Q 6 0) (Q 7 0) (X 3), wT cB (Q 4) (X 4), wC cI (Q 5) (X 5), wA (Q 6) (X 6), wP (Q 7) (X 7), wH cO (Q 8) (Q 9 0) (Q 10 0) (Q 11 0) (Q 12 0) (Q 13 0) (Q 14 0) (Q 15 0) (Q 16 0) (X 8), wC cI (Q 9) (X 9), wC cI (Q 10) (X 10), wC cI (Q 11) (X 11), wC cI (Q 12) (X 12), wC cI (Q 13) (X 13), wC cI (Q 14) (X 14), wC cI (Q 15) (X 15), wC cI (Q 16) (X 16), wXS cO (Q 17) (Q 18 0) (Q 19 0), wC cI (Q 18) (X 18), wC cI (Q 19) (X 19), wXF cZ (Q 20) (X 20), wA (Q 21) (X 21), wP (Q 22) (X 22), wO cB (Q 23) (X 23), wM cI cB cZ q w2.2] ⟨hx, hb, hml, hown, hts⟩ (mX9_positiveOf l D cI cB cZ cO q _ fu z a1 hcw2) (cwV 1 hts gL_law_X9_positiveOf rfl rfl rfl (by decide +kernel) ⟨Nat.le_of_ble_eq_true rfl, Nat.le_of_ble_eq_true rfl⟩) (hK.sub [0, 1, 2, 3] rfl) hP hD hS hA [25] [0, 1, 2, 3, 4, 5, 6, 7, 8, 9, 10, 11, 12, 13, 14, 15, 16, 17, 18, 19, 20, 21, 22, 23, 24] 26 rfl (by decide +kernel) rfl rfl [wL cJ a w1.2, wXO Q, wC cI (Q 1) (X 1), wC cI (Q 2) (X 2), wS (Q 3) (Q 4 0) (Q 5 0) (Q 6 0) (Q 7 0) (X 3), wT cB (Q 4) (X 4), wC cI (Q 5) (X 5), wA (Q 6) (X 6), wP (Q 7) (X 7), wH cO (Q 8) (Q 9 0) (Q 10 0) (Q 11 0) (Q 12 0) (Q 13 0) (Q 14 0) (Q 15 0) (Q 16 0) (X 8), wC cI (Q 9) (X 9), wC cI (Q 10) (X 10), wC cI (Q 11) (X 11), wC cI (Q 12) (X 12), wC cI (Q 13) (X 13), wC cI (Q 14) (X 14), wC cI (Q 15) (X 15), wC cI (Q 16) (X 16), wXS cO (Q 17) (Q 18 0) (Q 19 0), wC cI (Q 18) (X 18), wC cI (Q 19) (X 19), wXF cZ (Q 20) (X 20), wA (Q 21) (X 21), wP (Q 22) (X 22), wO cB (Q 23) (X 23)] rfl rfl rfl (va_recv hK hP (ci := 8) (q0 := 106) rfl rfl) rfl hl.1 rfl (Nat.le_of_ble_eq_true rfl) dL_law_570 ⟨by show _ ≤ 601024; omega, by show _ ≤ 7293034; omega⟩ (fun H locs hP hD hS => ?_)
  refine lv_istore (lv' := [(6, .int w2.1), (5, .int w1.1), (0, .ref b), (1, .ref (Q 0 0)), (2, .ref (q 0)), (3, .ref a), (4, .int i)]) hx hb dL_law_573 hl (by decide) rfl (fun ls hl => ?_)
  refine lv_aload_n hx hb dL_law_575 rfl (lv_at hl 4 rfl) ?_
  obtain ⟨w3, hcw3, hf⟩ := bd_ob hf
  refine rdV (As := []) (rest := []) ⟨hx, hb, hml, hown, hts⟩ (mX9_thrown l D cI cB cZ cO q fu w2.2 hcw3) (cwV 0 hts gL_law_X9_thrown rfl rfl rfl (by decide +kernel) ⟨Nat.le_of_ble_eq_true rfl, Nat.le_of_ble_eq_true rfl⟩) (hK.sub [0, 1, 2, 3] rfl) (hP.subb [25] rfl) (va_recv hK hP (ci := 8) (q0 := 106) rfl rfl) rfl hl.1 rfl (Nat.le_of_ble_eq_true rfl) dL_law_576 ⟨by show _ ≤ 601024; omega, by show _ ≤ 7293034; omega⟩ ?_
  refine lv_iload hx hb dL_law_579 (lv_at hl 1 rfl) ?_
  refine lv_icmp_eq (tgt := 586) hx hb dL_law_581 (by decide) (fun c6 => ?_) (fun c6 => ?_)
  · have hf := ip c6 hf
    refine lv_iload hx hb dL_law_586 (lv_at hl 1 rfl) ?_
    refine lv_if_ne (tgt := 603) hx hb dL_law_588 (by decide) (fun c5 => ?_) (fun c5 => ?_)
    · have hf := iq c5 hf
      refine lv_goto (tgt := 2902) hx hb dL_law_603 (by decide) ?_
      cases hf
      refine W.widen (k := cells + 8) (n := slots + 48) (by omega) (by omega) ?_
      exact kk _ _ _ hP hD hS (lv_sub hl [2, 3, 4, 5, 6] rfl)
    · have hf := ip c5 hf
      refine lv_aload_n hx hb dL_law_591 rfl (lv_at hl 5 rfl) ?_
      refine lv_iconst (v := 0) hx hb dL_law_592 (by decide) ?_
      refine va_lald hx hb hK hP 0 4 rfl rfl (inB_in (by decide)) dL_law_593 ?_
      refine lv_iload hx hb dL_law_594 (lv_at hl 0 rfl) ?_
      refine lv_i2l hx hb dL_law_596 rfl ?_
      refine W.lcmp hx hb dL_law_597 ?_
      refine lv_if_eq (tgt := 603) hx hb dL_law_598 (by decide) (fun c4 => ?_) (fun c4 => ?_)
      · have hf := ip c4 hf
        refine lv_goto (tgt := 2902) hx hb dL_law_603 (by decide) ?_
        cases hf
        refine W.widen (k := cells + 8) (n := slots + 48) (by omega) (by omega) ?_
        exact kk _ _ _ hP hD hS (lv_sub hl [2, 3, 4, 5, 6] rfl)
      · have hf := iq c4 hf
        exact no_ob hf
  · have hf := iq c6 hf
    exact no_ob hf
set_option maxRecDepth 100000 in
set_option maxHeartbeats 4000000 in
theorem wL_9 {p : Program} {l : Launch} {e : Env} {s : State} {m : MethodId} {args : Array Value} {below : List Frame} {meth : Method} {c : Code} {H : Heap} {locs : List Loc} {cells slots : Nat} {Qf : State → Prop} {ls : Array Slot} {D : va_G} {cI cB cZ cO cJ : ClassId} {aK aV mK : Nat → Nat} {Q : Nat → Nat → Nat} {q : Nat → Nat} {a b L fu : Nat} {xs : Nat → Int32} {A : Nat → Prop} {X X1 : Nat → OS} {z z1 : OS} {o o1 : Nat → Int64} {i a1 a2 a3 a4 a5 : Int32} (hst : l.stackTraces = false) (hx : p.tables.exec = Jvm.exec) (hb : c.code = cL_law) (hml : c.maxLocals = 9) (hown : s.vm.findClass RL = some m.cls) (hts : ∀ w ∈ lw_tbl, w.before args s = true) (hK : va_K D vwCl (gL cI cB cZ cO cJ) s) (hA : ∀ q : Nat, s.heap.size ≤ q → A q) (hX : va_X b L xs s s.heap) (hbl : b < s.heap.size) (hbA : ¬ A b) (hE : EW aK aV mK A s s.heap) (hS : va_S A s.heap H locs) (hl : lv_has ls 9 [(0, .ref b), (1, .ref (Q 0 0)), (2, .ref (q 0)), (3, .ref a), (4, .int i)]) (n1 : vp_in (i + 1) L) (n2 : vp_in (i + 2) L) (n3 : vp_in (i + 3) L) (n4 : vp_in (i + 4) L) (n5 : vp_in (i + 5) L) (e1 : xs (i + 1).toNatClampNeg = a1) (e2 : xs (i + 2).toNatClampNeg = a2) (e3 : xs (i + 3).toNatClampNeg = a3) (e4 : xs (i + 4).toNatClampNeg = a4) (e5 : xs (i + 5).toNatClampNeg = a5) (hcl : cells + 8 ≤ 601024) (hsl : slots + 48 ≤ 7293034) (kk : ∀ (H1 : Heap) (locs1 : List Loc) (ls1 : Array Slot), va_P D vwCl (fl (lawW cI cB cZ cO cJ Q q a X1 z1 o1)) H1 → va_D A (fl (lawW cI cB cZ cO cJ Q q a X1 z1 o1)) → va_S A s.heap H1 locs1 → lv_has ls1 9 [(0, .ref b), (1, .ref (Q 0 0)), (2, .ref (q 0)), (3, .ref a), (4, .int i)] → W p l e room_1 s m args below meth c H1 locs1 (cells + 8) (slots + 48) Qf (F0 m 2902 ls1 [])) (hP : va_P D vwCl (fl (lawW cI cB cZ cO cJ Q q a X z o)) H) (hD : va_D A (fl (lawW cI cB cZ cO cJ Q q a X z o))) (hf : cL_9 fu a1 a2 a3 a4 a5 X z o = some (X1, z1, o1)) : W p l e room_1 s m args below meth c H locs cells slots Qf (F0 m 606 ls []) := by
  unfold cL_9 at hf
  refine lv_aload_n hx hb dL_law_606 rfl (lv_at hl 1 rfl) ?_
  refine lv_aload_n hx hb dL_law_607 rfl (lv_at hl 0 rfl) ?_
  refine lv_iload hx hb dL_law_608 (lv_at hl 4 rfl) ?_
  refine lv_iconst (v := 1) hx hb dL_law_610 (by decide) ?_
  refine lv_iadd hx hb dL_law_611 ?_
  refine va_sldE hx hb hX hbl hbA hS n1 e1 dL_law_612 ?_
  refine lv_aload_n hx hb dL_law_613 rfl (lv_at hl 3 rfl) ?_
  obtain ⟨w1, hcw1, hf⟩ := bd_ob hf
  refine wrSWb (As := [.ref (Q 0 0), .int a1, .ref a]) (rest := []) [wL cJ a w1.2, wXO Q, wC cI (Q 1) (X 1), wC cI (Q 2) (X 2), wS (Q 3) (Q 4 0) (Q 5 0) (Q 6 0) (Q 7 0) (X 3), wT cB (Q 4) (X 4), wC cI (Q 5) (X 5), wA (Q 6) (X 6), wP (Q 7) (X 7), wH cO (Q 8) (Q 9 0) (Q 10 0) (Q 11 0) (Q 12 0) (Q 13 0) (Q 14 0) (Q 15 0) (Q 16 0) (X 8), wC cI (Q 9) (X 9), wC cI (Q 10) (X 10), wC cI (Q 11) (X 11), wC cI (Q 12) (X 12), wC cI (Q 13) (X 13), wC cI (Q 14) (X 14), wC cI (Q 15) (X 15), wC cI (Q 16) (X 16), wXS cO (Q 17) (Q 18 0) (Q 19 0), wC cI (Q 18) (X 18), wC cI (Q 19) (X 19), wXF cZ (Q 20) (X 20), wA (Q 21) (X 21), wP (Q 22) (X 22), wO cB (Q 23) (X 23), wM cI cB cZ q z] ⟨hx, hb, hml, hown, hts⟩ (mL_negativeOf l D cI cB cZ cO cJ aK aV mK hst Q a _ fu o (X 0) (X 1) (X 2) (X 3) (X 4) (X 5) (X 6) (X 7) (X 8) (X 9) (X 10) (X 11) (X 12) (X 13) (X 14) (X 15) (X 16) (X 17) (X 18) (X 19) (X 20) (X 21) (X 22) (X 23) a1 hcw1) (vx_cwSW 3 hts gL_law_L_negativeOf rfl rfl rfl (by decide +kernel) ⟨Nat.le_of_ble_eq_true rfl, Nat.le_of_ble_eq_true rfl⟩) (EW_ok aK aV mK) ((EW_ok aK aV mK).2.2.1 _ _ _ _ hS.2.1 hE) hK hP hD hS hA [0, 1, 2, 3, 4, 5, 6, 7, 8, 9, 10, 11, 12, 13, 14, 15, 16, 17, 18, 19, 20, 21, 22, 23, 24] [25] 26 rfl (by decide +kernel) rfl rfl [wM cI cB cZ q z] rfl rfl rfl rfl hl.1 rfl (Nat.le_of_ble_eq_true rfl) dL_law_614 ⟨by show _ ≤ 601024; omega, by show _ ≤ 7293034; omega⟩ (fun H locs hP hD hS => ?_)
  refine lv_istore (lv' := [(5, .int w1.1), (0, .ref b), (1, .ref (Q 0 0)), (2, .ref (q 0)), (3, .ref a), (4, .int i)]) hx hb dL_law_617 hl (by decide) rfl (fun ls hl => ?_)
  refine lv_aload_n hx hb dL_law_619 rfl (lv_at hl 3 rfl) ?_
  refine lv_aload_n hx hb dL_law_620 rfl (lv_at hl 1 rfl) ?_
  refine lv_iload hx hb dL_law_621 (lv_at hl 5 rfl) ?_
  refine lv_iconst (v := 1) hx hb dL_law_623 (by decide) ?_
  refine lv_iadd hx hb dL_law_624 ?_
  refine va_sldE hx hb hX hbl hbA hS n1 e1 dL_law_625 ?_
  obtain ⟨w2, hcw2, hf⟩ := bd_ob hf
  refine wrVb (As := [.int a1]) (rest := []) [wL cJ a w1.2, wXO Q, wC cI (Q 1) (X 1), wC cI (Q 2) (X 2), wS (Q 3) (Q 4 0) (Q 5 0) (Q 6 0) (Q 7 0) (X 3), wT cB (Q 4) (X 4), wC cI (Q 5) (X 5), wA (Q 6) (X 6), wP (Q 7) (X 7), wH cO (Q 8) (Q 9 0) (Q 10 0) (Q 11 0) (Q 12 0) (Q 13 0) (Q 14 0) (Q 15 0) (Q 16 0) (X 8), wC cI (Q 9) (X 9), wC cI (Q 10) (X 10), wC cI (Q 11) (X 11), wC cI (Q 12) (X 12), wC cI (Q 13) (X 13), wC cI (Q 14) (X 14), wC cI (Q 15) (X 15), wC cI (Q 16) (X 16), wXS cO (Q 17) (Q 18 0) (Q 19 0), wC cI (Q 18) (X 18), wC cI (Q 19) (X 19), wXF cZ (Q 20) (X 20), wA (Q 21) (X 21), wP (Q 22) (X 22), wO cB (Q 23) (X 23), wM cI cB cZ q w2.2] ⟨hx, hb, hml, hown, hts⟩ (mX9_negativeOf l D cI cB cZ cO q _ fu z a1 hcw2) (cwV 1 hts gL_law_X9_negativeOf rfl rfl rfl (by decide +kernel) ⟨Nat.le_of_ble_eq_true rfl, Nat.le_of_ble_eq_true rfl⟩) (hK.sub [0, 1, 2, 3] rfl) hP hD hS hA [25] [0, 1, 2, 3, 4, 5, 6, 7, 8, 9, 10, 11, 12, 13, 14, 15, 16, 17, 18, 19, 20, 21, 22, 23, 24] 26 rfl (by decide +kernel) rfl rfl [wL cJ a w1.2, wXO Q, wC cI (Q 1) (X 1), wC cI (Q 2) (X 2), wS (Q 3) (Q 4 0) (Q 5 0) (Q 6 0) (Q 7 0) (X 3), wT cB (Q 4) (X 4), wC cI (Q 5) (X 5), wA (Q 6) (X 6), wP (Q 7) (X 7), wH cO (Q 8) (Q 9 0) (Q 10 0) (Q 11 0) (Q 12 0) (Q 13 0) (Q 14 0) (Q 15 0) (Q 16 0) (X 8), wC cI (Q 9) (X 9), wC cI (Q 10) (X 10), wC cI (Q 11) (X 11), wC cI (Q 12) (X 12), wC cI (Q 13) (X 13), wC cI (Q 14) (X 14), wC cI (Q 15) (X 15), wC cI (Q 16) (X 16), wXS cO (Q 17) (Q 18 0) (Q 19 0), wC cI (Q 18) (X 18), wC cI (Q 19) (X 19), wXF cZ (Q 20) (X 20), wA (Q 21) (X 21), wP (Q 22) (X 22), wO cB (Q 23) (X 23)] rfl rfl rfl (va_recv hK hP (ci := 8) (q0 := 106) rfl rfl) rfl hl.1 rfl (Nat.le_of_ble_eq_true rfl) dL_law_626 ⟨by show _ ≤ 601024; omega, by show _ ≤ 7293034; omega⟩ (fun H locs hP hD hS => ?_)
  refine lv_istore (lv' := [(6, .int w2.1), (5, .int w1.1), (0, .ref b), (1, .ref (Q 0 0)), (2, .ref (q 0)), (3, .ref a), (4, .int i)]) hx hb dL_law_629 hl (by decide) rfl (fun ls hl => ?_)
  refine lv_aload_n hx hb dL_law_631 rfl (lv_at hl 4 rfl) ?_
  obtain ⟨w3, hcw3, hf⟩ := bd_ob hf
  refine rdV (As := []) (rest := []) ⟨hx, hb, hml, hown, hts⟩ (mX9_thrown l D cI cB cZ cO q fu w2.2 hcw3) (cwV 0 hts gL_law_X9_thrown rfl rfl rfl (by decide +kernel) ⟨Nat.le_of_ble_eq_true rfl, Nat.le_of_ble_eq_true rfl⟩) (hK.sub [0, 1, 2, 3] rfl) (hP.subb [25] rfl) (va_recv hK hP (ci := 8) (q0 := 106) rfl rfl) rfl hl.1 rfl (Nat.le_of_ble_eq_true rfl) dL_law_632 ⟨by show _ ≤ 601024; omega, by show _ ≤ 7293034; omega⟩ ?_
  refine lv_iload hx hb dL_law_635 (lv_at hl 1 rfl) ?_
  refine lv_icmp_eq (tgt := 642) hx hb dL_law_637 (by decide) (fun c6 => ?_) (fun c6 => ?_)
  · have hf := ip c6 hf
    refine lv_iload hx hb dL_law_642 (lv_at hl 1 rfl) ?_
    refine lv_if_ne (tgt := 659) hx hb dL_law_644 (by decide) (fun c5 => ?_) (fun c5 => ?_)
    · have hf := iq c5 hf
      refine lv_goto (tgt := 2902) hx hb dL_law_659 (by decide) ?_
      cases hf
      refine W.widen (k := cells + 8) (n := slots + 48) (by omega) (by omega) ?_
      exact kk _ _ _ hP hD hS (lv_sub hl [2, 3, 4, 5, 6] rfl)
    · have hf := ip c5 hf
      refine lv_aload_n hx hb dL_law_647 rfl (lv_at hl 5 rfl) ?_
      refine lv_iconst (v := 0) hx hb dL_law_648 (by decide) ?_
      refine va_lald hx hb hK hP 0 4 rfl rfl (inB_in (by decide)) dL_law_649 ?_
      refine lv_iload hx hb dL_law_650 (lv_at hl 0 rfl) ?_
      refine lv_i2l hx hb dL_law_652 rfl ?_
      refine W.lcmp hx hb dL_law_653 ?_
      refine lv_if_eq (tgt := 659) hx hb dL_law_654 (by decide) (fun c4 => ?_) (fun c4 => ?_)
      · have hf := ip c4 hf
        refine lv_goto (tgt := 2902) hx hb dL_law_659 (by decide) ?_
        cases hf
        refine W.widen (k := cells + 8) (n := slots + 48) (by omega) (by omega) ?_
        exact kk _ _ _ hP hD hS (lv_sub hl [2, 3, 4, 5, 6] rfl)
      · have hf := iq c4 hf
        exact no_ob hf
  · have hf := iq c6 hf
    exact no_ob hf
set_option maxRecDepth 100000 in
set_option maxHeartbeats 4000000 in
theorem wL_10 {p : Program} {l : Launch} {e : Env} {s : State} {m : MethodId} {args : Array Value} {below : List Frame} {meth : Method} {c : Code} {H : Heap} {locs : List Loc} {cells slots : Nat} {Qf : State → Prop} {ls : Array Slot} {D : va_G} {cI cB cZ cO cJ : ClassId} {aK aV mK : Nat → Nat} {Q : Nat → Nat → Nat} {q : Nat → Nat} {a b L fu : Nat} {xs : Nat → Int32} {A : Nat → Prop} {X X1 : Nat → OS} {z z1 : OS} {o o1 : Nat → Int64} {i a1 a2 a3 a4 a5 : Int32} (hst : l.stackTraces = false) (hx : p.tables.exec = Jvm.exec) (hb : c.code = cL_law) (hml : c.maxLocals = 9) (hown : s.vm.findClass RL = some m.cls) (hts : ∀ w ∈ lw_tbl, w.before args s = true) (hK : va_K D vwCl (gL cI cB cZ cO cJ) s) (hA : ∀ q : Nat, s.heap.size ≤ q → A q) (hX : va_X b L xs s s.heap) (hbl : b < s.heap.size) (hbA : ¬ A b) (hE : EW aK aV mK A s s.heap) (hS : va_S A s.heap H locs) (hl : lv_has ls 9 [(0, .ref b), (1, .ref (Q 0 0)), (2, .ref (q 0)), (3, .ref a), (4, .int i)]) (n1 : vp_in (i + 1) L) (n2 : vp_in (i + 2) L) (n3 : vp_in (i + 3) L) (n4 : vp_in (i + 4) L) (n5 : vp_in (i + 5) L) (e1 : xs (i + 1).toNatClampNeg = a1) (e2 : xs (i + 2).toNatClampNeg = a2) (e3 : xs (i + 3).toNatClampNeg = a3) (e4 : xs (i + 4).toNatClampNeg = a4) (e5 : xs (i + 5).toNatClampNeg = a5) (hcl : cells + 8 ≤ 601024) (hsl : slots + 48 ≤ 7293034) (kk : ∀ (H1 : Heap) (locs1 : List Loc) (ls1 : Array Slot), va_P D vwCl (fl (lawW cI cB cZ cO cJ Q q a X1 z1 o1)) H1 → va_D A (fl (lawW cI cB cZ cO cJ Q q a X1 z1 o1)) → va_S A s.heap H1 locs1 → lv_has ls1 9 [(0, .ref b), (1, .ref (Q 0 0)), (2, .ref (q 0)), (3, .ref a), (4, .int i)] → W p l e room_1 s m args below meth c H1 locs1 (cells + 8) (slots + 48) Qf (F0 m 2902 ls1 [])) (hP : va_P D vwCl (fl (lawW cI cB cZ cO cJ Q q a X z o)) H) (hD : va_D A (fl (lawW cI cB cZ cO cJ Q q a X z o))) (hf : cL_10 fu a1 a2 a3 a4 a5 X z o = some (X1, z1, o1)) : W p l e room_1 s m args below meth c H locs cells slots Qf (F0 m 662 ls []) := by
  unfold cL_10 at hf
  refine lv_aload_n hx hb dL_law_662 rfl (lv_at hl 1 rfl) ?_
  refine lv_aload_n hx hb dL_law_663 rfl (lv_at hl 0 rfl) ?_
  refine lv_iload hx hb dL_law_664 (lv_at hl 4 rfl) ?_
  refine lv_iconst (v := 1) hx hb dL_law_666 (by decide) ?_
  refine lv_iadd hx hb dL_law_667 ?_
  refine va_sldE hx hb hX hbl hbA hS n1 e1 dL_law_668 ?_
  refine lv_aload_n hx hb dL_law_669 rfl (lv_at hl 3 rfl) ?_
  obtain ⟨w1, hcw1, hf⟩ := bd_ob hf
  refine wrSWb (As := [.ref (Q 0 0), .int a1, .ref a]) (rest := []) [wL cJ a w1.2, wXO Q, wC cI (Q 1) (X 1), wC cI (Q 2) (X 2), wS (Q 3) (Q 4 0) (Q 5 0) (Q 6 0) (Q 7 0) (X 3), wT cB (Q 4) (X 4), wC cI (Q 5) (X 5), wA (Q 6) (X 6), wP (Q 7) (X 7), wH cO (Q 8) (Q 9 0) (Q 10 0) (Q 11 0) (Q 12 0) (Q 13 0) (Q 14 0) (Q 15 0) (Q 16 0) (X 8), wC cI (Q 9) (X 9), wC cI (Q 10) (X 10), wC cI (Q 11) (X 11), wC cI (Q 12) (X 12), wC cI (Q 13) (X 13), wC cI (Q 14) (X 14), wC cI (Q 15) (X 15), wC cI (Q 16) (X 16), wXS cO (Q 17) (Q 18 0) (Q 19 0), wC cI (Q 18) (X 18), wC cI (Q 19) (X 19), wXF cZ (Q 20) (X 20), wA (Q 21) (X 21), wP (Q 22) (X 22), wO cB (Q 23) (X 23), wM cI cB cZ q z] ⟨hx, hb, hml, hown, hts⟩ (mL_sizeOf l D cI cB cZ cO cJ aK aV mK hst Q a _ fu o (X 0) (X 1) (X 2) (X 3) (X 4) (X 5) (X 6) (X 7) (X 8) (X 9) (X 10) (X 11) (X 12) (X 13) (X 14) (X 15) (X 16) (X 17) (X 18) (X 19) (X 20) (X 21) (X 22) (X 23) a1 hcw1) (vx_cwSW 3 hts gL_law_L_sizeOf rfl rfl rfl (by decide +kernel) ⟨Nat.le_of_ble_eq_true rfl, Nat.le_of_ble_eq_true rfl⟩) (EW_ok aK aV mK) ((EW_ok aK aV mK).2.2.1 _ _ _ _ hS.2.1 hE) hK hP hD hS hA [0, 1, 2, 3, 4, 5, 6, 7, 8, 9, 10, 11, 12, 13, 14, 15, 16, 17, 18, 19, 20, 21, 22, 23, 24] [25] 26 rfl (by decide +kernel) rfl rfl [wM cI cB cZ q z] rfl rfl rfl rfl hl.1 rfl (Nat.le_of_ble_eq_true rfl) dL_law_670 ⟨by show _ ≤ 601024; omega, by show _ ≤ 7293034; omega⟩ (fun H locs hP hD hS => ?_)
  refine lv_istore (lv' := [(5, .int w1.1), (0, .ref b), (1, .ref (Q 0 0)), (2, .ref (q 0)), (3, .ref a), (4, .int i)]) hx hb dL_law_673 hl (by decide) rfl (fun ls hl => ?_)
  refine lv_aload_n hx hb dL_law_675 rfl (lv_at hl 3 rfl) ?_
  refine lv_aload_n hx hb dL_law_676 rfl (lv_at hl 1 rfl) ?_
  refine lv_iload hx hb dL_law_677 (lv_at hl 5 rfl) ?_
  refine lv_iconst (v := 1) hx hb dL_law_679 (by decide) ?_
  refine lv_iadd hx hb dL_law_680 ?_
  refine va_sldE hx hb hX hbl hbA hS n1 e1 dL_law_681 ?_
  obtain ⟨w2, hcw2, hf⟩ := bd_ob hf
  refine wrVb (As := [.int a1]) (rest := []) [wL cJ a w1.2, wXO Q, wC cI (Q 1) (X 1), wC cI (Q 2) (X 2), wS (Q 3) (Q 4 0) (Q 5 0) (Q 6 0) (Q 7 0) (X 3), wT cB (Q 4) (X 4), wC cI (Q 5) (X 5), wA (Q 6) (X 6), wP (Q 7) (X 7), wH cO (Q 8) (Q 9 0) (Q 10 0) (Q 11 0) (Q 12 0) (Q 13 0) (Q 14 0) (Q 15 0) (Q 16 0) (X 8), wC cI (Q 9) (X 9), wC cI (Q 10) (X 10), wC cI (Q 11) (X 11), wC cI (Q 12) (X 12), wC cI (Q 13) (X 13), wC cI (Q 14) (X 14), wC cI (Q 15) (X 15), wC cI (Q 16) (X 16), wXS cO (Q 17) (Q 18 0) (Q 19 0), wC cI (Q 18) (X 18), wC cI (Q 19) (X 19), wXF cZ (Q 20) (X 20), wA (Q 21) (X 21), wP (Q 22) (X 22), wO cB (Q 23) (X 23), wM cI cB cZ q w2.2] ⟨hx, hb, hml, hown, hts⟩ (mX9_sizeOf l D cI cB cZ cO q _ fu z a1 hcw2) (cwV 1 hts gL_law_X9_sizeOf rfl rfl rfl (by decide +kernel) ⟨Nat.le_of_ble_eq_true rfl, Nat.le_of_ble_eq_true rfl⟩) (hK.sub [0, 1, 2, 3] rfl) hP hD hS hA [25] [0, 1, 2, 3, 4, 5, 6, 7, 8, 9, 10, 11, 12, 13, 14, 15, 16, 17, 18, 19, 20, 21, 22, 23, 24] 26 rfl (by decide +kernel) rfl rfl [wL cJ a w1.2, wXO Q, wC cI (Q 1) (X 1), wC cI (Q 2) (X 2), wS (Q 3) (Q 4 0) (Q 5 0) (Q 6 0) (Q 7 0) (X 3), wT cB (Q 4) (X 4), wC cI (Q 5) (X 5), wA (Q 6) (X 6), wP (Q 7) (X 7), wH cO (Q 8) (Q 9 0) (Q 10 0) (Q 11 0) (Q 12 0) (Q 13 0) (Q 14 0) (Q 15 0) (Q 16 0) (X 8), wC cI (Q 9) (X 9), wC cI (Q 10) (X 10), wC cI (Q 11) (X 11), wC cI (Q 12) (X 12), wC cI (Q 13) (X 13), wC cI (Q 14) (X 14), wC cI (Q 15) (X 15), wC cI (Q 16) (X 16), wXS cO (Q 17) (Q 18 0) (Q 19 0), wC cI (Q 18) (X 18), wC cI (Q 19) (X 19), wXF cZ (Q 20) (X 20), wA (Q 21) (X 21), wP (Q 22) (X 22), wO cB (Q 23) (X 23)] rfl rfl rfl (va_recv hK hP (ci := 8) (q0 := 106) rfl rfl) rfl hl.1 rfl (Nat.le_of_ble_eq_true rfl) dL_law_682 ⟨by show _ ≤ 601024; omega, by show _ ≤ 7293034; omega⟩ (fun H locs hP hD hS => ?_)
  refine lv_istore (lv' := [(6, .int w2.1), (5, .int w1.1), (0, .ref b), (1, .ref (Q 0 0)), (2, .ref (q 0)), (3, .ref a), (4, .int i)]) hx hb dL_law_685 hl (by decide) rfl (fun ls hl => ?_)
  refine lv_aload_n hx hb dL_law_687 rfl (lv_at hl 4 rfl) ?_
  obtain ⟨w3, hcw3, hf⟩ := bd_ob hf
  refine rdV (As := []) (rest := []) ⟨hx, hb, hml, hown, hts⟩ (mX9_thrown l D cI cB cZ cO q fu w2.2 hcw3) (cwV 0 hts gL_law_X9_thrown rfl rfl rfl (by decide +kernel) ⟨Nat.le_of_ble_eq_true rfl, Nat.le_of_ble_eq_true rfl⟩) (hK.sub [0, 1, 2, 3] rfl) (hP.subb [25] rfl) (va_recv hK hP (ci := 8) (q0 := 106) rfl rfl) rfl hl.1 rfl (Nat.le_of_ble_eq_true rfl) dL_law_688 ⟨by show _ ≤ 601024; omega, by show _ ≤ 7293034; omega⟩ ?_
  refine lv_iload hx hb dL_law_691 (lv_at hl 1 rfl) ?_
  refine lv_icmp_eq (tgt := 698) hx hb dL_law_693 (by decide) (fun c6 => ?_) (fun c6 => ?_)
  · have hf := ip c6 hf
    refine lv_iload hx hb dL_law_698 (lv_at hl 1 rfl) ?_
    refine lv_if_ne (tgt := 715) hx hb dL_law_700 (by decide) (fun c5 => ?_) (fun c5 => ?_)
    · have hf := iq c5 hf
      refine lv_goto (tgt := 2902) hx hb dL_law_715 (by decide) ?_
      cases hf
      refine W.widen (k := cells + 8) (n := slots + 48) (by omega) (by omega) ?_
      exact kk _ _ _ hP hD hS (lv_sub hl [2, 3, 4, 5, 6] rfl)
    · have hf := ip c5 hf
      refine lv_aload_n hx hb dL_law_703 rfl (lv_at hl 5 rfl) ?_
      refine lv_iconst (v := 0) hx hb dL_law_704 (by decide) ?_
      refine va_lald hx hb hK hP 0 4 rfl rfl (inB_in (by decide)) dL_law_705 ?_
      refine lv_iload hx hb dL_law_706 (lv_at hl 0 rfl) ?_
      refine lv_i2l hx hb dL_law_708 rfl ?_
      refine W.lcmp hx hb dL_law_709 ?_
      refine lv_if_eq (tgt := 715) hx hb dL_law_710 (by decide) (fun c4 => ?_) (fun c4 => ?_)
      · have hf := ip c4 hf
        refine lv_goto (tgt := 2902) hx hb dL_law_715 (by decide) ?_
        cases hf
        refine W.widen (k := cells + 8) (n := slots + 48) (by omega) (by omega) ?_
        exact kk _ _ _ hP hD hS (lv_sub hl [2, 3, 4, 5, 6] rfl)
      · have hf := iq c4 hf
        exact no_ob hf
  · have hf := iq c6 hf
    exact no_ob hf
set_option maxRecDepth 100000 in
set_option maxHeartbeats 4000000 in
theorem wL_11 {p : Program} {l : Launch} {e : Env} {s : State} {m : MethodId} {args : Array Value} {below : List Frame} {meth : Method} {c : Code} {H : Heap} {locs : List Loc} {cells slots : Nat} {Qf : State → Prop} {ls : Array Slot} {D : va_G} {cI cB cZ cO cJ : ClassId} {aK aV mK : Nat → Nat} {Q : Nat → Nat → Nat} {q : Nat → Nat} {a b L fu : Nat} {xs : Nat → Int32} {A : Nat → Prop} {X X1 : Nat → OS} {z z1 : OS} {o o1 : Nat → Int64} {i a1 a2 a3 a4 a5 : Int32} (hst : l.stackTraces = false) (hx : p.tables.exec = Jvm.exec) (hb : c.code = cL_law) (hml : c.maxLocals = 9) (hown : s.vm.findClass RL = some m.cls) (hts : ∀ w ∈ lw_tbl, w.before args s = true) (hK : va_K D vwCl (gL cI cB cZ cO cJ) s) (hA : ∀ q : Nat, s.heap.size ≤ q → A q) (hX : va_X b L xs s s.heap) (hbl : b < s.heap.size) (hbA : ¬ A b) (hE : EW aK aV mK A s s.heap) (hS : va_S A s.heap H locs) (hl : lv_has ls 9 [(0, .ref b), (1, .ref (Q 0 0)), (2, .ref (q 0)), (3, .ref a), (4, .int i)]) (n1 : vp_in (i + 1) L) (n2 : vp_in (i + 2) L) (n3 : vp_in (i + 3) L) (n4 : vp_in (i + 4) L) (n5 : vp_in (i + 5) L) (e1 : xs (i + 1).toNatClampNeg = a1) (e2 : xs (i + 2).toNatClampNeg = a2) (e3 : xs (i + 3).toNatClampNeg = a3) (e4 : xs (i + 4).toNatClampNeg = a4) (e5 : xs (i + 5).toNatClampNeg = a5) (hcl : cells + 8 ≤ 601024) (hsl : slots + 48 ≤ 7293034) (kk : ∀ (H1 : Heap) (locs1 : List Loc) (ls1 : Array Slot), va_P D vwCl (fl (lawW cI cB cZ cO cJ Q q a X1 z1 o1)) H1 → va_D A (fl (lawW cI cB cZ cO cJ Q q a X1 z1 o1)) → va_S A s.heap H1 locs1 → lv_has ls1 9 [(0, .ref b), (1, .ref (Q 0 0)), (2, .ref (q 0)), (3, .ref a), (4, .int i)] → W p l e room_1 s m args below meth c H1 locs1 (cells + 8) (slots + 48) Qf (F0 m 2902 ls1 [])) (hP : va_P D vwCl (fl (lawW cI cB cZ cO cJ Q q a X z o)) H) (hD : va_D A (fl (lawW cI cB cZ cO cJ Q q a X z o))) (hf : cL_11 fu a1 a2 a3 a4 a5 X z o = some (X1, z1, o1)) : W p l e room_1 s m args below meth c H locs cells slots Qf (F0 m 718 ls []) := by
  unfold cL_11 at hf
  refine lv_aload_n hx hb dL_law_718 rfl (lv_at hl 1 rfl) ?_
  refine lv_aload_n hx hb dL_law_719 rfl (lv_at hl 0 rfl) ?_
  refine lv_iload hx hb dL_law_720 (lv_at hl 4 rfl) ?_
  refine lv_iconst (v := 1) hx hb dL_law_722 (by decide) ?_
  refine lv_iadd hx hb dL_law_723 ?_
  refine va_sldE hx hb hX hbl hbA hS n1 e1 dL_law_724 ?_
  refine lv_aload_n hx hb dL_law_725 rfl (lv_at hl 0 rfl) ?_
  refine lv_iload hx hb dL_law_726 (lv_at hl 4 rfl) ?_
  refine lv_iconst (v := 2) hx hb dL_law_728 (by decide) ?_
  refine lv_iadd hx hb dL_law_729 ?_
  refine va_sldE hx hb hX hbl hbA hS n2 e2 dL_law_730 ?_
  refine lv_aload_n hx hb dL_law_731 rfl (lv_at hl 3 rfl) ?_
  obtain ⟨w1, hcw1, hf⟩ := bd_ob hf
  refine wrSWb (As := [.ref (Q 0 0), .int a1, .int a2, .ref a]) (rest := []) [wL cJ a w1.2, wXO Q, wC cI (Q 1) (X 1), wC cI (Q 2) (X 2), wS (Q 3) (Q 4 0) (Q 5 0) (Q 6 0) (Q 7 0) (X 3), wT cB (Q 4) (X 4), wC cI (Q 5) (X 5), wA (Q 6) (X 6), wP (Q 7) (X 7), wH cO (Q 8) (Q 9 0) (Q 10 0) (Q 11 0) (Q 12 0) (Q 13 0) (Q 14 0) (Q 15 0) (Q 16 0) (X 8), wC cI (Q 9) (X 9), wC cI (Q 10) (X 10), wC cI (Q 11) (X 11), wC cI (Q 12) (X 12), wC cI (Q 13) (X 13), wC cI (Q 14) (X 14), wC cI (Q 15) (X 15), wC cI (Q 16) (X 16), wXS cO (Q 17) (Q 18 0) (Q 19 0), wC cI (Q 18) (X 18), wC cI (Q 19) (X 19), wXF cZ (Q 20) (X 20), wA (Q 21) (X 21), wP (Q 22) (X 22), wO cB (Q 23) (X 23), wM cI cB cZ q z] ⟨hx, hb, hml, hown, hts⟩ (mL_find l D cI cB cZ cO cJ aK aV mK hst Q a _ fu o (X 0) (X 1) (X 2) (X 3) (X 4) (X 5) (X 6) (X 7) (X 8) (X 9) (X 10) (X 11) (X 12) (X 13) (X 14) (X 15) (X 16) (X 17) (X 18) (X 19) (X 20) (X 21) (X 22) (X 23) a1 a2 hcw1) (vx_cwSW 4 hts gL_law_L_find rfl rfl rfl (by decide +kernel) ⟨Nat.le_of_ble_eq_true rfl, Nat.le_of_ble_eq_true rfl⟩) (EW_ok aK aV mK) ((EW_ok aK aV mK).2.2.1 _ _ _ _ hS.2.1 hE) hK hP hD hS hA [0, 1, 2, 3, 4, 5, 6, 7, 8, 9, 10, 11, 12, 13, 14, 15, 16, 17, 18, 19, 20, 21, 22, 23, 24] [25] 26 rfl (by decide +kernel) rfl rfl [wM cI cB cZ q z] rfl rfl rfl rfl hl.1 rfl (Nat.le_of_ble_eq_true rfl) dL_law_732 ⟨by show _ ≤ 601024; omega, by show _ ≤ 7293034; omega⟩ (fun H locs hP hD hS => ?_)
  refine lv_istore (lv' := [(5, .int w1.1), (0, .ref b), (1, .ref (Q 0 0)), (2, .ref (q 0)), (3, .ref a), (4, .int i)]) hx hb dL_law_735 hl (by decide) rfl (fun ls hl => ?_)
  refine lv_aload_n hx hb dL_law_737 rfl (lv_at hl 3 rfl) ?_
  refine lv_aload_n hx hb dL_law_738 rfl (lv_at hl 1 rfl) ?_
  refine lv_iload hx hb dL_law_739 (lv_at hl 5 rfl) ?_
  refine lv_iconst (v := 1) hx hb dL_law_741 (by decide) ?_
  refine lv_iadd hx hb dL_law_742 ?_
  refine va_sldE hx hb hX hbl hbA hS n1 e1 dL_law_743 ?_
  refine lv_aload_n hx hb dL_law_744 rfl (lv_at hl 1 rfl) ?_
  refine lv_iload hx hb dL_law_745 (lv_at hl 5 rfl) ?_
  refine lv_iconst (v := 2) hx hb dL_law_747 (by decide) ?_
  refine lv_iadd hx hb dL_law_748 ?_
  refine va_sldE hx hb hX hbl hbA hS n2 e2 dL_law_749 ?_
  obtain ⟨w2, hcw2, hf⟩ := bd_ob hf
  refine wrVb (As := [.int a1, .int a2]) (rest := []) [wL cJ a w1.2, wXO Q, wC cI (Q 1) (X 1), wC cI (Q 2) (X 2), wS (Q 3) (Q 4 0) (Q 5 0) (Q 6 0) (Q 7 0) (X 3), wT cB (Q 4) (X 4), wC cI (Q 5) (X 5), wA (Q 6) (X 6), wP (Q 7) (X 7), wH cO (Q 8) (Q 9 0) (Q 10 0) (Q 11 0) (Q 12 0) (Q 13 0) (Q 14 0) (Q 15 0) (Q 16 0) (X 8), wC cI (Q 9) (X 9), wC cI (Q 10) (X 10), wC cI (Q 11) (X 11), wC cI (Q 12) (X 12), wC cI (Q 13) (X 13), wC cI (Q 14) (X 14), wC cI (Q 15) (X 15), wC cI (Q 16) (X 16), wXS cO (Q 17) (Q 18 0) (Q 19 0), wC cI (Q 18) (X 18), wC cI (Q 19) (X 19), wXF cZ (Q 20) (X 20), wA (Q 21) (X 21), wP (Q 22) (X 22), wO cB (Q 23) (X 23), wM cI cB cZ q w2.2] ⟨hx, hb, hml, hown, hts⟩ (mX9_find l D cI cB cZ cO q _ fu z a1 a2 hcw2) (cwV 2 hts gL_law_X9_find rfl rfl rfl (by decide +kernel) ⟨Nat.le_of_ble_eq_true rfl, Nat.le_of_ble_eq_true rfl⟩) (hK.sub [0, 1, 2, 3] rfl) hP hD hS hA [25] [0, 1, 2, 3, 4, 5, 6, 7, 8, 9, 10, 11, 12, 13, 14, 15, 16, 17, 18, 19, 20, 21, 22, 23, 24] 26 rfl (by decide +kernel) rfl rfl [wL cJ a w1.2, wXO Q, wC cI (Q 1) (X 1), wC cI (Q 2) (X 2), wS (Q 3) (Q 4 0) (Q 5 0) (Q 6 0) (Q 7 0) (X 3), wT cB (Q 4) (X 4), wC cI (Q 5) (X 5), wA (Q 6) (X 6), wP (Q 7) (X 7), wH cO (Q 8) (Q 9 0) (Q 10 0) (Q 11 0) (Q 12 0) (Q 13 0) (Q 14 0) (Q 15 0) (Q 16 0) (X 8), wC cI (Q 9) (X 9), wC cI (Q 10) (X 10), wC cI (Q 11) (X 11), wC cI (Q 12) (X 12), wC cI (Q 13) (X 13), wC cI (Q 14) (X 14), wC cI (Q 15) (X 15), wC cI (Q 16) (X 16), wXS cO (Q 17) (Q 18 0) (Q 19 0), wC cI (Q 18) (X 18), wC cI (Q 19) (X 19), wXF cZ (Q 20) (X 20), wA (Q 21) (X 21), wP (Q 22) (X 22), wO cB (Q 23) (X 23)] rfl rfl rfl (va_recv hK hP (ci := 8) (q0 := 106) rfl rfl) rfl hl.1 rfl (Nat.le_of_ble_eq_true rfl) dL_law_750 ⟨by show _ ≤ 601024; omega, by show _ ≤ 7293034; omega⟩ (fun H locs hP hD hS => ?_)
  refine lv_istore (lv' := [(6, .int w2.1), (5, .int w1.1), (0, .ref b), (1, .ref (Q 0 0)), (2, .ref (q 0)), (3, .ref a), (4, .int i)]) hx hb dL_law_753 hl (by decide) rfl (fun ls hl => ?_)
  refine lv_aload_n hx hb dL_law_755 rfl (lv_at hl 4 rfl) ?_
  obtain ⟨w3, hcw3, hf⟩ := bd_ob hf
  refine rdV (As := []) (rest := []) ⟨hx, hb, hml, hown, hts⟩ (mX9_thrown l D cI cB cZ cO q fu w2.2 hcw3) (cwV 0 hts gL_law_X9_thrown rfl rfl rfl (by decide +kernel) ⟨Nat.le_of_ble_eq_true rfl, Nat.le_of_ble_eq_true rfl⟩) (hK.sub [0, 1, 2, 3] rfl) (hP.subb [25] rfl) (va_recv hK hP (ci := 8) (q0 := 106) rfl rfl) rfl hl.1 rfl (Nat.le_of_ble_eq_true rfl) dL_law_756 ⟨by show _ ≤ 601024; omega, by show _ ≤ 7293034; omega⟩ ?_
  refine lv_iload hx hb dL_law_759 (lv_at hl 1 rfl) ?_
  refine lv_icmp_eq (tgt := 766) hx hb dL_law_761 (by decide) (fun c6 => ?_) (fun c6 => ?_)
  · have hf := ip c6 hf
    refine lv_iload hx hb dL_law_766 (lv_at hl 1 rfl) ?_
    refine lv_if_ne (tgt := 783) hx hb dL_law_768 (by decide) (fun c5 => ?_) (fun c5 => ?_)
    · have hf := iq c5 hf
      refine lv_goto (tgt := 2902) hx hb dL_law_783 (by decide) ?_
      cases hf
      refine W.widen (k := cells + 8) (n := slots + 48) (by omega) (by omega) ?_
      exact kk _ _ _ hP hD hS (lv_sub hl [2, 3, 4, 5, 6] rfl)
    · have hf := ip c5 hf
      refine lv_aload_n hx hb dL_law_771 rfl (lv_at hl 5 rfl) ?_
      refine lv_iconst (v := 0) hx hb dL_law_772 (by decide) ?_
      refine va_lald hx hb hK hP 0 4 rfl rfl (inB_in (by decide)) dL_law_773 ?_
      refine lv_iload hx hb dL_law_774 (lv_at hl 0 rfl) ?_
      refine lv_i2l hx hb dL_law_776 rfl ?_
      refine W.lcmp hx hb dL_law_777 ?_
      refine lv_if_eq (tgt := 783) hx hb dL_law_778 (by decide) (fun c4 => ?_) (fun c4 => ?_)
      · have hf := ip c4 hf
        refine lv_goto (tgt := 2902) hx hb dL_law_783 (by decide) ?_
        cases hf
        refine W.widen (k := cells + 8) (n := slots + 48) (by omega) (by omega) ?_
        exact kk _ _ _ hP hD hS (lv_sub hl [2, 3, 4, 5, 6] rfl)
      · have hf := iq c4 hf
        exact no_ob hf
  · have hf := iq c6 hf
    exact no_ob hf
set_option maxRecDepth 100000 in
set_option maxHeartbeats 4000000 in
theorem wL_12 {p : Program} {l : Launch} {e : Env} {s : State} {m : MethodId} {args : Array Value} {below : List Frame} {meth : Method} {c : Code} {H : Heap} {locs : List Loc} {cells slots : Nat} {Qf : State → Prop} {ls : Array Slot} {D : va_G} {cI cB cZ cO cJ : ClassId} {aK aV mK : Nat → Nat} {Q : Nat → Nat → Nat} {q : Nat → Nat} {a b L fu : Nat} {xs : Nat → Int32} {A : Nat → Prop} {X X1 : Nat → OS} {z z1 : OS} {o o1 : Nat → Int64} {i a1 a2 a3 a4 a5 : Int32} (hst : l.stackTraces = false) (hx : p.tables.exec = Jvm.exec) (hb : c.code = cL_law) (hml : c.maxLocals = 9) (hown : s.vm.findClass RL = some m.cls) (hts : ∀ w ∈ lw_tbl, w.before args s = true) (hK : va_K D vwCl (gL cI cB cZ cO cJ) s) (hA : ∀ q : Nat, s.heap.size ≤ q → A q) (hX : va_X b L xs s s.heap) (hbl : b < s.heap.size) (hbA : ¬ A b) (hE : EW aK aV mK A s s.heap) (hS : va_S A s.heap H locs) (hl : lv_has ls 9 [(0, .ref b), (1, .ref (Q 0 0)), (2, .ref (q 0)), (3, .ref a), (4, .int i)]) (n1 : vp_in (i + 1) L) (n2 : vp_in (i + 2) L) (n3 : vp_in (i + 3) L) (n4 : vp_in (i + 4) L) (n5 : vp_in (i + 5) L) (e1 : xs (i + 1).toNatClampNeg = a1) (e2 : xs (i + 2).toNatClampNeg = a2) (e3 : xs (i + 3).toNatClampNeg = a3) (e4 : xs (i + 4).toNatClampNeg = a4) (e5 : xs (i + 5).toNatClampNeg = a5) (hcl : cells + 8 ≤ 601024) (hsl : slots + 48 ≤ 7293034) (kk : ∀ (H1 : Heap) (locs1 : List Loc) (ls1 : Array Slot), va_P D vwCl (fl (lawW cI cB cZ cO cJ Q q a X1 z1 o1)) H1 → va_D A (fl (lawW cI cB cZ cO cJ Q q a X1 z1 o1)) → va_S A s.heap H1 locs1 → lv_has ls1 9 [(0, .ref b), (1, .ref (Q 0 0)), (2, .ref (q 0)), (3, .ref a), (4, .int i)] → W p l e room_1 s m args below meth c H1 locs1 (cells + 8) (slots + 48) Qf (F0 m 2902 ls1 [])) (hP : va_P D vwCl (fl (lawW cI cB cZ cO cJ Q q a X z o)) H) (hD : va_D A (fl (lawW cI cB cZ cO cJ Q q a X z o))) (hf : cL_12 fu a1 a2 a3 a4 a5 X z o = some (X1, z1, o1)) : W p l e room_1 s m args below meth c H locs cells slots Qf (F0 m 786 ls []) := by
  unfold cL_12 at hf
  refine lv_aload_n hx hb dL_law_786 rfl (lv_at hl 1 rfl) ?_
  refine lv_aload_n hx hb dL_law_787 rfl (lv_at hl 0 rfl) ?_
  refine lv_iload hx hb dL_law_788 (lv_at hl 4 rfl) ?_
  refine lv_iconst (v := 1) hx hb dL_law_790 (by decide) ?_
  refine lv_iadd hx hb dL_law_791 ?_
  refine va_sldE hx hb hX hbl hbA hS n1 e1 dL_law_792 ?_
  refine lv_aload_n hx hb dL_law_793 rfl (lv_at hl 3 rfl) ?_
  obtain ⟨w1, hcw1, hf⟩ := bd_ob hf
  refine wrSWb (As := [.ref (Q 0 0), .int a1, .ref a]) (rest := []) [wL cJ a w1.2, wXO Q, wC cI (Q 1) (X 1), wC cI (Q 2) (X 2), wS (Q 3) (Q 4 0) (Q 5 0) (Q 6 0) (Q 7 0) (X 3), wT cB (Q 4) (X 4), wC cI (Q 5) (X 5), wA (Q 6) (X 6), wP (Q 7) (X 7), wH cO (Q 8) (Q 9 0) (Q 10 0) (Q 11 0) (Q 12 0) (Q 13 0) (Q 14 0) (Q 15 0) (Q 16 0) (X 8), wC cI (Q 9) (X 9), wC cI (Q 10) (X 10), wC cI (Q 11) (X 11), wC cI (Q 12) (X 12), wC cI (Q 13) (X 13), wC cI (Q 14) (X 14), wC cI (Q 15) (X 15), wC cI (Q 16) (X 16), wXS cO (Q 17) (Q 18 0) (Q 19 0), wC cI (Q 18) (X 18), wC cI (Q 19) (X 19), wXF cZ (Q 20) (X 20), wA (Q 21) (X 21), wP (Q 22) (X 22), wO cB (Q 23) (X 23), wM cI cB cZ q z] ⟨hx, hb, hml, hown, hts⟩ (mL_isGiven l D cI cB cZ cO cJ aK aV mK hst Q a _ fu o (X 0) (X 1) (X 2) (X 3) (X 4) (X 5) (X 6) (X 7) (X 8) (X 9) (X 10) (X 11) (X 12) (X 13) (X 14) (X 15) (X 16) (X 17) (X 18) (X 19) (X 20) (X 21) (X 22) (X 23) a1 hcw1) (vx_cwSW 3 hts gL_law_L_isGiven rfl rfl rfl (by decide +kernel) ⟨Nat.le_of_ble_eq_true rfl, Nat.le_of_ble_eq_true rfl⟩) (EW_ok aK aV mK) ((EW_ok aK aV mK).2.2.1 _ _ _ _ hS.2.1 hE) hK hP hD hS hA [0, 1, 2, 3, 4, 5, 6, 7, 8, 9, 10, 11, 12, 13, 14, 15, 16, 17, 18, 19, 20, 21, 22, 23, 24] [25] 26 rfl (by decide +kernel) rfl rfl [wM cI cB cZ q z] rfl rfl rfl rfl hl.1 rfl (Nat.le_of_ble_eq_true rfl) dL_law_794 ⟨by show _ ≤ 601024; omega, by show _ ≤ 7293034; omega⟩ (fun H locs hP hD hS => ?_)
  refine lv_istore (lv' := [(5, .int w1.1), (0, .ref b), (1, .ref (Q 0 0)), (2, .ref (q 0)), (3, .ref a), (4, .int i)]) hx hb dL_law_797 hl (by decide) rfl (fun ls hl => ?_)
  refine lv_aload_n hx hb dL_law_799 rfl (lv_at hl 3 rfl) ?_
  refine lv_aload_n hx hb dL_law_800 rfl (lv_at hl 1 rfl) ?_
  refine lv_iload hx hb dL_law_801 (lv_at hl 5 rfl) ?_
  refine lv_iconst (v := 1) hx hb dL_law_803 (by decide) ?_
  refine lv_iadd hx hb dL_law_804 ?_
  refine va_sldE hx hb hX hbl hbA hS n1 e1 dL_law_805 ?_
  obtain ⟨w2, hcw2, hf⟩ := bd_ob hf
  refine wrVb (As := [.int a1]) (rest := []) [wL cJ a w1.2, wXO Q, wC cI (Q 1) (X 1), wC cI (Q 2) (X 2), wS (Q 3) (Q 4 0) (Q 5 0) (Q 6 0) (Q 7 0) (X 3), wT cB (Q 4) (X 4), wC cI (Q 5) (X 5), wA (Q 6) (X 6), wP (Q 7) (X 7), wH cO (Q 8) (Q 9 0) (Q 10 0) (Q 11 0) (Q 12 0) (Q 13 0) (Q 14 0) (Q 15 0) (Q 16 0) (X 8), wC cI (Q 9) (X 9), wC cI (Q 10) (X 10), wC cI (Q 11) (X 11), wC cI (Q 12) (X 12), wC cI (Q 13) (X 13), wC cI (Q 14) (X 14), wC cI (Q 15) (X 15), wC cI (Q 16) (X 16), wXS cO (Q 17) (Q 18 0) (Q 19 0), wC cI (Q 18) (X 18), wC cI (Q 19) (X 19), wXF cZ (Q 20) (X 20), wA (Q 21) (X 21), wP (Q 22) (X 22), wO cB (Q 23) (X 23), wM cI cB cZ q w2.2] ⟨hx, hb, hml, hown, hts⟩ (mX9_isGiven l D cI cB cZ cO q _ fu z a1 hcw2) (cwV 1 hts gL_law_X9_isGiven rfl rfl rfl (by decide +kernel) ⟨Nat.le_of_ble_eq_true rfl, Nat.le_of_ble_eq_true rfl⟩) (hK.sub [0, 1, 2, 3] rfl) hP hD hS hA [25] [0, 1, 2, 3, 4, 5, 6, 7, 8, 9, 10, 11, 12, 13, 14, 15, 16, 17, 18, 19, 20, 21, 22, 23, 24] 26 rfl (by decide +kernel) rfl rfl [wL cJ a w1.2, wXO Q, wC cI (Q 1) (X 1), wC cI (Q 2) (X 2), wS (Q 3) (Q 4 0) (Q 5 0) (Q 6 0) (Q 7 0) (X 3), wT cB (Q 4) (X 4), wC cI (Q 5) (X 5), wA (Q 6) (X 6), wP (Q 7) (X 7), wH cO (Q 8) (Q 9 0) (Q 10 0) (Q 11 0) (Q 12 0) (Q 13 0) (Q 14 0) (Q 15 0) (Q 16 0) (X 8), wC cI (Q 9) (X 9), wC cI (Q 10) (X 10), wC cI (Q 11) (X 11), wC cI (Q 12) (X 12), wC cI (Q 13) (X 13), wC cI (Q 14) (X 14), wC cI (Q 15) (X 15), wC cI (Q 16) (X 16), wXS cO (Q 17) (Q 18 0) (Q 19 0), wC cI (Q 18) (X 18), wC cI (Q 19) (X 19), wXF cZ (Q 20) (X 20), wA (Q 21) (X 21), wP (Q 22) (X 22), wO cB (Q 23) (X 23)] rfl rfl rfl (va_recv hK hP (ci := 8) (q0 := 106) rfl rfl) rfl hl.1 rfl (Nat.le_of_ble_eq_true rfl) dL_law_806 ⟨by show _ ≤ 601024; omega, by show _ ≤ 7293034; omega⟩ (fun H locs hP hD hS => ?_)
  refine lv_istore (lv' := [(6, .int w2.1), (5, .int w1.1), (0, .ref b), (1, .ref (Q 0 0)), (2, .ref (q 0)), (3, .ref a), (4, .int i)]) hx hb dL_law_809 hl (by decide) rfl (fun ls hl => ?_)
  refine lv_aload_n hx hb dL_law_811 rfl (lv_at hl 4 rfl) ?_
  obtain ⟨w3, hcw3, hf⟩ := bd_ob hf
  refine rdV (As := []) (rest := []) ⟨hx, hb, hml, hown, hts⟩ (mX9_thrown l D cI cB cZ cO q fu w2.2 hcw3) (cwV 0 hts gL_law_X9_thrown rfl rfl rfl (by decide +kernel) ⟨Nat.le_of_ble_eq_true rfl, Nat.le_of_ble_eq_true rfl⟩) (hK.sub [0, 1, 2, 3] rfl) (hP.subb [25] rfl) (va_recv hK hP (ci := 8) (q0 := 106) rfl rfl) rfl hl.1 rfl (Nat.le_of_ble_eq_true rfl) dL_law_812 ⟨by show _ ≤ 601024; omega, by show _ ≤ 7293034; omega⟩ ?_
  refine lv_iload hx hb dL_law_815 (lv_at hl 1 rfl) ?_
  refine lv_icmp_eq (tgt := 822) hx hb dL_law_817 (by decide) (fun c8 => ?_) (fun c8 => ?_)
  · have hf := ip c8 hf
    refine lv_iload hx hb dL_law_822 (lv_at hl 1 rfl) ?_
    refine lv_if_ne (tgt := 846) hx hb dL_law_824 (by decide) (fun c7 => ?_) (fun c7 => ?_)
    · have hf := iq c7 hf
      refine lv_goto (tgt := 2902) hx hb dL_law_846 (by decide) ?_
      cases hf
      refine W.widen (k := cells + 8) (n := slots + 48) (by omega) (by omega) ?_
      exact kk _ _ _ hP hD hS (lv_sub hl [2, 3, 4, 5, 6] rfl)
    · have hf := ip c7 hf
      refine lv_aload_n hx hb dL_law_827 rfl (lv_at hl 5 rfl) ?_
      refine lv_iconst (v := 0) hx hb dL_law_828 (by decide) ?_
      refine va_lald hx hb hK hP 0 4 rfl rfl (inB_in (by decide)) dL_law_829 ?_
      refine lv_iload hx hb dL_law_830 (lv_at hl 0 rfl) ?_
      refine lv_if_eq (tgt := 839) hx hb dL_law_832 (by decide) (fun c6 => ?_) (fun c6 => ?_)
      · have hf := ip c6 hf
        refine lv_lconst (v := 0) hx hb dL_law_839 (by decide) ?_
        refine W.lcmp hx hb dL_law_840 ?_
        refine lv_if_eq (tgt := 846) hx hb dL_law_841 (by decide) (fun c4 => ?_) (fun c4 => ?_)
        · have hf := ip c4 hf
          refine lv_goto (tgt := 2902) hx hb dL_law_846 (by decide) ?_
          cases hf
          refine W.widen (k := cells + 8) (n := slots + 48) (by omega) (by omega) ?_
          exact kk _ _ _ hP hD hS (lv_sub hl [2, 3, 4, 5, 6] rfl)
        · have hf := iq c4 hf
          exact no_ob hf
      · have hf := iq c6 hf
        refine lv_lconst (v := 1) hx hb dL_law_835 (by decide) ?_
        refine lv_goto (tgt := 840) hx hb dL_law_836 (by decide) ?_
        refine W.lcmp hx hb dL_law_840 ?_
        refine lv_if_eq (tgt := 846) hx hb dL_law_841 (by decide) (fun c5 => ?_) (fun c5 => ?_)
        · have hf := ip c5 hf
          refine lv_goto (tgt := 2902) hx hb dL_law_846 (by decide) ?_
          cases hf
          refine W.widen (k := cells + 8) (n := slots + 48) (by omega) (by omega) ?_
          exact kk _ _ _ hP hD hS (lv_sub hl [2, 3, 4, 5, 6] rfl)
        · have hf := iq c5 hf
          exact no_ob hf
  · have hf := iq c8 hf
    exact no_ob hf
set_option maxRecDepth 100000 in
set_option maxHeartbeats 4000000 in
theorem wL_13 {p : Program} {l : Launch} {e : Env} {s : State} {m : MethodId} {args : Array Value} {below : List Frame} {meth : Method} {c : Code} {H : Heap} {locs : List Loc} {cells slots : Nat} {Qf : State → Prop} {ls : Array Slot} {D : va_G} {cI cB cZ cO cJ : ClassId} {aK aV mK : Nat → Nat} {Q : Nat → Nat → Nat} {q : Nat → Nat} {a b L fu : Nat} {xs : Nat → Int32} {A : Nat → Prop} {X X1 : Nat → OS} {z z1 : OS} {o o1 : Nat → Int64} {i a1 a2 a3 a4 a5 : Int32} (hst : l.stackTraces = false) (hx : p.tables.exec = Jvm.exec) (hb : c.code = cL_law) (hml : c.maxLocals = 9) (hown : s.vm.findClass RL = some m.cls) (hts : ∀ w ∈ lw_tbl, w.before args s = true) (hK : va_K D vwCl (gL cI cB cZ cO cJ) s) (hA : ∀ q : Nat, s.heap.size ≤ q → A q) (hX : va_X b L xs s s.heap) (hbl : b < s.heap.size) (hbA : ¬ A b) (hE : EW aK aV mK A s s.heap) (hS : va_S A s.heap H locs) (hl : lv_has ls 9 [(0, .ref b), (1, .ref (Q 0 0)), (2, .ref (q 0)), (3, .ref a), (4, .int i)]) (n1 : vp_in (i + 1) L) (n2 : vp_in (i + 2) L) (n3 : vp_in (i + 3) L) (n4 : vp_in (i + 4) L) (n5 : vp_in (i + 5) L) (e1 : xs (i + 1).toNatClampNeg = a1) (e2 : xs (i + 2).toNatClampNeg = a2) (e3 : xs (i + 3).toNatClampNeg = a3) (e4 : xs (i + 4).toNatClampNeg = a4) (e5 : xs (i + 5).toNatClampNeg = a5) (hcl : cells + 8 ≤ 601024) (hsl : slots + 48 ≤ 7293034) (kk : ∀ (H1 : Heap) (locs1 : List Loc) (ls1 : Array Slot), va_P D vwCl (fl (lawW cI cB cZ cO cJ Q q a X1 z1 o1)) H1 → va_D A (fl (lawW cI cB cZ cO cJ Q q a X1 z1 o1)) → va_S A s.heap H1 locs1 → lv_has ls1 9 [(0, .ref b), (1, .ref (Q 0 0)), (2, .ref (q 0)), (3, .ref a), (4, .int i)] → W p l e room_1 s m args below meth c H1 locs1 (cells + 8) (slots + 48) Qf (F0 m 2902 ls1 [])) (hP : va_P D vwCl (fl (lawW cI cB cZ cO cJ Q q a X z o)) H) (hD : va_D A (fl (lawW cI cB cZ cO cJ Q q a X z o))) (hf : cL_13 fu a1 a2 a3 a4 a5 X z o = some (X1, z1, o1)) : W p l e room_1 s m args below meth c H locs cells slots Qf (F0 m 849 ls []) := by
  unfold cL_13 at hf
  refine lv_aload_n hx hb dL_law_849 rfl (lv_at hl 1 rfl) ?_
  refine lv_aload_n hx hb dL_law_850 rfl (lv_at hl 0 rfl) ?_
  refine lv_iload hx hb dL_law_851 (lv_at hl 4 rfl) ?_
  refine lv_iconst (v := 1) hx hb dL_law_853 (by decide) ?_
  refine lv_iadd hx hb dL_law_854 ?_
  refine va_sldE hx hb hX hbl hbA hS n1 e1 dL_law_855 ?_
  refine lv_aload_n hx hb dL_law_856 rfl (lv_at hl 3 rfl) ?_
  obtain ⟨w1, hcw1, hf⟩ := bd_ob hf
  refine wrSWb (As := [.ref (Q 0 0), .int a1, .ref a]) (rest := []) [wL cJ a w1.2, wXO Q, wC cI (Q 1) (X 1), wC cI (Q 2) (X 2), wS (Q 3) (Q 4 0) (Q 5 0) (Q 6 0) (Q 7 0) (X 3), wT cB (Q 4) (X 4), wC cI (Q 5) (X 5), wA (Q 6) (X 6), wP (Q 7) (X 7), wH cO (Q 8) (Q 9 0) (Q 10 0) (Q 11 0) (Q 12 0) (Q 13 0) (Q 14 0) (Q 15 0) (Q 16 0) (X 8), wC cI (Q 9) (X 9), wC cI (Q 10) (X 10), wC cI (Q 11) (X 11), wC cI (Q 12) (X 12), wC cI (Q 13) (X 13), wC cI (Q 14) (X 14), wC cI (Q 15) (X 15), wC cI (Q 16) (X 16), wXS cO (Q 17) (Q 18 0) (Q 19 0), wC cI (Q 18) (X 18), wC cI (Q 19) (X 19), wXF cZ (Q 20) (X 20), wA (Q 21) (X 21), wP (Q 22) (X 22), wO cB (Q 23) (X 23), wM cI cB cZ q z] ⟨hx, hb, hml, hown, hts⟩ (mL_positiveParent l D cI cB cZ cO cJ aK aV mK hst Q a _ fu o (X 0) (X 1) (X 2) (X 3) (X 4) (X 5) (X 6) (X 7) (X 8) (X 9) (X 10) (X 11) (X 12) (X 13) (X 14) (X 15) (X 16) (X 17) (X 18) (X 19) (X 20) (X 21) (X 22) (X 23) a1 hcw1) (vx_cwSW 3 hts gL_law_L_positiveParent rfl rfl rfl (by decide +kernel) ⟨Nat.le_of_ble_eq_true rfl, Nat.le_of_ble_eq_true rfl⟩) (EW_ok aK aV mK) ((EW_ok aK aV mK).2.2.1 _ _ _ _ hS.2.1 hE) hK hP hD hS hA [0, 1, 2, 3, 4, 5, 6, 7, 8, 9, 10, 11, 12, 13, 14, 15, 16, 17, 18, 19, 20, 21, 22, 23, 24] [25] 26 rfl (by decide +kernel) rfl rfl [wM cI cB cZ q z] rfl rfl rfl rfl hl.1 rfl (Nat.le_of_ble_eq_true rfl) dL_law_857 ⟨by show _ ≤ 601024; omega, by show _ ≤ 7293034; omega⟩ (fun H locs hP hD hS => ?_)
  refine lv_istore (lv' := [(5, .int w1.1), (0, .ref b), (1, .ref (Q 0 0)), (2, .ref (q 0)), (3, .ref a), (4, .int i)]) hx hb dL_law_860 hl (by decide) rfl (fun ls hl => ?_)
  refine lv_aload_n hx hb dL_law_862 rfl (lv_at hl 3 rfl) ?_
  refine lv_aload_n hx hb dL_law_863 rfl (lv_at hl 1 rfl) ?_
  refine lv_iload hx hb dL_law_864 (lv_at hl 5 rfl) ?_
  refine lv_iconst (v := 1) hx hb dL_law_866 (by decide) ?_
  refine lv_iadd hx hb dL_law_867 ?_
  refine va_sldE hx hb hX hbl hbA hS n1 e1 dL_law_868 ?_
  obtain ⟨w2, hcw2, hf⟩ := bd_ob hf
  refine wrVb (As := [.int a1]) (rest := []) [wL cJ a w1.2, wXO Q, wC cI (Q 1) (X 1), wC cI (Q 2) (X 2), wS (Q 3) (Q 4 0) (Q 5 0) (Q 6 0) (Q 7 0) (X 3), wT cB (Q 4) (X 4), wC cI (Q 5) (X 5), wA (Q 6) (X 6), wP (Q 7) (X 7), wH cO (Q 8) (Q 9 0) (Q 10 0) (Q 11 0) (Q 12 0) (Q 13 0) (Q 14 0) (Q 15 0) (Q 16 0) (X 8), wC cI (Q 9) (X 9), wC cI (Q 10) (X 10), wC cI (Q 11) (X 11), wC cI (Q 12) (X 12), wC cI (Q 13) (X 13), wC cI (Q 14) (X 14), wC cI (Q 15) (X 15), wC cI (Q 16) (X 16), wXS cO (Q 17) (Q 18 0) (Q 19 0), wC cI (Q 18) (X 18), wC cI (Q 19) (X 19), wXF cZ (Q 20) (X 20), wA (Q 21) (X 21), wP (Q 22) (X 22), wO cB (Q 23) (X 23), wM cI cB cZ q w2.2] ⟨hx, hb, hml, hown, hts⟩ (mX9_positiveParent l D cI cB cZ cO q _ fu z a1 hcw2) (cwV 1 hts gL_law_X9_positiveParent rfl rfl rfl (by decide +kernel) ⟨Nat.le_of_ble_eq_true rfl, Nat.le_of_ble_eq_true rfl⟩) (hK.sub [0, 1, 2, 3] rfl) hP hD hS hA [25] [0, 1, 2, 3, 4, 5, 6, 7, 8, 9, 10, 11, 12, 13, 14, 15, 16, 17, 18, 19, 20, 21, 22, 23, 24] 26 rfl (by decide +kernel) rfl rfl [wL cJ a w1.2, wXO Q, wC cI (Q 1) (X 1), wC cI (Q 2) (X 2), wS (Q 3) (Q 4 0) (Q 5 0) (Q 6 0) (Q 7 0) (X 3), wT cB (Q 4) (X 4), wC cI (Q 5) (X 5), wA (Q 6) (X 6), wP (Q 7) (X 7), wH cO (Q 8) (Q 9 0) (Q 10 0) (Q 11 0) (Q 12 0) (Q 13 0) (Q 14 0) (Q 15 0) (Q 16 0) (X 8), wC cI (Q 9) (X 9), wC cI (Q 10) (X 10), wC cI (Q 11) (X 11), wC cI (Q 12) (X 12), wC cI (Q 13) (X 13), wC cI (Q 14) (X 14), wC cI (Q 15) (X 15), wC cI (Q 16) (X 16), wXS cO (Q 17) (Q 18 0) (Q 19 0), wC cI (Q 18) (X 18), wC cI (Q 19) (X 19), wXF cZ (Q 20) (X 20), wA (Q 21) (X 21), wP (Q 22) (X 22), wO cB (Q 23) (X 23)] rfl rfl rfl (va_recv hK hP (ci := 8) (q0 := 106) rfl rfl) rfl hl.1 rfl (Nat.le_of_ble_eq_true rfl) dL_law_869 ⟨by show _ ≤ 601024; omega, by show _ ≤ 7293034; omega⟩ (fun H locs hP hD hS => ?_)
  refine lv_istore (lv' := [(6, .int w2.1), (5, .int w1.1), (0, .ref b), (1, .ref (Q 0 0)), (2, .ref (q 0)), (3, .ref a), (4, .int i)]) hx hb dL_law_872 hl (by decide) rfl (fun ls hl => ?_)
  refine lv_aload_n hx hb dL_law_874 rfl (lv_at hl 4 rfl) ?_
  obtain ⟨w3, hcw3, hf⟩ := bd_ob hf
  refine rdV (As := []) (rest := []) ⟨hx, hb, hml, hown, hts⟩ (mX9_thrown l D cI cB cZ cO q fu w2.2 hcw3) (cwV 0 hts gL_law_X9_thrown rfl rfl rfl (by decide +kernel) ⟨Nat.le_of_ble_eq_true rfl, Nat.le_of_ble_eq_true rfl⟩) (hK.sub [0, 1, 2, 3] rfl) (hP.subb [25] rfl) (va_recv hK hP (ci := 8) (q0 := 106) rfl rfl) rfl hl.1 rfl (Nat.le_of_ble_eq_true rfl) dL_law_875 ⟨by show _ ≤ 601024; omega, by show _ ≤ 7293034; omega⟩ ?_
  refine lv_iload hx hb dL_law_878 (lv_at hl 1 rfl) ?_
  refine lv_icmp_eq (tgt := 885) hx hb dL_law_880 (by decide) (fun c6 => ?_) (fun c6 => ?_)
  · have hf := ip c6 hf
    refine lv_iload hx hb dL_law_885 (lv_at hl 1 rfl) ?_
    refine lv_if_ne (tgt := 902) hx hb dL_law_887 (by decide) (fun c5 => ?_) (fun c5 => ?_)
    · have hf := iq c5 hf
      refine lv_goto (tgt := 2902) hx hb dL_law_902 (by decide) ?_
      cases hf
      refine W.widen (k := cells + 8) (n := slots + 48) (by omega) (by omega) ?_
      exact kk _ _ _ hP hD hS (lv_sub hl [2, 3, 4, 5, 6] rfl)
    · have hf := ip c5 hf
      refine lv_aload_n hx hb dL_law_890 rfl (lv_at hl 5 rfl) ?_
      refine lv_iconst (v := 0) hx hb dL_law_891 (by decide) ?_
      refine va_lald hx hb hK hP 0 4 rfl rfl (inB_in (by decide)) dL_law_892 ?_
      refine lv_iload hx hb dL_law_893 (lv_at hl 0 rfl) ?_
      refine lv_i2l hx hb dL_law_895 rfl ?_
      refine W.lcmp hx hb dL_law_896 ?_
      refine lv_if_eq (tgt := 902) hx hb dL_law_897 (by decide) (fun c4 => ?_) (fun c4 => ?_)
      · have hf := ip c4 hf
        refine lv_goto (tgt := 2902) hx hb dL_law_902 (by decide) ?_
        cases hf
        refine W.widen (k := cells + 8) (n := slots + 48) (by omega) (by omega) ?_
        exact kk _ _ _ hP hD hS (lv_sub hl [2, 3, 4, 5, 6] rfl)
      · have hf := iq c4 hf
        exact no_ob hf
  · have hf := iq c6 hf
    exact no_ob hf
set_option maxRecDepth 100000 in
set_option maxHeartbeats 4000000 in
theorem wL_14 {p : Program} {l : Launch} {e : Env} {s : State} {m : MethodId} {args : Array Value} {below : List Frame} {meth : Method} {c : Code} {H : Heap} {locs : List Loc} {cells slots : Nat} {Qf : State → Prop} {ls : Array Slot} {D : va_G} {cI cB cZ cO cJ : ClassId} {aK aV mK : Nat → Nat} {Q : Nat → Nat → Nat} {q : Nat → Nat} {a b L fu : Nat} {xs : Nat → Int32} {A : Nat → Prop} {X X1 : Nat → OS} {z z1 : OS} {o o1 : Nat → Int64} {i a1 a2 a3 a4 a5 : Int32} (hst : l.stackTraces = false) (hx : p.tables.exec = Jvm.exec) (hb : c.code = cL_law) (hml : c.maxLocals = 9) (hown : s.vm.findClass RL = some m.cls) (hts : ∀ w ∈ lw_tbl, w.before args s = true) (hK : va_K D vwCl (gL cI cB cZ cO cJ) s) (hA : ∀ q : Nat, s.heap.size ≤ q → A q) (hX : va_X b L xs s s.heap) (hbl : b < s.heap.size) (hbA : ¬ A b) (hE : EW aK aV mK A s s.heap) (hS : va_S A s.heap H locs) (hl : lv_has ls 9 [(0, .ref b), (1, .ref (Q 0 0)), (2, .ref (q 0)), (3, .ref a), (4, .int i)]) (n1 : vp_in (i + 1) L) (n2 : vp_in (i + 2) L) (n3 : vp_in (i + 3) L) (n4 : vp_in (i + 4) L) (n5 : vp_in (i + 5) L) (e1 : xs (i + 1).toNatClampNeg = a1) (e2 : xs (i + 2).toNatClampNeg = a2) (e3 : xs (i + 3).toNatClampNeg = a3) (e4 : xs (i + 4).toNatClampNeg = a4) (e5 : xs (i + 5).toNatClampNeg = a5) (hcl : cells + 8 ≤ 601024) (hsl : slots + 48 ≤ 7293034) (kk : ∀ (H1 : Heap) (locs1 : List Loc) (ls1 : Array Slot), va_P D vwCl (fl (lawW cI cB cZ cO cJ Q q a X1 z1 o1)) H1 → va_D A (fl (lawW cI cB cZ cO cJ Q q a X1 z1 o1)) → va_S A s.heap H1 locs1 → lv_has ls1 9 [(0, .ref b), (1, .ref (Q 0 0)), (2, .ref (q 0)), (3, .ref a), (4, .int i)] → W p l e room_1 s m args below meth c H1 locs1 (cells + 8) (slots + 48) Qf (F0 m 2902 ls1 [])) (hP : va_P D vwCl (fl (lawW cI cB cZ cO cJ Q q a X z o)) H) (hD : va_D A (fl (lawW cI cB cZ cO cJ Q q a X z o))) (hf : cL_14 fu a1 a2 a3 a4 a5 X z o = some (X1, z1, o1)) : W p l e room_1 s m args below meth c H locs cells slots Qf (F0 m 905 ls []) := by
  unfold cL_14 at hf
  refine lv_aload_n hx hb dL_law_905 rfl (lv_at hl 1 rfl) ?_
  refine lv_aload_n hx hb dL_law_906 rfl (lv_at hl 0 rfl) ?_
  refine lv_iload hx hb dL_law_907 (lv_at hl 4 rfl) ?_
  refine lv_iconst (v := 1) hx hb dL_law_909 (by decide) ?_
  refine lv_iadd hx hb dL_law_910 ?_
  refine va_sldE hx hb hX hbl hbA hS n1 e1 dL_law_911 ?_
  refine lv_aload_n hx hb dL_law_912 rfl (lv_at hl 3 rfl) ?_
  obtain ⟨w1, hcw1, hf⟩ := bd_ob hf
  refine wrSWb (As := [.ref (Q 0 0), .int a1, .ref a]) (rest := []) [wL cJ a w1.2, wXO Q, wC cI (Q 1) (X 1), wC cI (Q 2) (X 2), wS (Q 3) (Q 4 0) (Q 5 0) (Q 6 0) (Q 7 0) (X 3), wT cB (Q 4) (X 4), wC cI (Q 5) (X 5), wA (Q 6) (X 6), wP (Q 7) (X 7), wH cO (Q 8) (Q 9 0) (Q 10 0) (Q 11 0) (Q 12 0) (Q 13 0) (Q 14 0) (Q 15 0) (Q 16 0) (X 8), wC cI (Q 9) (X 9), wC cI (Q 10) (X 10), wC cI (Q 11) (X 11), wC cI (Q 12) (X 12), wC cI (Q 13) (X 13), wC cI (Q 14) (X 14), wC cI (Q 15) (X 15), wC cI (Q 16) (X 16), wXS cO (Q 17) (Q 18 0) (Q 19 0), wC cI (Q 18) (X 18), wC cI (Q 19) (X 19), wXF cZ (Q 20) (X 20), wA (Q 21) (X 21), wP (Q 22) (X 22), wO cB (Q 23) (X 23), wM cI cB cZ q z] ⟨hx, hb, hml, hown, hts⟩ (mL_negativeParent l D cI cB cZ cO cJ aK aV mK hst Q a _ fu o (X 0) (X 1) (X 2) (X 3) (X 4) (X 5) (X 6) (X 7) (X 8) (X 9) (X 10) (X 11) (X 12) (X 13) (X 14) (X 15) (X 16) (X 17) (X 18) (X 19) (X 20) (X 21) (X 22) (X 23) a1 hcw1) (vx_cwSW 3 hts gL_law_L_negativeParent rfl rfl rfl (by decide +kernel) ⟨Nat.le_of_ble_eq_true rfl, Nat.le_of_ble_eq_true rfl⟩) (EW_ok aK aV mK) ((EW_ok aK aV mK).2.2.1 _ _ _ _ hS.2.1 hE) hK hP hD hS hA [0, 1, 2, 3, 4, 5, 6, 7, 8, 9, 10, 11, 12, 13, 14, 15, 16, 17, 18, 19, 20, 21, 22, 23, 24] [25] 26 rfl (by decide +kernel) rfl rfl [wM cI cB cZ q z] rfl rfl rfl rfl hl.1 rfl (Nat.le_of_ble_eq_true rfl) dL_law_913 ⟨by show _ ≤ 601024; omega, by show _ ≤ 7293034; omega⟩ (fun H locs hP hD hS => ?_)
  refine lv_istore (lv' := [(5, .int w1.1), (0, .ref b), (1, .ref (Q 0 0)), (2, .ref (q 0)), (3, .ref a), (4, .int i)]) hx hb dL_law_916 hl (by decide) rfl (fun ls hl => ?_)
  refine lv_aload_n hx hb dL_law_918 rfl (lv_at hl 3 rfl) ?_
  refine lv_aload_n hx hb dL_law_919 rfl (lv_at hl 1 rfl) ?_
  refine lv_iload hx hb dL_law_920 (lv_at hl 5 rfl) ?_
  refine lv_iconst (v := 1) hx hb dL_law_922 (by decide) ?_
  refine lv_iadd hx hb dL_law_923 ?_
  refine va_sldE hx hb hX hbl hbA hS n1 e1 dL_law_924 ?_
  obtain ⟨w2, hcw2, hf⟩ := bd_ob hf
  refine wrVb (As := [.int a1]) (rest := []) [wL cJ a w1.2, wXO Q, wC cI (Q 1) (X 1), wC cI (Q 2) (X 2), wS (Q 3) (Q 4 0) (Q 5 0) (Q 6 0) (Q 7 0) (X 3), wT cB (Q 4) (X 4), wC cI (Q 5) (X 5), wA (Q 6) (X 6), wP (Q 7) (X 7), wH cO (Q 8) (Q 9 0) (Q 10 0) (Q 11 0) (Q 12 0) (Q 13 0) (Q 14 0) (Q 15 0) (Q 16 0) (X 8), wC cI (Q 9) (X 9), wC cI (Q 10) (X 10), wC cI (Q 11) (X 11), wC cI (Q 12) (X 12), wC cI (Q 13) (X 13), wC cI (Q 14) (X 14), wC cI (Q 15) (X 15), wC cI (Q 16) (X 16), wXS cO (Q 17) (Q 18 0) (Q 19 0), wC cI (Q 18) (X 18), wC cI (Q 19) (X 19), wXF cZ (Q 20) (X 20), wA (Q 21) (X 21), wP (Q 22) (X 22), wO cB (Q 23) (X 23), wM cI cB cZ q w2.2] ⟨hx, hb, hml, hown, hts⟩ (mX9_negativeParent l D cI cB cZ cO q _ fu z a1 hcw2) (cwV 1 hts gL_law_X9_negativeParent rfl rfl rfl (by decide +kernel) ⟨Nat.le_of_ble_eq_true rfl, Nat.le_of_ble_eq_true rfl⟩) (hK.sub [0, 1, 2, 3] rfl) hP hD hS hA [25] [0, 1, 2, 3, 4, 5, 6, 7, 8, 9, 10, 11, 12, 13, 14, 15, 16, 17, 18, 19, 20, 21, 22, 23, 24] 26 rfl (by decide +kernel) rfl rfl [wL cJ a w1.2, wXO Q, wC cI (Q 1) (X 1), wC cI (Q 2) (X 2), wS (Q 3) (Q 4 0) (Q 5 0) (Q 6 0) (Q 7 0) (X 3), wT cB (Q 4) (X 4), wC cI (Q 5) (X 5), wA (Q 6) (X 6), wP (Q 7) (X 7), wH cO (Q 8) (Q 9 0) (Q 10 0) (Q 11 0) (Q 12 0) (Q 13 0) (Q 14 0) (Q 15 0) (Q 16 0) (X 8), wC cI (Q 9) (X 9), wC cI (Q 10) (X 10), wC cI (Q 11) (X 11), wC cI (Q 12) (X 12), wC cI (Q 13) (X 13), wC cI (Q 14) (X 14), wC cI (Q 15) (X 15), wC cI (Q 16) (X 16), wXS cO (Q 17) (Q 18 0) (Q 19 0), wC cI (Q 18) (X 18), wC cI (Q 19) (X 19), wXF cZ (Q 20) (X 20), wA (Q 21) (X 21), wP (Q 22) (X 22), wO cB (Q 23) (X 23)] rfl rfl rfl (va_recv hK hP (ci := 8) (q0 := 106) rfl rfl) rfl hl.1 rfl (Nat.le_of_ble_eq_true rfl) dL_law_925 ⟨by show _ ≤ 601024; omega, by show _ ≤ 7293034; omega⟩ (fun H locs hP hD hS => ?_)
  refine lv_istore (lv' := [(6, .int w2.1), (5, .int w1.1), (0, .ref b), (1, .ref (Q 0 0)), (2, .ref (q 0)), (3, .ref a), (4, .int i)]) hx hb dL_law_928 hl (by decide) rfl (fun ls hl => ?_)
  refine lv_aload_n hx hb dL_law_930 rfl (lv_at hl 4 rfl) ?_
  obtain ⟨w3, hcw3, hf⟩ := bd_ob hf
  refine rdV (As := []) (rest := []) ⟨hx, hb, hml, hown, hts⟩ (mX9_thrown l D cI cB cZ cO q fu w2.2 hcw3) (cwV 0 hts gL_law_X9_thrown rfl rfl rfl (by decide +kernel) ⟨Nat.le_of_ble_eq_true rfl, Nat.le_of_ble_eq_true rfl⟩) (hK.sub [0, 1, 2, 3] rfl) (hP.subb [25] rfl) (va_recv hK hP (ci := 8) (q0 := 106) rfl rfl) rfl hl.1 rfl (Nat.le_of_ble_eq_true rfl) dL_law_931 ⟨by show _ ≤ 601024; omega, by show _ ≤ 7293034; omega⟩ ?_
  refine lv_iload hx hb dL_law_934 (lv_at hl 1 rfl) ?_
  refine lv_icmp_eq (tgt := 941) hx hb dL_law_936 (by decide) (fun c6 => ?_) (fun c6 => ?_)
  · have hf := ip c6 hf
    refine lv_iload hx hb dL_law_941 (lv_at hl 1 rfl) ?_
    refine lv_if_ne (tgt := 958) hx hb dL_law_943 (by decide) (fun c5 => ?_) (fun c5 => ?_)
    · have hf := iq c5 hf
      refine lv_goto (tgt := 2902) hx hb dL_law_958 (by decide) ?_
      cases hf
      refine W.widen (k := cells + 8) (n := slots + 48) (by omega) (by omega) ?_
      exact kk _ _ _ hP hD hS (lv_sub hl [2, 3, 4, 5, 6] rfl)
    · have hf := ip c5 hf
      refine lv_aload_n hx hb dL_law_946 rfl (lv_at hl 5 rfl) ?_
      refine lv_iconst (v := 0) hx hb dL_law_947 (by decide) ?_
      refine va_lald hx hb hK hP 0 4 rfl rfl (inB_in (by decide)) dL_law_948 ?_
      refine lv_iload hx hb dL_law_949 (lv_at hl 0 rfl) ?_
      refine lv_i2l hx hb dL_law_951 rfl ?_
      refine W.lcmp hx hb dL_law_952 ?_
      refine lv_if_eq (tgt := 958) hx hb dL_law_953 (by decide) (fun c4 => ?_) (fun c4 => ?_)
      · have hf := ip c4 hf
        refine lv_goto (tgt := 2902) hx hb dL_law_958 (by decide) ?_
        cases hf
        refine W.widen (k := cells + 8) (n := slots + 48) (by omega) (by omega) ?_
        exact kk _ _ _ hP hD hS (lv_sub hl [2, 3, 4, 5, 6] rfl)
      · have hf := iq c4 hf
        exact no_ob hf
  · have hf := iq c6 hf
    exact no_ob hf
set_option maxRecDepth 100000 in
set_option maxHeartbeats 4000000 in
theorem wL_15 {p : Program} {l : Launch} {e : Env} {s : State} {m : MethodId} {args : Array Value} {below : List Frame} {meth : Method} {c : Code} {H : Heap} {locs : List Loc} {cells slots : Nat} {Qf : State → Prop} {ls : Array Slot} {D : va_G} {cI cB cZ cO cJ : ClassId} {aK aV mK : Nat → Nat} {Q : Nat → Nat → Nat} {q : Nat → Nat} {a b L fu : Nat} {xs : Nat → Int32} {A : Nat → Prop} {X X1 : Nat → OS} {z z1 : OS} {o o1 : Nat → Int64} {i a1 a2 a3 a4 a5 : Int32} (hst : l.stackTraces = false) (hx : p.tables.exec = Jvm.exec) (hb : c.code = cL_law) (hml : c.maxLocals = 9) (hown : s.vm.findClass RL = some m.cls) (hts : ∀ w ∈ lw_tbl, w.before args s = true) (hK : va_K D vwCl (gL cI cB cZ cO cJ) s) (hA : ∀ q : Nat, s.heap.size ≤ q → A q) (hX : va_X b L xs s s.heap) (hbl : b < s.heap.size) (hbA : ¬ A b) (hE : EW aK aV mK A s s.heap) (hS : va_S A s.heap H locs) (hl : lv_has ls 9 [(0, .ref b), (1, .ref (Q 0 0)), (2, .ref (q 0)), (3, .ref a), (4, .int i)]) (n1 : vp_in (i + 1) L) (n2 : vp_in (i + 2) L) (n3 : vp_in (i + 3) L) (n4 : vp_in (i + 4) L) (n5 : vp_in (i + 5) L) (e1 : xs (i + 1).toNatClampNeg = a1) (e2 : xs (i + 2).toNatClampNeg = a2) (e3 : xs (i + 3).toNatClampNeg = a3) (e4 : xs (i + 4).toNatClampNeg = a4) (e5 : xs (i + 5).toNatClampNeg = a5) (hcl : cells + 8 ≤ 601024) (hsl : slots + 48 ≤ 7293034) (kk : ∀ (H1 : Heap) (locs1 : List Loc) (ls1 : Array Slot), va_P D vwCl (fl (lawW cI cB cZ cO cJ Q q a X1 z1 o1)) H1 → va_D A (fl (lawW cI cB cZ cO cJ Q q a X1 z1 o1)) → va_S A s.heap H1 locs1 → lv_has ls1 9 [(0, .ref b), (1, .ref (Q 0 0)), (2, .ref (q 0)), (3, .ref a), (4, .int i)] → W p l e room_1 s m args below meth c H1 locs1 (cells + 8) (slots + 48) Qf (F0 m 2902 ls1 [])) (hP : va_P D vwCl (fl (lawW cI cB cZ cO cJ Q q a X z o)) H) (hD : va_D A (fl (lawW cI cB cZ cO cJ Q q a X z o))) (hf : cL_15 fu a1 a2 a3 a4 a5 X z o = some (X1, z1, o1)) : W p l e room_1 s m args below meth c H locs cells slots Qf (F0 m 961 ls []) := by
  unfold cL_15 at hf
  refine lv_aload_n hx hb dL_law_961 rfl (lv_at hl 1 rfl) ?_
  refine lv_aload_n hx hb dL_law_962 rfl (lv_at hl 0 rfl) ?_
  refine lv_iload hx hb dL_law_963 (lv_at hl 4 rfl) ?_
  refine lv_iconst (v := 1) hx hb dL_law_965 (by decide) ?_
  refine lv_iadd hx hb dL_law_966 ?_
  refine va_sldE hx hb hX hbl hbA hS n1 e1 dL_law_967 ?_
  refine lv_aload_n hx hb dL_law_968 rfl (lv_at hl 3 rfl) ?_
  obtain ⟨w1, hcw1, hf⟩ := bd_ob hf
  refine wrSWb (As := [.ref (Q 0 0), .int a1, .ref a]) (rest := []) [wL cJ a w1.2, wXO Q, wC cI (Q 1) (X 1), wC cI (Q 2) (X 2), wS (Q 3) (Q 4 0) (Q 5 0) (Q 6 0) (Q 7 0) (X 3), wT cB (Q 4) (X 4), wC cI (Q 5) (X 5), wA (Q 6) (X 6), wP (Q 7) (X 7), wH cO (Q 8) (Q 9 0) (Q 10 0) (Q 11 0) (Q 12 0) (Q 13 0) (Q 14 0) (Q 15 0) (Q 16 0) (X 8), wC cI (Q 9) (X 9), wC cI (Q 10) (X 10), wC cI (Q 11) (X 11), wC cI (Q 12) (X 12), wC cI (Q 13) (X 13), wC cI (Q 14) (X 14), wC cI (Q 15) (X 15), wC cI (Q 16) (X 16), wXS cO (Q 17) (Q 18 0) (Q 19 0), wC cI (Q 18) (X 18), wC cI (Q 19) (X 19), wXF cZ (Q 20) (X 20), wA (Q 21) (X 21), wP (Q 22) (X 22), wO cB (Q 23) (X 23), wM cI cB cZ q z] ⟨hx, hb, hml, hown, hts⟩ (mL_variableOf l D cI cB cZ cO cJ aK aV mK hst Q a _ fu o (X 0) (X 1) (X 2) (X 3) (X 4) (X 5) (X 6) (X 7) (X 8) (X 9) (X 10) (X 11) (X 12) (X 13) (X 14) (X 15) (X 16) (X 17) (X 18) (X 19) (X 20) (X 21) (X 22) (X 23) a1 hcw1) (vx_cwSW 3 hts gL_law_L_variableOf rfl rfl rfl (by decide +kernel) ⟨Nat.le_of_ble_eq_true rfl, Nat.le_of_ble_eq_true rfl⟩) (EW_ok aK aV mK) ((EW_ok aK aV mK).2.2.1 _ _ _ _ hS.2.1 hE) hK hP hD hS hA [0, 1, 2, 3, 4, 5, 6, 7, 8, 9, 10, 11, 12, 13, 14, 15, 16, 17, 18, 19, 20, 21, 22, 23, 24] [25] 26 rfl (by decide +kernel) rfl rfl [wM cI cB cZ q z] rfl rfl rfl rfl hl.1 rfl (Nat.le_of_ble_eq_true rfl) dL_law_969 ⟨by show _ ≤ 601024; omega, by show _ ≤ 7293034; omega⟩ (fun H locs hP hD hS => ?_)
  refine lv_istore (lv' := [(5, .int w1.1), (0, .ref b), (1, .ref (Q 0 0)), (2, .ref (q 0)), (3, .ref a), (4, .int i)]) hx hb dL_law_972 hl (by decide) rfl (fun ls hl => ?_)
  refine lv_aload_n hx hb dL_law_974 rfl (lv_at hl 3 rfl) ?_
  refine lv_aload_n hx hb dL_law_975 rfl (lv_at hl 1 rfl) ?_
  refine lv_iload hx hb dL_law_976 (lv_at hl 5 rfl) ?_
  refine lv_iconst (v := 1) hx hb dL_law_978 (by decide) ?_
  refine lv_iadd hx hb dL_law_979 ?_
  refine va_sldE hx hb hX hbl hbA hS n1 e1 dL_law_980 ?_
  obtain ⟨w2, hcw2, hf⟩ := bd_ob hf
  refine wrVb (As := [.int a1]) (rest := []) [wL cJ a w1.2, wXO Q, wC cI (Q 1) (X 1), wC cI (Q 2) (X 2), wS (Q 3) (Q 4 0) (Q 5 0) (Q 6 0) (Q 7 0) (X 3), wT cB (Q 4) (X 4), wC cI (Q 5) (X 5), wA (Q 6) (X 6), wP (Q 7) (X 7), wH cO (Q 8) (Q 9 0) (Q 10 0) (Q 11 0) (Q 12 0) (Q 13 0) (Q 14 0) (Q 15 0) (Q 16 0) (X 8), wC cI (Q 9) (X 9), wC cI (Q 10) (X 10), wC cI (Q 11) (X 11), wC cI (Q 12) (X 12), wC cI (Q 13) (X 13), wC cI (Q 14) (X 14), wC cI (Q 15) (X 15), wC cI (Q 16) (X 16), wXS cO (Q 17) (Q 18 0) (Q 19 0), wC cI (Q 18) (X 18), wC cI (Q 19) (X 19), wXF cZ (Q 20) (X 20), wA (Q 21) (X 21), wP (Q 22) (X 22), wO cB (Q 23) (X 23), wM cI cB cZ q w2.2] ⟨hx, hb, hml, hown, hts⟩ (mX9_variableOf l D cI cB cZ cO q _ fu z a1 hcw2) (cwV 1 hts gL_law_X9_variableOf rfl rfl rfl (by decide +kernel) ⟨Nat.le_of_ble_eq_true rfl, Nat.le_of_ble_eq_true rfl⟩) (hK.sub [0, 1, 2, 3] rfl) hP hD hS hA [25] [0, 1, 2, 3, 4, 5, 6, 7, 8, 9, 10, 11, 12, 13, 14, 15, 16, 17, 18, 19, 20, 21, 22, 23, 24] 26 rfl (by decide +kernel) rfl rfl [wL cJ a w1.2, wXO Q, wC cI (Q 1) (X 1), wC cI (Q 2) (X 2), wS (Q 3) (Q 4 0) (Q 5 0) (Q 6 0) (Q 7 0) (X 3), wT cB (Q 4) (X 4), wC cI (Q 5) (X 5), wA (Q 6) (X 6), wP (Q 7) (X 7), wH cO (Q 8) (Q 9 0) (Q 10 0) (Q 11 0) (Q 12 0) (Q 13 0) (Q 14 0) (Q 15 0) (Q 16 0) (X 8), wC cI (Q 9) (X 9), wC cI (Q 10) (X 10), wC cI (Q 11) (X 11), wC cI (Q 12) (X 12), wC cI (Q 13) (X 13), wC cI (Q 14) (X 14), wC cI (Q 15) (X 15), wC cI (Q 16) (X 16), wXS cO (Q 17) (Q 18 0) (Q 19 0), wC cI (Q 18) (X 18), wC cI (Q 19) (X 19), wXF cZ (Q 20) (X 20), wA (Q 21) (X 21), wP (Q 22) (X 22), wO cB (Q 23) (X 23)] rfl rfl rfl (va_recv hK hP (ci := 8) (q0 := 106) rfl rfl) rfl hl.1 rfl (Nat.le_of_ble_eq_true rfl) dL_law_981 ⟨by show _ ≤ 601024; omega, by show _ ≤ 7293034; omega⟩ (fun H locs hP hD hS => ?_)
  refine lv_istore (lv' := [(6, .int w2.1), (5, .int w1.1), (0, .ref b), (1, .ref (Q 0 0)), (2, .ref (q 0)), (3, .ref a), (4, .int i)]) hx hb dL_law_984 hl (by decide) rfl (fun ls hl => ?_)
  refine lv_aload_n hx hb dL_law_986 rfl (lv_at hl 4 rfl) ?_
  obtain ⟨w3, hcw3, hf⟩ := bd_ob hf
  refine rdV (As := []) (rest := []) ⟨hx, hb, hml, hown, hts⟩ (mX9_thrown l D cI cB cZ cO q fu w2.2 hcw3) (cwV 0 hts gL_law_X9_thrown rfl rfl rfl (by decide +kernel) ⟨Nat.le_of_ble_eq_true rfl, Nat.le_of_ble_eq_true rfl⟩) (hK.sub [0, 1, 2, 3] rfl) (hP.subb [25] rfl) (va_recv hK hP (ci := 8) (q0 := 106) rfl rfl) rfl hl.1 rfl (Nat.le_of_ble_eq_true rfl) dL_law_987 ⟨by show _ ≤ 601024; omega, by show _ ≤ 7293034; omega⟩ ?_
  refine lv_iload hx hb dL_law_990 (lv_at hl 1 rfl) ?_
  refine lv_icmp_eq (tgt := 997) hx hb dL_law_992 (by decide) (fun c6 => ?_) (fun c6 => ?_)
  · have hf := ip c6 hf
    refine lv_iload hx hb dL_law_997 (lv_at hl 1 rfl) ?_
    refine lv_if_ne (tgt := 1014) hx hb dL_law_999 (by decide) (fun c5 => ?_) (fun c5 => ?_)
    · have hf := iq c5 hf
      refine lv_goto (tgt := 2902) hx hb dL_law_1014 (by decide) ?_
      cases hf
      refine W.widen (k := cells + 8) (n := slots + 48) (by omega) (by omega) ?_
      exact kk _ _ _ hP hD hS (lv_sub hl [2, 3, 4, 5, 6] rfl)
    · have hf := ip c5 hf
      refine lv_aload_n hx hb dL_law_1002 rfl (lv_at hl 5 rfl) ?_
      refine lv_iconst (v := 0) hx hb dL_law_1003 (by decide) ?_
      refine va_lald hx hb hK hP 0 4 rfl rfl (inB_in (by decide)) dL_law_1004 ?_
      refine lv_iload hx hb dL_law_1005 (lv_at hl 0 rfl) ?_
      refine lv_i2l hx hb dL_law_1007 rfl ?_
      refine W.lcmp hx hb dL_law_1008 ?_
      refine lv_if_eq (tgt := 1014) hx hb dL_law_1009 (by decide) (fun c4 => ?_) (fun c4 => ?_)
      · have hf := ip c4 hf
        refine lv_goto (tgt := 2902) hx hb dL_law_1014 (by decide) ?_
        cases hf
        refine W.widen (k := cells + 8) (n := slots + 48) (by omega) (by omega) ?_
        exact kk _ _ _ hP hD hS (lv_sub hl [2, 3, 4, 5, 6] rfl)
      · have hf := iq c4 hf
        exact no_ob hf
  · have hf := iq c6 hf
    exact no_ob hf
set_option maxRecDepth 100000 in
set_option maxHeartbeats 4000000 in
theorem wL_16 {p : Program} {l : Launch} {e : Env} {s : State} {m : MethodId} {args : Array Value} {below : List Frame} {meth : Method} {c : Code} {H : Heap} {locs : List Loc} {cells slots : Nat} {Qf : State → Prop} {ls : Array Slot} {D : va_G} {cI cB cZ cO cJ : ClassId} {aK aV mK : Nat → Nat} {Q : Nat → Nat → Nat} {q : Nat → Nat} {a b L fu : Nat} {xs : Nat → Int32} {A : Nat → Prop} {X X1 : Nat → OS} {z z1 : OS} {o o1 : Nat → Int64} {i a1 a2 a3 a4 a5 : Int32} (hst : l.stackTraces = false) (hx : p.tables.exec = Jvm.exec) (hb : c.code = cL_law) (hml : c.maxLocals = 9) (hown : s.vm.findClass RL = some m.cls) (hts : ∀ w ∈ lw_tbl, w.before args s = true) (hK : va_K D vwCl (gL cI cB cZ cO cJ) s) (hA : ∀ q : Nat, s.heap.size ≤ q → A q) (hX : va_X b L xs s s.heap) (hbl : b < s.heap.size) (hbA : ¬ A b) (hE : EW aK aV mK A s s.heap) (hS : va_S A s.heap H locs) (hl : lv_has ls 9 [(0, .ref b), (1, .ref (Q 0 0)), (2, .ref (q 0)), (3, .ref a), (4, .int i)]) (n1 : vp_in (i + 1) L) (n2 : vp_in (i + 2) L) (n3 : vp_in (i + 3) L) (n4 : vp_in (i + 4) L) (n5 : vp_in (i + 5) L) (e1 : xs (i + 1).toNatClampNeg = a1) (e2 : xs (i + 2).toNatClampNeg = a2) (e3 : xs (i + 3).toNatClampNeg = a3) (e4 : xs (i + 4).toNatClampNeg = a4) (e5 : xs (i + 5).toNatClampNeg = a5) (hcl : cells + 8 ≤ 601024) (hsl : slots + 48 ≤ 7293034) (kk : ∀ (H1 : Heap) (locs1 : List Loc) (ls1 : Array Slot), va_P D vwCl (fl (lawW cI cB cZ cO cJ Q q a X1 z1 o1)) H1 → va_D A (fl (lawW cI cB cZ cO cJ Q q a X1 z1 o1)) → va_S A s.heap H1 locs1 → lv_has ls1 9 [(0, .ref b), (1, .ref (Q 0 0)), (2, .ref (q 0)), (3, .ref a), (4, .int i)] → W p l e room_1 s m args below meth c H1 locs1 (cells + 8) (slots + 48) Qf (F0 m 2902 ls1 [])) (hP : va_P D vwCl (fl (lawW cI cB cZ cO cJ Q q a X z o)) H) (hD : va_D A (fl (lawW cI cB cZ cO cJ Q q a X z o))) (hf : cL_16 fu a1 a2 a3 a4 a5 X z o = some (X1, z1, o1)) : W p l e room_1 s m args below meth c H locs cells slots Qf (F0 m 1017 ls []) := by
  unfold cL_16 at hf
  refine lv_aload_n hx hb dL_law_1017 rfl (lv_at hl 1 rfl) ?_
  refine lv_aload_n hx hb dL_law_1018 rfl (lv_at hl 0 rfl) ?_
  refine lv_iload hx hb dL_law_1019 (lv_at hl 4 rfl) ?_
  refine lv_iconst (v := 1) hx hb dL_law_1021 (by decide) ?_
  refine lv_iadd hx hb dL_law_1022 ?_
  refine va_sldE hx hb hX hbl hbA hS n1 e1 dL_law_1023 ?_
  refine lv_aload_n hx hb dL_law_1024 rfl (lv_at hl 3 rfl) ?_
  obtain ⟨w1, hcw1, hf⟩ := bd_ob hf
  refine wrSWb (As := [.ref (Q 0 0), .int a1, .ref a]) (rest := []) [wL cJ a w1.2, wXO Q, wC cI (Q 1) (X 1), wC cI (Q 2) (X 2), wS (Q 3) (Q 4 0) (Q 5 0) (Q 6 0) (Q 7 0) (X 3), wT cB (Q 4) (X 4), wC cI (Q 5) (X 5), wA (Q 6) (X 6), wP (Q 7) (X 7), wH cO (Q 8) (Q 9 0) (Q 10 0) (Q 11 0) (Q 12 0) (Q 13 0) (Q 14 0) (Q 15 0) (Q 16 0) (X 8), wC cI (Q 9) (X 9), wC cI (Q 10) (X 10), wC cI (Q 11) (X 11), wC cI (Q 12) (X 12), wC cI (Q 13) (X 13), wC cI (Q 14) (X 14), wC cI (Q 15) (X 15), wC cI (Q 16) (X 16), wXS cO (Q 17) (Q 18 0) (Q 19 0), wC cI (Q 18) (X 18), wC cI (Q 19) (X 19), wXF cZ (Q 20) (X 20), wA (Q 21) (X 21), wP (Q 22) (X 22), wO cB (Q 23) (X 23), wM cI cB cZ q z] ⟨hx, hb, hml, hown, hts⟩ (mL_depthOf l D cI cB cZ cO cJ aK aV mK hst Q a _ fu o (X 0) (X 1) (X 2) (X 3) (X 4) (X 5) (X 6) (X 7) (X 8) (X 9) (X 10) (X 11) (X 12) (X 13) (X 14) (X 15) (X 16) (X 17) (X 18) (X 19) (X 20) (X 21) (X 22) (X 23) a1 hcw1) (vx_cwSW 3 hts gL_law_L_depthOf rfl rfl rfl (by decide +kernel) ⟨Nat.le_of_ble_eq_true rfl, Nat.le_of_ble_eq_true rfl⟩) (EW_ok aK aV mK) ((EW_ok aK aV mK).2.2.1 _ _ _ _ hS.2.1 hE) hK hP hD hS hA [0, 1, 2, 3, 4, 5, 6, 7, 8, 9, 10, 11, 12, 13, 14, 15, 16, 17, 18, 19, 20, 21, 22, 23, 24] [25] 26 rfl (by decide +kernel) rfl rfl [wM cI cB cZ q z] rfl rfl rfl rfl hl.1 rfl (Nat.le_of_ble_eq_true rfl) dL_law_1025 ⟨by show _ ≤ 601024; omega, by show _ ≤ 7293034; omega⟩ (fun H locs hP hD hS => ?_)
  refine lv_istore (lv' := [(5, .int w1.1), (0, .ref b), (1, .ref (Q 0 0)), (2, .ref (q 0)), (3, .ref a), (4, .int i)]) hx hb dL_law_1028 hl (by decide) rfl (fun ls hl => ?_)
  refine lv_aload_n hx hb dL_law_1030 rfl (lv_at hl 3 rfl) ?_
  refine lv_aload_n hx hb dL_law_1031 rfl (lv_at hl 1 rfl) ?_
  refine lv_iload hx hb dL_law_1032 (lv_at hl 5 rfl) ?_
  refine lv_iconst (v := 1) hx hb dL_law_1034 (by decide) ?_
  refine lv_iadd hx hb dL_law_1035 ?_
  refine va_sldE hx hb hX hbl hbA hS n1 e1 dL_law_1036 ?_
  obtain ⟨w2, hcw2, hf⟩ := bd_ob hf
  refine wrVb (As := [.int a1]) (rest := []) [wL cJ a w1.2, wXO Q, wC cI (Q 1) (X 1), wC cI (Q 2) (X 2), wS (Q 3) (Q 4 0) (Q 5 0) (Q 6 0) (Q 7 0) (X 3), wT cB (Q 4) (X 4), wC cI (Q 5) (X 5), wA (Q 6) (X 6), wP (Q 7) (X 7), wH cO (Q 8) (Q 9 0) (Q 10 0) (Q 11 0) (Q 12 0) (Q 13 0) (Q 14 0) (Q 15 0) (Q 16 0) (X 8), wC cI (Q 9) (X 9), wC cI (Q 10) (X 10), wC cI (Q 11) (X 11), wC cI (Q 12) (X 12), wC cI (Q 13) (X 13), wC cI (Q 14) (X 14), wC cI (Q 15) (X 15), wC cI (Q 16) (X 16), wXS cO (Q 17) (Q 18 0) (Q 19 0), wC cI (Q 18) (X 18), wC cI (Q 19) (X 19), wXF cZ (Q 20) (X 20), wA (Q 21) (X 21), wP (Q 22) (X 22), wO cB (Q 23) (X 23), wM cI cB cZ q w2.2] ⟨hx, hb, hml, hown, hts⟩ (mX9_depthOf l D cI cB cZ cO q _ fu z a1 hcw2) (cwV 1 hts gL_law_X9_depthOf rfl rfl rfl (by decide +kernel) ⟨Nat.le_of_ble_eq_true rfl, Nat.le_of_ble_eq_true rfl⟩) (hK.sub [0, 1, 2, 3] rfl) hP hD hS hA [25] [0, 1, 2, 3, 4, 5, 6, 7, 8, 9, 10, 11, 12, 13, 14, 15, 16, 17, 18, 19, 20, 21, 22, 23, 24] 26 rfl (by decide +kernel) rfl rfl [wL cJ a w1.2, wXO Q, wC cI (Q 1) (X 1), wC cI (Q 2) (X 2), wS (Q 3) (Q 4 0) (Q 5 0) (Q 6 0) (Q 7 0) (X 3), wT cB (Q 4) (X 4), wC cI (Q 5) (X 5), wA (Q 6) (X 6), wP (Q 7) (X 7), wH cO (Q 8) (Q 9 0) (Q 10 0) (Q 11 0) (Q 12 0) (Q 13 0) (Q 14 0) (Q 15 0) (Q 16 0) (X 8), wC cI (Q 9) (X 9), wC cI (Q 10) (X 10), wC cI (Q 11) (X 11), wC cI (Q 12) (X 12), wC cI (Q 13) (X 13), wC cI (Q 14) (X 14), wC cI (Q 15) (X 15), wC cI (Q 16) (X 16), wXS cO (Q 17) (Q 18 0) (Q 19 0), wC cI (Q 18) (X 18), wC cI (Q 19) (X 19), wXF cZ (Q 20) (X 20), wA (Q 21) (X 21), wP (Q 22) (X 22), wO cB (Q 23) (X 23)] rfl rfl rfl (va_recv hK hP (ci := 8) (q0 := 106) rfl rfl) rfl hl.1 rfl (Nat.le_of_ble_eq_true rfl) dL_law_1037 ⟨by show _ ≤ 601024; omega, by show _ ≤ 7293034; omega⟩ (fun H locs hP hD hS => ?_)
  refine lv_istore (lv' := [(6, .int w2.1), (5, .int w1.1), (0, .ref b), (1, .ref (Q 0 0)), (2, .ref (q 0)), (3, .ref a), (4, .int i)]) hx hb dL_law_1040 hl (by decide) rfl (fun ls hl => ?_)
  refine lv_aload_n hx hb dL_law_1042 rfl (lv_at hl 4 rfl) ?_
  obtain ⟨w3, hcw3, hf⟩ := bd_ob hf
  refine rdV (As := []) (rest := []) ⟨hx, hb, hml, hown, hts⟩ (mX9_thrown l D cI cB cZ cO q fu w2.2 hcw3) (cwV 0 hts gL_law_X9_thrown rfl rfl rfl (by decide +kernel) ⟨Nat.le_of_ble_eq_true rfl, Nat.le_of_ble_eq_true rfl⟩) (hK.sub [0, 1, 2, 3] rfl) (hP.subb [25] rfl) (va_recv hK hP (ci := 8) (q0 := 106) rfl rfl) rfl hl.1 rfl (Nat.le_of_ble_eq_true rfl) dL_law_1043 ⟨by show _ ≤ 601024; omega, by show _ ≤ 7293034; omega⟩ ?_
  refine lv_iload hx hb dL_law_1046 (lv_at hl 1 rfl) ?_
  refine lv_icmp_eq (tgt := 1053) hx hb dL_law_1048 (by decide) (fun c6 => ?_) (fun c6 => ?_)
  · have hf := ip c6 hf
    refine lv_iload hx hb dL_law_1053 (lv_at hl 1 rfl) ?_
    refine lv_if_ne (tgt := 1070) hx hb dL_law_1055 (by decide) (fun c5 => ?_) (fun c5 => ?_)
    · have hf := iq c5 hf
      refine lv_goto (tgt := 2902) hx hb dL_law_1070 (by decide) ?_
      cases hf
      refine W.widen (k := cells + 8) (n := slots + 48) (by omega) (by omega) ?_
      exact kk _ _ _ hP hD hS (lv_sub hl [2, 3, 4, 5, 6] rfl)
    · have hf := ip c5 hf
      refine lv_aload_n hx hb dL_law_1058 rfl (lv_at hl 5 rfl) ?_
      refine lv_iconst (v := 0) hx hb dL_law_1059 (by decide) ?_
      refine va_lald hx hb hK hP 0 4 rfl rfl (inB_in (by decide)) dL_law_1060 ?_
      refine lv_iload hx hb dL_law_1061 (lv_at hl 0 rfl) ?_
      refine lv_i2l hx hb dL_law_1063 rfl ?_
      refine W.lcmp hx hb dL_law_1064 ?_
      refine lv_if_eq (tgt := 1070) hx hb dL_law_1065 (by decide) (fun c4 => ?_) (fun c4 => ?_)
      · have hf := ip c4 hf
        refine lv_goto (tgt := 2902) hx hb dL_law_1070 (by decide) ?_
        cases hf
        refine W.widen (k := cells + 8) (n := slots + 48) (by omega) (by omega) ?_
        exact kk _ _ _ hP hD hS (lv_sub hl [2, 3, 4, 5, 6] rfl)
      · have hf := iq c4 hf
        exact no_ob hf
  · have hf := iq c6 hf
    exact no_ob hf
set_option maxRecDepth 100000 in
set_option maxHeartbeats 4000000 in
theorem wL_17 {p : Program} {l : Launch} {e : Env} {s : State} {m : MethodId} {args : Array Value} {below : List Frame} {meth : Method} {c : Code} {H : Heap} {locs : List Loc} {cells slots : Nat} {Qf : State → Prop} {ls : Array Slot} {D : va_G} {cI cB cZ cO cJ : ClassId} {aK aV mK : Nat → Nat} {Q : Nat → Nat → Nat} {q : Nat → Nat} {a b L fu : Nat} {xs : Nat → Int32} {A : Nat → Prop} {X X1 : Nat → OS} {z z1 : OS} {o o1 : Nat → Int64} {i a1 a2 a3 a4 a5 : Int32} (hst : l.stackTraces = false) (hx : p.tables.exec = Jvm.exec) (hb : c.code = cL_law) (hml : c.maxLocals = 9) (hown : s.vm.findClass RL = some m.cls) (hts : ∀ w ∈ lw_tbl, w.before args s = true) (hK : va_K D vwCl (gL cI cB cZ cO cJ) s) (hA : ∀ q : Nat, s.heap.size ≤ q → A q) (hX : va_X b L xs s s.heap) (hbl : b < s.heap.size) (hbA : ¬ A b) (hE : EW aK aV mK A s s.heap) (hS : va_S A s.heap H locs) (hl : lv_has ls 9 [(0, .ref b), (1, .ref (Q 0 0)), (2, .ref (q 0)), (3, .ref a), (4, .int i)]) (n1 : vp_in (i + 1) L) (n2 : vp_in (i + 2) L) (n3 : vp_in (i + 3) L) (n4 : vp_in (i + 4) L) (n5 : vp_in (i + 5) L) (e1 : xs (i + 1).toNatClampNeg = a1) (e2 : xs (i + 2).toNatClampNeg = a2) (e3 : xs (i + 3).toNatClampNeg = a3) (e4 : xs (i + 4).toNatClampNeg = a4) (e5 : xs (i + 5).toNatClampNeg = a5) (hcl : cells + 8 ≤ 601024) (hsl : slots + 48 ≤ 7293034) (kk : ∀ (H1 : Heap) (locs1 : List Loc) (ls1 : Array Slot), va_P D vwCl (fl (lawW cI cB cZ cO cJ Q q a X1 z1 o1)) H1 → va_D A (fl (lawW cI cB cZ cO cJ Q q a X1 z1 o1)) → va_S A s.heap H1 locs1 → lv_has ls1 9 [(0, .ref b), (1, .ref (Q 0 0)), (2, .ref (q 0)), (3, .ref a), (4, .int i)] → W p l e room_1 s m args below meth c H1 locs1 (cells + 8) (slots + 48) Qf (F0 m 2902 ls1 [])) (hP : va_P D vwCl (fl (lawW cI cB cZ cO cJ Q q a X z o)) H) (hD : va_D A (fl (lawW cI cB cZ cO cJ Q q a X z o))) (hf : cL_17 fu a1 a2 a3 a4 a5 X z o = some (X1, z1, o1)) : W p l e room_1 s m args below meth c H locs cells slots Qf (F0 m 1073 ls []) := by
  unfold cL_17 at hf
  refine lv_aload_n hx hb dL_law_1073 rfl (lv_at hl 1 rfl) ?_
  obtain ⟨w1, hcw1, hf⟩ := bd_ob hf
  refine rdV (As := []) (rest := []) ⟨hx, hb, hml, hown, hts⟩ (mX8_deepestClause l D cI cB cZ cO Q fu (X 0) (X 1) (X 2) (X 3) (X 4) (X 5) (X 6) (X 7) (X 8) (X 9) (X 10) (X 11) (X 12) (X 13) (X 14) (X 15) (X 16) (X 17) (X 18) (X 19) (X 20) (X 21) (X 22) (X 23) hcw1) (cwV 0 hts gL_law_X8_deepestClause rfl rfl rfl (by decide +kernel) ⟨Nat.le_of_ble_eq_true rfl, Nat.le_of_ble_eq_true rfl⟩) (hK.sub [0, 1, 2, 3] rfl) (hP.subb [1, 2, 3, 4, 5, 6, 7, 8, 9, 10, 11, 12, 13, 14, 15, 16, 17, 18, 19, 20, 21, 22, 23, 24] rfl) (va_recv hK hP (ci := 7) (q0 := 1) rfl rfl) rfl hl.1 rfl (Nat.le_of_ble_eq_true rfl) dL_law_1074 ⟨by show _ ≤ 601024; omega, by show _ ≤ 7293034; omega⟩ ?_
  refine lv_aload_n hx hb dL_law_1077 rfl (lv_at hl 2 rfl) ?_
  obtain ⟨w2, hcw2, hf⟩ := bd_ob hf
  refine wrVb (As := []) (rest := [.int w1]) [wL cJ a o, wXO Q, wC cI (Q 1) (X 1), wC cI (Q 2) (X 2), wS (Q 3) (Q 4 0) (Q 5 0) (Q 6 0) (Q 7 0) (X 3), wT cB (Q 4) (X 4), wC cI (Q 5) (X 5), wA (Q 6) (X 6), wP (Q 7) (X 7), wH cO (Q 8) (Q 9 0) (Q 10 0) (Q 11 0) (Q 12 0) (Q 13 0) (Q 14 0) (Q 15 0) (Q 16 0) (X 8), wC cI (Q 9) (X 9), wC cI (Q 10) (X 10), wC cI (Q 11) (X 11), wC cI (Q 12) (X 12), wC cI (Q 13) (X 13), wC cI (Q 14) (X 14), wC cI (Q 15) (X 15), wC cI (Q 16) (X 16), wXS cO (Q 17) (Q 18 0) (Q 19 0), wC cI (Q 18) (X 18), wC cI (Q 19) (X 19), wXF cZ (Q 20) (X 20), wA (Q 21) (X 21), wP (Q 22) (X 22), wO cB (Q 23) (X 23), wM cI cB cZ q w2.2] ⟨hx, hb, hml, hown, hts⟩ (mX9_deepestClause l D cI cB cZ cO q _ fu z hcw2) (cwV 0 hts gL_law_X9_deepestClause rfl rfl rfl (by decide +kernel) ⟨Nat.le_of_ble_eq_true rfl, Nat.le_of_ble_eq_true rfl⟩) (hK.sub [0, 1, 2, 3] rfl) hP hD hS hA [25] [0, 1, 2, 3, 4, 5, 6, 7, 8, 9, 10, 11, 12, 13, 14, 15, 16, 17, 18, 19, 20, 21, 22, 23, 24] 26 rfl (by decide +kernel) rfl rfl [wL cJ a o, wXO Q, wC cI (Q 1) (X 1), wC cI (Q 2) (X 2), wS (Q 3) (Q 4 0) (Q 5 0) (Q 6 0) (Q 7 0) (X 3), wT cB (Q 4) (X 4), wC cI (Q 5) (X 5), wA (Q 6) (X 6), wP (Q 7) (X 7), wH cO (Q 8) (Q 9 0) (Q 10 0) (Q 11 0) (Q 12 0) (Q 13 0) (Q 14 0) (Q 15 0) (Q 16 0) (X 8), wC cI (Q 9) (X 9), wC cI (Q 10) (X 10), wC cI (Q 11) (X 11), wC cI (Q 12) (X 12), wC cI (Q 13) (X 13), wC cI (Q 14) (X 14), wC cI (Q 15) (X 15), wC cI (Q 16) (X 16), wXS cO (Q 17) (Q 18 0) (Q 19 0), wC cI (Q 18) (X 18), wC cI (Q 19) (X 19), wXF cZ (Q 20) (X 20), wA (Q 21) (X 21), wP (Q 22) (X 22), wO cB (Q 23) (X 23)] rfl rfl rfl (va_recv hK hP (ci := 8) (q0 := 106) rfl rfl) rfl hl.1 rfl (Nat.le_of_ble_eq_true rfl) dL_law_1078 ⟨by show _ ≤ 601024; omega, by show _ ≤ 7293034; omega⟩ (fun H locs hP hD hS => ?_)
  refine lv_icmp_eq (tgt := 2902) hx hb dL_law_1081 (by decide) (fun c3 => ?_) (fun c3 => ?_)
  · have hf := ip c3 hf
    cases hf
    refine W.widen (k := cells + 8) (n := slots + 48) (by omega) (by omega) ?_
    exact kk _ _ _ hP hD hS (lv_sub hl [0, 1, 2, 3, 4] rfl)
  · have hf := iq c3 hf
    exact no_ob hf
set_option maxRecDepth 100000 in
set_option maxHeartbeats 4000000 in
theorem wL_18 {p : Program} {l : Launch} {e : Env} {s : State} {m : MethodId} {args : Array Value} {below : List Frame} {meth : Method} {c : Code} {H : Heap} {locs : List Loc} {cells slots : Nat} {Qf : State → Prop} {ls : Array Slot} {D : va_G} {cI cB cZ cO cJ : ClassId} {aK aV mK : Nat → Nat} {Q : Nat → Nat → Nat} {q : Nat → Nat} {a b L fu : Nat} {xs : Nat → Int32} {A : Nat → Prop} {X X1 : Nat → OS} {z z1 : OS} {o o1 : Nat → Int64} {i a1 a2 a3 a4 a5 : Int32} (hst : l.stackTraces = false) (hx : p.tables.exec = Jvm.exec) (hb : c.code = cL_law) (hml : c.maxLocals = 9) (hown : s.vm.findClass RL = some m.cls) (hts : ∀ w ∈ lw_tbl, w.before args s = true) (hK : va_K D vwCl (gL cI cB cZ cO cJ) s) (hA : ∀ q : Nat, s.heap.size ≤ q → A q) (hX : va_X b L xs s s.heap) (hbl : b < s.heap.size) (hbA : ¬ A b) (hE : EW aK aV mK A s s.heap) (hS : va_S A s.heap H locs) (hl : lv_has ls 9 [(0, .ref b), (1, .ref (Q 0 0)), (2, .ref (q 0)), (3, .ref a), (4, .int i)]) (n1 : vp_in (i + 1) L) (n2 : vp_in (i + 2) L) (n3 : vp_in (i + 3) L) (n4 : vp_in (i + 4) L) (n5 : vp_in (i + 5) L) (e1 : xs (i + 1).toNatClampNeg = a1) (e2 : xs (i + 2).toNatClampNeg = a2) (e3 : xs (i + 3).toNatClampNeg = a3) (e4 : xs (i + 4).toNatClampNeg = a4) (e5 : xs (i + 5).toNatClampNeg = a5) (hcl : cells + 8 ≤ 601024) (hsl : slots + 48 ≤ 7293034) (kk : ∀ (H1 : Heap) (locs1 : List Loc) (ls1 : Array Slot), va_P D vwCl (fl (lawW cI cB cZ cO cJ Q q a X1 z1 o1)) H1 → va_D A (fl (lawW cI cB cZ cO cJ Q q a X1 z1 o1)) → va_S A s.heap H1 locs1 → lv_has ls1 9 [(0, .ref b), (1, .ref (Q 0 0)), (2, .ref (q 0)), (3, .ref a), (4, .int i)] → W p l e room_1 s m args below meth c H1 locs1 (cells + 8) (slots + 48) Qf (F0 m 2902 ls1 [])) (hP : va_P D vwCl (fl (lawW cI cB cZ cO cJ Q q a X z o)) H) (hD : va_D A (fl (lawW cI cB cZ cO cJ Q q a X z o))) (hf : cL_18 fu a1 a2 a3 a4 a5 X z o = some (X1, z1, o1)) : W p l e room_1 s m args below meth c H locs cells slots Qf (F0 m 1086 ls []) := by
  unfold cL_18 at hf
  refine lv_aload_n hx hb dL_law_1086 rfl (lv_at hl 1 rfl) ?_
  refine lv_aload_n hx hb dL_law_1087 rfl (lv_at hl 0 rfl) ?_
  refine lv_iload hx hb dL_law_1088 (lv_at hl 4 rfl) ?_
  refine lv_iconst (v := 1) hx hb dL_law_1090 (by decide) ?_
  refine lv_iadd hx hb dL_law_1091 ?_
  refine va_sldE hx hb hX hbl hbA hS n1 e1 dL_law_1092 ?_
  refine lv_aload_n hx hb dL_law_1093 rfl (lv_at hl 3 rfl) ?_
  obtain ⟨w1, hcw1, hf⟩ := bd_ob hf
  refine wrSWb (As := [.ref (Q 0 0), .int a1, .ref a]) (rest := []) [wL cJ a w1.2, wXO Q, wC cI (Q 1) (X 1), wC cI (Q 2) (X 2), wS (Q 3) (Q 4 0) (Q 5 0) (Q 6 0) (Q 7 0) (X 3), wT cB (Q 4) (X 4), wC cI (Q 5) (X 5), wA (Q 6) (X 6), wP (Q 7) (X 7), wH cO (Q 8) (Q 9 0) (Q 10 0) (Q 11 0) (Q 12 0) (Q 13 0) (Q 14 0) (Q 15 0) (Q 16 0) (X 8), wC cI (Q 9) (X 9), wC cI (Q 10) (X 10), wC cI (Q 11) (X 11), wC cI (Q 12) (X 12), wC cI (Q 13) (X 13), wC cI (Q 14) (X 14), wC cI (Q 15) (X 15), wC cI (Q 16) (X 16), wXS cO (Q 17) (Q 18 0) (Q 19 0), wC cI (Q 18) (X 18), wC cI (Q 19) (X 19), wXF cZ (Q 20) (X 20), wA (Q 21) (X 21), wP (Q 22) (X 22), wO cB (Q 23) (X 23), wM cI cB cZ q z] ⟨hx, hb, hml, hown, hts⟩ (mL_derivationSize l D cI cB cZ cO cJ aK aV mK hst Q a _ fu o (X 0) (X 1) (X 2) (X 3) (X 4) (X 5) (X 6) (X 7) (X 8) (X 9) (X 10) (X 11) (X 12) (X 13) (X 14) (X 15) (X 16) (X 17) (X 18) (X 19) (X 20) (X 21) (X 22) (X 23) a1 hcw1) (vx_cwSW 3 hts gL_law_L_derivationSize rfl rfl rfl (by decide +kernel) ⟨Nat.le_of_ble_eq_true rfl, Nat.le_of_ble_eq_true rfl⟩) (EW_ok aK aV mK) ((EW_ok aK aV mK).2.2.1 _ _ _ _ hS.2.1 hE) hK hP hD hS hA [0, 1, 2, 3, 4, 5, 6, 7, 8, 9, 10, 11, 12, 13, 14, 15, 16, 17, 18, 19, 20, 21, 22, 23, 24] [25] 26 rfl (by decide +kernel) rfl rfl [wM cI cB cZ q z] rfl rfl rfl rfl hl.1 rfl (Nat.le_of_ble_eq_true rfl) dL_law_1094 ⟨by show _ ≤ 601024; omega, by show _ ≤ 7293034; omega⟩ (fun H locs hP hD hS => ?_)
  refine lv_istore (lv' := [(5, .int w1.1), (0, .ref b), (1, .ref (Q 0 0)), (2, .ref (q 0)), (3, .ref a), (4, .int i)]) hx hb dL_law_1097 hl (by decide) rfl (fun ls hl => ?_)
  refine lv_aload_n hx hb dL_law_1099 rfl (lv_at hl 3 rfl) ?_
  refine lv_aload_n hx hb dL_law_1100 rfl (lv_at hl 1 rfl) ?_
  refine lv_iload hx hb dL_law_1101 (lv_at hl 5 rfl) ?_
  refine lv_iconst (v := 1) hx hb dL_law_1103 (by decide) ?_
  refine lv_iadd hx hb dL_law_1104 ?_
  refine va_sldE hx hb hX hbl hbA hS n1 e1 dL_law_1105 ?_
  obtain ⟨w2, hcw2, hf⟩ := bd_ob hf
  refine wrVb (As := [.int a1]) (rest := []) [wL cJ a w1.2, wXO Q, wC cI (Q 1) (X 1), wC cI (Q 2) (X 2), wS (Q 3) (Q 4 0) (Q 5 0) (Q 6 0) (Q 7 0) (X 3), wT cB (Q 4) (X 4), wC cI (Q 5) (X 5), wA (Q 6) (X 6), wP (Q 7) (X 7), wH cO (Q 8) (Q 9 0) (Q 10 0) (Q 11 0) (Q 12 0) (Q 13 0) (Q 14 0) (Q 15 0) (Q 16 0) (X 8), wC cI (Q 9) (X 9), wC cI (Q 10) (X 10), wC cI (Q 11) (X 11), wC cI (Q 12) (X 12), wC cI (Q 13) (X 13), wC cI (Q 14) (X 14), wC cI (Q 15) (X 15), wC cI (Q 16) (X 16), wXS cO (Q 17) (Q 18 0) (Q 19 0), wC cI (Q 18) (X 18), wC cI (Q 19) (X 19), wXF cZ (Q 20) (X 20), wA (Q 21) (X 21), wP (Q 22) (X 22), wO cB (Q 23) (X 23), wM cI cB cZ q w2.2] ⟨hx, hb, hml, hown, hts⟩ (mX9_derivationSize l D cI cB cZ cO q _ fu z a1 hcw2) (cwV 1 hts gL_law_X9_derivationSize rfl rfl rfl (by decide +kernel) ⟨Nat.le_of_ble_eq_true rfl, Nat.le_of_ble_eq_true rfl⟩) (hK.sub [0, 1, 2, 3] rfl) hP hD hS hA [25] [0, 1, 2, 3, 4, 5, 6, 7, 8, 9, 10, 11, 12, 13, 14, 15, 16, 17, 18, 19, 20, 21, 22, 23, 24] 26 rfl (by decide +kernel) rfl rfl [wL cJ a w1.2, wXO Q, wC cI (Q 1) (X 1), wC cI (Q 2) (X 2), wS (Q 3) (Q 4 0) (Q 5 0) (Q 6 0) (Q 7 0) (X 3), wT cB (Q 4) (X 4), wC cI (Q 5) (X 5), wA (Q 6) (X 6), wP (Q 7) (X 7), wH cO (Q 8) (Q 9 0) (Q 10 0) (Q 11 0) (Q 12 0) (Q 13 0) (Q 14 0) (Q 15 0) (Q 16 0) (X 8), wC cI (Q 9) (X 9), wC cI (Q 10) (X 10), wC cI (Q 11) (X 11), wC cI (Q 12) (X 12), wC cI (Q 13) (X 13), wC cI (Q 14) (X 14), wC cI (Q 15) (X 15), wC cI (Q 16) (X 16), wXS cO (Q 17) (Q 18 0) (Q 19 0), wC cI (Q 18) (X 18), wC cI (Q 19) (X 19), wXF cZ (Q 20) (X 20), wA (Q 21) (X 21), wP (Q 22) (X 22), wO cB (Q 23) (X 23)] rfl rfl rfl (va_recv hK hP (ci := 8) (q0 := 106) rfl rfl) rfl hl.1 rfl (Nat.le_of_ble_eq_true rfl) dL_law_1106 ⟨by show _ ≤ 601024; omega, by show _ ≤ 7293034; omega⟩ (fun H locs hP hD hS => ?_)
  refine lv_istore (lv' := [(6, .int w2.1), (5, .int w1.1), (0, .ref b), (1, .ref (Q 0 0)), (2, .ref (q 0)), (3, .ref a), (4, .int i)]) hx hb dL_law_1109 hl (by decide) rfl (fun ls hl => ?_)
  refine lv_aload_n hx hb dL_law_1111 rfl (lv_at hl 4 rfl) ?_
  obtain ⟨w3, hcw3, hf⟩ := bd_ob hf
  refine rdV (As := []) (rest := []) ⟨hx, hb, hml, hown, hts⟩ (mX9_thrown l D cI cB cZ cO q fu w2.2 hcw3) (cwV 0 hts gL_law_X9_thrown rfl rfl rfl (by decide +kernel) ⟨Nat.le_of_ble_eq_true rfl, Nat.le_of_ble_eq_true rfl⟩) (hK.sub [0, 1, 2, 3] rfl) (hP.subb [25] rfl) (va_recv hK hP (ci := 8) (q0 := 106) rfl rfl) rfl hl.1 rfl (Nat.le_of_ble_eq_true rfl) dL_law_1112 ⟨by show _ ≤ 601024; omega, by show _ ≤ 7293034; omega⟩ ?_
  refine lv_iload hx hb dL_law_1115 (lv_at hl 1 rfl) ?_
  refine lv_icmp_eq (tgt := 1122) hx hb dL_law_1117 (by decide) (fun c6 => ?_) (fun c6 => ?_)
  · have hf := ip c6 hf
    refine lv_iload hx hb dL_law_1122 (lv_at hl 1 rfl) ?_
    refine lv_if_ne (tgt := 1139) hx hb dL_law_1124 (by decide) (fun c5 => ?_) (fun c5 => ?_)
    · have hf := iq c5 hf
      refine lv_goto (tgt := 2902) hx hb dL_law_1139 (by decide) ?_
      cases hf
      refine W.widen (k := cells + 8) (n := slots + 48) (by omega) (by omega) ?_
      exact kk _ _ _ hP hD hS (lv_sub hl [2, 3, 4, 5, 6] rfl)
    · have hf := ip c5 hf
      refine lv_aload_n hx hb dL_law_1127 rfl (lv_at hl 5 rfl) ?_
      refine lv_iconst (v := 0) hx hb dL_law_1128 (by decide) ?_
      refine va_lald hx hb hK hP 0 4 rfl rfl (inB_in (by decide)) dL_law_1129 ?_
      refine lv_iload hx hb dL_law_1130 (lv_at hl 0 rfl) ?_
      refine lv_i2l hx hb dL_law_1132 rfl ?_
      refine W.lcmp hx hb dL_law_1133 ?_
      refine lv_if_eq (tgt := 1139) hx hb dL_law_1134 (by decide) (fun c4 => ?_) (fun c4 => ?_)
      · have hf := ip c4 hf
        refine lv_goto (tgt := 2902) hx hb dL_law_1139 (by decide) ?_
        cases hf
        refine W.widen (k := cells + 8) (n := slots + 48) (by omega) (by omega) ?_
        exact kk _ _ _ hP hD hS (lv_sub hl [2, 3, 4, 5, 6] rfl)
      · have hf := iq c4 hf
        exact no_ob hf
  · have hf := iq c6 hf
    exact no_ob hf
set_option maxRecDepth 100000 in
set_option maxHeartbeats 4000000 in
theorem wL_19 {p : Program} {l : Launch} {e : Env} {s : State} {m : MethodId} {args : Array Value} {below : List Frame} {meth : Method} {c : Code} {H : Heap} {locs : List Loc} {cells slots : Nat} {Qf : State → Prop} {ls : Array Slot} {D : va_G} {cI cB cZ cO cJ : ClassId} {aK aV mK : Nat → Nat} {Q : Nat → Nat → Nat} {q : Nat → Nat} {a b L fu : Nat} {xs : Nat → Int32} {A : Nat → Prop} {X X1 : Nat → OS} {z z1 : OS} {o o1 : Nat → Int64} {i a1 a2 a3 a4 a5 : Int32} (hst : l.stackTraces = false) (hx : p.tables.exec = Jvm.exec) (hb : c.code = cL_law) (hml : c.maxLocals = 9) (hown : s.vm.findClass RL = some m.cls) (hts : ∀ w ∈ lw_tbl, w.before args s = true) (hK : va_K D vwCl (gL cI cB cZ cO cJ) s) (hA : ∀ q : Nat, s.heap.size ≤ q → A q) (hX : va_X b L xs s s.heap) (hbl : b < s.heap.size) (hbA : ¬ A b) (hE : EW aK aV mK A s s.heap) (hS : va_S A s.heap H locs) (hl : lv_has ls 9 [(0, .ref b), (1, .ref (Q 0 0)), (2, .ref (q 0)), (3, .ref a), (4, .int i)]) (n1 : vp_in (i + 1) L) (n2 : vp_in (i + 2) L) (n3 : vp_in (i + 3) L) (n4 : vp_in (i + 4) L) (n5 : vp_in (i + 5) L) (e1 : xs (i + 1).toNatClampNeg = a1) (e2 : xs (i + 2).toNatClampNeg = a2) (e3 : xs (i + 3).toNatClampNeg = a3) (e4 : xs (i + 4).toNatClampNeg = a4) (e5 : xs (i + 5).toNatClampNeg = a5) (hcl : cells + 8 ≤ 601024) (hsl : slots + 48 ≤ 7293034) (kk : ∀ (H1 : Heap) (locs1 : List Loc) (ls1 : Array Slot), va_P D vwCl (fl (lawW cI cB cZ cO cJ Q q a X1 z1 o1)) H1 → va_D A (fl (lawW cI cB cZ cO cJ Q q a X1 z1 o1)) → va_S A s.heap H1 locs1 → lv_has ls1 9 [(0, .ref b), (1, .ref (Q 0 0)), (2, .ref (q 0)), (3, .ref a), (4, .int i)] → W p l e room_1 s m args below meth c H1 locs1 (cells + 8) (slots + 48) Qf (F0 m 2902 ls1 [])) (hP : va_P D vwCl (fl (lawW cI cB cZ cO cJ Q q a X z o)) H) (hD : va_D A (fl (lawW cI cB cZ cO cJ Q q a X z o))) (hf : cL_19 fu a1 a2 a3 a4 a5 X z o = some (X1, z1, o1)) : W p l e room_1 s m args below meth c H locs cells slots Qf (F0 m 1142 ls []) := by
  unfold cL_19 at hf
  refine lv_aload_n hx hb dL_law_1142 rfl (lv_at hl 1 rfl) ?_
  refine lv_aload_n hx hb dL_law_1143 rfl (lv_at hl 0 rfl) ?_
  refine lv_iload hx hb dL_law_1144 (lv_at hl 4 rfl) ?_
  refine lv_iconst (v := 1) hx hb dL_law_1146 (by decide) ?_
  refine lv_iadd hx hb dL_law_1147 ?_
  refine va_sldE hx hb hX hbl hbA hS n1 e1 dL_law_1148 ?_
  refine lv_aload_n hx hb dL_law_1149 rfl (lv_at hl 3 rfl) ?_
  obtain ⟨w1, hcw1, hf⟩ := bd_ob hf
  refine wrSWb (As := [.ref (Q 0 0), .int a1, .ref a]) (rest := []) [wL cJ a w1.2, wXO Q, wC cI (Q 1) (X 1), wC cI (Q 2) (X 2), wS (Q 3) (Q 4 0) (Q 5 0) (Q 6 0) (Q 7 0) (X 3), wT cB (Q 4) (X 4), wC cI (Q 5) (X 5), wA (Q 6) (X 6), wP (Q 7) (X 7), wH cO (Q 8) (Q 9 0) (Q 10 0) (Q 11 0) (Q 12 0) (Q 13 0) (Q 14 0) (Q 15 0) (Q 16 0) (X 8), wC cI (Q 9) (X 9), wC cI (Q 10) (X 10), wC cI (Q 11) (X 11), wC cI (Q 12) (X 12), wC cI (Q 13) (X 13), wC cI (Q 14) (X 14), wC cI (Q 15) (X 15), wC cI (Q 16) (X 16), wXS cO (Q 17) (Q 18 0) (Q 19 0), wC cI (Q 18) (X 18), wC cI (Q 19) (X 19), wXF cZ (Q 20) (X 20), wA (Q 21) (X 21), wP (Q 22) (X 22), wO cB (Q 23) (X 23), wM cI cB cZ q z] ⟨hx, hb, hml, hown, hts⟩ (mL_premises l D cI cB cZ cO cJ aK aV mK hst Q a _ fu o (X 0) (X 1) (X 2) (X 3) (X 4) (X 5) (X 6) (X 7) (X 8) (X 9) (X 10) (X 11) (X 12) (X 13) (X 14) (X 15) (X 16) (X 17) (X 18) (X 19) (X 20) (X 21) (X 22) (X 23) a1 hcw1) (vx_cwSW 3 hts gL_law_L_premises rfl rfl rfl (by decide +kernel) ⟨Nat.le_of_ble_eq_true rfl, Nat.le_of_ble_eq_true rfl⟩) (EW_ok aK aV mK) ((EW_ok aK aV mK).2.2.1 _ _ _ _ hS.2.1 hE) hK hP hD hS hA [0, 1, 2, 3, 4, 5, 6, 7, 8, 9, 10, 11, 12, 13, 14, 15, 16, 17, 18, 19, 20, 21, 22, 23, 24] [25] 26 rfl (by decide +kernel) rfl rfl [wM cI cB cZ q z] rfl rfl rfl rfl hl.1 rfl (Nat.le_of_ble_eq_true rfl) dL_law_1150 ⟨by show _ ≤ 601024; omega, by show _ ≤ 7293034; omega⟩ (fun H locs hP hD hS => ?_)
  refine lv_istore (lv' := [(5, .int w1.1), (0, .ref b), (1, .ref (Q 0 0)), (2, .ref (q 0)), (3, .ref a), (4, .int i)]) hx hb dL_law_1153 hl (by decide) rfl (fun ls hl => ?_)
  refine lv_aload_n hx hb dL_law_1155 rfl (lv_at hl 3 rfl) ?_
  refine lv_aload_n hx hb dL_law_1156 rfl (lv_at hl 1 rfl) ?_
  refine lv_iload hx hb dL_law_1157 (lv_at hl 5 rfl) ?_
  refine lv_iconst (v := 1) hx hb dL_law_1159 (by decide) ?_
  refine lv_iadd hx hb dL_law_1160 ?_
  refine va_sldE hx hb hX hbl hbA hS n1 e1 dL_law_1161 ?_
  obtain ⟨w2, hcw2, hf⟩ := bd_ob hf
  refine wrVb (As := [.int a1]) (rest := []) [wL cJ a w1.2, wXO Q, wC cI (Q 1) (X 1), wC cI (Q 2) (X 2), wS (Q 3) (Q 4 0) (Q 5 0) (Q 6 0) (Q 7 0) (X 3), wT cB (Q 4) (X 4), wC cI (Q 5) (X 5), wA (Q 6) (X 6), wP (Q 7) (X 7), wH cO (Q 8) (Q 9 0) (Q 10 0) (Q 11 0) (Q 12 0) (Q 13 0) (Q 14 0) (Q 15 0) (Q 16 0) (X 8), wC cI (Q 9) (X 9), wC cI (Q 10) (X 10), wC cI (Q 11) (X 11), wC cI (Q 12) (X 12), wC cI (Q 13) (X 13), wC cI (Q 14) (X 14), wC cI (Q 15) (X 15), wC cI (Q 16) (X 16), wXS cO (Q 17) (Q 18 0) (Q 19 0), wC cI (Q 18) (X 18), wC cI (Q 19) (X 19), wXF cZ (Q 20) (X 20), wA (Q 21) (X 21), wP (Q 22) (X 22), wO cB (Q 23) (X 23), wM cI cB cZ q w2.2] ⟨hx, hb, hml, hown, hts⟩ (mX9_premises l D cI cB cZ cO q _ fu z a1 hcw2) (cwV 1 hts gL_law_X9_premises rfl rfl rfl (by decide +kernel) ⟨Nat.le_of_ble_eq_true rfl, Nat.le_of_ble_eq_true rfl⟩) (hK.sub [0, 1, 2, 3] rfl) hP hD hS hA [25] [0, 1, 2, 3, 4, 5, 6, 7, 8, 9, 10, 11, 12, 13, 14, 15, 16, 17, 18, 19, 20, 21, 22, 23, 24] 26 rfl (by decide +kernel) rfl rfl [wL cJ a w1.2, wXO Q, wC cI (Q 1) (X 1), wC cI (Q 2) (X 2), wS (Q 3) (Q 4 0) (Q 5 0) (Q 6 0) (Q 7 0) (X 3), wT cB (Q 4) (X 4), wC cI (Q 5) (X 5), wA (Q 6) (X 6), wP (Q 7) (X 7), wH cO (Q 8) (Q 9 0) (Q 10 0) (Q 11 0) (Q 12 0) (Q 13 0) (Q 14 0) (Q 15 0) (Q 16 0) (X 8), wC cI (Q 9) (X 9), wC cI (Q 10) (X 10), wC cI (Q 11) (X 11), wC cI (Q 12) (X 12), wC cI (Q 13) (X 13), wC cI (Q 14) (X 14), wC cI (Q 15) (X 15), wC cI (Q 16) (X 16), wXS cO (Q 17) (Q 18 0) (Q 19 0), wC cI (Q 18) (X 18), wC cI (Q 19) (X 19), wXF cZ (Q 20) (X 20), wA (Q 21) (X 21), wP (Q 22) (X 22), wO cB (Q 23) (X 23)] rfl rfl rfl (va_recv hK hP (ci := 8) (q0 := 106) rfl rfl) rfl hl.1 rfl (Nat.le_of_ble_eq_true rfl) dL_law_1162 ⟨by show _ ≤ 601024; omega, by show _ ≤ 7293034; omega⟩ (fun H locs hP hD hS => ?_)
  refine lv_lstore (lv' := [(6, .long w2.1), (5, .int w1.1), (0, .ref b), (1, .ref (Q 0 0)), (2, .ref (q 0)), (3, .ref a), (4, .int i)]) hx hb dL_law_1165 hl (by decide) rfl (fun ls hl => ?_)
  refine lv_aload_n hx hb dL_law_1167 rfl (lv_at hl 4 rfl) ?_
  obtain ⟨w3, hcw3, hf⟩ := bd_ob hf
  refine rdV (As := []) (rest := []) ⟨hx, hb, hml, hown, hts⟩ (mX9_thrown l D cI cB cZ cO q fu w2.2 hcw3) (cwV 0 hts gL_law_X9_thrown rfl rfl rfl (by decide +kernel) ⟨Nat.le_of_ble_eq_true rfl, Nat.le_of_ble_eq_true rfl⟩) (hK.sub [0, 1, 2, 3] rfl) (hP.subb [25] rfl) (va_recv hK hP (ci := 8) (q0 := 106) rfl rfl) rfl hl.1 rfl (Nat.le_of_ble_eq_true rfl) dL_law_1168 ⟨by show _ ≤ 601024; omega, by show _ ≤ 7293034; omega⟩ ?_
  refine lv_iload hx hb dL_law_1171 (lv_at hl 1 rfl) ?_
  refine lv_icmp_eq (tgt := 1178) hx hb dL_law_1173 (by decide) (fun c6 => ?_) (fun c6 => ?_)
  · have hf := ip c6 hf
    refine lv_iload hx hb dL_law_1178 (lv_at hl 1 rfl) ?_
    refine lv_if_ne (tgt := 1194) hx hb dL_law_1180 (by decide) (fun c5 => ?_) (fun c5 => ?_)
    · have hf := iq c5 hf
      refine lv_goto (tgt := 2902) hx hb dL_law_1194 (by decide) ?_
      cases hf
      refine W.widen (k := cells + 8) (n := slots + 48) (by omega) (by omega) ?_
      exact kk _ _ _ hP hD hS (lv_sub hl [2, 3, 4, 5, 6] rfl)
    · have hf := ip c5 hf
      refine lv_aload_n hx hb dL_law_1183 rfl (lv_at hl 5 rfl) ?_
      refine lv_iconst (v := 0) hx hb dL_law_1184 (by decide) ?_
      refine va_lald hx hb hK hP 0 4 rfl rfl (inB_in (by decide)) dL_law_1185 ?_
      refine lv_lload hx hb dL_law_1186 (lv_at hl 0 rfl) ?_
      refine W.lcmp hx hb dL_law_1188 ?_
      refine lv_if_eq (tgt := 1194) hx hb dL_law_1189 (by decide) (fun c4 => ?_) (fun c4 => ?_)
      · have hf := ip c4 hf
        refine lv_goto (tgt := 2902) hx hb dL_law_1194 (by decide) ?_
        cases hf
        refine W.widen (k := cells + 8) (n := slots + 48) (by omega) (by omega) ?_
        exact kk _ _ _ hP hD hS (lv_sub hl [2, 3, 4, 5, 6] rfl)
      · have hf := iq c4 hf
        exact no_ob hf
  · have hf := iq c6 hf
    exact no_ob hf
set_option maxRecDepth 100000 in
set_option maxHeartbeats 4000000 in
theorem wL_20 {p : Program} {l : Launch} {e : Env} {s : State} {m : MethodId} {args : Array Value} {below : List Frame} {meth : Method} {c : Code} {H : Heap} {locs : List Loc} {cells slots : Nat} {Qf : State → Prop} {ls : Array Slot} {D : va_G} {cI cB cZ cO cJ : ClassId} {aK aV mK : Nat → Nat} {Q : Nat → Nat → Nat} {q : Nat → Nat} {a b L fu : Nat} {xs : Nat → Int32} {A : Nat → Prop} {X X1 : Nat → OS} {z z1 : OS} {o o1 : Nat → Int64} {i a1 a2 a3 a4 a5 : Int32} (hst : l.stackTraces = false) (hx : p.tables.exec = Jvm.exec) (hb : c.code = cL_law) (hml : c.maxLocals = 9) (hown : s.vm.findClass RL = some m.cls) (hts : ∀ w ∈ lw_tbl, w.before args s = true) (hK : va_K D vwCl (gL cI cB cZ cO cJ) s) (hA : ∀ q : Nat, s.heap.size ≤ q → A q) (hX : va_X b L xs s s.heap) (hbl : b < s.heap.size) (hbA : ¬ A b) (hE : EW aK aV mK A s s.heap) (hS : va_S A s.heap H locs) (hl : lv_has ls 9 [(0, .ref b), (1, .ref (Q 0 0)), (2, .ref (q 0)), (3, .ref a), (4, .int i)]) (n1 : vp_in (i + 1) L) (n2 : vp_in (i + 2) L) (n3 : vp_in (i + 3) L) (n4 : vp_in (i + 4) L) (n5 : vp_in (i + 5) L) (e1 : xs (i + 1).toNatClampNeg = a1) (e2 : xs (i + 2).toNatClampNeg = a2) (e3 : xs (i + 3).toNatClampNeg = a3) (e4 : xs (i + 4).toNatClampNeg = a4) (e5 : xs (i + 5).toNatClampNeg = a5) (hcl : cells + 8 ≤ 601024) (hsl : slots + 48 ≤ 7293034) (kk : ∀ (H1 : Heap) (locs1 : List Loc) (ls1 : Array Slot), va_P D vwCl (fl (lawW cI cB cZ cO cJ Q q a X1 z1 o1)) H1 → va_D A (fl (lawW cI cB cZ cO cJ Q q a X1 z1 o1)) → va_S A s.heap H1 locs1 → lv_has ls1 9 [(0, .ref b), (1, .ref (Q 0 0)), (2, .ref (q 0)), (3, .ref a), (4, .int i)] → W p l e room_1 s m args below meth c H1 locs1 (cells + 8) (slots + 48) Qf (F0 m 2902 ls1 [])) (hP : va_P D vwCl (fl (lawW cI cB cZ cO cJ Q q a X z o)) H) (hD : va_D A (fl (lawW cI cB cZ cO cJ Q q a X z o))) (hf : cL_20 fu a1 a2 a3 a4 a5 X z o = some (X1, z1, o1)) : W p l e room_1 s m args below meth c H locs cells slots Qf (F0 m 1197 ls []) := by
  unfold cL_20 at hf
  refine lv_aload_n hx hb dL_law_1197 rfl (lv_at hl 1 rfl) ?_
  obtain ⟨w1, hcw1, hf⟩ := bd_ob hf
  refine rdV (As := []) (rest := []) ⟨hx, hb, hml, hown, hts⟩ (mX8_emptyClause l D cI cB cZ cO Q fu (X 0) (X 1) (X 2) (X 3) (X 4) (X 5) (X 6) (X 7) (X 8) (X 9) (X 10) (X 11) (X 12) (X 13) (X 14) (X 15) (X 16) (X 17) (X 18) (X 19) (X 20) (X 21) (X 22) (X 23) hcw1) (cwV 0 hts gL_law_X8_emptyClause rfl rfl rfl (by decide +kernel) ⟨Nat.le_of_ble_eq_true rfl, Nat.le_of_ble_eq_true rfl⟩) (hK.sub [0, 1, 2, 3] rfl) (hP.subb [1, 2, 3, 4, 5, 6, 7, 8, 9, 10, 11, 12, 13, 14, 15, 16, 17, 18, 19, 20, 21, 22, 23, 24] rfl) (va_recv hK hP (ci := 7) (q0 := 1) rfl rfl) rfl hl.1 rfl (Nat.le_of_ble_eq_true rfl) dL_law_1198 ⟨by show _ ≤ 601024; omega, by show _ ≤ 7293034; omega⟩ ?_
  refine lv_aload_n hx hb dL_law_1201 rfl (lv_at hl 2 rfl) ?_
  obtain ⟨w2, hcw2, hf⟩ := bd_ob hf
  refine wrVb (As := []) (rest := [.int w1]) [wL cJ a o, wXO Q, wC cI (Q 1) (X 1), wC cI (Q 2) (X 2), wS (Q 3) (Q 4 0) (Q 5 0) (Q 6 0) (Q 7 0) (X 3), wT cB (Q 4) (X 4), wC cI (Q 5) (X 5), wA (Q 6) (X 6), wP (Q 7) (X 7), wH cO (Q 8) (Q 9 0) (Q 10 0) (Q 11 0) (Q 12 0) (Q 13 0) (Q 14 0) (Q 15 0) (Q 16 0) (X 8), wC cI (Q 9) (X 9), wC cI (Q 10) (X 10), wC cI (Q 11) (X 11), wC cI (Q 12) (X 12), wC cI (Q 13) (X 13), wC cI (Q 14) (X 14), wC cI (Q 15) (X 15), wC cI (Q 16) (X 16), wXS cO (Q 17) (Q 18 0) (Q 19 0), wC cI (Q 18) (X 18), wC cI (Q 19) (X 19), wXF cZ (Q 20) (X 20), wA (Q 21) (X 21), wP (Q 22) (X 22), wO cB (Q 23) (X 23), wM cI cB cZ q w2.2] ⟨hx, hb, hml, hown, hts⟩ (mX9_emptyClause l D cI cB cZ cO q _ fu z hcw2) (cwV 0 hts gL_law_X9_emptyClause rfl rfl rfl (by decide +kernel) ⟨Nat.le_of_ble_eq_true rfl, Nat.le_of_ble_eq_true rfl⟩) (hK.sub [0, 1, 2, 3] rfl) hP hD hS hA [25] [0, 1, 2, 3, 4, 5, 6, 7, 8, 9, 10, 11, 12, 13, 14, 15, 16, 17, 18, 19, 20, 21, 22, 23, 24] 26 rfl (by decide +kernel) rfl rfl [wL cJ a o, wXO Q, wC cI (Q 1) (X 1), wC cI (Q 2) (X 2), wS (Q 3) (Q 4 0) (Q 5 0) (Q 6 0) (Q 7 0) (X 3), wT cB (Q 4) (X 4), wC cI (Q 5) (X 5), wA (Q 6) (X 6), wP (Q 7) (X 7), wH cO (Q 8) (Q 9 0) (Q 10 0) (Q 11 0) (Q 12 0) (Q 13 0) (Q 14 0) (Q 15 0) (Q 16 0) (X 8), wC cI (Q 9) (X 9), wC cI (Q 10) (X 10), wC cI (Q 11) (X 11), wC cI (Q 12) (X 12), wC cI (Q 13) (X 13), wC cI (Q 14) (X 14), wC cI (Q 15) (X 15), wC cI (Q 16) (X 16), wXS cO (Q 17) (Q 18 0) (Q 19 0), wC cI (Q 18) (X 18), wC cI (Q 19) (X 19), wXF cZ (Q 20) (X 20), wA (Q 21) (X 21), wP (Q 22) (X 22), wO cB (Q 23) (X 23)] rfl rfl rfl (va_recv hK hP (ci := 8) (q0 := 106) rfl rfl) rfl hl.1 rfl (Nat.le_of_ble_eq_true rfl) dL_law_1202 ⟨by show _ ≤ 601024; omega, by show _ ≤ 7293034; omega⟩ (fun H locs hP hD hS => ?_)
  refine lv_icmp_eq (tgt := 2902) hx hb dL_law_1205 (by decide) (fun c3 => ?_) (fun c3 => ?_)
  · have hf := ip c3 hf
    cases hf
    refine W.widen (k := cells + 8) (n := slots + 48) (by omega) (by omega) ?_
    exact kk _ _ _ hP hD hS (lv_sub hl [0, 1, 2, 3, 4] rfl)
  · have hf := iq c3 hf
    exact no_ob hf
set_option maxRecDepth 100000 in
set_option maxHeartbeats 4000000 in
theorem wL_21 {p : Program} {l : Launch} {e : Env} {s : State} {m : MethodId} {args : Array Value} {below : List Frame} {meth : Method} {c : Code} {H : Heap} {locs : List Loc} {cells slots : Nat} {Qf : State → Prop} {ls : Array Slot} {D : va_G} {cI cB cZ cO cJ : ClassId} {aK aV mK : Nat → Nat} {Q : Nat → Nat → Nat} {q : Nat → Nat} {a b L fu : Nat} {xs : Nat → Int32} {A : Nat → Prop} {X X1 : Nat → OS} {z z1 : OS} {o o1 : Nat → Int64} {i a1 a2 a3 a4 a5 : Int32} (hst : l.stackTraces = false) (hx : p.tables.exec = Jvm.exec) (hb : c.code = cL_law) (hml : c.maxLocals = 9) (hown : s.vm.findClass RL = some m.cls) (hts : ∀ w ∈ lw_tbl, w.before args s = true) (hK : va_K D vwCl (gL cI cB cZ cO cJ) s) (hA : ∀ q : Nat, s.heap.size ≤ q → A q) (hX : va_X b L xs s s.heap) (hbl : b < s.heap.size) (hbA : ¬ A b) (hE : EW aK aV mK A s s.heap) (hS : va_S A s.heap H locs) (hl : lv_has ls 9 [(0, .ref b), (1, .ref (Q 0 0)), (2, .ref (q 0)), (3, .ref a), (4, .int i)]) (n1 : vp_in (i + 1) L) (n2 : vp_in (i + 2) L) (n3 : vp_in (i + 3) L) (n4 : vp_in (i + 4) L) (n5 : vp_in (i + 5) L) (e1 : xs (i + 1).toNatClampNeg = a1) (e2 : xs (i + 2).toNatClampNeg = a2) (e3 : xs (i + 3).toNatClampNeg = a3) (e4 : xs (i + 4).toNatClampNeg = a4) (e5 : xs (i + 5).toNatClampNeg = a5) (hcl : cells + 8 ≤ 601024) (hsl : slots + 48 ≤ 7293034) (kk : ∀ (H1 : Heap) (locs1 : List Loc) (ls1 : Array Slot), va_P D vwCl (fl (lawW cI cB cZ cO cJ Q q a X1 z1 o1)) H1 → va_D A (fl (lawW cI cB cZ cO cJ Q q a X1 z1 o1)) → va_S A s.heap H1 locs1 → lv_has ls1 9 [(0, .ref b), (1, .ref (Q 0 0)), (2, .ref (q 0)), (3, .ref a), (4, .int i)] → W p l e room_1 s m args below meth c H1 locs1 (cells + 8) (slots + 48) Qf (F0 m 2902 ls1 [])) (hP : va_P D vwCl (fl (lawW cI cB cZ cO cJ Q q a X z o)) H) (hD : va_D A (fl (lawW cI cB cZ cO cJ Q q a X z o))) (hf : cL_21 fu a1 a2 a3 a4 a5 X z o = some (X1, z1, o1)) : W p l e room_1 s m args below meth c H locs cells slots Qf (F0 m 1210 ls []) := by
  unfold cL_21 at hf
  refine lv_aload_n hx hb dL_law_1210 rfl (lv_at hl 1 rfl) ?_
  refine lv_aload_n hx hb dL_law_1211 rfl (lv_at hl 0 rfl) ?_
  refine lv_iload hx hb dL_law_1212 (lv_at hl 4 rfl) ?_
  refine lv_iconst (v := 1) hx hb dL_law_1214 (by decide) ?_
  refine lv_iadd hx hb dL_law_1215 ?_
  refine va_sldE hx hb hX hbl hbA hS n1 e1 dL_law_1216 ?_
  obtain ⟨w1, hcw1, hf⟩ := bd_ob hf
  refine rdV (As := [.int a1]) (rest := []) ⟨hx, hb, hml, hown, hts⟩ (mX8_clausesOfSize l D cI cB cZ cO Q fu (X 0) (X 1) (X 2) (X 3) (X 4) (X 5) (X 6) (X 7) (X 8) (X 9) (X 10) (X 11) (X 12) (X 13) (X 14) (X 15) (X 16) (X 17) (X 18) (X 19) (X 20) (X 21) (X 22) (X 23) a1 hcw1) (cwV 1 hts gL_law_X8_clausesOfSize rfl rfl rfl (by decide +kernel) ⟨Nat.le_of_ble_eq_true rfl, Nat.le_of_ble_eq_true rfl⟩) (hK.sub [0, 1, 2, 3] rfl) (hP.subb [1, 2, 3, 4, 5, 6, 7, 8, 9, 10, 11, 12, 13, 14, 15, 16, 17, 18, 19, 20, 21, 22, 23, 24] rfl) (va_recv hK hP (ci := 7) (q0 := 1) rfl rfl) rfl hl.1 rfl (Nat.le_of_ble_eq_true rfl) dL_law_1217 ⟨by show _ ≤ 601024; omega, by show _ ≤ 7293034; omega⟩ ?_
  refine lv_aload_n hx hb dL_law_1220 rfl (lv_at hl 2 rfl) ?_
  refine lv_aload_n hx hb dL_law_1221 rfl (lv_at hl 0 rfl) ?_
  refine lv_iload hx hb dL_law_1222 (lv_at hl 4 rfl) ?_
  refine lv_iconst (v := 1) hx hb dL_law_1224 (by decide) ?_
  refine lv_iadd hx hb dL_law_1225 ?_
  refine va_sldE hx hb hX hbl hbA hS n1 e1 dL_law_1226 ?_
  obtain ⟨w2, hcw2, hf⟩ := bd_ob hf
  refine wrVb (As := [.int a1]) (rest := [.int w1]) [wL cJ a o, wXO Q, wC cI (Q 1) (X 1), wC cI (Q 2) (X 2), wS (Q 3) (Q 4 0) (Q 5 0) (Q 6 0) (Q 7 0) (X 3), wT cB (Q 4) (X 4), wC cI (Q 5) (X 5), wA (Q 6) (X 6), wP (Q 7) (X 7), wH cO (Q 8) (Q 9 0) (Q 10 0) (Q 11 0) (Q 12 0) (Q 13 0) (Q 14 0) (Q 15 0) (Q 16 0) (X 8), wC cI (Q 9) (X 9), wC cI (Q 10) (X 10), wC cI (Q 11) (X 11), wC cI (Q 12) (X 12), wC cI (Q 13) (X 13), wC cI (Q 14) (X 14), wC cI (Q 15) (X 15), wC cI (Q 16) (X 16), wXS cO (Q 17) (Q 18 0) (Q 19 0), wC cI (Q 18) (X 18), wC cI (Q 19) (X 19), wXF cZ (Q 20) (X 20), wA (Q 21) (X 21), wP (Q 22) (X 22), wO cB (Q 23) (X 23), wM cI cB cZ q w2.2] ⟨hx, hb, hml, hown, hts⟩ (mX9_clausesOfSize l D cI cB cZ cO q _ fu z a1 hcw2) (cwV 1 hts gL_law_X9_clausesOfSize rfl rfl rfl (by decide +kernel) ⟨Nat.le_of_ble_eq_true rfl, Nat.le_of_ble_eq_true rfl⟩) (hK.sub [0, 1, 2, 3] rfl) hP hD hS hA [25] [0, 1, 2, 3, 4, 5, 6, 7, 8, 9, 10, 11, 12, 13, 14, 15, 16, 17, 18, 19, 20, 21, 22, 23, 24] 26 rfl (by decide +kernel) rfl rfl [wL cJ a o, wXO Q, wC cI (Q 1) (X 1), wC cI (Q 2) (X 2), wS (Q 3) (Q 4 0) (Q 5 0) (Q 6 0) (Q 7 0) (X 3), wT cB (Q 4) (X 4), wC cI (Q 5) (X 5), wA (Q 6) (X 6), wP (Q 7) (X 7), wH cO (Q 8) (Q 9 0) (Q 10 0) (Q 11 0) (Q 12 0) (Q 13 0) (Q 14 0) (Q 15 0) (Q 16 0) (X 8), wC cI (Q 9) (X 9), wC cI (Q 10) (X 10), wC cI (Q 11) (X 11), wC cI (Q 12) (X 12), wC cI (Q 13) (X 13), wC cI (Q 14) (X 14), wC cI (Q 15) (X 15), wC cI (Q 16) (X 16), wXS cO (Q 17) (Q 18 0) (Q 19 0), wC cI (Q 18) (X 18), wC cI (Q 19) (X 19), wXF cZ (Q 20) (X 20), wA (Q 21) (X 21), wP (Q 22) (X 22), wO cB (Q 23) (X 23)] rfl rfl rfl (va_recv hK hP (ci := 8) (q0 := 106) rfl rfl) rfl hl.1 rfl (Nat.le_of_ble_eq_true rfl) dL_law_1227 ⟨by show _ ≤ 601024; omega, by show _ ≤ 7293034; omega⟩ (fun H locs hP hD hS => ?_)
  refine lv_icmp_eq (tgt := 2902) hx hb dL_law_1230 (by decide) (fun c3 => ?_) (fun c3 => ?_)
  · have hf := ip c3 hf
    cases hf
    refine W.widen (k := cells + 8) (n := slots + 48) (by omega) (by omega) ?_
    exact kk _ _ _ hP hD hS (lv_sub hl [0, 1, 2, 3, 4] rfl)
  · have hf := iq c3 hf
    exact no_ob hf
set_option maxRecDepth 100000 in
set_option maxHeartbeats 4000000 in
theorem wL_22 {p : Program} {l : Launch} {e : Env} {s : State} {m : MethodId} {args : Array Value} {below : List Frame} {meth : Method} {c : Code} {H : Heap} {locs : List Loc} {cells slots : Nat} {Qf : State → Prop} {ls : Array Slot} {D : va_G} {cI cB cZ cO cJ : ClassId} {aK aV mK : Nat → Nat} {Q : Nat → Nat → Nat} {q : Nat → Nat} {a b L fu : Nat} {xs : Nat → Int32} {A : Nat → Prop} {X X1 : Nat → OS} {z z1 : OS} {o o1 : Nat → Int64} {i a1 a2 a3 a4 a5 : Int32} (hst : l.stackTraces = false) (hx : p.tables.exec = Jvm.exec) (hb : c.code = cL_law) (hml : c.maxLocals = 9) (hown : s.vm.findClass RL = some m.cls) (hts : ∀ w ∈ lw_tbl, w.before args s = true) (hK : va_K D vwCl (gL cI cB cZ cO cJ) s) (hA : ∀ q : Nat, s.heap.size ≤ q → A q) (hX : va_X b L xs s s.heap) (hbl : b < s.heap.size) (hbA : ¬ A b) (hE : EW aK aV mK A s s.heap) (hS : va_S A s.heap H locs) (hl : lv_has ls 9 [(0, .ref b), (1, .ref (Q 0 0)), (2, .ref (q 0)), (3, .ref a), (4, .int i)]) (n1 : vp_in (i + 1) L) (n2 : vp_in (i + 2) L) (n3 : vp_in (i + 3) L) (n4 : vp_in (i + 4) L) (n5 : vp_in (i + 5) L) (e1 : xs (i + 1).toNatClampNeg = a1) (e2 : xs (i + 2).toNatClampNeg = a2) (e3 : xs (i + 3).toNatClampNeg = a3) (e4 : xs (i + 4).toNatClampNeg = a4) (e5 : xs (i + 5).toNatClampNeg = a5) (hcl : cells + 8 ≤ 601024) (hsl : slots + 48 ≤ 7293034) (kk : ∀ (H1 : Heap) (locs1 : List Loc) (ls1 : Array Slot), va_P D vwCl (fl (lawW cI cB cZ cO cJ Q q a X1 z1 o1)) H1 → va_D A (fl (lawW cI cB cZ cO cJ Q q a X1 z1 o1)) → va_S A s.heap H1 locs1 → lv_has ls1 9 [(0, .ref b), (1, .ref (Q 0 0)), (2, .ref (q 0)), (3, .ref a), (4, .int i)] → W p l e room_1 s m args below meth c H1 locs1 (cells + 8) (slots + 48) Qf (F0 m 2902 ls1 [])) (hP : va_P D vwCl (fl (lawW cI cB cZ cO cJ Q q a X z o)) H) (hD : va_D A (fl (lawW cI cB cZ cO cJ Q q a X z o))) (hf : cL_22 fu a1 a2 a3 a4 a5 X z o = some (X1, z1, o1)) : W p l e room_1 s m args below meth c H locs cells slots Qf (F0 m 1235 ls []) := by
  unfold cL_22 at hf
  refine lv_aload_n hx hb dL_law_1235 rfl (lv_at hl 1 rfl) ?_
  obtain ⟨w1, hcw1, hf⟩ := bd_ob hf
  refine rdV (As := []) (rest := []) ⟨hx, hb, hml, hown, hts⟩ (mX8_hornClauses l D cI cB cZ cO Q fu (X 0) (X 1) (X 2) (X 3) (X 4) (X 5) (X 6) (X 7) (X 8) (X 9) (X 10) (X 11) (X 12) (X 13) (X 14) (X 15) (X 16) (X 17) (X 18) (X 19) (X 20) (X 21) (X 22) (X 23) hcw1) (cwV 0 hts gL_law_X8_hornClauses rfl rfl rfl (by decide +kernel) ⟨Nat.le_of_ble_eq_true rfl, Nat.le_of_ble_eq_true rfl⟩) (hK.sub [0, 1, 2, 3] rfl) (hP.subb [1, 2, 3, 4, 5, 6, 7, 8, 9, 10, 11, 12, 13, 14, 15, 16, 17, 18, 19, 20, 21, 22, 23, 24] rfl) (va_recv hK hP (ci := 7) (q0 := 1) rfl rfl) rfl hl.1 rfl (Nat.le_of_ble_eq_true rfl) dL_law_1236 ⟨by show _ ≤ 601024; omega, by show _ ≤ 7293034; omega⟩ ?_
  refine lv_aload_n hx hb dL_law_1239 rfl (lv_at hl 2 rfl) ?_
  obtain ⟨w2, hcw2, hf⟩ := bd_ob hf
  refine wrVb (As := []) (rest := [.int w1]) [wL cJ a o, wXO Q, wC cI (Q 1) (X 1), wC cI (Q 2) (X 2), wS (Q 3) (Q 4 0) (Q 5 0) (Q 6 0) (Q 7 0) (X 3), wT cB (Q 4) (X 4), wC cI (Q 5) (X 5), wA (Q 6) (X 6), wP (Q 7) (X 7), wH cO (Q 8) (Q 9 0) (Q 10 0) (Q 11 0) (Q 12 0) (Q 13 0) (Q 14 0) (Q 15 0) (Q 16 0) (X 8), wC cI (Q 9) (X 9), wC cI (Q 10) (X 10), wC cI (Q 11) (X 11), wC cI (Q 12) (X 12), wC cI (Q 13) (X 13), wC cI (Q 14) (X 14), wC cI (Q 15) (X 15), wC cI (Q 16) (X 16), wXS cO (Q 17) (Q 18 0) (Q 19 0), wC cI (Q 18) (X 18), wC cI (Q 19) (X 19), wXF cZ (Q 20) (X 20), wA (Q 21) (X 21), wP (Q 22) (X 22), wO cB (Q 23) (X 23), wM cI cB cZ q w2.2] ⟨hx, hb, hml, hown, hts⟩ (mX9_hornClauses l D cI cB cZ cO q _ fu z hcw2) (cwV 0 hts gL_law_X9_hornClauses rfl rfl rfl (by decide +kernel) ⟨Nat.le_of_ble_eq_true rfl, Nat.le_of_ble_eq_true rfl⟩) (hK.sub [0, 1, 2, 3] rfl) hP hD hS hA [25] [0, 1, 2, 3, 4, 5, 6, 7, 8, 9, 10, 11, 12, 13, 14, 15, 16, 17, 18, 19, 20, 21, 22, 23, 24] 26 rfl (by decide +kernel) rfl rfl [wL cJ a o, wXO Q, wC cI (Q 1) (X 1), wC cI (Q 2) (X 2), wS (Q 3) (Q 4 0) (Q 5 0) (Q 6 0) (Q 7 0) (X 3), wT cB (Q 4) (X 4), wC cI (Q 5) (X 5), wA (Q 6) (X 6), wP (Q 7) (X 7), wH cO (Q 8) (Q 9 0) (Q 10 0) (Q 11 0) (Q 12 0) (Q 13 0) (Q 14 0) (Q 15 0) (Q 16 0) (X 8), wC cI (Q 9) (X 9), wC cI (Q 10) (X 10), wC cI (Q 11) (X 11), wC cI (Q 12) (X 12), wC cI (Q 13) (X 13), wC cI (Q 14) (X 14), wC cI (Q 15) (X 15), wC cI (Q 16) (X 16), wXS cO (Q 17) (Q 18 0) (Q 19 0), wC cI (Q 18) (X 18), wC cI (Q 19) (X 19), wXF cZ (Q 20) (X 20), wA (Q 21) (X 21), wP (Q 22) (X 22), wO cB (Q 23) (X 23)] rfl rfl rfl (va_recv hK hP (ci := 8) (q0 := 106) rfl rfl) rfl hl.1 rfl (Nat.le_of_ble_eq_true rfl) dL_law_1240 ⟨by show _ ≤ 601024; omega, by show _ ≤ 7293034; omega⟩ (fun H locs hP hD hS => ?_)
  refine lv_icmp_eq (tgt := 2902) hx hb dL_law_1243 (by decide) (fun c3 => ?_) (fun c3 => ?_)
  · have hf := ip c3 hf
    cases hf
    refine W.widen (k := cells + 8) (n := slots + 48) (by omega) (by omega) ?_
    exact kk _ _ _ hP hD hS (lv_sub hl [0, 1, 2, 3, 4] rfl)
  · have hf := iq c3 hf
    exact no_ob hf
set_option maxRecDepth 100000 in
set_option maxHeartbeats 4000000 in
theorem wL_23 {p : Program} {l : Launch} {e : Env} {s : State} {m : MethodId} {args : Array Value} {below : List Frame} {meth : Method} {c : Code} {H : Heap} {locs : List Loc} {cells slots : Nat} {Qf : State → Prop} {ls : Array Slot} {D : va_G} {cI cB cZ cO cJ : ClassId} {aK aV mK : Nat → Nat} {Q : Nat → Nat → Nat} {q : Nat → Nat} {a b L fu : Nat} {xs : Nat → Int32} {A : Nat → Prop} {X X1 : Nat → OS} {z z1 : OS} {o o1 : Nat → Int64} {i a1 a2 a3 a4 a5 : Int32} (hst : l.stackTraces = false) (hx : p.tables.exec = Jvm.exec) (hb : c.code = cL_law) (hml : c.maxLocals = 9) (hown : s.vm.findClass RL = some m.cls) (hts : ∀ w ∈ lw_tbl, w.before args s = true) (hK : va_K D vwCl (gL cI cB cZ cO cJ) s) (hA : ∀ q : Nat, s.heap.size ≤ q → A q) (hX : va_X b L xs s s.heap) (hbl : b < s.heap.size) (hbA : ¬ A b) (hE : EW aK aV mK A s s.heap) (hS : va_S A s.heap H locs) (hl : lv_has ls 9 [(0, .ref b), (1, .ref (Q 0 0)), (2, .ref (q 0)), (3, .ref a), (4, .int i)]) (n1 : vp_in (i + 1) L) (n2 : vp_in (i + 2) L) (n3 : vp_in (i + 3) L) (n4 : vp_in (i + 4) L) (n5 : vp_in (i + 5) L) (e1 : xs (i + 1).toNatClampNeg = a1) (e2 : xs (i + 2).toNatClampNeg = a2) (e3 : xs (i + 3).toNatClampNeg = a3) (e4 : xs (i + 4).toNatClampNeg = a4) (e5 : xs (i + 5).toNatClampNeg = a5) (hcl : cells + 8 ≤ 601024) (hsl : slots + 48 ≤ 7293034) (kk : ∀ (H1 : Heap) (locs1 : List Loc) (ls1 : Array Slot), va_P D vwCl (fl (lawW cI cB cZ cO cJ Q q a X1 z1 o1)) H1 → va_D A (fl (lawW cI cB cZ cO cJ Q q a X1 z1 o1)) → va_S A s.heap H1 locs1 → lv_has ls1 9 [(0, .ref b), (1, .ref (Q 0 0)), (2, .ref (q 0)), (3, .ref a), (4, .int i)] → W p l e room_1 s m args below meth c H1 locs1 (cells + 8) (slots + 48) Qf (F0 m 2902 ls1 [])) (hP : va_P D vwCl (fl (lawW cI cB cZ cO cJ Q q a X z o)) H) (hD : va_D A (fl (lawW cI cB cZ cO cJ Q q a X z o))) (hf : cL_23 fu a1 a2 a3 a4 a5 X z o = some (X1, z1, o1)) : W p l e room_1 s m args below meth c H locs cells slots Qf (F0 m 1248 ls []) := by
  unfold cL_23 at hf
  refine lv_aload_n hx hb dL_law_1248 rfl (lv_at hl 1 rfl) ?_
  refine lv_aload_n hx hb dL_law_1249 rfl (lv_at hl 0 rfl) ?_
  refine lv_iload hx hb dL_law_1250 (lv_at hl 4 rfl) ?_
  refine lv_iconst (v := 1) hx hb dL_law_1252 (by decide) ?_
  refine lv_iadd hx hb dL_law_1253 ?_
  refine va_sldE hx hb hX hbl hbA hS n1 e1 dL_law_1254 ?_
  refine lv_aload_n hx hb dL_law_1255 rfl (lv_at hl 0 rfl) ?_
  refine lv_iload hx hb dL_law_1256 (lv_at hl 4 rfl) ?_
  refine lv_iconst (v := 2) hx hb dL_law_1258 (by decide) ?_
  refine lv_iadd hx hb dL_law_1259 ?_
  refine va_sldE hx hb hX hbl hbA hS n2 e2 dL_law_1260 ?_
  refine lv_if_eq (tgt := 1268) hx hb dL_law_1261 (by decide) (fun c25 => ?_) (fun c25 => ?_)
  · have hf := ip c25 hf
    refine lv_iconst (v := 0) hx hb dL_law_1268 (by decide) ?_
    refine lv_aload_n hx hb dL_law_1269 rfl (lv_at hl 3 rfl) ?_
    obtain ⟨w1, hcw1, hf⟩ := bd_ob hf
    refine wrSWb (As := [.ref (Q 0 0), .int a1, .int (0 : Int32), .ref a]) (rest := []) [wL cJ a w1.2, wXO Q, wC cI (Q 1) (X 1), wC cI (Q 2) (X 2), wS (Q 3) (Q 4 0) (Q 5 0) (Q 6 0) (Q 7 0) (X 3), wT cB (Q 4) (X 4), wC cI (Q 5) (X 5), wA (Q 6) (X 6), wP (Q 7) (X 7), wH cO (Q 8) (Q 9 0) (Q 10 0) (Q 11 0) (Q 12 0) (Q 13 0) (Q 14 0) (Q 15 0) (Q 16 0) (X 8), wC cI (Q 9) (X 9), wC cI (Q 10) (X 10), wC cI (Q 11) (X 11), wC cI (Q 12) (X 12), wC cI (Q 13) (X 13), wC cI (Q 14) (X 14), wC cI (Q 15) (X 15), wC cI (Q 16) (X 16), wXS cO (Q 17) (Q 18 0) (Q 19 0), wC cI (Q 18) (X 18), wC cI (Q 19) (X 19), wXF cZ (Q 20) (X 20), wA (Q 21) (X 21), wP (Q 22) (X 22), wO cB (Q 23) (X 23), wM cI cB cZ q z] ⟨hx, hb, hml, hown, hts⟩ (mL_occurrences l D cI cB cZ cO cJ aK aV mK hst Q a _ fu o (X 0) (X 1) (X 2) (X 3) (X 4) (X 5) (X 6) (X 7) (X 8) (X 9) (X 10) (X 11) (X 12) (X 13) (X 14) (X 15) (X 16) (X 17) (X 18) (X 19) (X 20) (X 21) (X 22) (X 23) a1 (0 : Int32) hcw1) (vx_cwSW 4 hts gL_law_L_occurrences rfl rfl rfl (by decide +kernel) ⟨Nat.le_of_ble_eq_true rfl, Nat.le_of_ble_eq_true rfl⟩) (EW_ok aK aV mK) ((EW_ok aK aV mK).2.2.1 _ _ _ _ hS.2.1 hE) hK hP hD hS hA [0, 1, 2, 3, 4, 5, 6, 7, 8, 9, 10, 11, 12, 13, 14, 15, 16, 17, 18, 19, 20, 21, 22, 23, 24] [25] 26 rfl (by decide +kernel) rfl rfl [wM cI cB cZ q z] rfl rfl rfl rfl hl.1 rfl (Nat.le_of_ble_eq_true rfl) dL_law_1270 ⟨by show _ ≤ 601024; omega, by show _ ≤ 7293034; omega⟩ (fun H locs hP hD hS => ?_)
    refine lv_istore (lv' := [(5, .int w1.1), (0, .ref b), (1, .ref (Q 0 0)), (2, .ref (q 0)), (3, .ref a), (4, .int i)]) hx hb dL_law_1273 hl (by decide) rfl (fun ls hl => ?_)
    refine lv_aload_n hx hb dL_law_1275 rfl (lv_at hl 3 rfl) ?_
    refine lv_aload_n hx hb dL_law_1276 rfl (lv_at hl 1 rfl) ?_
    refine lv_iload hx hb dL_law_1277 (lv_at hl 5 rfl) ?_
    refine lv_iconst (v := 1) hx hb dL_law_1279 (by decide) ?_
    refine lv_iadd hx hb dL_law_1280 ?_
    refine va_sldE hx hb hX hbl hbA hS n1 e1 dL_law_1281 ?_
    refine lv_aload_n hx hb dL_law_1282 rfl (lv_at hl 1 rfl) ?_
    refine lv_iload hx hb dL_law_1283 (lv_at hl 5 rfl) ?_
    refine lv_iconst (v := 2) hx hb dL_law_1285 (by decide) ?_
    refine lv_iadd hx hb dL_law_1286 ?_
    refine va_sldE hx hb hX hbl hbA hS n2 e2 dL_law_1287 ?_
    refine lv_if_eq (tgt := 1295) hx hb dL_law_1288 (by decide) (fun c12 => ?_) (fun c12 => ?_)
    · have hf := ip c12 hf
      refine lv_iconst (v := 0) hx hb dL_law_1295 (by decide) ?_
      obtain ⟨w2, hcw2, hf⟩ := bd_ob hf
      refine wrVb (As := [.int a1, .int (0 : Int32)]) (rest := []) [wL cJ a w1.2, wXO Q, wC cI (Q 1) (X 1), wC cI (Q 2) (X 2), wS (Q 3) (Q 4 0) (Q 5 0) (Q 6 0) (Q 7 0) (X 3), wT cB (Q 4) (X 4), wC cI (Q 5) (X 5), wA (Q 6) (X 6), wP (Q 7) (X 7), wH cO (Q 8) (Q 9 0) (Q 10 0) (Q 11 0) (Q 12 0) (Q 13 0) (Q 14 0) (Q 15 0) (Q 16 0) (X 8), wC cI (Q 9) (X 9), wC cI (Q 10) (X 10), wC cI (Q 11) (X 11), wC cI (Q 12) (X 12), wC cI (Q 13) (X 13), wC cI (Q 14) (X 14), wC cI (Q 15) (X 15), wC cI (Q 16) (X 16), wXS cO (Q 17) (Q 18 0) (Q 19 0), wC cI (Q 18) (X 18), wC cI (Q 19) (X 19), wXF cZ (Q 20) (X 20), wA (Q 21) (X 21), wP (Q 22) (X 22), wO cB (Q 23) (X 23), wM cI cB cZ q w2.2] ⟨hx, hb, hml, hown, hts⟩ (mX9_occurrences l D cI cB cZ cO q _ fu z a1 (0 : Int32) hcw2) (cwV 2 hts gL_law_X9_occurrences rfl rfl rfl (by decide +kernel) ⟨Nat.le_of_ble_eq_true rfl, Nat.le_of_ble_eq_true rfl⟩) (hK.sub [0, 1, 2, 3] rfl) hP hD hS hA [25] [0, 1, 2, 3, 4, 5, 6, 7, 8, 9, 10, 11, 12, 13, 14, 15, 16, 17, 18, 19, 20, 21, 22, 23, 24] 26 rfl (by decide +kernel) rfl rfl [wL cJ a w1.2, wXO Q, wC cI (Q 1) (X 1), wC cI (Q 2) (X 2), wS (Q 3) (Q 4 0) (Q 5 0) (Q 6 0) (Q 7 0) (X 3), wT cB (Q 4) (X 4), wC cI (Q 5) (X 5), wA (Q 6) (X 6), wP (Q 7) (X 7), wH cO (Q 8) (Q 9 0) (Q 10 0) (Q 11 0) (Q 12 0) (Q 13 0) (Q 14 0) (Q 15 0) (Q 16 0) (X 8), wC cI (Q 9) (X 9), wC cI (Q 10) (X 10), wC cI (Q 11) (X 11), wC cI (Q 12) (X 12), wC cI (Q 13) (X 13), wC cI (Q 14) (X 14), wC cI (Q 15) (X 15), wC cI (Q 16) (X 16), wXS cO (Q 17) (Q 18 0) (Q 19 0), wC cI (Q 18) (X 18), wC cI (Q 19) (X 19), wXF cZ (Q 20) (X 20), wA (Q 21) (X 21), wP (Q 22) (X 22), wO cB (Q 23) (X 23)] rfl rfl rfl (va_recv hK hP (ci := 8) (q0 := 106) rfl rfl) rfl hl.1 rfl (Nat.le_of_ble_eq_true rfl) dL_law_1296 ⟨by show _ ≤ 601024; omega, by show _ ≤ 7293034; omega⟩ (fun H locs hP hD hS => ?_)
      refine lv_istore (lv' := [(6, .int w2.1), (5, .int w1.1), (0, .ref b), (1, .ref (Q 0 0)), (2, .ref (q 0)), (3, .ref a), (4, .int i)]) hx hb dL_law_1299 hl (by decide) rfl (fun ls hl => ?_)
      refine lv_aload_n hx hb dL_law_1301 rfl (lv_at hl 4 rfl) ?_
      obtain ⟨w3, hcw3, hf⟩ := bd_ob hf
      refine rdV (As := []) (rest := []) ⟨hx, hb, hml, hown, hts⟩ (mX9_thrown l D cI cB cZ cO q fu w2.2 hcw3) (cwV 0 hts gL_law_X9_thrown rfl rfl rfl (by decide +kernel) ⟨Nat.le_of_ble_eq_true rfl, Nat.le_of_ble_eq_true rfl⟩) (hK.sub [0, 1, 2, 3] rfl) (hP.subb [25] rfl) (va_recv hK hP (ci := 8) (q0 := 106) rfl rfl) rfl hl.1 rfl (Nat.le_of_ble_eq_true rfl) dL_law_1302 ⟨by show _ ≤ 601024; omega, by show _ ≤ 7293034; omega⟩ ?_
      refine lv_iload hx hb dL_law_1305 (lv_at hl 1 rfl) ?_
      refine lv_icmp_eq (tgt := 1312) hx hb dL_law_1307 (by decide) (fun c6 => ?_) (fun c6 => ?_)
      · have hf := ip c6 hf
        refine lv_iload hx hb dL_law_1312 (lv_at hl 1 rfl) ?_
        refine lv_if_ne (tgt := 1329) hx hb dL_law_1314 (by decide) (fun c5 => ?_) (fun c5 => ?_)
        · have hf := iq c5 hf
          refine lv_goto (tgt := 2902) hx hb dL_law_1329 (by decide) ?_
          cases hf
          refine W.widen (k := cells + 8) (n := slots + 48) (by omega) (by omega) ?_
          exact kk _ _ _ hP hD hS (lv_sub hl [2, 3, 4, 5, 6] rfl)
        · have hf := ip c5 hf
          refine lv_aload_n hx hb dL_law_1317 rfl (lv_at hl 5 rfl) ?_
          refine lv_iconst (v := 0) hx hb dL_law_1318 (by decide) ?_
          refine va_lald hx hb hK hP 0 4 rfl rfl (inB_in (by decide)) dL_law_1319 ?_
          refine lv_iload hx hb dL_law_1320 (lv_at hl 0 rfl) ?_
          refine lv_i2l hx hb dL_law_1322 rfl ?_
          refine W.lcmp hx hb dL_law_1323 ?_
          refine lv_if_eq (tgt := 1329) hx hb dL_law_1324 (by decide) (fun c4 => ?_) (fun c4 => ?_)
          · have hf := ip c4 hf
            refine lv_goto (tgt := 2902) hx hb dL_law_1329 (by decide) ?_
            cases hf
            refine W.widen (k := cells + 8) (n := slots + 48) (by omega) (by omega) ?_
            exact kk _ _ _ hP hD hS (lv_sub hl [2, 3, 4, 5, 6] rfl)
          · have hf := iq c4 hf
            exact no_ob hf
      · have hf := iq c6 hf
        exact no_ob hf
    · have hf := iq c12 hf
      refine lv_iconst (v := 1) hx hb dL_law_1291 (by decide) ?_
      refine lv_goto (tgt := 1296) hx hb dL_law_1292 (by decide) ?_
      obtain ⟨w7, hcw7, hf⟩ := bd_ob hf
      refine wrVb (As := [.int a1, .int (1 : Int32)]) (rest := []) [wL cJ a w1.2, wXO Q, wC cI (Q 1) (X 1), wC cI (Q 2) (X 2), wS (Q 3) (Q 4 0) (Q 5 0) (Q 6 0) (Q 7 0) (X 3), wT cB (Q 4) (X 4), wC cI (Q 5) (X 5), wA (Q 6) (X 6), wP (Q 7) (X 7), wH cO (Q 8) (Q 9 0) (Q 10 0) (Q 11 0) (Q 12 0) (Q 13 0) (Q 14 0) (Q 15 0) (Q 16 0) (X 8), wC cI (Q 9) (X 9), wC cI (Q 10) (X 10), wC cI (Q 11) (X 11), wC cI (Q 12) (X 12), wC cI (Q 13) (X 13), wC cI (Q 14) (X 14), wC cI (Q 15) (X 15), wC cI (Q 16) (X 16), wXS cO (Q 17) (Q 18 0) (Q 19 0), wC cI (Q 18) (X 18), wC cI (Q 19) (X 19), wXF cZ (Q 20) (X 20), wA (Q 21) (X 21), wP (Q 22) (X 22), wO cB (Q 23) (X 23), wM cI cB cZ q w7.2] ⟨hx, hb, hml, hown, hts⟩ (mX9_occurrences l D cI cB cZ cO q _ fu z a1 (1 : Int32) hcw7) (cwV 2 hts gL_law_X9_occurrences rfl rfl rfl (by decide +kernel) ⟨Nat.le_of_ble_eq_true rfl, Nat.le_of_ble_eq_true rfl⟩) (hK.sub [0, 1, 2, 3] rfl) hP hD hS hA [25] [0, 1, 2, 3, 4, 5, 6, 7, 8, 9, 10, 11, 12, 13, 14, 15, 16, 17, 18, 19, 20, 21, 22, 23, 24] 26 rfl (by decide +kernel) rfl rfl [wL cJ a w1.2, wXO Q, wC cI (Q 1) (X 1), wC cI (Q 2) (X 2), wS (Q 3) (Q 4 0) (Q 5 0) (Q 6 0) (Q 7 0) (X 3), wT cB (Q 4) (X 4), wC cI (Q 5) (X 5), wA (Q 6) (X 6), wP (Q 7) (X 7), wH cO (Q 8) (Q 9 0) (Q 10 0) (Q 11 0) (Q 12 0) (Q 13 0) (Q 14 0) (Q 15 0) (Q 16 0) (X 8), wC cI (Q 9) (X 9), wC cI (Q 10) (X 10), wC cI (Q 11) (X 11), wC cI (Q 12) (X 12), wC cI (Q 13) (X 13), wC cI (Q 14) (X 14), wC cI (Q 15) (X 15), wC cI (Q 16) (X 16), wXS cO (Q 17) (Q 18 0) (Q 19 0), wC cI (Q 18) (X 18), wC cI (Q 19) (X 19), wXF cZ (Q 20) (X 20), wA (Q 21) (X 21), wP (Q 22) (X 22), wO cB (Q 23) (X 23)] rfl rfl rfl (va_recv hK hP (ci := 8) (q0 := 106) rfl rfl) rfl hl.1 rfl (Nat.le_of_ble_eq_true rfl) dL_law_1296 ⟨by show _ ≤ 601024; omega, by show _ ≤ 7293034; omega⟩ (fun H locs hP hD hS => ?_)
      refine lv_istore (lv' := [(6, .int w7.1), (5, .int w1.1), (0, .ref b), (1, .ref (Q 0 0)), (2, .ref (q 0)), (3, .ref a), (4, .int i)]) hx hb dL_law_1299 hl (by decide) rfl (fun ls hl => ?_)
      refine lv_aload_n hx hb dL_law_1301 rfl (lv_at hl 4 rfl) ?_
      obtain ⟨w8, hcw8, hf⟩ := bd_ob hf
      refine rdV (As := []) (rest := []) ⟨hx, hb, hml, hown, hts⟩ (mX9_thrown l D cI cB cZ cO q fu w7.2 hcw8) (cwV 0 hts gL_law_X9_thrown rfl rfl rfl (by decide +kernel) ⟨Nat.le_of_ble_eq_true rfl, Nat.le_of_ble_eq_true rfl⟩) (hK.sub [0, 1, 2, 3] rfl) (hP.subb [25] rfl) (va_recv hK hP (ci := 8) (q0 := 106) rfl rfl) rfl hl.1 rfl (Nat.le_of_ble_eq_true rfl) dL_law_1302 ⟨by show _ ≤ 601024; omega, by show _ ≤ 7293034; omega⟩ ?_
      refine lv_iload hx hb dL_law_1305 (lv_at hl 1 rfl) ?_
      refine lv_icmp_eq (tgt := 1312) hx hb dL_law_1307 (by decide) (fun c11 => ?_) (fun c11 => ?_)
      · have hf := ip c11 hf
        refine lv_iload hx hb dL_law_1312 (lv_at hl 1 rfl) ?_
        refine lv_if_ne (tgt := 1329) hx hb dL_law_1314 (by decide) (fun c10 => ?_) (fun c10 => ?_)
        · have hf := iq c10 hf
          refine lv_goto (tgt := 2902) hx hb dL_law_1329 (by decide) ?_
          cases hf
          refine W.widen (k := cells + 8) (n := slots + 48) (by omega) (by omega) ?_
          exact kk _ _ _ hP hD hS (lv_sub hl [2, 3, 4, 5, 6] rfl)
        · have hf := ip c10 hf
          refine lv_aload_n hx hb dL_law_1317 rfl (lv_at hl 5 rfl) ?_
          refine lv_iconst (v := 0) hx hb dL_law_1318 (by decide) ?_
          refine va_lald hx hb hK hP 0 4 rfl rfl (inB_in (by decide)) dL_law_1319 ?_
          refine lv_iload hx hb dL_law_1320 (lv_at hl 0 rfl) ?_
          refine lv_i2l hx hb dL_law_1322 rfl ?_
          refine W.lcmp hx hb dL_law_1323 ?_
          refine lv_if_eq (tgt := 1329) hx hb dL_law_1324 (by decide) (fun c9 => ?_) (fun c9 => ?_)
          · have hf := ip c9 hf
            refine lv_goto (tgt := 2902) hx hb dL_law_1329 (by decide) ?_
            cases hf
            refine W.widen (k := cells + 8) (n := slots + 48) (by omega) (by omega) ?_
            exact kk _ _ _ hP hD hS (lv_sub hl [2, 3, 4, 5, 6] rfl)
          · have hf := iq c9 hf
            exact no_ob hf
      · have hf := iq c11 hf
        exact no_ob hf
  · have hf := iq c25 hf
    refine lv_iconst (v := 1) hx hb dL_law_1264 (by decide) ?_
    refine lv_goto (tgt := 1269) hx hb dL_law_1265 (by decide) ?_
    refine lv_aload_n hx hb dL_law_1269 rfl (lv_at hl 3 rfl) ?_
    obtain ⟨w13, hcw13, hf⟩ := bd_ob hf
    refine wrSWb (As := [.ref (Q 0 0), .int a1, .int (1 : Int32), .ref a]) (rest := []) [wL cJ a w13.2, wXO Q, wC cI (Q 1) (X 1), wC cI (Q 2) (X 2), wS (Q 3) (Q 4 0) (Q 5 0) (Q 6 0) (Q 7 0) (X 3), wT cB (Q 4) (X 4), wC cI (Q 5) (X 5), wA (Q 6) (X 6), wP (Q 7) (X 7), wH cO (Q 8) (Q 9 0) (Q 10 0) (Q 11 0) (Q 12 0) (Q 13 0) (Q 14 0) (Q 15 0) (Q 16 0) (X 8), wC cI (Q 9) (X 9), wC cI (Q 10) (X 10), wC cI (Q 11) (X 11), wC cI (Q 12) (X 12), wC cI (Q 13) (X 13), wC cI (Q 14) (X 14), wC cI (Q 15) (X 15), wC cI (Q 16) (X 16), wXS cO (Q 17) (Q 18 0) (Q 19 0), wC cI (Q 18) (X 18), wC cI (Q 19) (X 19), wXF cZ (Q 20) (X 20), wA (Q 21) (X 21), wP (Q 22) (X 22), wO cB (Q 23) (X 23), wM cI cB cZ q z] ⟨hx, hb, hml, hown, hts⟩ (mL_occurrences l D cI cB cZ cO cJ aK aV mK hst Q a _ fu o (X 0) (X 1) (X 2) (X 3) (X 4) (X 5) (X 6) (X 7) (X 8) (X 9) (X 10) (X 11) (X 12) (X 13) (X 14) (X 15) (X 16) (X 17) (X 18) (X 19) (X 20) (X 21) (X 22) (X 23) a1 (1 : Int32) hcw13) (vx_cwSW 4 hts gL_law_L_occurrences rfl rfl rfl (by decide +kernel) ⟨Nat.le_of_ble_eq_true rfl, Nat.le_of_ble_eq_true rfl⟩) (EW_ok aK aV mK) ((EW_ok aK aV mK).2.2.1 _ _ _ _ hS.2.1 hE) hK hP hD hS hA [0, 1, 2, 3, 4, 5, 6, 7, 8, 9, 10, 11, 12, 13, 14, 15, 16, 17, 18, 19, 20, 21, 22, 23, 24] [25] 26 rfl (by decide +kernel) rfl rfl [wM cI cB cZ q z] rfl rfl rfl rfl hl.1 rfl (Nat.le_of_ble_eq_true rfl) dL_law_1270 ⟨by show _ ≤ 601024; omega, by show _ ≤ 7293034; omega⟩ (fun H locs hP hD hS => ?_)
    refine lv_istore (lv' := [(5, .int w13.1), (0, .ref b), (1, .ref (Q 0 0)), (2, .ref (q 0)), (3, .ref a), (4, .int i)]) hx hb dL_law_1273 hl (by decide) rfl (fun ls hl => ?_)
    refine lv_aload_n hx hb dL_law_1275 rfl (lv_at hl 3 rfl) ?_
    refine lv_aload_n hx hb dL_law_1276 rfl (lv_at hl 1 rfl) ?_
    refine lv_iload hx hb dL_law_1277 (lv_at hl 5 rfl) ?_
    refine lv_iconst (v := 1) hx hb dL_law_1279 (by decide) ?_
    refine lv_iadd hx hb dL_law_1280 ?_
    refine va_sldE hx hb hX hbl hbA hS n1 e1 dL_law_1281 ?_
    refine lv_aload_n hx hb dL_law_1282 rfl (lv_at hl 1 rfl) ?_
    refine lv_iload hx hb dL_law_1283 (lv_at hl 5 rfl) ?_
    refine lv_iconst (v := 2) hx hb dL_law_1285 (by decide) ?_
    refine lv_iadd hx hb dL_law_1286 ?_
    refine va_sldE hx hb hX hbl hbA hS n2 e2 dL_law_1287 ?_
    refine lv_if_eq (tgt := 1295) hx hb dL_law_1288 (by decide) (fun c24 => ?_) (fun c24 => ?_)
    · have hf := ip c24 hf
      refine lv_iconst (v := 0) hx hb dL_law_1295 (by decide) ?_
      obtain ⟨w14, hcw14, hf⟩ := bd_ob hf
      refine wrVb (As := [.int a1, .int (0 : Int32)]) (rest := []) [wL cJ a w13.2, wXO Q, wC cI (Q 1) (X 1), wC cI (Q 2) (X 2), wS (Q 3) (Q 4 0) (Q 5 0) (Q 6 0) (Q 7 0) (X 3), wT cB (Q 4) (X 4), wC cI (Q 5) (X 5), wA (Q 6) (X 6), wP (Q 7) (X 7), wH cO (Q 8) (Q 9 0) (Q 10 0) (Q 11 0) (Q 12 0) (Q 13 0) (Q 14 0) (Q 15 0) (Q 16 0) (X 8), wC cI (Q 9) (X 9), wC cI (Q 10) (X 10), wC cI (Q 11) (X 11), wC cI (Q 12) (X 12), wC cI (Q 13) (X 13), wC cI (Q 14) (X 14), wC cI (Q 15) (X 15), wC cI (Q 16) (X 16), wXS cO (Q 17) (Q 18 0) (Q 19 0), wC cI (Q 18) (X 18), wC cI (Q 19) (X 19), wXF cZ (Q 20) (X 20), wA (Q 21) (X 21), wP (Q 22) (X 22), wO cB (Q 23) (X 23), wM cI cB cZ q w14.2] ⟨hx, hb, hml, hown, hts⟩ (mX9_occurrences l D cI cB cZ cO q _ fu z a1 (0 : Int32) hcw14) (cwV 2 hts gL_law_X9_occurrences rfl rfl rfl (by decide +kernel) ⟨Nat.le_of_ble_eq_true rfl, Nat.le_of_ble_eq_true rfl⟩) (hK.sub [0, 1, 2, 3] rfl) hP hD hS hA [25] [0, 1, 2, 3, 4, 5, 6, 7, 8, 9, 10, 11, 12, 13, 14, 15, 16, 17, 18, 19, 20, 21, 22, 23, 24] 26 rfl (by decide +kernel) rfl rfl [wL cJ a w13.2, wXO Q, wC cI (Q 1) (X 1), wC cI (Q 2) (X 2), wS (Q 3) (Q 4 0) (Q 5 0) (Q 6 0) (Q 7 0) (X 3), wT cB (Q 4) (X 4), wC cI (Q 5) (X 5), wA (Q 6) (X 6), wP (Q 7) (X 7), wH cO (Q 8) (Q 9 0) (Q 10 0) (Q 11 0) (Q 12 0) (Q 13 0) (Q 14 0) (Q 15 0) (Q 16 0) (X 8), wC cI (Q 9) (X 9), wC cI (Q 10) (X 10), wC cI (Q 11) (X 11), wC cI (Q 12) (X 12), wC cI (Q 13) (X 13), wC cI (Q 14) (X 14), wC cI (Q 15) (X 15), wC cI (Q 16) (X 16), wXS cO (Q 17) (Q 18 0) (Q 19 0), wC cI (Q 18) (X 18), wC cI (Q 19) (X 19), wXF cZ (Q 20) (X 20), wA (Q 21) (X 21), wP (Q 22) (X 22), wO cB (Q 23) (X 23)] rfl rfl rfl (va_recv hK hP (ci := 8) (q0 := 106) rfl rfl) rfl hl.1 rfl (Nat.le_of_ble_eq_true rfl) dL_law_1296 ⟨by show _ ≤ 601024; omega, by show _ ≤ 7293034; omega⟩ (fun H locs hP hD hS => ?_)
      refine lv_istore (lv' := [(6, .int w14.1), (5, .int w13.1), (0, .ref b), (1, .ref (Q 0 0)), (2, .ref (q 0)), (3, .ref a), (4, .int i)]) hx hb dL_law_1299 hl (by decide) rfl (fun ls hl => ?_)
      refine lv_aload_n hx hb dL_law_1301 rfl (lv_at hl 4 rfl) ?_
      obtain ⟨w15, hcw15, hf⟩ := bd_ob hf
      refine rdV (As := []) (rest := []) ⟨hx, hb, hml, hown, hts⟩ (mX9_thrown l D cI cB cZ cO q fu w14.2 hcw15) (cwV 0 hts gL_law_X9_thrown rfl rfl rfl (by decide +kernel) ⟨Nat.le_of_ble_eq_true rfl, Nat.le_of_ble_eq_true rfl⟩) (hK.sub [0, 1, 2, 3] rfl) (hP.subb [25] rfl) (va_recv hK hP (ci := 8) (q0 := 106) rfl rfl) rfl hl.1 rfl (Nat.le_of_ble_eq_true rfl) dL_law_1302 ⟨by show _ ≤ 601024; omega, by show _ ≤ 7293034; omega⟩ ?_
      refine lv_iload hx hb dL_law_1305 (lv_at hl 1 rfl) ?_
      refine lv_icmp_eq (tgt := 1312) hx hb dL_law_1307 (by decide) (fun c18 => ?_) (fun c18 => ?_)
      · have hf := ip c18 hf
        refine lv_iload hx hb dL_law_1312 (lv_at hl 1 rfl) ?_
        refine lv_if_ne (tgt := 1329) hx hb dL_law_1314 (by decide) (fun c17 => ?_) (fun c17 => ?_)
        · have hf := iq c17 hf
          refine lv_goto (tgt := 2902) hx hb dL_law_1329 (by decide) ?_
          cases hf
          refine W.widen (k := cells + 8) (n := slots + 48) (by omega) (by omega) ?_
          exact kk _ _ _ hP hD hS (lv_sub hl [2, 3, 4, 5, 6] rfl)
        · have hf := ip c17 hf
          refine lv_aload_n hx hb dL_law_1317 rfl (lv_at hl 5 rfl) ?_
          refine lv_iconst (v := 0) hx hb dL_law_1318 (by decide) ?_
          refine va_lald hx hb hK hP 0 4 rfl rfl (inB_in (by decide)) dL_law_1319 ?_
          refine lv_iload hx hb dL_law_1320 (lv_at hl 0 rfl) ?_
          refine lv_i2l hx hb dL_law_1322 rfl ?_
          refine W.lcmp hx hb dL_law_1323 ?_
          refine lv_if_eq (tgt := 1329) hx hb dL_law_1324 (by decide) (fun c16 => ?_) (fun c16 => ?_)
          · have hf := ip c16 hf
            refine lv_goto (tgt := 2902) hx hb dL_law_1329 (by decide) ?_
            cases hf
            refine W.widen (k := cells + 8) (n := slots + 48) (by omega) (by omega) ?_
            exact kk _ _ _ hP hD hS (lv_sub hl [2, 3, 4, 5, 6] rfl)
          · have hf := iq c16 hf
            exact no_ob hf
      · have hf := iq c18 hf
        exact no_ob hf
    · have hf := iq c24 hf
      refine lv_iconst (v := 1) hx hb dL_law_1291 (by decide) ?_
      refine lv_goto (tgt := 1296) hx hb dL_law_1292 (by decide) ?_
      obtain ⟨w19, hcw19, hf⟩ := bd_ob hf
      refine wrVb (As := [.int a1, .int (1 : Int32)]) (rest := []) [wL cJ a w13.2, wXO Q, wC cI (Q 1) (X 1), wC cI (Q 2) (X 2), wS (Q 3) (Q 4 0) (Q 5 0) (Q 6 0) (Q 7 0) (X 3), wT cB (Q 4) (X 4), wC cI (Q 5) (X 5), wA (Q 6) (X 6), wP (Q 7) (X 7), wH cO (Q 8) (Q 9 0) (Q 10 0) (Q 11 0) (Q 12 0) (Q 13 0) (Q 14 0) (Q 15 0) (Q 16 0) (X 8), wC cI (Q 9) (X 9), wC cI (Q 10) (X 10), wC cI (Q 11) (X 11), wC cI (Q 12) (X 12), wC cI (Q 13) (X 13), wC cI (Q 14) (X 14), wC cI (Q 15) (X 15), wC cI (Q 16) (X 16), wXS cO (Q 17) (Q 18 0) (Q 19 0), wC cI (Q 18) (X 18), wC cI (Q 19) (X 19), wXF cZ (Q 20) (X 20), wA (Q 21) (X 21), wP (Q 22) (X 22), wO cB (Q 23) (X 23), wM cI cB cZ q w19.2] ⟨hx, hb, hml, hown, hts⟩ (mX9_occurrences l D cI cB cZ cO q _ fu z a1 (1 : Int32) hcw19) (cwV 2 hts gL_law_X9_occurrences rfl rfl rfl (by decide +kernel) ⟨Nat.le_of_ble_eq_true rfl, Nat.le_of_ble_eq_true rfl⟩) (hK.sub [0, 1, 2, 3] rfl) hP hD hS hA [25] [0, 1, 2, 3, 4, 5, 6, 7, 8, 9, 10, 11, 12, 13, 14, 15, 16, 17, 18, 19, 20, 21, 22, 23, 24] 26 rfl (by decide +kernel) rfl rfl [wL cJ a w13.2, wXO Q, wC cI (Q 1) (X 1), wC cI (Q 2) (X 2), wS (Q 3) (Q 4 0) (Q 5 0) (Q 6 0) (Q 7 0) (X 3), wT cB (Q 4) (X 4), wC cI (Q 5) (X 5), wA (Q 6) (X 6), wP (Q 7) (X 7), wH cO (Q 8) (Q 9 0) (Q 10 0) (Q 11 0) (Q 12 0) (Q 13 0) (Q 14 0) (Q 15 0) (Q 16 0) (X 8), wC cI (Q 9) (X 9), wC cI (Q 10) (X 10), wC cI (Q 11) (X 11), wC cI (Q 12) (X 12), wC cI (Q 13) (X 13), wC cI (Q 14) (X 14), wC cI (Q 15) (X 15), wC cI (Q 16) (X 16), wXS cO (Q 17) (Q 18 0) (Q 19 0), wC cI (Q 18) (X 18), wC cI (Q 19) (X 19), wXF cZ (Q 20) (X 20), wA (Q 21) (X 21), wP (Q 22) (X 22), wO cB (Q 23) (X 23)] rfl rfl rfl (va_recv hK hP (ci := 8) (q0 := 106) rfl rfl) rfl hl.1 rfl (Nat.le_of_ble_eq_true rfl) dL_law_1296 ⟨by show _ ≤ 601024; omega, by show _ ≤ 7293034; omega⟩ (fun H locs hP hD hS => ?_)
      refine lv_istore (lv' := [(6, .int w19.1), (5, .int w13.1), (0, .ref b), (1, .ref (Q 0 0)), (2, .ref (q 0)), (3, .ref a), (4, .int i)]) hx hb dL_law_1299 hl (by decide) rfl (fun ls hl => ?_)
      refine lv_aload_n hx hb dL_law_1301 rfl (lv_at hl 4 rfl) ?_
      obtain ⟨w20, hcw20, hf⟩ := bd_ob hf
      refine rdV (As := []) (rest := []) ⟨hx, hb, hml, hown, hts⟩ (mX9_thrown l D cI cB cZ cO q fu w19.2 hcw20) (cwV 0 hts gL_law_X9_thrown rfl rfl rfl (by decide +kernel) ⟨Nat.le_of_ble_eq_true rfl, Nat.le_of_ble_eq_true rfl⟩) (hK.sub [0, 1, 2, 3] rfl) (hP.subb [25] rfl) (va_recv hK hP (ci := 8) (q0 := 106) rfl rfl) rfl hl.1 rfl (Nat.le_of_ble_eq_true rfl) dL_law_1302 ⟨by show _ ≤ 601024; omega, by show _ ≤ 7293034; omega⟩ ?_
      refine lv_iload hx hb dL_law_1305 (lv_at hl 1 rfl) ?_
      refine lv_icmp_eq (tgt := 1312) hx hb dL_law_1307 (by decide) (fun c23 => ?_) (fun c23 => ?_)
      · have hf := ip c23 hf
        refine lv_iload hx hb dL_law_1312 (lv_at hl 1 rfl) ?_
        refine lv_if_ne (tgt := 1329) hx hb dL_law_1314 (by decide) (fun c22 => ?_) (fun c22 => ?_)
        · have hf := iq c22 hf
          refine lv_goto (tgt := 2902) hx hb dL_law_1329 (by decide) ?_
          cases hf
          refine W.widen (k := cells + 8) (n := slots + 48) (by omega) (by omega) ?_
          exact kk _ _ _ hP hD hS (lv_sub hl [2, 3, 4, 5, 6] rfl)
        · have hf := ip c22 hf
          refine lv_aload_n hx hb dL_law_1317 rfl (lv_at hl 5 rfl) ?_
          refine lv_iconst (v := 0) hx hb dL_law_1318 (by decide) ?_
          refine va_lald hx hb hK hP 0 4 rfl rfl (inB_in (by decide)) dL_law_1319 ?_
          refine lv_iload hx hb dL_law_1320 (lv_at hl 0 rfl) ?_
          refine lv_i2l hx hb dL_law_1322 rfl ?_
          refine W.lcmp hx hb dL_law_1323 ?_
          refine lv_if_eq (tgt := 1329) hx hb dL_law_1324 (by decide) (fun c21 => ?_) (fun c21 => ?_)
          · have hf := ip c21 hf
            refine lv_goto (tgt := 2902) hx hb dL_law_1329 (by decide) ?_
            cases hf
            refine W.widen (k := cells + 8) (n := slots + 48) (by omega) (by omega) ?_
            exact kk _ _ _ hP hD hS (lv_sub hl [2, 3, 4, 5, 6] rfl)
          · have hf := iq c21 hf
            exact no_ob hf
      · have hf := iq c23 hf
        exact no_ob hf
set_option maxRecDepth 100000 in
set_option maxHeartbeats 4000000 in
theorem wL_24 {p : Program} {l : Launch} {e : Env} {s : State} {m : MethodId} {args : Array Value} {below : List Frame} {meth : Method} {c : Code} {H : Heap} {locs : List Loc} {cells slots : Nat} {Qf : State → Prop} {ls : Array Slot} {D : va_G} {cI cB cZ cO cJ : ClassId} {aK aV mK : Nat → Nat} {Q : Nat → Nat → Nat} {q : Nat → Nat} {a b L fu : Nat} {xs : Nat → Int32} {A : Nat → Prop} {X X1 : Nat → OS} {z z1 : OS} {o o1 : Nat → Int64} {i a1 a2 a3 a4 a5 : Int32} (hst : l.stackTraces = false) (hx : p.tables.exec = Jvm.exec) (hb : c.code = cL_law) (hml : c.maxLocals = 9) (hown : s.vm.findClass RL = some m.cls) (hts : ∀ w ∈ lw_tbl, w.before args s = true) (hK : va_K D vwCl (gL cI cB cZ cO cJ) s) (hA : ∀ q : Nat, s.heap.size ≤ q → A q) (hX : va_X b L xs s s.heap) (hbl : b < s.heap.size) (hbA : ¬ A b) (hE : EW aK aV mK A s s.heap) (hS : va_S A s.heap H locs) (hl : lv_has ls 9 [(0, .ref b), (1, .ref (Q 0 0)), (2, .ref (q 0)), (3, .ref a), (4, .int i)]) (n1 : vp_in (i + 1) L) (n2 : vp_in (i + 2) L) (n3 : vp_in (i + 3) L) (n4 : vp_in (i + 4) L) (n5 : vp_in (i + 5) L) (e1 : xs (i + 1).toNatClampNeg = a1) (e2 : xs (i + 2).toNatClampNeg = a2) (e3 : xs (i + 3).toNatClampNeg = a3) (e4 : xs (i + 4).toNatClampNeg = a4) (e5 : xs (i + 5).toNatClampNeg = a5) (hcl : cells + 8 ≤ 601024) (hsl : slots + 48 ≤ 7293034) (kk : ∀ (H1 : Heap) (locs1 : List Loc) (ls1 : Array Slot), va_P D vwCl (fl (lawW cI cB cZ cO cJ Q q a X1 z1 o1)) H1 → va_D A (fl (lawW cI cB cZ cO cJ Q q a X1 z1 o1)) → va_S A s.heap H1 locs1 → lv_has ls1 9 [(0, .ref b), (1, .ref (Q 0 0)), (2, .ref (q 0)), (3, .ref a), (4, .int i)] → W p l e room_1 s m args below meth c H1 locs1 (cells + 8) (slots + 48) Qf (F0 m 2902 ls1 [])) (hP : va_P D vwCl (fl (lawW cI cB cZ cO cJ Q q a X z o)) H) (hD : va_D A (fl (lawW cI cB cZ cO cJ Q q a X z o))) (hf : cL_24 fu a1 a2 a3 a4 a5 X z o = some (X1, z1, o1)) : W p l e room_1 s m args below meth c H locs cells slots Qf (F0 m 1332 ls []) := by
  unfold cL_24 at hf
  refine lv_aload_n hx hb dL_law_1332 rfl (lv_at hl 1 rfl) ?_
  obtain ⟨w1, hcw1, hf⟩ := bd_ob hf
  refine rdV (As := []) (rest := []) ⟨hx, hb, hml, hown, hts⟩ (mX8_mostFrequentVariable l D cI cB cZ cO Q fu (X 0) (X 1) (X 2) (X 3) (X 4) (X 5) (X 6) (X 7) (X 8) (X 9) (X 10) (X 11) (X 12) (X 13) (X 14) (X 15) (X 16) (X 17) (X 18) (X 19) (X 20) (X 21) (X 22) (X 23) hcw1) (cwV 0 hts gL_law_X8_mostFrequentVariable rfl rfl rfl (by decide +kernel) ⟨Nat.le_of_ble_eq_true rfl, Nat.le_of_ble_eq_true rfl⟩) (hK.sub [0, 1, 2, 3] rfl) (hP.subb [1, 2, 3, 4, 5, 6, 7, 8, 9, 10, 11, 12, 13, 14, 15, 16, 17, 18, 19, 20, 21, 22, 23, 24] rfl) (va_recv hK hP (ci := 7) (q0 := 1) rfl rfl) rfl hl.1 rfl (Nat.le_of_ble_eq_true rfl) dL_law_1333 ⟨by show _ ≤ 601024; omega, by show _ ≤ 7293034; omega⟩ ?_
  refine lv_aload_n hx hb dL_law_1336 rfl (lv_at hl 2 rfl) ?_
  obtain ⟨w2, hcw2, hf⟩ := bd_ob hf
  refine wrVb (As := []) (rest := [.int w1]) [wL cJ a o, wXO Q, wC cI (Q 1) (X 1), wC cI (Q 2) (X 2), wS (Q 3) (Q 4 0) (Q 5 0) (Q 6 0) (Q 7 0) (X 3), wT cB (Q 4) (X 4), wC cI (Q 5) (X 5), wA (Q 6) (X 6), wP (Q 7) (X 7), wH cO (Q 8) (Q 9 0) (Q 10 0) (Q 11 0) (Q 12 0) (Q 13 0) (Q 14 0) (Q 15 0) (Q 16 0) (X 8), wC cI (Q 9) (X 9), wC cI (Q 10) (X 10), wC cI (Q 11) (X 11), wC cI (Q 12) (X 12), wC cI (Q 13) (X 13), wC cI (Q 14) (X 14), wC cI (Q 15) (X 15), wC cI (Q 16) (X 16), wXS cO (Q 17) (Q 18 0) (Q 19 0), wC cI (Q 18) (X 18), wC cI (Q 19) (X 19), wXF cZ (Q 20) (X 20), wA (Q 21) (X 21), wP (Q 22) (X 22), wO cB (Q 23) (X 23), wM cI cB cZ q w2.2] ⟨hx, hb, hml, hown, hts⟩ (mX9_mostFrequentVariable l D cI cB cZ cO q _ fu z hcw2) (cwV 0 hts gL_law_X9_mostFrequentVariable rfl rfl rfl (by decide +kernel) ⟨Nat.le_of_ble_eq_true rfl, Nat.le_of_ble_eq_true rfl⟩) (hK.sub [0, 1, 2, 3] rfl) hP hD hS hA [25] [0, 1, 2, 3, 4, 5, 6, 7, 8, 9, 10, 11, 12, 13, 14, 15, 16, 17, 18, 19, 20, 21, 22, 23, 24] 26 rfl (by decide +kernel) rfl rfl [wL cJ a o, wXO Q, wC cI (Q 1) (X 1), wC cI (Q 2) (X 2), wS (Q 3) (Q 4 0) (Q 5 0) (Q 6 0) (Q 7 0) (X 3), wT cB (Q 4) (X 4), wC cI (Q 5) (X 5), wA (Q 6) (X 6), wP (Q 7) (X 7), wH cO (Q 8) (Q 9 0) (Q 10 0) (Q 11 0) (Q 12 0) (Q 13 0) (Q 14 0) (Q 15 0) (Q 16 0) (X 8), wC cI (Q 9) (X 9), wC cI (Q 10) (X 10), wC cI (Q 11) (X 11), wC cI (Q 12) (X 12), wC cI (Q 13) (X 13), wC cI (Q 14) (X 14), wC cI (Q 15) (X 15), wC cI (Q 16) (X 16), wXS cO (Q 17) (Q 18 0) (Q 19 0), wC cI (Q 18) (X 18), wC cI (Q 19) (X 19), wXF cZ (Q 20) (X 20), wA (Q 21) (X 21), wP (Q 22) (X 22), wO cB (Q 23) (X 23)] rfl rfl rfl (va_recv hK hP (ci := 8) (q0 := 106) rfl rfl) rfl hl.1 rfl (Nat.le_of_ble_eq_true rfl) dL_law_1337 ⟨by show _ ≤ 601024; omega, by show _ ≤ 7293034; omega⟩ (fun H locs hP hD hS => ?_)
  refine lv_icmp_eq (tgt := 2902) hx hb dL_law_1340 (by decide) (fun c3 => ?_) (fun c3 => ?_)
  · have hf := ip c3 hf
    cases hf
    refine W.widen (k := cells + 8) (n := slots + 48) (by omega) (by omega) ?_
    exact kk _ _ _ hP hD hS (lv_sub hl [0, 1, 2, 3, 4] rfl)
  · have hf := iq c3 hf
    exact no_ob hf
set_option maxRecDepth 100000 in
set_option maxHeartbeats 4000000 in
theorem wL_25 {p : Program} {l : Launch} {e : Env} {s : State} {m : MethodId} {args : Array Value} {below : List Frame} {meth : Method} {c : Code} {H : Heap} {locs : List Loc} {cells slots : Nat} {Qf : State → Prop} {ls : Array Slot} {D : va_G} {cI cB cZ cO cJ : ClassId} {aK aV mK : Nat → Nat} {Q : Nat → Nat → Nat} {q : Nat → Nat} {a b L fu : Nat} {xs : Nat → Int32} {A : Nat → Prop} {X X1 : Nat → OS} {z z1 : OS} {o o1 : Nat → Int64} {i a1 a2 a3 a4 a5 : Int32} (hst : l.stackTraces = false) (hx : p.tables.exec = Jvm.exec) (hb : c.code = cL_law) (hml : c.maxLocals = 9) (hown : s.vm.findClass RL = some m.cls) (hts : ∀ w ∈ lw_tbl, w.before args s = true) (hK : va_K D vwCl (gL cI cB cZ cO cJ) s) (hA : ∀ q : Nat, s.heap.size ≤ q → A q) (hX : va_X b L xs s s.heap) (hbl : b < s.heap.size) (hbA : ¬ A b) (hE : EW aK aV mK A s s.heap) (hS : va_S A s.heap H locs) (hl : lv_has ls 9 [(0, .ref b), (1, .ref (Q 0 0)), (2, .ref (q 0)), (3, .ref a), (4, .int i)]) (n1 : vp_in (i + 1) L) (n2 : vp_in (i + 2) L) (n3 : vp_in (i + 3) L) (n4 : vp_in (i + 4) L) (n5 : vp_in (i + 5) L) (e1 : xs (i + 1).toNatClampNeg = a1) (e2 : xs (i + 2).toNatClampNeg = a2) (e3 : xs (i + 3).toNatClampNeg = a3) (e4 : xs (i + 4).toNatClampNeg = a4) (e5 : xs (i + 5).toNatClampNeg = a5) (hcl : cells + 8 ≤ 601024) (hsl : slots + 48 ≤ 7293034) (kk : ∀ (H1 : Heap) (locs1 : List Loc) (ls1 : Array Slot), va_P D vwCl (fl (lawW cI cB cZ cO cJ Q q a X1 z1 o1)) H1 → va_D A (fl (lawW cI cB cZ cO cJ Q q a X1 z1 o1)) → va_S A s.heap H1 locs1 → lv_has ls1 9 [(0, .ref b), (1, .ref (Q 0 0)), (2, .ref (q 0)), (3, .ref a), (4, .int i)] → W p l e room_1 s m args below meth c H1 locs1 (cells + 8) (slots + 48) Qf (F0 m 2902 ls1 [])) (hP : va_P D vwCl (fl (lawW cI cB cZ cO cJ Q q a X z o)) H) (hD : va_D A (fl (lawW cI cB cZ cO cJ Q q a X z o))) (hf : cL_25 fu a1 a2 a3 a4 a5 X z o = some (X1, z1, o1)) : W p l e room_1 s m args below meth c H locs cells slots Qf (F0 m 1345 ls []) := by
  unfold cL_25 at hf
  refine lv_aload_n hx hb dL_law_1345 rfl (lv_at hl 1 rfl) ?_
  obtain ⟨w1, hcw1, hf⟩ := bd_ob hf
  refine rdV (As := []) (rest := []) ⟨hx, hb, hml, hown, hts⟩ (mX8_purePositive l D cI cB cZ cO Q fu (X 0) (X 1) (X 2) (X 3) (X 4) (X 5) (X 6) (X 7) (X 8) (X 9) (X 10) (X 11) (X 12) (X 13) (X 14) (X 15) (X 16) (X 17) (X 18) (X 19) (X 20) (X 21) (X 22) (X 23) hcw1) (cwV 0 hts gL_law_X8_purePositive rfl rfl rfl (by decide +kernel) ⟨Nat.le_of_ble_eq_true rfl, Nat.le_of_ble_eq_true rfl⟩) (hK.sub [0, 1, 2, 3] rfl) (hP.subb [1, 2, 3, 4, 5, 6, 7, 8, 9, 10, 11, 12, 13, 14, 15, 16, 17, 18, 19, 20, 21, 22, 23, 24] rfl) (va_recv hK hP (ci := 7) (q0 := 1) rfl rfl) rfl hl.1 rfl (Nat.le_of_ble_eq_true rfl) dL_law_1346 ⟨by show _ ≤ 601024; omega, by show _ ≤ 7293034; omega⟩ ?_
  refine lv_aload_n hx hb dL_law_1349 rfl (lv_at hl 2 rfl) ?_
  obtain ⟨w2, hcw2, hf⟩ := bd_ob hf
  refine wrVb (As := []) (rest := [.int w1]) [wL cJ a o, wXO Q, wC cI (Q 1) (X 1), wC cI (Q 2) (X 2), wS (Q 3) (Q 4 0) (Q 5 0) (Q 6 0) (Q 7 0) (X 3), wT cB (Q 4) (X 4), wC cI (Q 5) (X 5), wA (Q 6) (X 6), wP (Q 7) (X 7), wH cO (Q 8) (Q 9 0) (Q 10 0) (Q 11 0) (Q 12 0) (Q 13 0) (Q 14 0) (Q 15 0) (Q 16 0) (X 8), wC cI (Q 9) (X 9), wC cI (Q 10) (X 10), wC cI (Q 11) (X 11), wC cI (Q 12) (X 12), wC cI (Q 13) (X 13), wC cI (Q 14) (X 14), wC cI (Q 15) (X 15), wC cI (Q 16) (X 16), wXS cO (Q 17) (Q 18 0) (Q 19 0), wC cI (Q 18) (X 18), wC cI (Q 19) (X 19), wXF cZ (Q 20) (X 20), wA (Q 21) (X 21), wP (Q 22) (X 22), wO cB (Q 23) (X 23), wM cI cB cZ q w2.2] ⟨hx, hb, hml, hown, hts⟩ (mX9_purePositive l D cI cB cZ cO q _ fu z hcw2) (cwV 0 hts gL_law_X9_purePositive rfl rfl rfl (by decide +kernel) ⟨Nat.le_of_ble_eq_true rfl, Nat.le_of_ble_eq_true rfl⟩) (hK.sub [0, 1, 2, 3] rfl) hP hD hS hA [25] [0, 1, 2, 3, 4, 5, 6, 7, 8, 9, 10, 11, 12, 13, 14, 15, 16, 17, 18, 19, 20, 21, 22, 23, 24] 26 rfl (by decide +kernel) rfl rfl [wL cJ a o, wXO Q, wC cI (Q 1) (X 1), wC cI (Q 2) (X 2), wS (Q 3) (Q 4 0) (Q 5 0) (Q 6 0) (Q 7 0) (X 3), wT cB (Q 4) (X 4), wC cI (Q 5) (X 5), wA (Q 6) (X 6), wP (Q 7) (X 7), wH cO (Q 8) (Q 9 0) (Q 10 0) (Q 11 0) (Q 12 0) (Q 13 0) (Q 14 0) (Q 15 0) (Q 16 0) (X 8), wC cI (Q 9) (X 9), wC cI (Q 10) (X 10), wC cI (Q 11) (X 11), wC cI (Q 12) (X 12), wC cI (Q 13) (X 13), wC cI (Q 14) (X 14), wC cI (Q 15) (X 15), wC cI (Q 16) (X 16), wXS cO (Q 17) (Q 18 0) (Q 19 0), wC cI (Q 18) (X 18), wC cI (Q 19) (X 19), wXF cZ (Q 20) (X 20), wA (Q 21) (X 21), wP (Q 22) (X 22), wO cB (Q 23) (X 23)] rfl rfl rfl (va_recv hK hP (ci := 8) (q0 := 106) rfl rfl) rfl hl.1 rfl (Nat.le_of_ble_eq_true rfl) dL_law_1350 ⟨by show _ ≤ 601024; omega, by show _ ≤ 7293034; omega⟩ (fun H locs hP hD hS => ?_)
  refine lv_icmp_eq (tgt := 2902) hx hb dL_law_1353 (by decide) (fun c3 => ?_) (fun c3 => ?_)
  · have hf := ip c3 hf
    cases hf
    refine W.widen (k := cells + 8) (n := slots + 48) (by omega) (by omega) ?_
    exact kk _ _ _ hP hD hS (lv_sub hl [0, 1, 2, 3, 4] rfl)
  · have hf := iq c3 hf
    exact no_ob hf
set_option maxRecDepth 100000 in
set_option maxHeartbeats 4000000 in
theorem wL_26 {p : Program} {l : Launch} {e : Env} {s : State} {m : MethodId} {args : Array Value} {below : List Frame} {meth : Method} {c : Code} {H : Heap} {locs : List Loc} {cells slots : Nat} {Qf : State → Prop} {ls : Array Slot} {D : va_G} {cI cB cZ cO cJ : ClassId} {aK aV mK : Nat → Nat} {Q : Nat → Nat → Nat} {q : Nat → Nat} {a b L fu : Nat} {xs : Nat → Int32} {A : Nat → Prop} {X X1 : Nat → OS} {z z1 : OS} {o o1 : Nat → Int64} {i a1 a2 a3 a4 a5 : Int32} (hst : l.stackTraces = false) (hx : p.tables.exec = Jvm.exec) (hb : c.code = cL_law) (hml : c.maxLocals = 9) (hown : s.vm.findClass RL = some m.cls) (hts : ∀ w ∈ lw_tbl, w.before args s = true) (hK : va_K D vwCl (gL cI cB cZ cO cJ) s) (hA : ∀ q : Nat, s.heap.size ≤ q → A q) (hX : va_X b L xs s s.heap) (hbl : b < s.heap.size) (hbA : ¬ A b) (hE : EW aK aV mK A s s.heap) (hS : va_S A s.heap H locs) (hl : lv_has ls 9 [(0, .ref b), (1, .ref (Q 0 0)), (2, .ref (q 0)), (3, .ref a), (4, .int i)]) (n1 : vp_in (i + 1) L) (n2 : vp_in (i + 2) L) (n3 : vp_in (i + 3) L) (n4 : vp_in (i + 4) L) (n5 : vp_in (i + 5) L) (e1 : xs (i + 1).toNatClampNeg = a1) (e2 : xs (i + 2).toNatClampNeg = a2) (e3 : xs (i + 3).toNatClampNeg = a3) (e4 : xs (i + 4).toNatClampNeg = a4) (e5 : xs (i + 5).toNatClampNeg = a5) (hcl : cells + 8 ≤ 601024) (hsl : slots + 48 ≤ 7293034) (kk : ∀ (H1 : Heap) (locs1 : List Loc) (ls1 : Array Slot), va_P D vwCl (fl (lawW cI cB cZ cO cJ Q q a X1 z1 o1)) H1 → va_D A (fl (lawW cI cB cZ cO cJ Q q a X1 z1 o1)) → va_S A s.heap H1 locs1 → lv_has ls1 9 [(0, .ref b), (1, .ref (Q 0 0)), (2, .ref (q 0)), (3, .ref a), (4, .int i)] → W p l e room_1 s m args below meth c H1 locs1 (cells + 8) (slots + 48) Qf (F0 m 2902 ls1 [])) (hP : va_P D vwCl (fl (lawW cI cB cZ cO cJ Q q a X z o)) H) (hD : va_D A (fl (lawW cI cB cZ cO cJ Q q a X z o))) (hf : cL_26 fu a1 a2 a3 a4 a5 X z o = some (X1, z1, o1)) : W p l e room_1 s m args below meth c H locs cells slots Qf (F0 m 1358 ls []) := by
  unfold cL_26 at hf
  refine lv_aload_n hx hb dL_law_1358 rfl (lv_at hl 1 rfl) ?_
  obtain ⟨w1, hcw1, hf⟩ := bd_ob hf
  refine rdV (As := []) (rest := []) ⟨hx, hb, hml, hown, hts⟩ (mX8_pureNegative l D cI cB cZ cO Q fu (X 0) (X 1) (X 2) (X 3) (X 4) (X 5) (X 6) (X 7) (X 8) (X 9) (X 10) (X 11) (X 12) (X 13) (X 14) (X 15) (X 16) (X 17) (X 18) (X 19) (X 20) (X 21) (X 22) (X 23) hcw1) (cwV 0 hts gL_law_X8_pureNegative rfl rfl rfl (by decide +kernel) ⟨Nat.le_of_ble_eq_true rfl, Nat.le_of_ble_eq_true rfl⟩) (hK.sub [0, 1, 2, 3] rfl) (hP.subb [1, 2, 3, 4, 5, 6, 7, 8, 9, 10, 11, 12, 13, 14, 15, 16, 17, 18, 19, 20, 21, 22, 23, 24] rfl) (va_recv hK hP (ci := 7) (q0 := 1) rfl rfl) rfl hl.1 rfl (Nat.le_of_ble_eq_true rfl) dL_law_1359 ⟨by show _ ≤ 601024; omega, by show _ ≤ 7293034; omega⟩ ?_
  refine lv_aload_n hx hb dL_law_1362 rfl (lv_at hl 2 rfl) ?_
  obtain ⟨w2, hcw2, hf⟩ := bd_ob hf
  refine wrVb (As := []) (rest := [.int w1]) [wL cJ a o, wXO Q, wC cI (Q 1) (X 1), wC cI (Q 2) (X 2), wS (Q 3) (Q 4 0) (Q 5 0) (Q 6 0) (Q 7 0) (X 3), wT cB (Q 4) (X 4), wC cI (Q 5) (X 5), wA (Q 6) (X 6), wP (Q 7) (X 7), wH cO (Q 8) (Q 9 0) (Q 10 0) (Q 11 0) (Q 12 0) (Q 13 0) (Q 14 0) (Q 15 0) (Q 16 0) (X 8), wC cI (Q 9) (X 9), wC cI (Q 10) (X 10), wC cI (Q 11) (X 11), wC cI (Q 12) (X 12), wC cI (Q 13) (X 13), wC cI (Q 14) (X 14), wC cI (Q 15) (X 15), wC cI (Q 16) (X 16), wXS cO (Q 17) (Q 18 0) (Q 19 0), wC cI (Q 18) (X 18), wC cI (Q 19) (X 19), wXF cZ (Q 20) (X 20), wA (Q 21) (X 21), wP (Q 22) (X 22), wO cB (Q 23) (X 23), wM cI cB cZ q w2.2] ⟨hx, hb, hml, hown, hts⟩ (mX9_pureNegative l D cI cB cZ cO q _ fu z hcw2) (cwV 0 hts gL_law_X9_pureNegative rfl rfl rfl (by decide +kernel) ⟨Nat.le_of_ble_eq_true rfl, Nat.le_of_ble_eq_true rfl⟩) (hK.sub [0, 1, 2, 3] rfl) hP hD hS hA [25] [0, 1, 2, 3, 4, 5, 6, 7, 8, 9, 10, 11, 12, 13, 14, 15, 16, 17, 18, 19, 20, 21, 22, 23, 24] 26 rfl (by decide +kernel) rfl rfl [wL cJ a o, wXO Q, wC cI (Q 1) (X 1), wC cI (Q 2) (X 2), wS (Q 3) (Q 4 0) (Q 5 0) (Q 6 0) (Q 7 0) (X 3), wT cB (Q 4) (X 4), wC cI (Q 5) (X 5), wA (Q 6) (X 6), wP (Q 7) (X 7), wH cO (Q 8) (Q 9 0) (Q 10 0) (Q 11 0) (Q 12 0) (Q 13 0) (Q 14 0) (Q 15 0) (Q 16 0) (X 8), wC cI (Q 9) (X 9), wC cI (Q 10) (X 10), wC cI (Q 11) (X 11), wC cI (Q 12) (X 12), wC cI (Q 13) (X 13), wC cI (Q 14) (X 14), wC cI (Q 15) (X 15), wC cI (Q 16) (X 16), wXS cO (Q 17) (Q 18 0) (Q 19 0), wC cI (Q 18) (X 18), wC cI (Q 19) (X 19), wXF cZ (Q 20) (X 20), wA (Q 21) (X 21), wP (Q 22) (X 22), wO cB (Q 23) (X 23)] rfl rfl rfl (va_recv hK hP (ci := 8) (q0 := 106) rfl rfl) rfl hl.1 rfl (Nat.le_of_ble_eq_true rfl) dL_law_1363 ⟨by show _ ≤ 601024; omega, by show _ ≤ 7293034; omega⟩ (fun H locs hP hD hS => ?_)
  refine lv_icmp_eq (tgt := 2902) hx hb dL_law_1366 (by decide) (fun c3 => ?_) (fun c3 => ?_)
  · have hf := ip c3 hf
    cases hf
    refine W.widen (k := cells + 8) (n := slots + 48) (by omega) (by omega) ?_
    exact kk _ _ _ hP hD hS (lv_sub hl [0, 1, 2, 3, 4] rfl)
  · have hf := iq c3 hf
    exact no_ob hf
set_option maxRecDepth 100000 in
set_option maxHeartbeats 4000000 in
theorem wL_27 {p : Program} {l : Launch} {e : Env} {s : State} {m : MethodId} {args : Array Value} {below : List Frame} {meth : Method} {c : Code} {H : Heap} {locs : List Loc} {cells slots : Nat} {Qf : State → Prop} {ls : Array Slot} {D : va_G} {cI cB cZ cO cJ : ClassId} {aK aV mK : Nat → Nat} {Q : Nat → Nat → Nat} {q : Nat → Nat} {a b L fu : Nat} {xs : Nat → Int32} {A : Nat → Prop} {X X1 : Nat → OS} {z z1 : OS} {o o1 : Nat → Int64} {i a1 a2 a3 a4 a5 : Int32} (hst : l.stackTraces = false) (hx : p.tables.exec = Jvm.exec) (hb : c.code = cL_law) (hml : c.maxLocals = 9) (hown : s.vm.findClass RL = some m.cls) (hts : ∀ w ∈ lw_tbl, w.before args s = true) (hK : va_K D vwCl (gL cI cB cZ cO cJ) s) (hA : ∀ q : Nat, s.heap.size ≤ q → A q) (hX : va_X b L xs s s.heap) (hbl : b < s.heap.size) (hbA : ¬ A b) (hE : EW aK aV mK A s s.heap) (hS : va_S A s.heap H locs) (hl : lv_has ls 9 [(0, .ref b), (1, .ref (Q 0 0)), (2, .ref (q 0)), (3, .ref a), (4, .int i)]) (n1 : vp_in (i + 1) L) (n2 : vp_in (i + 2) L) (n3 : vp_in (i + 3) L) (n4 : vp_in (i + 4) L) (n5 : vp_in (i + 5) L) (e1 : xs (i + 1).toNatClampNeg = a1) (e2 : xs (i + 2).toNatClampNeg = a2) (e3 : xs (i + 3).toNatClampNeg = a3) (e4 : xs (i + 4).toNatClampNeg = a4) (e5 : xs (i + 5).toNatClampNeg = a5) (hcl : cells + 8 ≤ 601024) (hsl : slots + 48 ≤ 7293034) (kk : ∀ (H1 : Heap) (locs1 : List Loc) (ls1 : Array Slot), va_P D vwCl (fl (lawW cI cB cZ cO cJ Q q a X1 z1 o1)) H1 → va_D A (fl (lawW cI cB cZ cO cJ Q q a X1 z1 o1)) → va_S A s.heap H1 locs1 → lv_has ls1 9 [(0, .ref b), (1, .ref (Q 0 0)), (2, .ref (q 0)), (3, .ref a), (4, .int i)] → W p l e room_1 s m args below meth c H1 locs1 (cells + 8) (slots + 48) Qf (F0 m 2902 ls1 [])) (hP : va_P D vwCl (fl (lawW cI cB cZ cO cJ Q q a X z o)) H) (hD : va_D A (fl (lawW cI cB cZ cO cJ Q q a X z o))) (hf : cL_27 fu a1 a2 a3 a4 a5 X z o = some (X1, z1, o1)) : W p l e room_1 s m args below meth c H locs cells slots Qf (F0 m 1371 ls []) := by
  unfold cL_27 at hf
  refine lv_aload_n hx hb dL_law_1371 rfl (lv_at hl 1 rfl) ?_
  refine lv_aload_n hx hb dL_law_1372 rfl (lv_at hl 0 rfl) ?_
  refine lv_iload hx hb dL_law_1373 (lv_at hl 4 rfl) ?_
  refine lv_iconst (v := 1) hx hb dL_law_1375 (by decide) ?_
  refine lv_iadd hx hb dL_law_1376 ?_
  refine va_sldE hx hb hX hbl hbA hS n1 e1 dL_law_1377 ?_
  refine lv_aload_n hx hb dL_law_1378 rfl (lv_at hl 0 rfl) ?_
  refine lv_iload hx hb dL_law_1379 (lv_at hl 4 rfl) ?_
  refine lv_iconst (v := 2) hx hb dL_law_1381 (by decide) ?_
  refine lv_iadd hx hb dL_law_1382 ?_
  refine va_sldE hx hb hX hbl hbA hS n2 e2 dL_law_1383 ?_
  refine lv_aload_n hx hb dL_law_1384 rfl (lv_at hl 3 rfl) ?_
  obtain ⟨w1, hcw1, hf⟩ := bd_ob hf
  refine wrSWb (As := [.ref (Q 0 0), .int a1, .int a2, .ref a]) (rest := []) [wL cJ a w1.2, wXO Q, wC cI (Q 1) (X 1), wC cI (Q 2) (X 2), wS (Q 3) (Q 4 0) (Q 5 0) (Q 6 0) (Q 7 0) (X 3), wT cB (Q 4) (X 4), wC cI (Q 5) (X 5), wA (Q 6) (X 6), wP (Q 7) (X 7), wH cO (Q 8) (Q 9 0) (Q 10 0) (Q 11 0) (Q 12 0) (Q 13 0) (Q 14 0) (Q 15 0) (Q 16 0) (X 8), wC cI (Q 9) (X 9), wC cI (Q 10) (X 10), wC cI (Q 11) (X 11), wC cI (Q 12) (X 12), wC cI (Q 13) (X 13), wC cI (Q 14) (X 14), wC cI (Q 15) (X 15), wC cI (Q 16) (X 16), wXS cO (Q 17) (Q 18 0) (Q 19 0), wC cI (Q 18) (X 18), wC cI (Q 19) (X 19), wXF cZ (Q 20) (X 20), wA (Q 21) (X 21), wP (Q 22) (X 22), wO cB (Q 23) (X 23), wM cI cB cZ q z] ⟨hx, hb, hml, hown, hts⟩ (mL_clashes l D cI cB cZ cO cJ aK aV mK hst Q a _ fu o (X 0) (X 1) (X 2) (X 3) (X 4) (X 5) (X 6) (X 7) (X 8) (X 9) (X 10) (X 11) (X 12) (X 13) (X 14) (X 15) (X 16) (X 17) (X 18) (X 19) (X 20) (X 21) (X 22) (X 23) a1 a2 hcw1) (vx_cwSW 4 hts gL_law_L_clashes rfl rfl rfl (by decide +kernel) ⟨Nat.le_of_ble_eq_true rfl, Nat.le_of_ble_eq_true rfl⟩) (EW_ok aK aV mK) ((EW_ok aK aV mK).2.2.1 _ _ _ _ hS.2.1 hE) hK hP hD hS hA [0, 1, 2, 3, 4, 5, 6, 7, 8, 9, 10, 11, 12, 13, 14, 15, 16, 17, 18, 19, 20, 21, 22, 23, 24] [25] 26 rfl (by decide +kernel) rfl rfl [wM cI cB cZ q z] rfl rfl rfl rfl hl.1 rfl (Nat.le_of_ble_eq_true rfl) dL_law_1385 ⟨by show _ ≤ 601024; omega, by show _ ≤ 7293034; omega⟩ (fun H locs hP hD hS => ?_)
  refine lv_istore (lv' := [(5, .int w1.1), (0, .ref b), (1, .ref (Q 0 0)), (2, .ref (q 0)), (3, .ref a), (4, .int i)]) hx hb dL_law_1388 hl (by decide) rfl (fun ls hl => ?_)
  refine lv_aload_n hx hb dL_law_1390 rfl (lv_at hl 3 rfl) ?_
  refine lv_aload_n hx hb dL_law_1391 rfl (lv_at hl 1 rfl) ?_
  refine lv_iload hx hb dL_law_1392 (lv_at hl 5 rfl) ?_
  refine lv_iconst (v := 1) hx hb dL_law_1394 (by decide) ?_
  refine lv_iadd hx hb dL_law_1395 ?_
  refine va_sldE hx hb hX hbl hbA hS n1 e1 dL_law_1396 ?_
  refine lv_aload_n hx hb dL_law_1397 rfl (lv_at hl 1 rfl) ?_
  refine lv_iload hx hb dL_law_1398 (lv_at hl 5 rfl) ?_
  refine lv_iconst (v := 2) hx hb dL_law_1400 (by decide) ?_
  refine lv_iadd hx hb dL_law_1401 ?_
  refine va_sldE hx hb hX hbl hbA hS n2 e2 dL_law_1402 ?_
  obtain ⟨w2, hcw2, hf⟩ := bd_ob hf
  refine wrVb (As := [.int a1, .int a2]) (rest := []) [wL cJ a w1.2, wXO Q, wC cI (Q 1) (X 1), wC cI (Q 2) (X 2), wS (Q 3) (Q 4 0) (Q 5 0) (Q 6 0) (Q 7 0) (X 3), wT cB (Q 4) (X 4), wC cI (Q 5) (X 5), wA (Q 6) (X 6), wP (Q 7) (X 7), wH cO (Q 8) (Q 9 0) (Q 10 0) (Q 11 0) (Q 12 0) (Q 13 0) (Q 14 0) (Q 15 0) (Q 16 0) (X 8), wC cI (Q 9) (X 9), wC cI (Q 10) (X 10), wC cI (Q 11) (X 11), wC cI (Q 12) (X 12), wC cI (Q 13) (X 13), wC cI (Q 14) (X 14), wC cI (Q 15) (X 15), wC cI (Q 16) (X 16), wXS cO (Q 17) (Q 18 0) (Q 19 0), wC cI (Q 18) (X 18), wC cI (Q 19) (X 19), wXF cZ (Q 20) (X 20), wA (Q 21) (X 21), wP (Q 22) (X 22), wO cB (Q 23) (X 23), wM cI cB cZ q w2.2] ⟨hx, hb, hml, hown, hts⟩ (mX9_clashes l D cI cB cZ cO q _ fu z a1 a2 hcw2) (cwV 2 hts gL_law_X9_clashes rfl rfl rfl (by decide +kernel) ⟨Nat.le_of_ble_eq_true rfl, Nat.le_of_ble_eq_true rfl⟩) (hK.sub [0, 1, 2, 3] rfl) hP hD hS hA [25] [0, 1, 2, 3, 4, 5, 6, 7, 8, 9, 10, 11, 12, 13, 14, 15, 16, 17, 18, 19, 20, 21, 22, 23, 24] 26 rfl (by decide +kernel) rfl rfl [wL cJ a w1.2, wXO Q, wC cI (Q 1) (X 1), wC cI (Q 2) (X 2), wS (Q 3) (Q 4 0) (Q 5 0) (Q 6 0) (Q 7 0) (X 3), wT cB (Q 4) (X 4), wC cI (Q 5) (X 5), wA (Q 6) (X 6), wP (Q 7) (X 7), wH cO (Q 8) (Q 9 0) (Q 10 0) (Q 11 0) (Q 12 0) (Q 13 0) (Q 14 0) (Q 15 0) (Q 16 0) (X 8), wC cI (Q 9) (X 9), wC cI (Q 10) (X 10), wC cI (Q 11) (X 11), wC cI (Q 12) (X 12), wC cI (Q 13) (X 13), wC cI (Q 14) (X 14), wC cI (Q 15) (X 15), wC cI (Q 16) (X 16), wXS cO (Q 17) (Q 18 0) (Q 19 0), wC cI (Q 18) (X 18), wC cI (Q 19) (X 19), wXF cZ (Q 20) (X 20), wA (Q 21) (X 21), wP (Q 22) (X 22), wO cB (Q 23) (X 23)] rfl rfl rfl (va_recv hK hP (ci := 8) (q0 := 106) rfl rfl) rfl hl.1 rfl (Nat.le_of_ble_eq_true rfl) dL_law_1403 ⟨by show _ ≤ 601024; omega, by show _ ≤ 7293034; omega⟩ (fun H locs hP hD hS => ?_)
  refine lv_istore (lv' := [(6, .int w2.1), (5, .int w1.1), (0, .ref b), (1, .ref (Q 0 0)), (2, .ref (q 0)), (3, .ref a), (4, .int i)]) hx hb dL_law_1406 hl (by decide) rfl (fun ls hl => ?_)
  refine lv_aload_n hx hb dL_law_1408 rfl (lv_at hl 4 rfl) ?_
  obtain ⟨w3, hcw3, hf⟩ := bd_ob hf
  refine rdV (As := []) (rest := []) ⟨hx, hb, hml, hown, hts⟩ (mX9_thrown l D cI cB cZ cO q fu w2.2 hcw3) (cwV 0 hts gL_law_X9_thrown rfl rfl rfl (by decide +kernel) ⟨Nat.le_of_ble_eq_true rfl, Nat.le_of_ble_eq_true rfl⟩) (hK.sub [0, 1, 2, 3] rfl) (hP.subb [25] rfl) (va_recv hK hP (ci := 8) (q0 := 106) rfl rfl) rfl hl.1 rfl (Nat.le_of_ble_eq_true rfl) dL_law_1409 ⟨by show _ ≤ 601024; omega, by show _ ≤ 7293034; omega⟩ ?_
  refine lv_iload hx hb dL_law_1412 (lv_at hl 1 rfl) ?_
  refine lv_icmp_eq (tgt := 1419) hx hb dL_law_1414 (by decide) (fun c6 => ?_) (fun c6 => ?_)
  · have hf := ip c6 hf
    refine lv_iload hx hb dL_law_1419 (lv_at hl 1 rfl) ?_
    refine lv_if_ne (tgt := 1436) hx hb dL_law_1421 (by decide) (fun c5 => ?_) (fun c5 => ?_)
    · have hf := iq c5 hf
      refine lv_goto (tgt := 2902) hx hb dL_law_1436 (by decide) ?_
      cases hf
      refine W.widen (k := cells + 8) (n := slots + 48) (by omega) (by omega) ?_
      exact kk _ _ _ hP hD hS (lv_sub hl [2, 3, 4, 5, 6] rfl)
    · have hf := ip c5 hf
      refine lv_aload_n hx hb dL_law_1424 rfl (lv_at hl 5 rfl) ?_
      refine lv_iconst (v := 0) hx hb dL_law_1425 (by decide) ?_
      refine va_lald hx hb hK hP 0 4 rfl rfl (inB_in (by decide)) dL_law_1426 ?_
      refine lv_iload hx hb dL_law_1427 (lv_at hl 0 rfl) ?_
      refine lv_i2l hx hb dL_law_1429 rfl ?_
      refine W.lcmp hx hb dL_law_1430 ?_
      refine lv_if_eq (tgt := 1436) hx hb dL_law_1431 (by decide) (fun c4 => ?_) (fun c4 => ?_)
      · have hf := ip c4 hf
        refine lv_goto (tgt := 2902) hx hb dL_law_1436 (by decide) ?_
        cases hf
        refine W.widen (k := cells + 8) (n := slots + 48) (by omega) (by omega) ?_
        exact kk _ _ _ hP hD hS (lv_sub hl [2, 3, 4, 5, 6] rfl)
      · have hf := iq c4 hf
        exact no_ob hf
  · have hf := iq c6 hf
    exact no_ob hf
end Cases
