def fX1_clear (fu : Nat) (z : OS) (z2 : OS) (z3 : OS) (z4 : OS) (z5 : OS) (z6 : OS) (z7 : OS) (z8 : OS) (z9 : OS) : Option ((OS)) :=
  nm (sI z 2 (0 : Int32)) (fun (z_1 : OS) => some z_1)
set_option maxRecDepth 100000 in
set_option maxHeartbeats 4000000 in
theorem mX1_clear (l : Launch) (D : va_G) (cI cB cZ cO : ClassId) (q : Nat → Nat) (q2 : Nat → Nat) (q3 : Nat → Nat) (q4 : Nat → Nat) (q5 : Nat → Nat) (q6 : Nat → Nat) (q7 : Nat → Nat) (q8 : Nat → Nat) (q9 : Nat → Nat) (sz : Nat) (fu : Nat) (z : OS) (z2 : OS) (z3 : OS) (z4 : OS) (z5 : OS) (z6 : OS) (z7 : OS) (z8 : OS) (z9 : OS) {y1 : OS} (hf : fX1_clear fu z z2 z3 z4 z5 z6 z7 z8 z9 = some y1) : Met l yX1_clear wsX1_clear ({ frames := 0, cells := 0, slots := 0, locals := 0 }) (va_Pc [.ref (q 0)] (Pw D (gT cI cB cZ cO) (fl [wH cO q (q2 0) (q3 0) (q4 0) (q5 0) (q6 0) (q7 0) (q8 0) (q9 0) z, wC cI q2 z2, wC cI q3 z3, wC cI q4 z4, wC cI q5 z5, wC cI q6 z6, wC cI q7 z7, wC cI q8 z8, wC cI q9 z9]) sz)) (Qw D (va_A (fl [wH cO q (q2 0) (q3 0) (q4 0) (q5 0) (q6 0) (q7 0) (q8 0) (q9 0) z, wC cI q2 z2, wC cI q3 z3, wC cI q4 z4, wC cI q5 z5, wC cI q6 z6, wC cI q7 z7, wC cI q8 z8, wC cI q9 z9]) sz) none (fl [wH cO q (q2 0) (q3 0) (q4 0) (q5 0) (q6 0) (q7 0) (q8 0) (q9 0) y1, wC cI q2 z2, wC cI q3 z3, wC cI q4 z4, wC cI q5 z5, wC cI q6 z6, wC cI q7 z7, wC cI q8 z8, wC cI q9 z9])) 0 0 (va_A (fl [wH cO q (q2 0) (q3 0) (q4 0) (q5 0) (q6 0) (q7 0) (q8 0) (q9 0) z, wC cI q2 z2, wC cI q3 z3, wC cI q4 z4, wC cI q5 z5, wC cI q6 z6, wC cI q7 z7, wC cI q8 z8, wC cI q9 z9]) sz) := by
  unfold fX1_clear at hf
  refine metW (ret := none) (own := RX1) rfl (by decide) rfl (Nat.le_of_ble_eq_true rfl) (fun p e s m args below meth c ls A hx hb hr hml hown hlocks hts hK hA hP hD hS hl => ?_)
  have k21 := (hts (.fieldLink RX1 21 "ResolutionProver$History" "count" "I") (List.mem_of_getElem? (i := 1) rfl))
  have hiX1 : ∀ w ∈ wsX10, w ∈ wsX1_clear := (memIn_p [2, 3, 4] rfl)
  have hl : lv_has ls 1 [(0, .ref (q 0))] := hl
  refine lv_aload_n hx hb dX1_clear_0 rfl (lv_at hl 0 rfl) ?_
  refine lv_iconst (v := 0) hx hb dX1_clear_1 (by decide) ?_
  refine va_put (D := D) (ci := 1) (v := .int (0 : Int32)) (ty := .int) (C := RX1) (T := TX1) (N := 3) hx hb hts hiX1 tyX1 tyX1_ok nmX1 hown hK hP hD hS 0 rfl rfl 2 (by decide) k21 (fun _ h9 => h9) rfl (by decide +kernel) rfl rfl (Nat.le_of_ble_eq_true rfl) dX1_clear_2 (fun H locs hP hD hS => ?_)
  obtain ⟨z_1, ez_1, hf⟩ := nm_ob hf
  have hP : va_P D vwCl (fl [wH cO q (q2 0) (q3 0) (q4 0) (q5 0) (q6 0) (q7 0) (q8 0) (q9 0) z_1, wC cI q2 z2, wC cI q3 z3, wC cI q4 z4, wC cI q5 z5, wC cI q6 z6, wC cI q7 z7, wC cI q8 z8, wC cI q9 z9]) H := by rw [ez_1]; exact hP
  have hD : va_D A (fl [wH cO q (q2 0) (q3 0) (q4 0) (q5 0) (q6 0) (q7 0) (q8 0) (q9 0) z_1, wC cI q2 z2, wC cI q3 z3, wC cI q4 z4, wC cI q5 z5, wC cI q6 z6, wC cI q7 z7, wC cI q8 z8, wC cI q9 z9]) := by rw [ez_1]; exact hD
  cases hf
  exact rW_v hx hb hr hlocks hP hD hS rfl dX1_clear_5

def fX1_push (fu : Nat) (z : OS) (z2 : OS) (z3 : OS) (z4 : OS) (z5 : OS) (z6 : OS) (z7 : OS) (z8 : OS) (z9 : OS) (z10 : OS) : Option ((OS) × (OS) × (OS) × (OS) × (OS) × (OS) × (OS) × (OS) × (OS)) :=
  (if (z.1 1) = (0 : Int32) then bd (fX0_copyFrom fu z2 z10) (fun (z_1 : OS) => jn (κ := Int32 → Option ((OS) × (OS) × (OS) × (OS) × (OS) × (OS) × (OS) × (OS) × (OS))) (fun (t1_33 : Int32) => nm (sI z 1 t1_33) (fun (z_3 : OS) => nm (sI z_3 2 (if (8 : Int32) < ((z_3.1 2) + (1 : Int32)) then (8 : Int32) else ((z_3.1 2) + (1 : Int32)))) (fun (z_4 : OS) => some (z_4, z_1, z3, z4, z5, z6, z7, z8, z9)))) (fun j33 => (if ¬ (z.1 1) = (7 : Int32) then j33 ((z.1 1) + (1 : Int32)) else j33 (0 : Int32)))) else (if (z.1 1) = (1 : Int32) then bd (fX0_copyFrom fu z3 z10) (fun (z_5 : OS) => jn (κ := Int32 → Option ((OS) × (OS) × (OS) × (OS) × (OS) × (OS) × (OS) × (OS) × (OS))) (fun (t1_33 : Int32) => nm (sI z 1 t1_33) (fun (z_7 : OS) => nm (sI z_7 2 (if (8 : Int32) < ((z_7.1 2) + (1 : Int32)) then (8 : Int32) else ((z_7.1 2) + (1 : Int32)))) (fun (z_8 : OS) => some (z_8, z2, z_5, z4, z5, z6, z7, z8, z9)))) (fun j33 => (if ¬ (z.1 1) = (7 : Int32) then j33 ((z.1 1) + (1 : Int32)) else j33 (0 : Int32)))) else (if (z.1 1) = (2 : Int32) then bd (fX0_copyFrom fu z4 z10) (fun (z_9 : OS) => jn (κ := Int32 → Option ((OS) × (OS) × (OS) × (OS) × (OS) × (OS) × (OS) × (OS) × (OS))) (fun (t1_33 : Int32) => nm (sI z 1 t1_33) (fun (z_11 : OS) => nm (sI z_11 2 (if (8 : Int32) < ((z_11.1 2) + (1 : Int32)) then (8 : Int32) else ((z_11.1 2) + (1 : Int32)))) (fun (z_12 : OS) => some (z_12, z2, z3, z_9, z5, z6, z7, z8, z9)))) (fun j33 => (if ¬ (z.1 1) = (7 : Int32) then j33 ((z.1 1) + (1 : Int32)) else j33 (0 : Int32)))) else (if (z.1 1) = (3 : Int32) then bd (fX0_copyFrom fu z5 z10) (fun (z_13 : OS) => jn (κ := Int32 → Option ((OS) × (OS) × (OS) × (OS) × (OS) × (OS) × (OS) × (OS) × (OS))) (fun (t1_33 : Int32) => nm (sI z 1 t1_33) (fun (z_15 : OS) => nm (sI z_15 2 (if (8 : Int32) < ((z_15.1 2) + (1 : Int32)) then (8 : Int32) else ((z_15.1 2) + (1 : Int32)))) (fun (z_16 : OS) => some (z_16, z2, z3, z4, z_13, z6, z7, z8, z9)))) (fun j33 => (if ¬ (z.1 1) = (7 : Int32) then j33 ((z.1 1) + (1 : Int32)) else j33 (0 : Int32)))) else (if (z.1 1) = (4 : Int32) then bd (fX0_copyFrom fu z6 z10) (fun (z_17 : OS) => jn (κ := Int32 → Option ((OS) × (OS) × (OS) × (OS) × (OS) × (OS) × (OS) × (OS) × (OS))) (fun (t1_33 : Int32) => nm (sI z 1 t1_33) (fun (z_19 : OS) => nm (sI z_19 2 (if (8 : Int32) < ((z_19.1 2) + (1 : Int32)) then (8 : Int32) else ((z_19.1 2) + (1 : Int32)))) (fun (z_20 : OS) => some (z_20, z2, z3, z4, z5, z_17, z7, z8, z9)))) (fun j33 => (if ¬ (z.1 1) = (7 : Int32) then j33 ((z.1 1) + (1 : Int32)) else j33 (0 : Int32)))) else (if (z.1 1) = (5 : Int32) then bd (fX0_copyFrom fu z7 z10) (fun (z_21 : OS) => jn (κ := Int32 → Option ((OS) × (OS) × (OS) × (OS) × (OS) × (OS) × (OS) × (OS) × (OS))) (fun (t1_33 : Int32) => nm (sI z 1 t1_33) (fun (z_23 : OS) => nm (sI z_23 2 (if (8 : Int32) < ((z_23.1 2) + (1 : Int32)) then (8 : Int32) else ((z_23.1 2) + (1 : Int32)))) (fun (z_24 : OS) => some (z_24, z2, z3, z4, z5, z6, z_21, z8, z9)))) (fun j33 => (if ¬ (z.1 1) = (7 : Int32) then j33 ((z.1 1) + (1 : Int32)) else j33 (0 : Int32)))) else (if (z.1 1) = (6 : Int32) then bd (fX0_copyFrom fu z8 z10) (fun (z_25 : OS) => jn (κ := Int32 → Option ((OS) × (OS) × (OS) × (OS) × (OS) × (OS) × (OS) × (OS) × (OS))) (fun (t1_33 : Int32) => nm (sI z 1 t1_33) (fun (z_27 : OS) => nm (sI z_27 2 (if (8 : Int32) < ((z_27.1 2) + (1 : Int32)) then (8 : Int32) else ((z_27.1 2) + (1 : Int32)))) (fun (z_28 : OS) => some (z_28, z2, z3, z4, z5, z6, z7, z_25, z9)))) (fun j33 => (if ¬ (z.1 1) = (7 : Int32) then j33 ((z.1 1) + (1 : Int32)) else j33 (0 : Int32)))) else (if (z.1 1) = (7 : Int32) then bd (fX0_copyFrom fu z9 z10) (fun (z_29 : OS) => jn (κ := Int32 → Option ((OS) × (OS) × (OS) × (OS) × (OS) × (OS) × (OS) × (OS) × (OS))) (fun (t1_33 : Int32) => nm (sI z 1 t1_33) (fun (z_31 : OS) => nm (sI z_31 2 (if (8 : Int32) < ((z_31.1 2) + (1 : Int32)) then (8 : Int32) else ((z_31.1 2) + (1 : Int32)))) (fun (z_32 : OS) => some (z_32, z2, z3, z4, z5, z6, z7, z8, z_29)))) (fun j33 => (if ¬ (z.1 1) = (7 : Int32) then j33 ((z.1 1) + (1 : Int32)) else j33 (0 : Int32)))) else none))))))))
set_option maxRecDepth 100000 in
set_option maxHeartbeats 4000000 in
theorem mX1_push (l : Launch) (D : va_G) (cI cB cZ cO : ClassId) (q : Nat → Nat) (q2 : Nat → Nat) (q3 : Nat → Nat) (q4 : Nat → Nat) (q5 : Nat → Nat) (q6 : Nat → Nat) (q7 : Nat → Nat) (q8 : Nat → Nat) (q9 : Nat → Nat) (q10 : Nat → Nat) (sz : Nat) (fu : Nat) (z : OS) (z2 : OS) (z3 : OS) (z4 : OS) (z5 : OS) (z6 : OS) (z7 : OS) (z8 : OS) (z9 : OS) (z10 : OS) {y1 : OS} {y2 : OS} {y3 : OS} {y4 : OS} {y5 : OS} {y6 : OS} {y7 : OS} {y8 : OS} {y9 : OS} (hf : fX1_push fu z z2 z3 z4 z5 z6 z7 z8 z9 z10 = some (y1, y2, y3, y4, y5, y6, y7, y8, y9)) : Met l yX1_push wsX1_push ({ frames := 2, cells := 0, slots := 0, locals := 61 }) (va_Pc [.ref (q 0), .ref (q10 0)] (Pw D (gT cI cB cZ cO) (fl [wH cO q (q2 0) (q3 0) (q4 0) (q5 0) (q6 0) (q7 0) (q8 0) (q9 0) z, wC cI q2 z2, wC cI q3 z3, wC cI q4 z4, wC cI q5 z5, wC cI q6 z6, wC cI q7 z7, wC cI q8 z8, wC cI q9 z9, wC cI q10 z10]) sz)) (Qw D (va_A (fl [wH cO q (q2 0) (q3 0) (q4 0) (q5 0) (q6 0) (q7 0) (q8 0) (q9 0) z, wC cI q2 z2, wC cI q3 z3, wC cI q4 z4, wC cI q5 z5, wC cI q6 z6, wC cI q7 z7, wC cI q8 z8, wC cI q9 z9, wC cI q10 z10]) sz) none (fl [wH cO q (q2 0) (q3 0) (q4 0) (q5 0) (q6 0) (q7 0) (q8 0) (q9 0) y1, wC cI q2 y2, wC cI q3 y3, wC cI q4 y4, wC cI q5 y5, wC cI q6 y6, wC cI q7 y7, wC cI q8 y8, wC cI q9 y9, wC cI q10 z10])) 0 0 (va_A (fl [wH cO q (q2 0) (q3 0) (q4 0) (q5 0) (q6 0) (q7 0) (q8 0) (q9 0) z, wC cI q2 z2, wC cI q3 z3, wC cI q4 z4, wC cI q5 z5, wC cI q6 z6, wC cI q7 z7, wC cI q8 z8, wC cI q9 z9, wC cI q10 z10]) sz) := by
  unfold fX1_push at hf
  refine metW (ret := none) (own := RX1) rfl (by decide) rfl (Nat.le_of_ble_eq_true rfl) (fun p e s m args below meth c ls A hx hb hr hml hown hlocks hts hK hA hP hD hS hl => ?_)
  have k11 := (hts (.fieldLink RX1 11 "ResolutionProver$History" "states" "[LResolutionProver$Clauses;") (List.mem_of_getElem? (i := 1) rfl))
  have k17 := (hts (.fieldLink RX1 17 "ResolutionProver$History" "next" "I") (List.mem_of_getElem? (i := 2) rfl))
  have k21 := (hts (.fieldLink RX1 21 "ResolutionProver$History" "count" "I") (List.mem_of_getElem? (i := 3) rfl))
  have hiX1 : ∀ w ∈ wsX10, w ∈ wsX1_push := (memIn_p [25, 26, 27] rfl)
  have hl : lv_has ls 2 [(0, .ref (q 0)), (1, .ref (q10 0))] := hl
  refine lv_aload_n hx hb dX1_push_0 rfl (lv_at hl 0 rfl) ?_
  refine va_get (D := D) (ci := 1) (v := .ref (q 1)) (C := RX1) (T := TX1) (N := 3) hx hb hts hiX1 hown hK hP 0 rfl rfl 0 (by decide) k11 (fun _ h9 => h9) rfl dX1_push_1 ?_
  refine lv_aload_n hx hb dX1_push_4 rfl (lv_at hl 0 rfl) ?_
  refine va_get (D := D) (ci := 1) (v := .int (z.1 1)) (C := RX1) (T := TX1) (N := 3) hx hb hts hiX1 hown hK hP 0 rfl rfl 1 (by decide) k17 (fun _ h9 => h9) rfl dX1_push_5 ?_
  refine cs_ob hf (fun c_ hf => ?_) (fun c_ hf => ?_)
  · refine va_aldq hx hb hK hP 1 3 rfl rfl (inB_in (by rw [c_]; decide)) dX1_push_8 ?_
    refine lv_rfk (a := (q2 0)) (by rw [c_]; rfl) ?_
    refine lv_aload_n hx hb dX1_push_9 rfl (lv_at hl 1 rfl) ?_
    obtain ⟨z_1, hc_2, hf⟩ := bd_ob hf
    refine wrVb (As := [.ref (q10 0)]) (rest := []) [wH cO q (q2 0) (q3 0) (q4 0) (q5 0) (q6 0) (q7 0) (q8 0) (q9 0) z, wC cI q2 z_1, wC cI q3 z3, wC cI q4 z4, wC cI q5 z5, wC cI q6 z6, wC cI q7 z7, wC cI q8 z8, wC cI q9 z9, wC cI q10 z10] ⟨hx, hb, hml, hown, hts⟩ (mX0_copyFrom l D cI cB cZ cO q2 q10 _ fu z2 z10 hc_2) (cwV 1 hts gX1_push_X0_copyFrom rfl rfl rfl (by decide +kernel) ⟨Nat.le_of_ble_eq_true rfl, Nat.le_of_ble_eq_true rfl⟩) hK hP hD hS hA [1, 9] [0, 2, 3, 4, 5, 6, 7, 8] 10 rfl (by decide +kernel) rfl rfl [wH cO q (q2 0) (q3 0) (q4 0) (q5 0) (q6 0) (q7 0) (q8 0) (q9 0) z, wC cI q3 z3, wC cI q4 z4, wC cI q5 z5, wC cI q6 z6, wC cI q7 z7, wC cI q8 z8, wC cI q9 z9] rfl rfl rfl (va_recv hK hP (ci := 0) (q0 := 2) rfl rfl) rfl hl.1 rfl (Nat.le_of_ble_eq_true rfl) dX1_push_10 ⟨Nat.zero_le _, Nat.zero_le _⟩ (fun H locs hP hD hS => ?_)
    refine lv_aload_n hx hb dX1_push_13 rfl (lv_at hl 0 rfl) ?_
    refine lv_aload_n hx hb dX1_push_14 rfl (lv_at hl 0 rfl) ?_
    refine va_get (D := D) (ci := 1) (v := .int (z.1 1)) (C := RX1) (T := TX1) (N := 3) hx hb hts hiX1 hown hK hP 0 rfl rfl 1 (by decide) k17 (fun _ h9 => h9) rfl dX1_push_15 ?_
    refine lv_bipush (v := 7) hx hb dX1_push_18 (by decide) ?_
    obtain ⟨j33, ej33, hf⟩ := jn_ob hf
    have hp33 : ∀ (t1_33 : Int32) (H : Heap) (locs : List Loc) (ls : Array Slot), j33 t1_33 = some (y1, y2, y3, y4, y5, y6, y7, y8, y9) → va_P D vwCl (fl [wH cO q (q2 0) (q3 0) (q4 0) (q5 0) (q6 0) (q7 0) (q8 0) (q9 0) z, wC cI q2 z_1, wC cI q3 z3, wC cI q4 z4, wC cI q5 z5, wC cI q6 z6, wC cI q7 z7, wC cI q8 z8, wC cI q9 z9, wC cI q10 z10]) H → va_D A (fl [wH cO q (q2 0) (q3 0) (q4 0) (q5 0) (q6 0) (q7 0) (q8 0) (q9 0) z, wC cI q2 z_1, wC cI q3 z3, wC cI q4 z4, wC cI q5 z5, wC cI q6 z6, wC cI q7 z7, wC cI q8 z8, wC cI q9 z9, wC cI q10 z10]) → va_S A s.heap H locs → lv_has ls 2 [(0, .ref (q 0))] → W p l e (headSpec wsX1_push { frames := 2, cells := 0, slots := 0, locals := 61 }).room s m args below meth c H locs 0 0 (MQ below (Qw D A none (fl [wH cO q (q2 0) (q3 0) (q4 0) (q5 0) (q6 0) (q7 0) (q8 0) (q9 0) y1, wC cI q2 y2, wC cI q3 y3, wC cI q4 y4, wC cI q5 y5, wC cI q6 y6, wC cI q7 y7, wC cI q8 y8, wC cI q9 y9, wC cI q10 z10])) args s 0 0 A) (F0 m 33 ls [.int t1_33, .ref (q 0)]) := by
      intro t1_33 H locs ls hf hP hD hS hl
      rw [ej33] at hf
      refine va_put (D := D) (ci := 1) (v := .int t1_33) (ty := .int) (C := RX1) (T := TX1) (N := 3) hx hb hts hiX1 tyX1 tyX1_ok nmX1 hown hK hP hD hS 0 rfl rfl 1 (by decide) k17 (fun _ h9 => h9) rfl (by decide +kernel) rfl rfl (Nat.le_of_ble_eq_true rfl) dX1_push_33 (fun H locs hP hD hS => ?_)
      obtain ⟨z_3, ez_3, hf⟩ := nm_ob hf
      have hP : va_P D vwCl (fl [wH cO q (q2 0) (q3 0) (q4 0) (q5 0) (q6 0) (q7 0) (q8 0) (q9 0) z_3, wC cI q2 z_1, wC cI q3 z3, wC cI q4 z4, wC cI q5 z5, wC cI q6 z6, wC cI q7 z7, wC cI q8 z8, wC cI q9 z9, wC cI q10 z10]) H := by rw [ez_3]; exact hP
      have hD : va_D A (fl [wH cO q (q2 0) (q3 0) (q4 0) (q5 0) (q6 0) (q7 0) (q8 0) (q9 0) z_3, wC cI q2 z_1, wC cI q3 z3, wC cI q4 z4, wC cI q5 z5, wC cI q6 z6, wC cI q7 z7, wC cI q8 z8, wC cI q9 z9, wC cI q10 z10]) := by rw [ez_3]; exact hD
      refine lv_aload_n hx hb dX1_push_36 rfl (lv_at hl 0 rfl) ?_
      refine lv_aload_n hx hb dX1_push_37 rfl (lv_at hl 0 rfl) ?_
      refine va_get (D := D) (ci := 1) (v := .int (z_3.1 2)) (C := RX1) (T := TX1) (N := 3) hx hb hts hiX1 hown hK hP 0 rfl rfl 2 (by decide) k21 (fun _ h9 => h9) rfl dX1_push_38 ?_
      refine lv_iconst (v := 1) hx hb dX1_push_41 (by decide) ?_
      refine lv_iadd hx hb dX1_push_42 ?_
      refine lv_bipush (v := 8) hx hb dX1_push_43 (by decide) ?_
      refine va_mmin hx hb (by rw [hml]; exact hl.1.symm) hown (hts (.methodLink RX1 29 Lib.Math.min.name) (List.mem_of_getElem? (i := 4) rfl)) (hts (.static Lib.Math.min.name) (List.mem_of_getElem? (i := 5) rfl)) (hts (.initialized "java/lang/Math") (List.mem_of_getElem? (i := 6) rfl)) (hts (.code Lib.Math.min.name Lib.Math.min.code 2 (some .int)) (List.mem_of_getElem? (i := 7) rfl)) (Nat.le_of_ble_eq_true rfl) (Nat.le_of_ble_eq_true rfl) (Nat.zero_le _) (Nat.zero_le _) dX1_push_45 ?_
      refine va_put (D := D) (ci := 1) (v := .int (if (8 : Int32) < ((z_3.1 2) + (1 : Int32)) then (8 : Int32) else ((z_3.1 2) + (1 : Int32)))) (ty := .int) (C := RX1) (T := TX1) (N := 3) hx hb hts hiX1 tyX1 tyX1_ok nmX1 hown hK hP hD hS 0 rfl rfl 2 (by decide) k21 (fun _ h9 => h9) rfl (by decide +kernel) rfl rfl (Nat.le_of_ble_eq_true rfl) dX1_push_48 (fun H locs hP hD hS => ?_)
      obtain ⟨z_4, ez_4, hf⟩ := nm_ob hf
      have hP : va_P D vwCl (fl [wH cO q (q2 0) (q3 0) (q4 0) (q5 0) (q6 0) (q7 0) (q8 0) (q9 0) z_4, wC cI q2 z_1, wC cI q3 z3, wC cI q4 z4, wC cI q5 z5, wC cI q6 z6, wC cI q7 z7, wC cI q8 z8, wC cI q9 z9, wC cI q10 z10]) H := by rw [ez_4]; exact hP
      have hD : va_D A (fl [wH cO q (q2 0) (q3 0) (q4 0) (q5 0) (q6 0) (q7 0) (q8 0) (q9 0) z_4, wC cI q2 z_1, wC cI q3 z3, wC cI q4 z4, wC cI q5 z5, wC cI q6 z6, wC cI q7 z7, wC cI q8 z8, wC cI q9 z9, wC cI q10 z10]) := by rw [ez_4]; exact hD
      cases hf
      exact rW_v hx hb hr hlocks hP hD hS rfl dX1_push_51
    refine lv_icmp_ne (tgt := 27) hx hb dX1_push_20 (by decide) (fun c_20 => ?_) (fun c_20 => ?_)
    · have hf := ip c_20 hf
      refine lv_aload_n hx hb dX1_push_27 rfl (lv_at hl 0 rfl) ?_
      refine va_get (D := D) (ci := 1) (v := .int (z.1 1)) (C := RX1) (T := TX1) (N := 3) hx hb hts hiX1 hown hK hP 0 rfl rfl 1 (by decide) k17 (fun _ h9 => h9) rfl dX1_push_28 ?_
      refine lv_iconst (v := 1) hx hb dX1_push_31 (by decide) ?_
      refine lv_iadd hx hb dX1_push_32 ?_
      exact hp33 ((z.1 1) + (1 : Int32)) _ _ _ hf hP hD hS (lv_sub hl [0] rfl)
    · have hf := iqn c_20 hf
      refine lv_iconst (v := 0) hx hb dX1_push_23 (by decide) ?_
      refine lv_goto (tgt := 33) hx hb dX1_push_24 (by decide) ?_
      exact hp33 (0 : Int32) _ _ _ hf hP hD hS (lv_sub hl [0] rfl)
  · skip
    refine cs_ob hf (fun c_ hf => ?_) (fun c_ hf => ?_)
    · refine va_aldq hx hb hK hP 1 3 rfl rfl (inB_in (by rw [c_]; decide)) dX1_push_8 ?_
      refine lv_rfk (a := (q3 0)) (by rw [c_]; rfl) ?_
      refine lv_aload_n hx hb dX1_push_9 rfl (lv_at hl 1 rfl) ?_
      obtain ⟨z_5, hc_6, hf⟩ := bd_ob hf
      refine wrVb (As := [.ref (q10 0)]) (rest := []) [wH cO q (q2 0) (q3 0) (q4 0) (q5 0) (q6 0) (q7 0) (q8 0) (q9 0) z, wC cI q2 z2, wC cI q3 z_5, wC cI q4 z4, wC cI q5 z5, wC cI q6 z6, wC cI q7 z7, wC cI q8 z8, wC cI q9 z9, wC cI q10 z10] ⟨hx, hb, hml, hown, hts⟩ (mX0_copyFrom l D cI cB cZ cO q3 q10 _ fu z3 z10 hc_6) (cwV 1 hts gX1_push_X0_copyFrom rfl rfl rfl (by decide +kernel) ⟨Nat.le_of_ble_eq_true rfl, Nat.le_of_ble_eq_true rfl⟩) hK hP hD hS hA [2, 9] [0, 1, 3, 4, 5, 6, 7, 8] 10 rfl (by decide +kernel) rfl rfl [wH cO q (q2 0) (q3 0) (q4 0) (q5 0) (q6 0) (q7 0) (q8 0) (q9 0) z, wC cI q2 z2, wC cI q4 z4, wC cI q5 z5, wC cI q6 z6, wC cI q7 z7, wC cI q8 z8, wC cI q9 z9] rfl rfl rfl (va_recv hK hP (ci := 0) (q0 := 9) rfl rfl) rfl hl.1 rfl (Nat.le_of_ble_eq_true rfl) dX1_push_10 ⟨Nat.zero_le _, Nat.zero_le _⟩ (fun H locs hP hD hS => ?_)
      refine lv_aload_n hx hb dX1_push_13 rfl (lv_at hl 0 rfl) ?_
      refine lv_aload_n hx hb dX1_push_14 rfl (lv_at hl 0 rfl) ?_
      refine va_get (D := D) (ci := 1) (v := .int (z.1 1)) (C := RX1) (T := TX1) (N := 3) hx hb hts hiX1 hown hK hP 0 rfl rfl 1 (by decide) k17 (fun _ h9 => h9) rfl dX1_push_15 ?_
      refine lv_bipush (v := 7) hx hb dX1_push_18 (by decide) ?_
      obtain ⟨j33, ej33, hf⟩ := jn_ob hf
      have hp33 : ∀ (t1_33 : Int32) (H : Heap) (locs : List Loc) (ls : Array Slot), j33 t1_33 = some (y1, y2, y3, y4, y5, y6, y7, y8, y9) → va_P D vwCl (fl [wH cO q (q2 0) (q3 0) (q4 0) (q5 0) (q6 0) (q7 0) (q8 0) (q9 0) z, wC cI q2 z2, wC cI q3 z_5, wC cI q4 z4, wC cI q5 z5, wC cI q6 z6, wC cI q7 z7, wC cI q8 z8, wC cI q9 z9, wC cI q10 z10]) H → va_D A (fl [wH cO q (q2 0) (q3 0) (q4 0) (q5 0) (q6 0) (q7 0) (q8 0) (q9 0) z, wC cI q2 z2, wC cI q3 z_5, wC cI q4 z4, wC cI q5 z5, wC cI q6 z6, wC cI q7 z7, wC cI q8 z8, wC cI q9 z9, wC cI q10 z10]) → va_S A s.heap H locs → lv_has ls 2 [(0, .ref (q 0))] → W p l e (headSpec wsX1_push { frames := 2, cells := 0, slots := 0, locals := 61 }).room s m args below meth c H locs 0 0 (MQ below (Qw D A none (fl [wH cO q (q2 0) (q3 0) (q4 0) (q5 0) (q6 0) (q7 0) (q8 0) (q9 0) y1, wC cI q2 y2, wC cI q3 y3, wC cI q4 y4, wC cI q5 y5, wC cI q6 y6, wC cI q7 y7, wC cI q8 y8, wC cI q9 y9, wC cI q10 z10])) args s 0 0 A) (F0 m 33 ls [.int t1_33, .ref (q 0)]) := by
        intro t1_33 H locs ls hf hP hD hS hl
        rw [ej33] at hf
        refine va_put (D := D) (ci := 1) (v := .int t1_33) (ty := .int) (C := RX1) (T := TX1) (N := 3) hx hb hts hiX1 tyX1 tyX1_ok nmX1 hown hK hP hD hS 0 rfl rfl 1 (by decide) k17 (fun _ h9 => h9) rfl (by decide +kernel) rfl rfl (Nat.le_of_ble_eq_true rfl) dX1_push_33 (fun H locs hP hD hS => ?_)
        obtain ⟨z_7, ez_7, hf⟩ := nm_ob hf
        have hP : va_P D vwCl (fl [wH cO q (q2 0) (q3 0) (q4 0) (q5 0) (q6 0) (q7 0) (q8 0) (q9 0) z_7, wC cI q2 z2, wC cI q3 z_5, wC cI q4 z4, wC cI q5 z5, wC cI q6 z6, wC cI q7 z7, wC cI q8 z8, wC cI q9 z9, wC cI q10 z10]) H := by rw [ez_7]; exact hP
        have hD : va_D A (fl [wH cO q (q2 0) (q3 0) (q4 0) (q5 0) (q6 0) (q7 0) (q8 0) (q9 0) z_7, wC cI q2 z2, wC cI q3 z_5, wC cI q4 z4, wC cI q5 z5, wC cI q6 z6, wC cI q7 z7, wC cI q8 z8, wC cI q9 z9, wC cI q10 z10]) := by rw [ez_7]; exact hD
        refine lv_aload_n hx hb dX1_push_36 rfl (lv_at hl 0 rfl) ?_
        refine lv_aload_n hx hb dX1_push_37 rfl (lv_at hl 0 rfl) ?_
        refine va_get (D := D) (ci := 1) (v := .int (z_7.1 2)) (C := RX1) (T := TX1) (N := 3) hx hb hts hiX1 hown hK hP 0 rfl rfl 2 (by decide) k21 (fun _ h9 => h9) rfl dX1_push_38 ?_
        refine lv_iconst (v := 1) hx hb dX1_push_41 (by decide) ?_
        refine lv_iadd hx hb dX1_push_42 ?_
        refine lv_bipush (v := 8) hx hb dX1_push_43 (by decide) ?_
        refine va_mmin hx hb (by rw [hml]; exact hl.1.symm) hown (hts (.methodLink RX1 29 Lib.Math.min.name) (List.mem_of_getElem? (i := 4) rfl)) (hts (.static Lib.Math.min.name) (List.mem_of_getElem? (i := 5) rfl)) (hts (.initialized "java/lang/Math") (List.mem_of_getElem? (i := 6) rfl)) (hts (.code Lib.Math.min.name Lib.Math.min.code 2 (some .int)) (List.mem_of_getElem? (i := 7) rfl)) (Nat.le_of_ble_eq_true rfl) (Nat.le_of_ble_eq_true rfl) (Nat.zero_le _) (Nat.zero_le _) dX1_push_45 ?_
        refine va_put (D := D) (ci := 1) (v := .int (if (8 : Int32) < ((z_7.1 2) + (1 : Int32)) then (8 : Int32) else ((z_7.1 2) + (1 : Int32)))) (ty := .int) (C := RX1) (T := TX1) (N := 3) hx hb hts hiX1 tyX1 tyX1_ok nmX1 hown hK hP hD hS 0 rfl rfl 2 (by decide) k21 (fun _ h9 => h9) rfl (by decide +kernel) rfl rfl (Nat.le_of_ble_eq_true rfl) dX1_push_48 (fun H locs hP hD hS => ?_)
        obtain ⟨z_8, ez_8, hf⟩ := nm_ob hf
        have hP : va_P D vwCl (fl [wH cO q (q2 0) (q3 0) (q4 0) (q5 0) (q6 0) (q7 0) (q8 0) (q9 0) z_8, wC cI q2 z2, wC cI q3 z_5, wC cI q4 z4, wC cI q5 z5, wC cI q6 z6, wC cI q7 z7, wC cI q8 z8, wC cI q9 z9, wC cI q10 z10]) H := by rw [ez_8]; exact hP
        have hD : va_D A (fl [wH cO q (q2 0) (q3 0) (q4 0) (q5 0) (q6 0) (q7 0) (q8 0) (q9 0) z_8, wC cI q2 z2, wC cI q3 z_5, wC cI q4 z4, wC cI q5 z5, wC cI q6 z6, wC cI q7 z7, wC cI q8 z8, wC cI q9 z9, wC cI q10 z10]) := by rw [ez_8]; exact hD
        cases hf
        exact rW_v hx hb hr hlocks hP hD hS rfl dX1_push_51
      refine lv_icmp_ne (tgt := 27) hx hb dX1_push_20 (by decide) (fun c_20 => ?_) (fun c_20 => ?_)
      · have hf := ip c_20 hf
        refine lv_aload_n hx hb dX1_push_27 rfl (lv_at hl 0 rfl) ?_
        refine va_get (D := D) (ci := 1) (v := .int (z.1 1)) (C := RX1) (T := TX1) (N := 3) hx hb hts hiX1 hown hK hP 0 rfl rfl 1 (by decide) k17 (fun _ h9 => h9) rfl dX1_push_28 ?_
        refine lv_iconst (v := 1) hx hb dX1_push_31 (by decide) ?_
        refine lv_iadd hx hb dX1_push_32 ?_
        exact hp33 ((z.1 1) + (1 : Int32)) _ _ _ hf hP hD hS (lv_sub hl [0] rfl)
      · have hf := iqn c_20 hf
        refine lv_iconst (v := 0) hx hb dX1_push_23 (by decide) ?_
        refine lv_goto (tgt := 33) hx hb dX1_push_24 (by decide) ?_
        exact hp33 (0 : Int32) _ _ _ hf hP hD hS (lv_sub hl [0] rfl)
    · skip
      refine cs_ob hf (fun c_ hf => ?_) (fun c_ hf => ?_)
      · refine va_aldq hx hb hK hP 1 3 rfl rfl (inB_in (by rw [c_]; decide)) dX1_push_8 ?_
        refine lv_rfk (a := (q4 0)) (by rw [c_]; rfl) ?_
        refine lv_aload_n hx hb dX1_push_9 rfl (lv_at hl 1 rfl) ?_
        obtain ⟨z_9, hc_10, hf⟩ := bd_ob hf
        refine wrVb (As := [.ref (q10 0)]) (rest := []) [wH cO q (q2 0) (q3 0) (q4 0) (q5 0) (q6 0) (q7 0) (q8 0) (q9 0) z, wC cI q2 z2, wC cI q3 z3, wC cI q4 z_9, wC cI q5 z5, wC cI q6 z6, wC cI q7 z7, wC cI q8 z8, wC cI q9 z9, wC cI q10 z10] ⟨hx, hb, hml, hown, hts⟩ (mX0_copyFrom l D cI cB cZ cO q4 q10 _ fu z4 z10 hc_10) (cwV 1 hts gX1_push_X0_copyFrom rfl rfl rfl (by decide +kernel) ⟨Nat.le_of_ble_eq_true rfl, Nat.le_of_ble_eq_true rfl⟩) hK hP hD hS hA [3, 9] [0, 1, 2, 4, 5, 6, 7, 8] 10 rfl (by decide +kernel) rfl rfl [wH cO q (q2 0) (q3 0) (q4 0) (q5 0) (q6 0) (q7 0) (q8 0) (q9 0) z, wC cI q2 z2, wC cI q3 z3, wC cI q5 z5, wC cI q6 z6, wC cI q7 z7, wC cI q8 z8, wC cI q9 z9] rfl rfl rfl (va_recv hK hP (ci := 0) (q0 := 16) rfl rfl) rfl hl.1 rfl (Nat.le_of_ble_eq_true rfl) dX1_push_10 ⟨Nat.zero_le _, Nat.zero_le _⟩ (fun H locs hP hD hS => ?_)
        refine lv_aload_n hx hb dX1_push_13 rfl (lv_at hl 0 rfl) ?_
        refine lv_aload_n hx hb dX1_push_14 rfl (lv_at hl 0 rfl) ?_
        refine va_get (D := D) (ci := 1) (v := .int (z.1 1)) (C := RX1) (T := TX1) (N := 3) hx hb hts hiX1 hown hK hP 0 rfl rfl 1 (by decide) k17 (fun _ h9 => h9) rfl dX1_push_15 ?_
        refine lv_bipush (v := 7) hx hb dX1_push_18 (by decide) ?_
        obtain ⟨j33, ej33, hf⟩ := jn_ob hf
        have hp33 : ∀ (t1_33 : Int32) (H : Heap) (locs : List Loc) (ls : Array Slot), j33 t1_33 = some (y1, y2, y3, y4, y5, y6, y7, y8, y9) → va_P D vwCl (fl [wH cO q (q2 0) (q3 0) (q4 0) (q5 0) (q6 0) (q7 0) (q8 0) (q9 0) z, wC cI q2 z2, wC cI q3 z3, wC cI q4 z_9, wC cI q5 z5, wC cI q6 z6, wC cI q7 z7, wC cI q8 z8, wC cI q9 z9, wC cI q10 z10]) H → va_D A (fl [wH cO q (q2 0) (q3 0) (q4 0) (q5 0) (q6 0) (q7 0) (q8 0) (q9 0) z, wC cI q2 z2, wC cI q3 z3, wC cI q4 z_9, wC cI q5 z5, wC cI q6 z6, wC cI q7 z7, wC cI q8 z8, wC cI q9 z9, wC cI q10 z10]) → va_S A s.heap H locs → lv_has ls 2 [(0, .ref (q 0))] → W p l e (headSpec wsX1_push { frames := 2, cells := 0, slots := 0, locals := 61 }).room s m args below meth c H locs 0 0 (MQ below (Qw D A none (fl [wH cO q (q2 0) (q3 0) (q4 0) (q5 0) (q6 0) (q7 0) (q8 0) (q9 0) y1, wC cI q2 y2, wC cI q3 y3, wC cI q4 y4, wC cI q5 y5, wC cI q6 y6, wC cI q7 y7, wC cI q8 y8, wC cI q9 y9, wC cI q10 z10])) args s 0 0 A) (F0 m 33 ls [.int t1_33, .ref (q 0)]) := by
          intro t1_33 H locs ls hf hP hD hS hl
          rw [ej33] at hf
          refine va_put (D := D) (ci := 1) (v := .int t1_33) (ty := .int) (C := RX1) (T := TX1) (N := 3) hx hb hts hiX1 tyX1 tyX1_ok nmX1 hown hK hP hD hS 0 rfl rfl 1 (by decide) k17 (fun _ h9 => h9) rfl (by decide +kernel) rfl rfl (Nat.le_of_ble_eq_true rfl) dX1_push_33 (fun H locs hP hD hS => ?_)
          obtain ⟨z_11, ez_11, hf⟩ := nm_ob hf
          have hP : va_P D vwCl (fl [wH cO q (q2 0) (q3 0) (q4 0) (q5 0) (q6 0) (q7 0) (q8 0) (q9 0) z_11, wC cI q2 z2, wC cI q3 z3, wC cI q4 z_9, wC cI q5 z5, wC cI q6 z6, wC cI q7 z7, wC cI q8 z8, wC cI q9 z9, wC cI q10 z10]) H := by rw [ez_11]; exact hP
          have hD : va_D A (fl [wH cO q (q2 0) (q3 0) (q4 0) (q5 0) (q6 0) (q7 0) (q8 0) (q9 0) z_11, wC cI q2 z2, wC cI q3 z3, wC cI q4 z_9, wC cI q5 z5, wC cI q6 z6, wC cI q7 z7, wC cI q8 z8, wC cI q9 z9, wC cI q10 z10]) := by rw [ez_11]; exact hD
          refine lv_aload_n hx hb dX1_push_36 rfl (lv_at hl 0 rfl) ?_
          refine lv_aload_n hx hb dX1_push_37 rfl (lv_at hl 0 rfl) ?_
          refine va_get (D := D) (ci := 1) (v := .int (z_11.1 2)) (C := RX1) (T := TX1) (N := 3) hx hb hts hiX1 hown hK hP 0 rfl rfl 2 (by decide) k21 (fun _ h9 => h9) rfl dX1_push_38 ?_
          refine lv_iconst (v := 1) hx hb dX1_push_41 (by decide) ?_
          refine lv_iadd hx hb dX1_push_42 ?_
          refine lv_bipush (v := 8) hx hb dX1_push_43 (by decide) ?_
          refine va_mmin hx hb (by rw [hml]; exact hl.1.symm) hown (hts (.methodLink RX1 29 Lib.Math.min.name) (List.mem_of_getElem? (i := 4) rfl)) (hts (.static Lib.Math.min.name) (List.mem_of_getElem? (i := 5) rfl)) (hts (.initialized "java/lang/Math") (List.mem_of_getElem? (i := 6) rfl)) (hts (.code Lib.Math.min.name Lib.Math.min.code 2 (some .int)) (List.mem_of_getElem? (i := 7) rfl)) (Nat.le_of_ble_eq_true rfl) (Nat.le_of_ble_eq_true rfl) (Nat.zero_le _) (Nat.zero_le _) dX1_push_45 ?_
          refine va_put (D := D) (ci := 1) (v := .int (if (8 : Int32) < ((z_11.1 2) + (1 : Int32)) then (8 : Int32) else ((z_11.1 2) + (1 : Int32)))) (ty := .int) (C := RX1) (T := TX1) (N := 3) hx hb hts hiX1 tyX1 tyX1_ok nmX1 hown hK hP hD hS 0 rfl rfl 2 (by decide) k21 (fun _ h9 => h9) rfl (by decide +kernel) rfl rfl (Nat.le_of_ble_eq_true rfl) dX1_push_48 (fun H locs hP hD hS => ?_)
          obtain ⟨z_12, ez_12, hf⟩ := nm_ob hf
          have hP : va_P D vwCl (fl [wH cO q (q2 0) (q3 0) (q4 0) (q5 0) (q6 0) (q7 0) (q8 0) (q9 0) z_12, wC cI q2 z2, wC cI q3 z3, wC cI q4 z_9, wC cI q5 z5, wC cI q6 z6, wC cI q7 z7, wC cI q8 z8, wC cI q9 z9, wC cI q10 z10]) H := by rw [ez_12]; exact hP
          have hD : va_D A (fl [wH cO q (q2 0) (q3 0) (q4 0) (q5 0) (q6 0) (q7 0) (q8 0) (q9 0) z_12, wC cI q2 z2, wC cI q3 z3, wC cI q4 z_9, wC cI q5 z5, wC cI q6 z6, wC cI q7 z7, wC cI q8 z8, wC cI q9 z9, wC cI q10 z10]) := by rw [ez_12]; exact hD
          cases hf
          exact rW_v hx hb hr hlocks hP hD hS rfl dX1_push_51
        refine lv_icmp_ne (tgt := 27) hx hb dX1_push_20 (by decide) (fun c_20 => ?_) (fun c_20 => ?_)
        · have hf := ip c_20 hf
          refine lv_aload_n hx hb dX1_push_27 rfl (lv_at hl 0 rfl) ?_
          refine va_get (D := D) (ci := 1) (v := .int (z.1 1)) (C := RX1) (T := TX1) (N := 3) hx hb hts hiX1 hown hK hP 0 rfl rfl 1 (by decide) k17 (fun _ h9 => h9) rfl dX1_push_28 ?_
          refine lv_iconst (v := 1) hx hb dX1_push_31 (by decide) ?_
          refine lv_iadd hx hb dX1_push_32 ?_
          exact hp33 ((z.1 1) + (1 : Int32)) _ _ _ hf hP hD hS (lv_sub hl [0] rfl)
        · have hf := iqn c_20 hf
          refine lv_iconst (v := 0) hx hb dX1_push_23 (by decide) ?_
          refine lv_goto (tgt := 33) hx hb dX1_push_24 (by decide) ?_
          exact hp33 (0 : Int32) _ _ _ hf hP hD hS (lv_sub hl [0] rfl)
      · skip
        refine cs_ob hf (fun c_ hf => ?_) (fun c_ hf => ?_)
        · refine va_aldq hx hb hK hP 1 3 rfl rfl (inB_in (by rw [c_]; decide)) dX1_push_8 ?_
          refine lv_rfk (a := (q5 0)) (by rw [c_]; rfl) ?_
          refine lv_aload_n hx hb dX1_push_9 rfl (lv_at hl 1 rfl) ?_
          obtain ⟨z_13, hc_14, hf⟩ := bd_ob hf
          refine wrVb (As := [.ref (q10 0)]) (rest := []) [wH cO q (q2 0) (q3 0) (q4 0) (q5 0) (q6 0) (q7 0) (q8 0) (q9 0) z, wC cI q2 z2, wC cI q3 z3, wC cI q4 z4, wC cI q5 z_13, wC cI q6 z6, wC cI q7 z7, wC cI q8 z8, wC cI q9 z9, wC cI q10 z10] ⟨hx, hb, hml, hown, hts⟩ (mX0_copyFrom l D cI cB cZ cO q5 q10 _ fu z5 z10 hc_14) (cwV 1 hts gX1_push_X0_copyFrom rfl rfl rfl (by decide +kernel) ⟨Nat.le_of_ble_eq_true rfl, Nat.le_of_ble_eq_true rfl⟩) hK hP hD hS hA [4, 9] [0, 1, 2, 3, 5, 6, 7, 8] 10 rfl (by decide +kernel) rfl rfl [wH cO q (q2 0) (q3 0) (q4 0) (q5 0) (q6 0) (q7 0) (q8 0) (q9 0) z, wC cI q2 z2, wC cI q3 z3, wC cI q4 z4, wC cI q6 z6, wC cI q7 z7, wC cI q8 z8, wC cI q9 z9] rfl rfl rfl (va_recv hK hP (ci := 0) (q0 := 23) rfl rfl) rfl hl.1 rfl (Nat.le_of_ble_eq_true rfl) dX1_push_10 ⟨Nat.zero_le _, Nat.zero_le _⟩ (fun H locs hP hD hS => ?_)
          refine lv_aload_n hx hb dX1_push_13 rfl (lv_at hl 0 rfl) ?_
          refine lv_aload_n hx hb dX1_push_14 rfl (lv_at hl 0 rfl) ?_
          refine va_get (D := D) (ci := 1) (v := .int (z.1 1)) (C := RX1) (T := TX1) (N := 3) hx hb hts hiX1 hown hK hP 0 rfl rfl 1 (by decide) k17 (fun _ h9 => h9) rfl dX1_push_15 ?_
          refine lv_bipush (v := 7) hx hb dX1_push_18 (by decide) ?_
          obtain ⟨j33, ej33, hf⟩ := jn_ob hf
          have hp33 : ∀ (t1_33 : Int32) (H : Heap) (locs : List Loc) (ls : Array Slot), j33 t1_33 = some (y1, y2, y3, y4, y5, y6, y7, y8, y9) → va_P D vwCl (fl [wH cO q (q2 0) (q3 0) (q4 0) (q5 0) (q6 0) (q7 0) (q8 0) (q9 0) z, wC cI q2 z2, wC cI q3 z3, wC cI q4 z4, wC cI q5 z_13, wC cI q6 z6, wC cI q7 z7, wC cI q8 z8, wC cI q9 z9, wC cI q10 z10]) H → va_D A (fl [wH cO q (q2 0) (q3 0) (q4 0) (q5 0) (q6 0) (q7 0) (q8 0) (q9 0) z, wC cI q2 z2, wC cI q3 z3, wC cI q4 z4, wC cI q5 z_13, wC cI q6 z6, wC cI q7 z7, wC cI q8 z8, wC cI q9 z9, wC cI q10 z10]) → va_S A s.heap H locs → lv_has ls 2 [(0, .ref (q 0))] → W p l e (headSpec wsX1_push { frames := 2, cells := 0, slots := 0, locals := 61 }).room s m args below meth c H locs 0 0 (MQ below (Qw D A none (fl [wH cO q (q2 0) (q3 0) (q4 0) (q5 0) (q6 0) (q7 0) (q8 0) (q9 0) y1, wC cI q2 y2, wC cI q3 y3, wC cI q4 y4, wC cI q5 y5, wC cI q6 y6, wC cI q7 y7, wC cI q8 y8, wC cI q9 y9, wC cI q10 z10])) args s 0 0 A) (F0 m 33 ls [.int t1_33, .ref (q 0)]) := by
            intro t1_33 H locs ls hf hP hD hS hl
            rw [ej33] at hf
            refine va_put (D := D) (ci := 1) (v := .int t1_33) (ty := .int) (C := RX1) (T := TX1) (N := 3) hx hb hts hiX1 tyX1 tyX1_ok nmX1 hown hK hP hD hS 0 rfl rfl 1 (by decide) k17 (fun _ h9 => h9) rfl (by decide +kernel) rfl rfl (Nat.le_of_ble_eq_true rfl) dX1_push_33 (fun H locs hP hD hS => ?_)
            obtain ⟨z_15, ez_15, hf⟩ := nm_ob hf
            have hP : va_P D vwCl (fl [wH cO q (q2 0) (q3 0) (q4 0) (q5 0) (q6 0) (q7 0) (q8 0) (q9 0) z_15, wC cI q2 z2, wC cI q3 z3, wC cI q4 z4, wC cI q5 z_13, wC cI q6 z6, wC cI q7 z7, wC cI q8 z8, wC cI q9 z9, wC cI q10 z10]) H := by rw [ez_15]; exact hP
            have hD : va_D A (fl [wH cO q (q2 0) (q3 0) (q4 0) (q5 0) (q6 0) (q7 0) (q8 0) (q9 0) z_15, wC cI q2 z2, wC cI q3 z3, wC cI q4 z4, wC cI q5 z_13, wC cI q6 z6, wC cI q7 z7, wC cI q8 z8, wC cI q9 z9, wC cI q10 z10]) := by rw [ez_15]; exact hD
            refine lv_aload_n hx hb dX1_push_36 rfl (lv_at hl 0 rfl) ?_
            refine lv_aload_n hx hb dX1_push_37 rfl (lv_at hl 0 rfl) ?_
            refine va_get (D := D) (ci := 1) (v := .int (z_15.1 2)) (C := RX1) (T := TX1) (N := 3) hx hb hts hiX1 hown hK hP 0 rfl rfl 2 (by decide) k21 (fun _ h9 => h9) rfl dX1_push_38 ?_
            refine lv_iconst (v := 1) hx hb dX1_push_41 (by decide) ?_
            refine lv_iadd hx hb dX1_push_42 ?_
            refine lv_bipush (v := 8) hx hb dX1_push_43 (by decide) ?_
            refine va_mmin hx hb (by rw [hml]; exact hl.1.symm) hown (hts (.methodLink RX1 29 Lib.Math.min.name) (List.mem_of_getElem? (i := 4) rfl)) (hts (.static Lib.Math.min.name) (List.mem_of_getElem? (i := 5) rfl)) (hts (.initialized "java/lang/Math") (List.mem_of_getElem? (i := 6) rfl)) (hts (.code Lib.Math.min.name Lib.Math.min.code 2 (some .int)) (List.mem_of_getElem? (i := 7) rfl)) (Nat.le_of_ble_eq_true rfl) (Nat.le_of_ble_eq_true rfl) (Nat.zero_le _) (Nat.zero_le _) dX1_push_45 ?_
            refine va_put (D := D) (ci := 1) (v := .int (if (8 : Int32) < ((z_15.1 2) + (1 : Int32)) then (8 : Int32) else ((z_15.1 2) + (1 : Int32)))) (ty := .int) (C := RX1) (T := TX1) (N := 3) hx hb hts hiX1 tyX1 tyX1_ok nmX1 hown hK hP hD hS 0 rfl rfl 2 (by decide) k21 (fun _ h9 => h9) rfl (by decide +kernel) rfl rfl (Nat.le_of_ble_eq_true rfl) dX1_push_48 (fun H locs hP hD hS => ?_)
            obtain ⟨z_16, ez_16, hf⟩ := nm_ob hf
            have hP : va_P D vwCl (fl [wH cO q (q2 0) (q3 0) (q4 0) (q5 0) (q6 0) (q7 0) (q8 0) (q9 0) z_16, wC cI q2 z2, wC cI q3 z3, wC cI q4 z4, wC cI q5 z_13, wC cI q6 z6, wC cI q7 z7, wC cI q8 z8, wC cI q9 z9, wC cI q10 z10]) H := by rw [ez_16]; exact hP
            have hD : va_D A (fl [wH cO q (q2 0) (q3 0) (q4 0) (q5 0) (q6 0) (q7 0) (q8 0) (q9 0) z_16, wC cI q2 z2, wC cI q3 z3, wC cI q4 z4, wC cI q5 z_13, wC cI q6 z6, wC cI q7 z7, wC cI q8 z8, wC cI q9 z9, wC cI q10 z10]) := by rw [ez_16]; exact hD
            cases hf
            exact rW_v hx hb hr hlocks hP hD hS rfl dX1_push_51
          refine lv_icmp_ne (tgt := 27) hx hb dX1_push_20 (by decide) (fun c_20 => ?_) (fun c_20 => ?_)
          · have hf := ip c_20 hf
            refine lv_aload_n hx hb dX1_push_27 rfl (lv_at hl 0 rfl) ?_
            refine va_get (D := D) (ci := 1) (v := .int (z.1 1)) (C := RX1) (T := TX1) (N := 3) hx hb hts hiX1 hown hK hP 0 rfl rfl 1 (by decide) k17 (fun _ h9 => h9) rfl dX1_push_28 ?_
            refine lv_iconst (v := 1) hx hb dX1_push_31 (by decide) ?_
            refine lv_iadd hx hb dX1_push_32 ?_
            exact hp33 ((z.1 1) + (1 : Int32)) _ _ _ hf hP hD hS (lv_sub hl [0] rfl)
          · have hf := iqn c_20 hf
            refine lv_iconst (v := 0) hx hb dX1_push_23 (by decide) ?_
            refine lv_goto (tgt := 33) hx hb dX1_push_24 (by decide) ?_
            exact hp33 (0 : Int32) _ _ _ hf hP hD hS (lv_sub hl [0] rfl)
        · skip
          refine cs_ob hf (fun c_ hf => ?_) (fun c_ hf => ?_)
          · refine va_aldq hx hb hK hP 1 3 rfl rfl (inB_in (by rw [c_]; decide)) dX1_push_8 ?_
            refine lv_rfk (a := (q6 0)) (by rw [c_]; rfl) ?_
            refine lv_aload_n hx hb dX1_push_9 rfl (lv_at hl 1 rfl) ?_
            obtain ⟨z_17, hc_18, hf⟩ := bd_ob hf
            refine wrVb (As := [.ref (q10 0)]) (rest := []) [wH cO q (q2 0) (q3 0) (q4 0) (q5 0) (q6 0) (q7 0) (q8 0) (q9 0) z, wC cI q2 z2, wC cI q3 z3, wC cI q4 z4, wC cI q5 z5, wC cI q6 z_17, wC cI q7 z7, wC cI q8 z8, wC cI q9 z9, wC cI q10 z10] ⟨hx, hb, hml, hown, hts⟩ (mX0_copyFrom l D cI cB cZ cO q6 q10 _ fu z6 z10 hc_18) (cwV 1 hts gX1_push_X0_copyFrom rfl rfl rfl (by decide +kernel) ⟨Nat.le_of_ble_eq_true rfl, Nat.le_of_ble_eq_true rfl⟩) hK hP hD hS hA [5, 9] [0, 1, 2, 3, 4, 6, 7, 8] 10 rfl (by decide +kernel) rfl rfl [wH cO q (q2 0) (q3 0) (q4 0) (q5 0) (q6 0) (q7 0) (q8 0) (q9 0) z, wC cI q2 z2, wC cI q3 z3, wC cI q4 z4, wC cI q5 z5, wC cI q7 z7, wC cI q8 z8, wC cI q9 z9] rfl rfl rfl (va_recv hK hP (ci := 0) (q0 := 30) rfl rfl) rfl hl.1 rfl (Nat.le_of_ble_eq_true rfl) dX1_push_10 ⟨Nat.zero_le _, Nat.zero_le _⟩ (fun H locs hP hD hS => ?_)
            refine lv_aload_n hx hb dX1_push_13 rfl (lv_at hl 0 rfl) ?_
            refine lv_aload_n hx hb dX1_push_14 rfl (lv_at hl 0 rfl) ?_
            refine va_get (D := D) (ci := 1) (v := .int (z.1 1)) (C := RX1) (T := TX1) (N := 3) hx hb hts hiX1 hown hK hP 0 rfl rfl 1 (by decide) k17 (fun _ h9 => h9) rfl dX1_push_15 ?_
            refine lv_bipush (v := 7) hx hb dX1_push_18 (by decide) ?_
            obtain ⟨j33, ej33, hf⟩ := jn_ob hf
            have hp33 : ∀ (t1_33 : Int32) (H : Heap) (locs : List Loc) (ls : Array Slot), j33 t1_33 = some (y1, y2, y3, y4, y5, y6, y7, y8, y9) → va_P D vwCl (fl [wH cO q (q2 0) (q3 0) (q4 0) (q5 0) (q6 0) (q7 0) (q8 0) (q9 0) z, wC cI q2 z2, wC cI q3 z3, wC cI q4 z4, wC cI q5 z5, wC cI q6 z_17, wC cI q7 z7, wC cI q8 z8, wC cI q9 z9, wC cI q10 z10]) H → va_D A (fl [wH cO q (q2 0) (q3 0) (q4 0) (q5 0) (q6 0) (q7 0) (q8 0) (q9 0) z, wC cI q2 z2, wC cI q3 z3, wC cI q4 z4, wC cI q5 z5, wC cI q6 z_17, wC cI q7 z7, wC cI q8 z8, wC cI q9 z9, wC cI q10 z10]) → va_S A s.heap H locs → lv_has ls 2 [(0, .ref (q 0))] → W p l e (headSpec wsX1_push { frames := 2, cells := 0, slots := 0, locals := 61 }).room s m args below meth c H locs 0 0 (MQ below (Qw D A none (fl [wH cO q (q2 0) (q3 0) (q4 0) (q5 0) (q6 0) (q7 0) (q8 0) (q9 0) y1, wC cI q2 y2, wC cI q3 y3, wC cI q4 y4, wC cI q5 y5, wC cI q6 y6, wC cI q7 y7, wC cI q8 y8, wC cI q9 y9, wC cI q10 z10])) args s 0 0 A) (F0 m 33 ls [.int t1_33, .ref (q 0)]) := by
              intro t1_33 H locs ls hf hP hD hS hl
              rw [ej33] at hf
              refine va_put (D := D) (ci := 1) (v := .int t1_33) (ty := .int) (C := RX1) (T := TX1) (N := 3) hx hb hts hiX1 tyX1 tyX1_ok nmX1 hown hK hP hD hS 0 rfl rfl 1 (by decide) k17 (fun _ h9 => h9) rfl (by decide +kernel) rfl rfl (Nat.le_of_ble_eq_true rfl) dX1_push_33 (fun H locs hP hD hS => ?_)
              obtain ⟨z_19, ez_19, hf⟩ := nm_ob hf
              have hP : va_P D vwCl (fl [wH cO q (q2 0) (q3 0) (q4 0) (q5 0) (q6 0) (q7 0) (q8 0) (q9 0) z_19, wC cI q2 z2, wC cI q3 z3, wC cI q4 z4, wC cI q5 z5, wC cI q6 z_17, wC cI q7 z7, wC cI q8 z8, wC cI q9 z9, wC cI q10 z10]) H := by rw [ez_19]; exact hP
              have hD : va_D A (fl [wH cO q (q2 0) (q3 0) (q4 0) (q5 0) (q6 0) (q7 0) (q8 0) (q9 0) z_19, wC cI q2 z2, wC cI q3 z3, wC cI q4 z4, wC cI q5 z5, wC cI q6 z_17, wC cI q7 z7, wC cI q8 z8, wC cI q9 z9, wC cI q10 z10]) := by rw [ez_19]; exact hD
              refine lv_aload_n hx hb dX1_push_36 rfl (lv_at hl 0 rfl) ?_
              refine lv_aload_n hx hb dX1_push_37 rfl (lv_at hl 0 rfl) ?_
              refine va_get (D := D) (ci := 1) (v := .int (z_19.1 2)) (C := RX1) (T := TX1) (N := 3) hx hb hts hiX1 hown hK hP 0 rfl rfl 2 (by decide) k21 (fun _ h9 => h9) rfl dX1_push_38 ?_
              refine lv_iconst (v := 1) hx hb dX1_push_41 (by decide) ?_
              refine lv_iadd hx hb dX1_push_42 ?_
              refine lv_bipush (v := 8) hx hb dX1_push_43 (by decide) ?_
              refine va_mmin hx hb (by rw [hml]; exact hl.1.symm) hown (hts (.methodLink RX1 29 Lib.Math.min.name) (List.mem_of_getElem? (i := 4) rfl)) (hts (.static Lib.Math.min.name) (List.mem_of_getElem? (i := 5) rfl)) (hts (.initialized "java/lang/Math") (List.mem_of_getElem? (i := 6) rfl)) (hts (.code Lib.Math.min.name Lib.Math.min.code 2 (some .int)) (List.mem_of_getElem? (i := 7) rfl)) (Nat.le_of_ble_eq_true rfl) (Nat.le_of_ble_eq_true rfl) (Nat.zero_le _) (Nat.zero_le _) dX1_push_45 ?_
              refine va_put (D := D) (ci := 1) (v := .int (if (8 : Int32) < ((z_19.1 2) + (1 : Int32)) then (8 : Int32) else ((z_19.1 2) + (1 : Int32)))) (ty := .int) (C := RX1) (T := TX1) (N := 3) hx hb hts hiX1 tyX1 tyX1_ok nmX1 hown hK hP hD hS 0 rfl rfl 2 (by decide) k21 (fun _ h9 => h9) rfl (by decide +kernel) rfl rfl (Nat.le_of_ble_eq_true rfl) dX1_push_48 (fun H locs hP hD hS => ?_)
              obtain ⟨z_20, ez_20, hf⟩ := nm_ob hf
              have hP : va_P D vwCl (fl [wH cO q (q2 0) (q3 0) (q4 0) (q5 0) (q6 0) (q7 0) (q8 0) (q9 0) z_20, wC cI q2 z2, wC cI q3 z3, wC cI q4 z4, wC cI q5 z5, wC cI q6 z_17, wC cI q7 z7, wC cI q8 z8, wC cI q9 z9, wC cI q10 z10]) H := by rw [ez_20]; exact hP
              have hD : va_D A (fl [wH cO q (q2 0) (q3 0) (q4 0) (q5 0) (q6 0) (q7 0) (q8 0) (q9 0) z_20, wC cI q2 z2, wC cI q3 z3, wC cI q4 z4, wC cI q5 z5, wC cI q6 z_17, wC cI q7 z7, wC cI q8 z8, wC cI q9 z9, wC cI q10 z10]) := by rw [ez_20]; exact hD
              cases hf
              exact rW_v hx hb hr hlocks hP hD hS rfl dX1_push_51
            refine lv_icmp_ne (tgt := 27) hx hb dX1_push_20 (by decide) (fun c_20 => ?_) (fun c_20 => ?_)
            · have hf := ip c_20 hf
              refine lv_aload_n hx hb dX1_push_27 rfl (lv_at hl 0 rfl) ?_
              refine va_get (D := D) (ci := 1) (v := .int (z.1 1)) (C := RX1) (T := TX1) (N := 3) hx hb hts hiX1 hown hK hP 0 rfl rfl 1 (by decide) k17 (fun _ h9 => h9) rfl dX1_push_28 ?_
              refine lv_iconst (v := 1) hx hb dX1_push_31 (by decide) ?_
              refine lv_iadd hx hb dX1_push_32 ?_
              exact hp33 ((z.1 1) + (1 : Int32)) _ _ _ hf hP hD hS (lv_sub hl [0] rfl)
            · have hf := iqn c_20 hf
              refine lv_iconst (v := 0) hx hb dX1_push_23 (by decide) ?_
              refine lv_goto (tgt := 33) hx hb dX1_push_24 (by decide) ?_
              exact hp33 (0 : Int32) _ _ _ hf hP hD hS (lv_sub hl [0] rfl)
          · skip
            refine cs_ob hf (fun c_ hf => ?_) (fun c_ hf => ?_)
            · refine va_aldq hx hb hK hP 1 3 rfl rfl (inB_in (by rw [c_]; decide)) dX1_push_8 ?_
              refine lv_rfk (a := (q7 0)) (by rw [c_]; rfl) ?_
              refine lv_aload_n hx hb dX1_push_9 rfl (lv_at hl 1 rfl) ?_
              obtain ⟨z_21, hc_22, hf⟩ := bd_ob hf
              refine wrVb (As := [.ref (q10 0)]) (rest := []) [wH cO q (q2 0) (q3 0) (q4 0) (q5 0) (q6 0) (q7 0) (q8 0) (q9 0) z, wC cI q2 z2, wC cI q3 z3, wC cI q4 z4, wC cI q5 z5, wC cI q6 z6, wC cI q7 z_21, wC cI q8 z8, wC cI q9 z9, wC cI q10 z10] ⟨hx, hb, hml, hown, hts⟩ (mX0_copyFrom l D cI cB cZ cO q7 q10 _ fu z7 z10 hc_22) (cwV 1 hts gX1_push_X0_copyFrom rfl rfl rfl (by decide +kernel) ⟨Nat.le_of_ble_eq_true rfl, Nat.le_of_ble_eq_true rfl⟩) hK hP hD hS hA [6, 9] [0, 1, 2, 3, 4, 5, 7, 8] 10 rfl (by decide +kernel) rfl rfl [wH cO q (q2 0) (q3 0) (q4 0) (q5 0) (q6 0) (q7 0) (q8 0) (q9 0) z, wC cI q2 z2, wC cI q3 z3, wC cI q4 z4, wC cI q5 z5, wC cI q6 z6, wC cI q8 z8, wC cI q9 z9] rfl rfl rfl (va_recv hK hP (ci := 0) (q0 := 37) rfl rfl) rfl hl.1 rfl (Nat.le_of_ble_eq_true rfl) dX1_push_10 ⟨Nat.zero_le _, Nat.zero_le _⟩ (fun H locs hP hD hS => ?_)
              refine lv_aload_n hx hb dX1_push_13 rfl (lv_at hl 0 rfl) ?_
              refine lv_aload_n hx hb dX1_push_14 rfl (lv_at hl 0 rfl) ?_
              refine va_get (D := D) (ci := 1) (v := .int (z.1 1)) (C := RX1) (T := TX1) (N := 3) hx hb hts hiX1 hown hK hP 0 rfl rfl 1 (by decide) k17 (fun _ h9 => h9) rfl dX1_push_15 ?_
              refine lv_bipush (v := 7) hx hb dX1_push_18 (by decide) ?_
              obtain ⟨j33, ej33, hf⟩ := jn_ob hf
              have hp33 : ∀ (t1_33 : Int32) (H : Heap) (locs : List Loc) (ls : Array Slot), j33 t1_33 = some (y1, y2, y3, y4, y5, y6, y7, y8, y9) → va_P D vwCl (fl [wH cO q (q2 0) (q3 0) (q4 0) (q5 0) (q6 0) (q7 0) (q8 0) (q9 0) z, wC cI q2 z2, wC cI q3 z3, wC cI q4 z4, wC cI q5 z5, wC cI q6 z6, wC cI q7 z_21, wC cI q8 z8, wC cI q9 z9, wC cI q10 z10]) H → va_D A (fl [wH cO q (q2 0) (q3 0) (q4 0) (q5 0) (q6 0) (q7 0) (q8 0) (q9 0) z, wC cI q2 z2, wC cI q3 z3, wC cI q4 z4, wC cI q5 z5, wC cI q6 z6, wC cI q7 z_21, wC cI q8 z8, wC cI q9 z9, wC cI q10 z10]) → va_S A s.heap H locs → lv_has ls 2 [(0, .ref (q 0))] → W p l e (headSpec wsX1_push { frames := 2, cells := 0, slots := 0, locals := 61 }).room s m args below meth c H locs 0 0 (MQ below (Qw D A none (fl [wH cO q (q2 0) (q3 0) (q4 0) (q5 0) (q6 0) (q7 0) (q8 0) (q9 0) y1, wC cI q2 y2, wC cI q3 y3, wC cI q4 y4, wC cI q5 y5, wC cI q6 y6, wC cI q7 y7, wC cI q8 y8, wC cI q9 y9, wC cI q10 z10])) args s 0 0 A) (F0 m 33 ls [.int t1_33, .ref (q 0)]) := by
                intro t1_33 H locs ls hf hP hD hS hl
                rw [ej33] at hf
                refine va_put (D := D) (ci := 1) (v := .int t1_33) (ty := .int) (C := RX1) (T := TX1) (N := 3) hx hb hts hiX1 tyX1 tyX1_ok nmX1 hown hK hP hD hS 0 rfl rfl 1 (by decide) k17 (fun _ h9 => h9) rfl (by decide +kernel) rfl rfl (Nat.le_of_ble_eq_true rfl) dX1_push_33 (fun H locs hP hD hS => ?_)
                obtain ⟨z_23, ez_23, hf⟩ := nm_ob hf
                have hP : va_P D vwCl (fl [wH cO q (q2 0) (q3 0) (q4 0) (q5 0) (q6 0) (q7 0) (q8 0) (q9 0) z_23, wC cI q2 z2, wC cI q3 z3, wC cI q4 z4, wC cI q5 z5, wC cI q6 z6, wC cI q7 z_21, wC cI q8 z8, wC cI q9 z9, wC cI q10 z10]) H := by rw [ez_23]; exact hP
                have hD : va_D A (fl [wH cO q (q2 0) (q3 0) (q4 0) (q5 0) (q6 0) (q7 0) (q8 0) (q9 0) z_23, wC cI q2 z2, wC cI q3 z3, wC cI q4 z4, wC cI q5 z5, wC cI q6 z6, wC cI q7 z_21, wC cI q8 z8, wC cI q9 z9, wC cI q10 z10]) := by rw [ez_23]; exact hD
                refine lv_aload_n hx hb dX1_push_36 rfl (lv_at hl 0 rfl) ?_
                refine lv_aload_n hx hb dX1_push_37 rfl (lv_at hl 0 rfl) ?_
                refine va_get (D := D) (ci := 1) (v := .int (z_23.1 2)) (C := RX1) (T := TX1) (N := 3) hx hb hts hiX1 hown hK hP 0 rfl rfl 2 (by decide) k21 (fun _ h9 => h9) rfl dX1_push_38 ?_
                refine lv_iconst (v := 1) hx hb dX1_push_41 (by decide) ?_
                refine lv_iadd hx hb dX1_push_42 ?_
                refine lv_bipush (v := 8) hx hb dX1_push_43 (by decide) ?_
                refine va_mmin hx hb (by rw [hml]; exact hl.1.symm) hown (hts (.methodLink RX1 29 Lib.Math.min.name) (List.mem_of_getElem? (i := 4) rfl)) (hts (.static Lib.Math.min.name) (List.mem_of_getElem? (i := 5) rfl)) (hts (.initialized "java/lang/Math") (List.mem_of_getElem? (i := 6) rfl)) (hts (.code Lib.Math.min.name Lib.Math.min.code 2 (some .int)) (List.mem_of_getElem? (i := 7) rfl)) (Nat.le_of_ble_eq_true rfl) (Nat.le_of_ble_eq_true rfl) (Nat.zero_le _) (Nat.zero_le _) dX1_push_45 ?_
                refine va_put (D := D) (ci := 1) (v := .int (if (8 : Int32) < ((z_23.1 2) + (1 : Int32)) then (8 : Int32) else ((z_23.1 2) + (1 : Int32)))) (ty := .int) (C := RX1) (T := TX1) (N := 3) hx hb hts hiX1 tyX1 tyX1_ok nmX1 hown hK hP hD hS 0 rfl rfl 2 (by decide) k21 (fun _ h9 => h9) rfl (by decide +kernel) rfl rfl (Nat.le_of_ble_eq_true rfl) dX1_push_48 (fun H locs hP hD hS => ?_)
                obtain ⟨z_24, ez_24, hf⟩ := nm_ob hf
                have hP : va_P D vwCl (fl [wH cO q (q2 0) (q3 0) (q4 0) (q5 0) (q6 0) (q7 0) (q8 0) (q9 0) z_24, wC cI q2 z2, wC cI q3 z3, wC cI q4 z4, wC cI q5 z5, wC cI q6 z6, wC cI q7 z_21, wC cI q8 z8, wC cI q9 z9, wC cI q10 z10]) H := by rw [ez_24]; exact hP
                have hD : va_D A (fl [wH cO q (q2 0) (q3 0) (q4 0) (q5 0) (q6 0) (q7 0) (q8 0) (q9 0) z_24, wC cI q2 z2, wC cI q3 z3, wC cI q4 z4, wC cI q5 z5, wC cI q6 z6, wC cI q7 z_21, wC cI q8 z8, wC cI q9 z9, wC cI q10 z10]) := by rw [ez_24]; exact hD
                cases hf
                exact rW_v hx hb hr hlocks hP hD hS rfl dX1_push_51
              refine lv_icmp_ne (tgt := 27) hx hb dX1_push_20 (by decide) (fun c_20 => ?_) (fun c_20 => ?_)
              · have hf := ip c_20 hf
                refine lv_aload_n hx hb dX1_push_27 rfl (lv_at hl 0 rfl) ?_
                refine va_get (D := D) (ci := 1) (v := .int (z.1 1)) (C := RX1) (T := TX1) (N := 3) hx hb hts hiX1 hown hK hP 0 rfl rfl 1 (by decide) k17 (fun _ h9 => h9) rfl dX1_push_28 ?_
                refine lv_iconst (v := 1) hx hb dX1_push_31 (by decide) ?_
                refine lv_iadd hx hb dX1_push_32 ?_
                exact hp33 ((z.1 1) + (1 : Int32)) _ _ _ hf hP hD hS (lv_sub hl [0] rfl)
              · have hf := iqn c_20 hf
                refine lv_iconst (v := 0) hx hb dX1_push_23 (by decide) ?_
                refine lv_goto (tgt := 33) hx hb dX1_push_24 (by decide) ?_
                exact hp33 (0 : Int32) _ _ _ hf hP hD hS (lv_sub hl [0] rfl)
            · skip
              refine cs_ob hf (fun c_ hf => ?_) (fun c_ hf => ?_)
              · refine va_aldq hx hb hK hP 1 3 rfl rfl (inB_in (by rw [c_]; decide)) dX1_push_8 ?_
                refine lv_rfk (a := (q8 0)) (by rw [c_]; rfl) ?_
                refine lv_aload_n hx hb dX1_push_9 rfl (lv_at hl 1 rfl) ?_
                obtain ⟨z_25, hc_26, hf⟩ := bd_ob hf
                refine wrVb (As := [.ref (q10 0)]) (rest := []) [wH cO q (q2 0) (q3 0) (q4 0) (q5 0) (q6 0) (q7 0) (q8 0) (q9 0) z, wC cI q2 z2, wC cI q3 z3, wC cI q4 z4, wC cI q5 z5, wC cI q6 z6, wC cI q7 z7, wC cI q8 z_25, wC cI q9 z9, wC cI q10 z10] ⟨hx, hb, hml, hown, hts⟩ (mX0_copyFrom l D cI cB cZ cO q8 q10 _ fu z8 z10 hc_26) (cwV 1 hts gX1_push_X0_copyFrom rfl rfl rfl (by decide +kernel) ⟨Nat.le_of_ble_eq_true rfl, Nat.le_of_ble_eq_true rfl⟩) hK hP hD hS hA [7, 9] [0, 1, 2, 3, 4, 5, 6, 8] 10 rfl (by decide +kernel) rfl rfl [wH cO q (q2 0) (q3 0) (q4 0) (q5 0) (q6 0) (q7 0) (q8 0) (q9 0) z, wC cI q2 z2, wC cI q3 z3, wC cI q4 z4, wC cI q5 z5, wC cI q6 z6, wC cI q7 z7, wC cI q9 z9] rfl rfl rfl (va_recv hK hP (ci := 0) (q0 := 44) rfl rfl) rfl hl.1 rfl (Nat.le_of_ble_eq_true rfl) dX1_push_10 ⟨Nat.zero_le _, Nat.zero_le _⟩ (fun H locs hP hD hS => ?_)
                refine lv_aload_n hx hb dX1_push_13 rfl (lv_at hl 0 rfl) ?_
                refine lv_aload_n hx hb dX1_push_14 rfl (lv_at hl 0 rfl) ?_
                refine va_get (D := D) (ci := 1) (v := .int (z.1 1)) (C := RX1) (T := TX1) (N := 3) hx hb hts hiX1 hown hK hP 0 rfl rfl 1 (by decide) k17 (fun _ h9 => h9) rfl dX1_push_15 ?_
                refine lv_bipush (v := 7) hx hb dX1_push_18 (by decide) ?_
                obtain ⟨j33, ej33, hf⟩ := jn_ob hf
                have hp33 : ∀ (t1_33 : Int32) (H : Heap) (locs : List Loc) (ls : Array Slot), j33 t1_33 = some (y1, y2, y3, y4, y5, y6, y7, y8, y9) → va_P D vwCl (fl [wH cO q (q2 0) (q3 0) (q4 0) (q5 0) (q6 0) (q7 0) (q8 0) (q9 0) z, wC cI q2 z2, wC cI q3 z3, wC cI q4 z4, wC cI q5 z5, wC cI q6 z6, wC cI q7 z7, wC cI q8 z_25, wC cI q9 z9, wC cI q10 z10]) H → va_D A (fl [wH cO q (q2 0) (q3 0) (q4 0) (q5 0) (q6 0) (q7 0) (q8 0) (q9 0) z, wC cI q2 z2, wC cI q3 z3, wC cI q4 z4, wC cI q5 z5, wC cI q6 z6, wC cI q7 z7, wC cI q8 z_25, wC cI q9 z9, wC cI q10 z10]) → va_S A s.heap H locs → lv_has ls 2 [(0, .ref (q 0))] → W p l e (headSpec wsX1_push { frames := 2, cells := 0, slots := 0, locals := 61 }).room s m args below meth c H locs 0 0 (MQ below (Qw D A none (fl [wH cO q (q2 0) (q3 0) (q4 0) (q5 0) (q6 0) (q7 0) (q8 0) (q9 0) y1, wC cI q2 y2, wC cI q3 y3, wC cI q4 y4, wC cI q5 y5, wC cI q6 y6, wC cI q7 y7, wC cI q8 y8, wC cI q9 y9, wC cI q10 z10])) args s 0 0 A) (F0 m 33 ls [.int t1_33, .ref (q 0)]) := by
                  intro t1_33 H locs ls hf hP hD hS hl
                  rw [ej33] at hf
                  refine va_put (D := D) (ci := 1) (v := .int t1_33) (ty := .int) (C := RX1) (T := TX1) (N := 3) hx hb hts hiX1 tyX1 tyX1_ok nmX1 hown hK hP hD hS 0 rfl rfl 1 (by decide) k17 (fun _ h9 => h9) rfl (by decide +kernel) rfl rfl (Nat.le_of_ble_eq_true rfl) dX1_push_33 (fun H locs hP hD hS => ?_)
                  obtain ⟨z_27, ez_27, hf⟩ := nm_ob hf
                  have hP : va_P D vwCl (fl [wH cO q (q2 0) (q3 0) (q4 0) (q5 0) (q6 0) (q7 0) (q8 0) (q9 0) z_27, wC cI q2 z2, wC cI q3 z3, wC cI q4 z4, wC cI q5 z5, wC cI q6 z6, wC cI q7 z7, wC cI q8 z_25, wC cI q9 z9, wC cI q10 z10]) H := by rw [ez_27]; exact hP
                  have hD : va_D A (fl [wH cO q (q2 0) (q3 0) (q4 0) (q5 0) (q6 0) (q7 0) (q8 0) (q9 0) z_27, wC cI q2 z2, wC cI q3 z3, wC cI q4 z4, wC cI q5 z5, wC cI q6 z6, wC cI q7 z7, wC cI q8 z_25, wC cI q9 z9, wC cI q10 z10]) := by rw [ez_27]; exact hD
                  refine lv_aload_n hx hb dX1_push_36 rfl (lv_at hl 0 rfl) ?_
                  refine lv_aload_n hx hb dX1_push_37 rfl (lv_at hl 0 rfl) ?_
                  refine va_get (D := D) (ci := 1) (v := .int (z_27.1 2)) (C := RX1) (T := TX1) (N := 3) hx hb hts hiX1 hown hK hP 0 rfl rfl 2 (by decide) k21 (fun _ h9 => h9) rfl dX1_push_38 ?_
                  refine lv_iconst (v := 1) hx hb dX1_push_41 (by decide) ?_
                  refine lv_iadd hx hb dX1_push_42 ?_
                  refine lv_bipush (v := 8) hx hb dX1_push_43 (by decide) ?_
                  refine va_mmin hx hb (by rw [hml]; exact hl.1.symm) hown (hts (.methodLink RX1 29 Lib.Math.min.name) (List.mem_of_getElem? (i := 4) rfl)) (hts (.static Lib.Math.min.name) (List.mem_of_getElem? (i := 5) rfl)) (hts (.initialized "java/lang/Math") (List.mem_of_getElem? (i := 6) rfl)) (hts (.code Lib.Math.min.name Lib.Math.min.code 2 (some .int)) (List.mem_of_getElem? (i := 7) rfl)) (Nat.le_of_ble_eq_true rfl) (Nat.le_of_ble_eq_true rfl) (Nat.zero_le _) (Nat.zero_le _) dX1_push_45 ?_
                  refine va_put (D := D) (ci := 1) (v := .int (if (8 : Int32) < ((z_27.1 2) + (1 : Int32)) then (8 : Int32) else ((z_27.1 2) + (1 : Int32)))) (ty := .int) (C := RX1) (T := TX1) (N := 3) hx hb hts hiX1 tyX1 tyX1_ok nmX1 hown hK hP hD hS 0 rfl rfl 2 (by decide) k21 (fun _ h9 => h9) rfl (by decide +kernel) rfl rfl (Nat.le_of_ble_eq_true rfl) dX1_push_48 (fun H locs hP hD hS => ?_)
                  obtain ⟨z_28, ez_28, hf⟩ := nm_ob hf
                  have hP : va_P D vwCl (fl [wH cO q (q2 0) (q3 0) (q4 0) (q5 0) (q6 0) (q7 0) (q8 0) (q9 0) z_28, wC cI q2 z2, wC cI q3 z3, wC cI q4 z4, wC cI q5 z5, wC cI q6 z6, wC cI q7 z7, wC cI q8 z_25, wC cI q9 z9, wC cI q10 z10]) H := by rw [ez_28]; exact hP
                  have hD : va_D A (fl [wH cO q (q2 0) (q3 0) (q4 0) (q5 0) (q6 0) (q7 0) (q8 0) (q9 0) z_28, wC cI q2 z2, wC cI q3 z3, wC cI q4 z4, wC cI q5 z5, wC cI q6 z6, wC cI q7 z7, wC cI q8 z_25, wC cI q9 z9, wC cI q10 z10]) := by rw [ez_28]; exact hD
                  cases hf
                  exact rW_v hx hb hr hlocks hP hD hS rfl dX1_push_51
                refine lv_icmp_ne (tgt := 27) hx hb dX1_push_20 (by decide) (fun c_20 => ?_) (fun c_20 => ?_)
                · have hf := ip c_20 hf
                  refine lv_aload_n hx hb dX1_push_27 rfl (lv_at hl 0 rfl) ?_
                  refine va_get (D := D) (ci := 1) (v := .int (z.1 1)) (C := RX1) (T := TX1) (N := 3) hx hb hts hiX1 hown hK hP 0 rfl rfl 1 (by decide) k17 (fun _ h9 => h9) rfl dX1_push_28 ?_
                  refine lv_iconst (v := 1) hx hb dX1_push_31 (by decide) ?_
                  refine lv_iadd hx hb dX1_push_32 ?_
                  exact hp33 ((z.1 1) + (1 : Int32)) _ _ _ hf hP hD hS (lv_sub hl [0] rfl)
                · have hf := iqn c_20 hf
                  refine lv_iconst (v := 0) hx hb dX1_push_23 (by decide) ?_
                  refine lv_goto (tgt := 33) hx hb dX1_push_24 (by decide) ?_
                  exact hp33 (0 : Int32) _ _ _ hf hP hD hS (lv_sub hl [0] rfl)
              · skip
                refine cs_ob hf (fun c_ hf => ?_) (fun c_ hf => ?_)
                · refine va_aldq hx hb hK hP 1 3 rfl rfl (inB_in (by rw [c_]; decide)) dX1_push_8 ?_
                  refine lv_rfk (a := (q9 0)) (by rw [c_]; rfl) ?_
                  refine lv_aload_n hx hb dX1_push_9 rfl (lv_at hl 1 rfl) ?_
                  obtain ⟨z_29, hc_30, hf⟩ := bd_ob hf
                  refine wrVb (As := [.ref (q10 0)]) (rest := []) [wH cO q (q2 0) (q3 0) (q4 0) (q5 0) (q6 0) (q7 0) (q8 0) (q9 0) z, wC cI q2 z2, wC cI q3 z3, wC cI q4 z4, wC cI q5 z5, wC cI q6 z6, wC cI q7 z7, wC cI q8 z8, wC cI q9 z_29, wC cI q10 z10] ⟨hx, hb, hml, hown, hts⟩ (mX0_copyFrom l D cI cB cZ cO q9 q10 _ fu z9 z10 hc_30) (cwV 1 hts gX1_push_X0_copyFrom rfl rfl rfl (by decide +kernel) ⟨Nat.le_of_ble_eq_true rfl, Nat.le_of_ble_eq_true rfl⟩) hK hP hD hS hA [8, 9] [0, 1, 2, 3, 4, 5, 6, 7] 10 rfl (by decide +kernel) rfl rfl [wH cO q (q2 0) (q3 0) (q4 0) (q5 0) (q6 0) (q7 0) (q8 0) (q9 0) z, wC cI q2 z2, wC cI q3 z3, wC cI q4 z4, wC cI q5 z5, wC cI q6 z6, wC cI q7 z7, wC cI q8 z8] rfl rfl rfl (va_recv hK hP (ci := 0) (q0 := 51) rfl rfl) rfl hl.1 rfl (Nat.le_of_ble_eq_true rfl) dX1_push_10 ⟨Nat.zero_le _, Nat.zero_le _⟩ (fun H locs hP hD hS => ?_)
                  refine lv_aload_n hx hb dX1_push_13 rfl (lv_at hl 0 rfl) ?_
                  refine lv_aload_n hx hb dX1_push_14 rfl (lv_at hl 0 rfl) ?_
                  refine va_get (D := D) (ci := 1) (v := .int (z.1 1)) (C := RX1) (T := TX1) (N := 3) hx hb hts hiX1 hown hK hP 0 rfl rfl 1 (by decide) k17 (fun _ h9 => h9) rfl dX1_push_15 ?_
                  refine lv_bipush (v := 7) hx hb dX1_push_18 (by decide) ?_
                  obtain ⟨j33, ej33, hf⟩ := jn_ob hf
                  have hp33 : ∀ (t1_33 : Int32) (H : Heap) (locs : List Loc) (ls : Array Slot), j33 t1_33 = some (y1, y2, y3, y4, y5, y6, y7, y8, y9) → va_P D vwCl (fl [wH cO q (q2 0) (q3 0) (q4 0) (q5 0) (q6 0) (q7 0) (q8 0) (q9 0) z, wC cI q2 z2, wC cI q3 z3, wC cI q4 z4, wC cI q5 z5, wC cI q6 z6, wC cI q7 z7, wC cI q8 z8, wC cI q9 z_29, wC cI q10 z10]) H → va_D A (fl [wH cO q (q2 0) (q3 0) (q4 0) (q5 0) (q6 0) (q7 0) (q8 0) (q9 0) z, wC cI q2 z2, wC cI q3 z3, wC cI q4 z4, wC cI q5 z5, wC cI q6 z6, wC cI q7 z7, wC cI q8 z8, wC cI q9 z_29, wC cI q10 z10]) → va_S A s.heap H locs → lv_has ls 2 [(0, .ref (q 0))] → W p l e (headSpec wsX1_push { frames := 2, cells := 0, slots := 0, locals := 61 }).room s m args below meth c H locs 0 0 (MQ below (Qw D A none (fl [wH cO q (q2 0) (q3 0) (q4 0) (q5 0) (q6 0) (q7 0) (q8 0) (q9 0) y1, wC cI q2 y2, wC cI q3 y3, wC cI q4 y4, wC cI q5 y5, wC cI q6 y6, wC cI q7 y7, wC cI q8 y8, wC cI q9 y9, wC cI q10 z10])) args s 0 0 A) (F0 m 33 ls [.int t1_33, .ref (q 0)]) := by
                    intro t1_33 H locs ls hf hP hD hS hl
                    rw [ej33] at hf
                    refine va_put (D := D) (ci := 1) (v := .int t1_33) (ty := .int) (C := RX1) (T := TX1) (N := 3) hx hb hts hiX1 tyX1 tyX1_ok nmX1 hown hK hP hD hS 0 rfl rfl 1 (by decide) k17 (fun _ h9 => h9) rfl (by decide +kernel) rfl rfl (Nat.le_of_ble_eq_true rfl) dX1_push_33 (fun H locs hP hD hS => ?_)
                    obtain ⟨z_31, ez_31, hf⟩ := nm_ob hf
                    have hP : va_P D vwCl (fl [wH cO q (q2 0) (q3 0) (q4 0) (q5 0) (q6 0) (q7 0) (q8 0) (q9 0) z_31, wC cI q2 z2, wC cI q3 z3, wC cI q4 z4, wC cI q5 z5, wC cI q6 z6, wC cI q7 z7, wC cI q8 z8, wC cI q9 z_29, wC cI q10 z10]) H := by rw [ez_31]; exact hP
                    have hD : va_D A (fl [wH cO q (q2 0) (q3 0) (q4 0) (q5 0) (q6 0) (q7 0) (q8 0) (q9 0) z_31, wC cI q2 z2, wC cI q3 z3, wC cI q4 z4, wC cI q5 z5, wC cI q6 z6, wC cI q7 z7, wC cI q8 z8, wC cI q9 z_29, wC cI q10 z10]) := by rw [ez_31]; exact hD
                    refine lv_aload_n hx hb dX1_push_36 rfl (lv_at hl 0 rfl) ?_
                    refine lv_aload_n hx hb dX1_push_37 rfl (lv_at hl 0 rfl) ?_
                    refine va_get (D := D) (ci := 1) (v := .int (z_31.1 2)) (C := RX1) (T := TX1) (N := 3) hx hb hts hiX1 hown hK hP 0 rfl rfl 2 (by decide) k21 (fun _ h9 => h9) rfl dX1_push_38 ?_
                    refine lv_iconst (v := 1) hx hb dX1_push_41 (by decide) ?_
                    refine lv_iadd hx hb dX1_push_42 ?_
                    refine lv_bipush (v := 8) hx hb dX1_push_43 (by decide) ?_
                    refine va_mmin hx hb (by rw [hml]; exact hl.1.symm) hown (hts (.methodLink RX1 29 Lib.Math.min.name) (List.mem_of_getElem? (i := 4) rfl)) (hts (.static Lib.Math.min.name) (List.mem_of_getElem? (i := 5) rfl)) (hts (.initialized "java/lang/Math") (List.mem_of_getElem? (i := 6) rfl)) (hts (.code Lib.Math.min.name Lib.Math.min.code 2 (some .int)) (List.mem_of_getElem? (i := 7) rfl)) (Nat.le_of_ble_eq_true rfl) (Nat.le_of_ble_eq_true rfl) (Nat.zero_le _) (Nat.zero_le _) dX1_push_45 ?_
                    refine va_put (D := D) (ci := 1) (v := .int (if (8 : Int32) < ((z_31.1 2) + (1 : Int32)) then (8 : Int32) else ((z_31.1 2) + (1 : Int32)))) (ty := .int) (C := RX1) (T := TX1) (N := 3) hx hb hts hiX1 tyX1 tyX1_ok nmX1 hown hK hP hD hS 0 rfl rfl 2 (by decide) k21 (fun _ h9 => h9) rfl (by decide +kernel) rfl rfl (Nat.le_of_ble_eq_true rfl) dX1_push_48 (fun H locs hP hD hS => ?_)
                    obtain ⟨z_32, ez_32, hf⟩ := nm_ob hf
                    have hP : va_P D vwCl (fl [wH cO q (q2 0) (q3 0) (q4 0) (q5 0) (q6 0) (q7 0) (q8 0) (q9 0) z_32, wC cI q2 z2, wC cI q3 z3, wC cI q4 z4, wC cI q5 z5, wC cI q6 z6, wC cI q7 z7, wC cI q8 z8, wC cI q9 z_29, wC cI q10 z10]) H := by rw [ez_32]; exact hP
                    have hD : va_D A (fl [wH cO q (q2 0) (q3 0) (q4 0) (q5 0) (q6 0) (q7 0) (q8 0) (q9 0) z_32, wC cI q2 z2, wC cI q3 z3, wC cI q4 z4, wC cI q5 z5, wC cI q6 z6, wC cI q7 z7, wC cI q8 z8, wC cI q9 z_29, wC cI q10 z10]) := by rw [ez_32]; exact hD
                    cases hf
                    exact rW_v hx hb hr hlocks hP hD hS rfl dX1_push_51
                  refine lv_icmp_ne (tgt := 27) hx hb dX1_push_20 (by decide) (fun c_20 => ?_) (fun c_20 => ?_)
                  · have hf := ip c_20 hf
                    refine lv_aload_n hx hb dX1_push_27 rfl (lv_at hl 0 rfl) ?_
                    refine va_get (D := D) (ci := 1) (v := .int (z.1 1)) (C := RX1) (T := TX1) (N := 3) hx hb hts hiX1 hown hK hP 0 rfl rfl 1 (by decide) k17 (fun _ h9 => h9) rfl dX1_push_28 ?_
                    refine lv_iconst (v := 1) hx hb dX1_push_31 (by decide) ?_
                    refine lv_iadd hx hb dX1_push_32 ?_
                    exact hp33 ((z.1 1) + (1 : Int32)) _ _ _ hf hP hD hS (lv_sub hl [0] rfl)
                  · have hf := iqn c_20 hf
                    refine lv_iconst (v := 0) hx hb dX1_push_23 (by decide) ?_
                    refine lv_goto (tgt := 33) hx hb dX1_push_24 (by decide) ?_
                    exact hp33 (0 : Int32) _ _ _ hf hP hD hS (lv_sub hl [0] rfl)
                · skip
                  exact no_ob hf

def fX1_pop (fu : Nat) (z : OS) (z2 : OS) (z3 : OS) (z4 : OS) (z5 : OS) (z6 : OS) (z7 : OS) (z8 : OS) (z9 : OS) (z10 : OS) : Option ((OS) × (OS)) :=
  jn (κ := Int32 → Option ((OS) × (OS))) (fun (t1_19 : Int32) => nm (sI z 1 t1_19) (fun (z_1 : OS) => nm (sI z_1 2 ((z_1.1 2) - (1 : Int32))) (fun (z_2 : OS) => (if (z_2.1 1) = (0 : Int32) then bd (fX0_copyFrom fu z10 z2) (fun (z_3 : OS) => some (z_2, z_3)) else (if (z_2.1 1) = (1 : Int32) then bd (fX0_copyFrom fu z10 z3) (fun (z_5 : OS) => some (z_2, z_5)) else (if (z_2.1 1) = (2 : Int32) then bd (fX0_copyFrom fu z10 z4) (fun (z_7 : OS) => some (z_2, z_7)) else (if (z_2.1 1) = (3 : Int32) then bd (fX0_copyFrom fu z10 z5) (fun (z_9 : OS) => some (z_2, z_9)) else (if (z_2.1 1) = (4 : Int32) then bd (fX0_copyFrom fu z10 z6) (fun (z_11 : OS) => some (z_2, z_11)) else (if (z_2.1 1) = (5 : Int32) then bd (fX0_copyFrom fu z10 z7) (fun (z_13 : OS) => some (z_2, z_13)) else (if (z_2.1 1) = (6 : Int32) then bd (fX0_copyFrom fu z10 z8) (fun (z_15 : OS) => some (z_2, z_15)) else (if (z_2.1 1) = (7 : Int32) then bd (fX0_copyFrom fu z10 z9) (fun (z_17 : OS) => some (z_2, z_17)) else none))))))))))) (fun j19 => (if ¬ (z.1 1) = (0 : Int32) then j19 ((z.1 1) - (1 : Int32)) else j19 (7 : Int32)))
set_option maxRecDepth 100000 in
set_option maxHeartbeats 4000000 in
theorem mX1_pop (l : Launch) (D : va_G) (cI cB cZ cO : ClassId) (q : Nat → Nat) (q2 : Nat → Nat) (q3 : Nat → Nat) (q4 : Nat → Nat) (q5 : Nat → Nat) (q6 : Nat → Nat) (q7 : Nat → Nat) (q8 : Nat → Nat) (q9 : Nat → Nat) (q10 : Nat → Nat) (sz : Nat) (fu : Nat) (z : OS) (z2 : OS) (z3 : OS) (z4 : OS) (z5 : OS) (z6 : OS) (z7 : OS) (z8 : OS) (z9 : OS) (z10 : OS) {y1 : OS} {y10 : OS} (hf : fX1_pop fu z z2 z3 z4 z5 z6 z7 z8 z9 z10 = some (y1, y10)) : Met l yX1_pop wsX1_pop ({ frames := 2, cells := 0, slots := 0, locals := 61 }) (va_Pc [.ref (q 0), .ref (q10 0)] (Pw D (gT cI cB cZ cO) (fl [wH cO q (q2 0) (q3 0) (q4 0) (q5 0) (q6 0) (q7 0) (q8 0) (q9 0) z, wC cI q2 z2, wC cI q3 z3, wC cI q4 z4, wC cI q5 z5, wC cI q6 z6, wC cI q7 z7, wC cI q8 z8, wC cI q9 z9, wC cI q10 z10]) sz)) (Qw D (va_A (fl [wH cO q (q2 0) (q3 0) (q4 0) (q5 0) (q6 0) (q7 0) (q8 0) (q9 0) z, wC cI q2 z2, wC cI q3 z3, wC cI q4 z4, wC cI q5 z5, wC cI q6 z6, wC cI q7 z7, wC cI q8 z8, wC cI q9 z9, wC cI q10 z10]) sz) none (fl [wH cO q (q2 0) (q3 0) (q4 0) (q5 0) (q6 0) (q7 0) (q8 0) (q9 0) y1, wC cI q2 z2, wC cI q3 z3, wC cI q4 z4, wC cI q5 z5, wC cI q6 z6, wC cI q7 z7, wC cI q8 z8, wC cI q9 z9, wC cI q10 y10])) 0 0 (va_A (fl [wH cO q (q2 0) (q3 0) (q4 0) (q5 0) (q6 0) (q7 0) (q8 0) (q9 0) z, wC cI q2 z2, wC cI q3 z3, wC cI q4 z4, wC cI q5 z5, wC cI q6 z6, wC cI q7 z7, wC cI q8 z8, wC cI q9 z9, wC cI q10 z10]) sz) := by
  unfold fX1_pop at hf
  refine metW (ret := none) (own := RX1) rfl (by decide) rfl (Nat.le_of_ble_eq_true rfl) (fun p e s m args below meth c ls A hx hb hr hml hown hlocks hts hK hA hP hD hS hl => ?_)
  have k17 := (hts (.fieldLink RX1 17 "ResolutionProver$History" "next" "I") (List.mem_of_getElem? (i := 1) rfl))
  have k21 := (hts (.fieldLink RX1 21 "ResolutionProver$History" "count" "I") (List.mem_of_getElem? (i := 2) rfl))
  have k11 := (hts (.fieldLink RX1 11 "ResolutionProver$History" "states" "[LResolutionProver$Clauses;") (List.mem_of_getElem? (i := 3) rfl))
  have hiX1 : ∀ w ∈ wsX10, w ∈ wsX1_pop := (memIn_p [21, 22, 23] rfl)
  have hl : lv_has ls 2 [(0, .ref (q 0)), (1, .ref (q10 0))] := hl
  refine lv_aload_n hx hb dX1_pop_0 rfl (lv_at hl 0 rfl) ?_
  refine lv_aload_n hx hb dX1_pop_1 rfl (lv_at hl 0 rfl) ?_
  refine va_get (D := D) (ci := 1) (v := .int (z.1 1)) (C := RX1) (T := TX1) (N := 3) hx hb hts hiX1 hown hK hP 0 rfl rfl 1 (by decide) k17 (fun _ h9 => h9) rfl dX1_pop_2 ?_
  obtain ⟨j19, ej19, hf⟩ := jn_ob hf
  have hp19 : ∀ (t1_19 : Int32) (H : Heap) (locs : List Loc) (ls : Array Slot), j19 t1_19 = some (y1, y10) → va_P D vwCl (fl [wH cO q (q2 0) (q3 0) (q4 0) (q5 0) (q6 0) (q7 0) (q8 0) (q9 0) z, wC cI q2 z2, wC cI q3 z3, wC cI q4 z4, wC cI q5 z5, wC cI q6 z6, wC cI q7 z7, wC cI q8 z8, wC cI q9 z9, wC cI q10 z10]) H → va_D A (fl [wH cO q (q2 0) (q3 0) (q4 0) (q5 0) (q6 0) (q7 0) (q8 0) (q9 0) z, wC cI q2 z2, wC cI q3 z3, wC cI q4 z4, wC cI q5 z5, wC cI q6 z6, wC cI q7 z7, wC cI q8 z8, wC cI q9 z9, wC cI q10 z10]) → va_S A s.heap H locs → lv_has ls 2 [(0, .ref (q 0)), (1, .ref (q10 0))] → W p l e (headSpec wsX1_pop { frames := 2, cells := 0, slots := 0, locals := 61 }).room s m args below meth c H locs 0 0 (MQ below (Qw D A none (fl [wH cO q (q2 0) (q3 0) (q4 0) (q5 0) (q6 0) (q7 0) (q8 0) (q9 0) y1, wC cI q2 z2, wC cI q3 z3, wC cI q4 z4, wC cI q5 z5, wC cI q6 z6, wC cI q7 z7, wC cI q8 z8, wC cI q9 z9, wC cI q10 y10])) args s 0 0 A) (F0 m 19 ls [.int t1_19, .ref (q 0)]) := by
    intro t1_19 H locs ls hf hP hD hS hl
    rw [ej19] at hf
    refine va_put (D := D) (ci := 1) (v := .int t1_19) (ty := .int) (C := RX1) (T := TX1) (N := 3) hx hb hts hiX1 tyX1 tyX1_ok nmX1 hown hK hP hD hS 0 rfl rfl 1 (by decide) k17 (fun _ h9 => h9) rfl (by decide +kernel) rfl rfl (Nat.le_of_ble_eq_true rfl) dX1_pop_19 (fun H locs hP hD hS => ?_)
    obtain ⟨z_1, ez_1, hf⟩ := nm_ob hf
    have hP : va_P D vwCl (fl [wH cO q (q2 0) (q3 0) (q4 0) (q5 0) (q6 0) (q7 0) (q8 0) (q9 0) z_1, wC cI q2 z2, wC cI q3 z3, wC cI q4 z4, wC cI q5 z5, wC cI q6 z6, wC cI q7 z7, wC cI q8 z8, wC cI q9 z9, wC cI q10 z10]) H := by rw [ez_1]; exact hP
    have hD : va_D A (fl [wH cO q (q2 0) (q3 0) (q4 0) (q5 0) (q6 0) (q7 0) (q8 0) (q9 0) z_1, wC cI q2 z2, wC cI q3 z3, wC cI q4 z4, wC cI q5 z5, wC cI q6 z6, wC cI q7 z7, wC cI q8 z8, wC cI q9 z9, wC cI q10 z10]) := by rw [ez_1]; exact hD
    refine lv_aload_n hx hb dX1_pop_22 rfl (lv_at hl 0 rfl) ?_
    refine lv_dup hx hb dX1_pop_23 rfl ?_
    refine va_get (D := D) (ci := 1) (v := .int (z_1.1 2)) (C := RX1) (T := TX1) (N := 3) hx hb hts hiX1 hown hK hP 0 rfl rfl 2 (by decide) k21 (fun _ h9 => h9) rfl dX1_pop_24 ?_
    refine lv_iconst (v := 1) hx hb dX1_pop_27 (by decide) ?_
    refine lv_isub hx hb dX1_pop_28 ?_
    refine va_put (D := D) (ci := 1) (v := .int ((z_1.1 2) - (1 : Int32))) (ty := .int) (C := RX1) (T := TX1) (N := 3) hx hb hts hiX1 tyX1 tyX1_ok nmX1 hown hK hP hD hS 0 rfl rfl 2 (by decide) k21 (fun _ h9 => h9) rfl (by decide +kernel) rfl rfl (Nat.le_of_ble_eq_true rfl) dX1_pop_29 (fun H locs hP hD hS => ?_)
    obtain ⟨z_2, ez_2, hf⟩ := nm_ob hf
    have hP : va_P D vwCl (fl [wH cO q (q2 0) (q3 0) (q4 0) (q5 0) (q6 0) (q7 0) (q8 0) (q9 0) z_2, wC cI q2 z2, wC cI q3 z3, wC cI q4 z4, wC cI q5 z5, wC cI q6 z6, wC cI q7 z7, wC cI q8 z8, wC cI q9 z9, wC cI q10 z10]) H := by rw [ez_2]; exact hP
    have hD : va_D A (fl [wH cO q (q2 0) (q3 0) (q4 0) (q5 0) (q6 0) (q7 0) (q8 0) (q9 0) z_2, wC cI q2 z2, wC cI q3 z3, wC cI q4 z4, wC cI q5 z5, wC cI q6 z6, wC cI q7 z7, wC cI q8 z8, wC cI q9 z9, wC cI q10 z10]) := by rw [ez_2]; exact hD
    refine lv_aload_n hx hb dX1_pop_32 rfl (lv_at hl 1 rfl) ?_
    refine lv_aload_n hx hb dX1_pop_33 rfl (lv_at hl 0 rfl) ?_
    refine va_get (D := D) (ci := 1) (v := .ref (q 1)) (C := RX1) (T := TX1) (N := 3) hx hb hts hiX1 hown hK hP 0 rfl rfl 0 (by decide) k11 (fun _ h9 => h9) rfl dX1_pop_34 ?_
    refine lv_aload_n hx hb dX1_pop_37 rfl (lv_at hl 0 rfl) ?_
    refine va_get (D := D) (ci := 1) (v := .int (z_2.1 1)) (C := RX1) (T := TX1) (N := 3) hx hb hts hiX1 hown hK hP 0 rfl rfl 1 (by decide) k17 (fun _ h9 => h9) rfl dX1_pop_38 ?_
    refine cs_ob hf (fun c_ hf => ?_) (fun c_ hf => ?_)
    · refine va_aldq hx hb hK hP 1 3 rfl rfl (inB_in (by rw [c_]; decide)) dX1_pop_41 ?_
      refine lv_rfk (a := (q2 0)) (by rw [c_]; rfl) ?_
      obtain ⟨z_3, hc_4, hf⟩ := bd_ob hf
      refine wrVb (As := [.ref (q2 0)]) (rest := []) [wH cO q (q2 0) (q3 0) (q4 0) (q5 0) (q6 0) (q7 0) (q8 0) (q9 0) z_2, wC cI q2 z2, wC cI q3 z3, wC cI q4 z4, wC cI q5 z5, wC cI q6 z6, wC cI q7 z7, wC cI q8 z8, wC cI q9 z9, wC cI q10 z_3] ⟨hx, hb, hml, hown, hts⟩ (mX0_copyFrom l D cI cB cZ cO q10 q2 _ fu z10 z2 hc_4) (cwV 1 hts gX1_pop_X0_copyFrom rfl rfl rfl (by decide +kernel) ⟨Nat.le_of_ble_eq_true rfl, Nat.le_of_ble_eq_true rfl⟩) hK hP hD hS hA [9, 1] [0, 2, 3, 4, 5, 6, 7, 8] 10 rfl (by decide +kernel) rfl rfl [wH cO q (q2 0) (q3 0) (q4 0) (q5 0) (q6 0) (q7 0) (q8 0) (q9 0) z_2, wC cI q3 z3, wC cI q4 z4, wC cI q5 z5, wC cI q6 z6, wC cI q7 z7, wC cI q8 z8, wC cI q9 z9] rfl rfl rfl (va_recv hK hP (ci := 0) (q0 := 58) rfl rfl) rfl hl.1 rfl (Nat.le_of_ble_eq_true rfl) dX1_pop_42 ⟨Nat.zero_le _, Nat.zero_le _⟩ (fun H locs hP hD hS => ?_)
      cases hf
      exact rW_v hx hb hr hlocks hP hD hS rfl dX1_pop_45
    · skip
      refine cs_ob hf (fun c_ hf => ?_) (fun c_ hf => ?_)
      · refine va_aldq hx hb hK hP 1 3 rfl rfl (inB_in (by rw [c_]; decide)) dX1_pop_41 ?_
        refine lv_rfk (a := (q3 0)) (by rw [c_]; rfl) ?_
        obtain ⟨z_5, hc_6, hf⟩ := bd_ob hf
        refine wrVb (As := [.ref (q3 0)]) (rest := []) [wH cO q (q2 0) (q3 0) (q4 0) (q5 0) (q6 0) (q7 0) (q8 0) (q9 0) z_2, wC cI q2 z2, wC cI q3 z3, wC cI q4 z4, wC cI q5 z5, wC cI q6 z6, wC cI q7 z7, wC cI q8 z8, wC cI q9 z9, wC cI q10 z_5] ⟨hx, hb, hml, hown, hts⟩ (mX0_copyFrom l D cI cB cZ cO q10 q3 _ fu z10 z3 hc_6) (cwV 1 hts gX1_pop_X0_copyFrom rfl rfl rfl (by decide +kernel) ⟨Nat.le_of_ble_eq_true rfl, Nat.le_of_ble_eq_true rfl⟩) hK hP hD hS hA [9, 2] [0, 1, 3, 4, 5, 6, 7, 8] 10 rfl (by decide +kernel) rfl rfl [wH cO q (q2 0) (q3 0) (q4 0) (q5 0) (q6 0) (q7 0) (q8 0) (q9 0) z_2, wC cI q2 z2, wC cI q4 z4, wC cI q5 z5, wC cI q6 z6, wC cI q7 z7, wC cI q8 z8, wC cI q9 z9] rfl rfl rfl (va_recv hK hP (ci := 0) (q0 := 58) rfl rfl) rfl hl.1 rfl (Nat.le_of_ble_eq_true rfl) dX1_pop_42 ⟨Nat.zero_le _, Nat.zero_le _⟩ (fun H locs hP hD hS => ?_)
        cases hf
        exact rW_v hx hb hr hlocks hP hD hS rfl dX1_pop_45
      · skip
        refine cs_ob hf (fun c_ hf => ?_) (fun c_ hf => ?_)
        · refine va_aldq hx hb hK hP 1 3 rfl rfl (inB_in (by rw [c_]; decide)) dX1_pop_41 ?_
          refine lv_rfk (a := (q4 0)) (by rw [c_]; rfl) ?_
          obtain ⟨z_7, hc_8, hf⟩ := bd_ob hf
          refine wrVb (As := [.ref (q4 0)]) (rest := []) [wH cO q (q2 0) (q3 0) (q4 0) (q5 0) (q6 0) (q7 0) (q8 0) (q9 0) z_2, wC cI q2 z2, wC cI q3 z3, wC cI q4 z4, wC cI q5 z5, wC cI q6 z6, wC cI q7 z7, wC cI q8 z8, wC cI q9 z9, wC cI q10 z_7] ⟨hx, hb, hml, hown, hts⟩ (mX0_copyFrom l D cI cB cZ cO q10 q4 _ fu z10 z4 hc_8) (cwV 1 hts gX1_pop_X0_copyFrom rfl rfl rfl (by decide +kernel) ⟨Nat.le_of_ble_eq_true rfl, Nat.le_of_ble_eq_true rfl⟩) hK hP hD hS hA [9, 3] [0, 1, 2, 4, 5, 6, 7, 8] 10 rfl (by decide +kernel) rfl rfl [wH cO q (q2 0) (q3 0) (q4 0) (q5 0) (q6 0) (q7 0) (q8 0) (q9 0) z_2, wC cI q2 z2, wC cI q3 z3, wC cI q5 z5, wC cI q6 z6, wC cI q7 z7, wC cI q8 z8, wC cI q9 z9] rfl rfl rfl (va_recv hK hP (ci := 0) (q0 := 58) rfl rfl) rfl hl.1 rfl (Nat.le_of_ble_eq_true rfl) dX1_pop_42 ⟨Nat.zero_le _, Nat.zero_le _⟩ (fun H locs hP hD hS => ?_)
          cases hf
          exact rW_v hx hb hr hlocks hP hD hS rfl dX1_pop_45
        · skip
          refine cs_ob hf (fun c_ hf => ?_) (fun c_ hf => ?_)
          · refine va_aldq hx hb hK hP 1 3 rfl rfl (inB_in (by rw [c_]; decide)) dX1_pop_41 ?_
            refine lv_rfk (a := (q5 0)) (by rw [c_]; rfl) ?_
            obtain ⟨z_9, hc_10, hf⟩ := bd_ob hf
            refine wrVb (As := [.ref (q5 0)]) (rest := []) [wH cO q (q2 0) (q3 0) (q4 0) (q5 0) (q6 0) (q7 0) (q8 0) (q9 0) z_2, wC cI q2 z2, wC cI q3 z3, wC cI q4 z4, wC cI q5 z5, wC cI q6 z6, wC cI q7 z7, wC cI q8 z8, wC cI q9 z9, wC cI q10 z_9] ⟨hx, hb, hml, hown, hts⟩ (mX0_copyFrom l D cI cB cZ cO q10 q5 _ fu z10 z5 hc_10) (cwV 1 hts gX1_pop_X0_copyFrom rfl rfl rfl (by decide +kernel) ⟨Nat.le_of_ble_eq_true rfl, Nat.le_of_ble_eq_true rfl⟩) hK hP hD hS hA [9, 4] [0, 1, 2, 3, 5, 6, 7, 8] 10 rfl (by decide +kernel) rfl rfl [wH cO q (q2 0) (q3 0) (q4 0) (q5 0) (q6 0) (q7 0) (q8 0) (q9 0) z_2, wC cI q2 z2, wC cI q3 z3, wC cI q4 z4, wC cI q6 z6, wC cI q7 z7, wC cI q8 z8, wC cI q9 z9] rfl rfl rfl (va_recv hK hP (ci := 0) (q0 := 58) rfl rfl) rfl hl.1 rfl (Nat.le_of_ble_eq_true rfl) dX1_pop_42 ⟨Nat.zero_le _, Nat.zero_le _⟩ (fun H locs hP hD hS => ?_)
            cases hf
            exact rW_v hx hb hr hlocks hP hD hS rfl dX1_pop_45
          · skip
            refine cs_ob hf (fun c_ hf => ?_) (fun c_ hf => ?_)
            · refine va_aldq hx hb hK hP 1 3 rfl rfl (inB_in (by rw [c_]; decide)) dX1_pop_41 ?_
              refine lv_rfk (a := (q6 0)) (by rw [c_]; rfl) ?_
              obtain ⟨z_11, hc_12, hf⟩ := bd_ob hf
              refine wrVb (As := [.ref (q6 0)]) (rest := []) [wH cO q (q2 0) (q3 0) (q4 0) (q5 0) (q6 0) (q7 0) (q8 0) (q9 0) z_2, wC cI q2 z2, wC cI q3 z3, wC cI q4 z4, wC cI q5 z5, wC cI q6 z6, wC cI q7 z7, wC cI q8 z8, wC cI q9 z9, wC cI q10 z_11] ⟨hx, hb, hml, hown, hts⟩ (mX0_copyFrom l D cI cB cZ cO q10 q6 _ fu z10 z6 hc_12) (cwV 1 hts gX1_pop_X0_copyFrom rfl rfl rfl (by decide +kernel) ⟨Nat.le_of_ble_eq_true rfl, Nat.le_of_ble_eq_true rfl⟩) hK hP hD hS hA [9, 5] [0, 1, 2, 3, 4, 6, 7, 8] 10 rfl (by decide +kernel) rfl rfl [wH cO q (q2 0) (q3 0) (q4 0) (q5 0) (q6 0) (q7 0) (q8 0) (q9 0) z_2, wC cI q2 z2, wC cI q3 z3, wC cI q4 z4, wC cI q5 z5, wC cI q7 z7, wC cI q8 z8, wC cI q9 z9] rfl rfl rfl (va_recv hK hP (ci := 0) (q0 := 58) rfl rfl) rfl hl.1 rfl (Nat.le_of_ble_eq_true rfl) dX1_pop_42 ⟨Nat.zero_le _, Nat.zero_le _⟩ (fun H locs hP hD hS => ?_)
              cases hf
              exact rW_v hx hb hr hlocks hP hD hS rfl dX1_pop_45
            · skip
              refine cs_ob hf (fun c_ hf => ?_) (fun c_ hf => ?_)
              · refine va_aldq hx hb hK hP 1 3 rfl rfl (inB_in (by rw [c_]; decide)) dX1_pop_41 ?_
                refine lv_rfk (a := (q7 0)) (by rw [c_]; rfl) ?_
                obtain ⟨z_13, hc_14, hf⟩ := bd_ob hf
                refine wrVb (As := [.ref (q7 0)]) (rest := []) [wH cO q (q2 0) (q3 0) (q4 0) (q5 0) (q6 0) (q7 0) (q8 0) (q9 0) z_2, wC cI q2 z2, wC cI q3 z3, wC cI q4 z4, wC cI q5 z5, wC cI q6 z6, wC cI q7 z7, wC cI q8 z8, wC cI q9 z9, wC cI q10 z_13] ⟨hx, hb, hml, hown, hts⟩ (mX0_copyFrom l D cI cB cZ cO q10 q7 _ fu z10 z7 hc_14) (cwV 1 hts gX1_pop_X0_copyFrom rfl rfl rfl (by decide +kernel) ⟨Nat.le_of_ble_eq_true rfl, Nat.le_of_ble_eq_true rfl⟩) hK hP hD hS hA [9, 6] [0, 1, 2, 3, 4, 5, 7, 8] 10 rfl (by decide +kernel) rfl rfl [wH cO q (q2 0) (q3 0) (q4 0) (q5 0) (q6 0) (q7 0) (q8 0) (q9 0) z_2, wC cI q2 z2, wC cI q3 z3, wC cI q4 z4, wC cI q5 z5, wC cI q6 z6, wC cI q8 z8, wC cI q9 z9] rfl rfl rfl (va_recv hK hP (ci := 0) (q0 := 58) rfl rfl) rfl hl.1 rfl (Nat.le_of_ble_eq_true rfl) dX1_pop_42 ⟨Nat.zero_le _, Nat.zero_le _⟩ (fun H locs hP hD hS => ?_)
                cases hf
                exact rW_v hx hb hr hlocks hP hD hS rfl dX1_pop_45
              · skip
                refine cs_ob hf (fun c_ hf => ?_) (fun c_ hf => ?_)
                · refine va_aldq hx hb hK hP 1 3 rfl rfl (inB_in (by rw [c_]; decide)) dX1_pop_41 ?_
                  refine lv_rfk (a := (q8 0)) (by rw [c_]; rfl) ?_
                  obtain ⟨z_15, hc_16, hf⟩ := bd_ob hf
                  refine wrVb (As := [.ref (q8 0)]) (rest := []) [wH cO q (q2 0) (q3 0) (q4 0) (q5 0) (q6 0) (q7 0) (q8 0) (q9 0) z_2, wC cI q2 z2, wC cI q3 z3, wC cI q4 z4, wC cI q5 z5, wC cI q6 z6, wC cI q7 z7, wC cI q8 z8, wC cI q9 z9, wC cI q10 z_15] ⟨hx, hb, hml, hown, hts⟩ (mX0_copyFrom l D cI cB cZ cO q10 q8 _ fu z10 z8 hc_16) (cwV 1 hts gX1_pop_X0_copyFrom rfl rfl rfl (by decide +kernel) ⟨Nat.le_of_ble_eq_true rfl, Nat.le_of_ble_eq_true rfl⟩) hK hP hD hS hA [9, 7] [0, 1, 2, 3, 4, 5, 6, 8] 10 rfl (by decide +kernel) rfl rfl [wH cO q (q2 0) (q3 0) (q4 0) (q5 0) (q6 0) (q7 0) (q8 0) (q9 0) z_2, wC cI q2 z2, wC cI q3 z3, wC cI q4 z4, wC cI q5 z5, wC cI q6 z6, wC cI q7 z7, wC cI q9 z9] rfl rfl rfl (va_recv hK hP (ci := 0) (q0 := 58) rfl rfl) rfl hl.1 rfl (Nat.le_of_ble_eq_true rfl) dX1_pop_42 ⟨Nat.zero_le _, Nat.zero_le _⟩ (fun H locs hP hD hS => ?_)
                  cases hf
                  exact rW_v hx hb hr hlocks hP hD hS rfl dX1_pop_45
                · skip
                  refine cs_ob hf (fun c_ hf => ?_) (fun c_ hf => ?_)
                  · refine va_aldq hx hb hK hP 1 3 rfl rfl (inB_in (by rw [c_]; decide)) dX1_pop_41 ?_
                    refine lv_rfk (a := (q9 0)) (by rw [c_]; rfl) ?_
                    obtain ⟨z_17, hc_18, hf⟩ := bd_ob hf
                    refine wrVb (As := [.ref (q9 0)]) (rest := []) [wH cO q (q2 0) (q3 0) (q4 0) (q5 0) (q6 0) (q7 0) (q8 0) (q9 0) z_2, wC cI q2 z2, wC cI q3 z3, wC cI q4 z4, wC cI q5 z5, wC cI q6 z6, wC cI q7 z7, wC cI q8 z8, wC cI q9 z9, wC cI q10 z_17] ⟨hx, hb, hml, hown, hts⟩ (mX0_copyFrom l D cI cB cZ cO q10 q9 _ fu z10 z9 hc_18) (cwV 1 hts gX1_pop_X0_copyFrom rfl rfl rfl (by decide +kernel) ⟨Nat.le_of_ble_eq_true rfl, Nat.le_of_ble_eq_true rfl⟩) hK hP hD hS hA [9, 8] [0, 1, 2, 3, 4, 5, 6, 7] 10 rfl (by decide +kernel) rfl rfl [wH cO q (q2 0) (q3 0) (q4 0) (q5 0) (q6 0) (q7 0) (q8 0) (q9 0) z_2, wC cI q2 z2, wC cI q3 z3, wC cI q4 z4, wC cI q5 z5, wC cI q6 z6, wC cI q7 z7, wC cI q8 z8] rfl rfl rfl (va_recv hK hP (ci := 0) (q0 := 58) rfl rfl) rfl hl.1 rfl (Nat.le_of_ble_eq_true rfl) dX1_pop_42 ⟨Nat.zero_le _, Nat.zero_le _⟩ (fun H locs hP hD hS => ?_)
                    cases hf
                    exact rW_v hx hb hr hlocks hP hD hS rfl dX1_pop_45
                  · skip
                    exact no_ob hf
  refine lv_if_ne (tgt := 13) hx hb dX1_pop_5 (by decide) (fun c_5 => ?_) (fun c_5 => ?_)
  · have hf := ip c_5 hf
    refine lv_aload_n hx hb dX1_pop_13 rfl (lv_at hl 0 rfl) ?_
    refine va_get (D := D) (ci := 1) (v := .int (z.1 1)) (C := RX1) (T := TX1) (N := 3) hx hb hts hiX1 hown hK hP 0 rfl rfl 1 (by decide) k17 (fun _ h9 => h9) rfl dX1_pop_14 ?_
    refine lv_iconst (v := 1) hx hb dX1_pop_17 (by decide) ?_
    refine lv_isub hx hb dX1_pop_18 ?_
    exact hp19 ((z.1 1) - (1 : Int32)) _ _ _ hf hP hD hS hl
  · have hf := iqn c_5 hf
    refine lv_bipush (v := 7) hx hb dX1_pop_8 (by decide) ?_
    refine lv_goto (tgt := 19) hx hb dX1_pop_10 (by decide) ?_
    exact hp19 (7 : Int32) _ _ _ hf hP hD hS hl
