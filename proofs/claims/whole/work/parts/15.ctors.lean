def zX00 : OS := (fun k => if k = 6 then 4 else 0, fun k => fun _ => 0)
set_option maxRecDepth 100000 in
set_option maxHeartbeats 4000000 in
theorem kX0_init (l : Launch) (D : va_G) (cI cB cZ cO : ClassId) (h0 sz : Nat) : Met l yX0_init wsX0_init ({ frames := 1, cells := 6, slots := 360, locals := 12 }) (va_Pc [.ref h0] (Pw D (gT cI cB cZ cO) ([(h0, .inr (0, [.null, .null, .null, .null, .null, .null, .int 0, .int 0]))]) sz)) (Qn D (va_A ([(h0, .inr (0, [.null, .null, .null, .null, .null, .null, .int 0, .int 0]))]) sz) (fun (q : Nat → Nat) => wC cI q zX00) (fun q => q 0) h0) 6 360 (va_A ([(h0, .inr (0, [.null, .null, .null, .null, .null, .null, .int 0, .int 0]))]) sz) := by
  refine metA (own := RX0) rfl (by decide) rfl (Nat.le_of_ble_eq_true rfl) (fun p e s m args below meth c ls A hx hb hr hml hown hlocks hin hts hK hA hP hD hS hl => ?_)
  have hiX0 : ∀ w ∈ wsX00, w ∈ wsX0_init := (memIn_p [13, 14, 15, 16, 17, 18, 19, 20] rfl)
  have hl : lv_has ls 1 [(0, .ref h0)] := hl
  refine lv_aload_n hx hb dX0_init_0 rfl (lv_at hl 0 rfl) ?_
  refine W.objInit hx hb hown (hts (.methodLink RX0 3 objectInit) (List.mem_of_getElem? (i := 1) rfl)) (hts (.instanceMethod objectInit) (List.mem_of_getElem? (i := 2) rfl)) (hts (.code objectInit ⟨#[0xb1]⟩ 1 none) (List.mem_of_getElem? (i := 3) rfl)) rfl (by rw [hml]; exact hl.1) rfl dX0_init_1 (Nat.le_of_ble_eq_true rfl) (Nat.le_of_ble_eq_true rfl) ?_
  refine W.eq (g2 := F0 m 4 ls []) rfl ?_
  refine lv_aload_n hx hb dX0_init_4 rfl (lv_at hl 0 rfl) ?_
  refine lv_bipush (v := 60) hx hb dX0_init_5 (by decide) ?_
  refine va_newa (atype := .int) (ty := .int) (a0 := (60, .inl (fun _ => 0))) (N' := 60) hx hb (hts (.arrayClass .int) (List.mem_of_getElem? (i := 4) rfl)) rfl hK hP hD hS hA (fun cA => rfl) (by decide) (by decide) (Nat.le_of_ble_eq_true rfl) (Nat.le_of_ble_eq_true rfl) (Nat.le_of_ble_eq_true rfl) dX0_init_7 (fun a1 cA H hK hP hD hS => ?_)
  have e9 : cA = cI := va_K_one hK (i := 4) (j := 0) rfl rfl
  rw [e9] at hP hD
  have hK : va_K D vwCl (gT cI cB cZ cO) s := hK.sub [0, 1, 2, 3] rfl
  have hP : va_P D vwCl ([(h0, .inr (0, [.null, .null, .null, .null, .null, .null, .int 0, .int 0])), (a1, .inl (cI, 60, .inl (fun _ => 0)))]) H := hP
  have hD : va_D A ([(h0, .inr (0, [.null, .null, .null, .null, .null, .null, .int 0, .int 0])), (a1, .inl (cI, 60, .inl (fun _ => 0)))]) := hD
  refine va_putF (D := D) (ci := 0) (v := .ref a1) (ty := (.array .int)) (C := RX0) (T := TX0) (N := 8) hx hb hts hiX0 tyX0 tyX0_ok nmX0 hown hK hP hD hS 0 rfl rfl 0 (by decide) (hts (.fieldLink RX0 9 "ResolutionProver$Clauses" "positive" "[I") (List.mem_of_getElem? (i := 5) rfl)) (fun _ h9 => h9) rfl hin rfl (by decide +kernel) rfl rfl (Nat.le_of_ble_eq_true rfl) dX0_init_9 (fun H locs hP hD hS => ?_)
  have hP : va_P D vwCl ([(h0, .inr (0, [.ref a1, .null, .null, .null, .null, .null, .int 0, .int 0])), (a1, .inl (cI, 60, .inl (fun _ => 0)))]) H := hP
  have hD : va_D A ([(h0, .inr (0, [.ref a1, .null, .null, .null, .null, .null, .int 0, .int 0])), (a1, .inl (cI, 60, .inl (fun _ => 0)))]) := hD
  refine lv_aload_n hx hb dX0_init_12 rfl (lv_at hl 0 rfl) ?_
  refine lv_bipush (v := 60) hx hb dX0_init_13 (by decide) ?_
  refine va_newa (atype := .int) (ty := .int) (a0 := (60, .inl (fun _ => 0))) (N' := 60) hx hb (hts (.arrayClass .int) (List.mem_of_getElem? (i := 4) rfl)) rfl hK hP hD hS hA (fun cA => rfl) (by decide) (by decide) (Nat.le_of_ble_eq_true rfl) (Nat.le_of_ble_eq_true rfl) (Nat.le_of_ble_eq_true rfl) dX0_init_15 (fun a2 cA H hK hP hD hS => ?_)
  have e9 : cA = cI := va_K_one hK (i := 4) (j := 0) rfl rfl
  rw [e9] at hP hD
  have hK : va_K D vwCl (gT cI cB cZ cO) s := hK.sub [0, 1, 2, 3] rfl
  have hP : va_P D vwCl ([(h0, .inr (0, [.ref a1, .null, .null, .null, .null, .null, .int 0, .int 0])), (a1, .inl (cI, 60, .inl (fun _ => 0))), (a2, .inl (cI, 60, .inl (fun _ => 0)))]) H := hP
  have hD : va_D A ([(h0, .inr (0, [.ref a1, .null, .null, .null, .null, .null, .int 0, .int 0])), (a1, .inl (cI, 60, .inl (fun _ => 0))), (a2, .inl (cI, 60, .inl (fun _ => 0)))]) := hD
  refine va_putF (D := D) (ci := 0) (v := .ref a2) (ty := (.array .int)) (C := RX0) (T := TX0) (N := 8) hx hb hts hiX0 tyX0 tyX0_ok nmX0 hown hK hP hD hS 0 rfl rfl 1 (by decide) (hts (.fieldLink RX0 15 "ResolutionProver$Clauses" "negative" "[I") (List.mem_of_getElem? (i := 6) rfl)) (fun _ h9 => h9) rfl hin rfl (by decide +kernel) rfl rfl (Nat.le_of_ble_eq_true rfl) dX0_init_17 (fun H locs hP hD hS => ?_)
  have hP : va_P D vwCl ([(h0, .inr (0, [.ref a1, .ref a2, .null, .null, .null, .null, .int 0, .int 0])), (a1, .inl (cI, 60, .inl (fun _ => 0))), (a2, .inl (cI, 60, .inl (fun _ => 0)))]) H := hP
  have hD : va_D A ([(h0, .inr (0, [.ref a1, .ref a2, .null, .null, .null, .null, .int 0, .int 0])), (a1, .inl (cI, 60, .inl (fun _ => 0))), (a2, .inl (cI, 60, .inl (fun _ => 0)))]) := hD
  refine lv_aload_n hx hb dX0_init_20 rfl (lv_at hl 0 rfl) ?_
  refine lv_bipush (v := 60) hx hb dX0_init_21 (by decide) ?_
  refine va_newa (atype := .int) (ty := .int) (a0 := (60, .inl (fun _ => 0))) (N' := 60) hx hb (hts (.arrayClass .int) (List.mem_of_getElem? (i := 4) rfl)) rfl hK hP hD hS hA (fun cA => rfl) (by decide) (by decide) (Nat.le_of_ble_eq_true rfl) (Nat.le_of_ble_eq_true rfl) (Nat.le_of_ble_eq_true rfl) dX0_init_23 (fun a3 cA H hK hP hD hS => ?_)
  have e9 : cA = cI := va_K_one hK (i := 4) (j := 0) rfl rfl
  rw [e9] at hP hD
  have hK : va_K D vwCl (gT cI cB cZ cO) s := hK.sub [0, 1, 2, 3] rfl
  have hP : va_P D vwCl ([(h0, .inr (0, [.ref a1, .ref a2, .null, .null, .null, .null, .int 0, .int 0])), (a1, .inl (cI, 60, .inl (fun _ => 0))), (a2, .inl (cI, 60, .inl (fun _ => 0))), (a3, .inl (cI, 60, .inl (fun _ => 0)))]) H := hP
  have hD : va_D A ([(h0, .inr (0, [.ref a1, .ref a2, .null, .null, .null, .null, .int 0, .int 0])), (a1, .inl (cI, 60, .inl (fun _ => 0))), (a2, .inl (cI, 60, .inl (fun _ => 0))), (a3, .inl (cI, 60, .inl (fun _ => 0)))]) := hD
  refine va_putF (D := D) (ci := 0) (v := .ref a3) (ty := (.array .int)) (C := RX0) (T := TX0) (N := 8) hx hb hts hiX0 tyX0 tyX0_ok nmX0 hown hK hP hD hS 0 rfl rfl 2 (by decide) (hts (.fieldLink RX0 18 "ResolutionProver$Clauses" "parentWith" "[I") (List.mem_of_getElem? (i := 7) rfl)) (fun _ h9 => h9) rfl hin rfl (by decide +kernel) rfl rfl (Nat.le_of_ble_eq_true rfl) dX0_init_25 (fun H locs hP hD hS => ?_)
  have hP : va_P D vwCl ([(h0, .inr (0, [.ref a1, .ref a2, .ref a3, .null, .null, .null, .int 0, .int 0])), (a1, .inl (cI, 60, .inl (fun _ => 0))), (a2, .inl (cI, 60, .inl (fun _ => 0))), (a3, .inl (cI, 60, .inl (fun _ => 0)))]) H := hP
  have hD : va_D A ([(h0, .inr (0, [.ref a1, .ref a2, .ref a3, .null, .null, .null, .int 0, .int 0])), (a1, .inl (cI, 60, .inl (fun _ => 0))), (a2, .inl (cI, 60, .inl (fun _ => 0))), (a3, .inl (cI, 60, .inl (fun _ => 0)))]) := hD
  refine lv_aload_n hx hb dX0_init_28 rfl (lv_at hl 0 rfl) ?_
  refine lv_bipush (v := 60) hx hb dX0_init_29 (by decide) ?_
  refine va_newa (atype := .int) (ty := .int) (a0 := (60, .inl (fun _ => 0))) (N' := 60) hx hb (hts (.arrayClass .int) (List.mem_of_getElem? (i := 4) rfl)) rfl hK hP hD hS hA (fun cA => rfl) (by decide) (by decide) (Nat.le_of_ble_eq_true rfl) (Nat.le_of_ble_eq_true rfl) (Nat.le_of_ble_eq_true rfl) dX0_init_31 (fun a4 cA H hK hP hD hS => ?_)
  have e9 : cA = cI := va_K_one hK (i := 4) (j := 0) rfl rfl
  rw [e9] at hP hD
  have hK : va_K D vwCl (gT cI cB cZ cO) s := hK.sub [0, 1, 2, 3] rfl
  have hP : va_P D vwCl ([(h0, .inr (0, [.ref a1, .ref a2, .ref a3, .null, .null, .null, .int 0, .int 0])), (a1, .inl (cI, 60, .inl (fun _ => 0))), (a2, .inl (cI, 60, .inl (fun _ => 0))), (a3, .inl (cI, 60, .inl (fun _ => 0))), (a4, .inl (cI, 60, .inl (fun _ => 0)))]) H := hP
  have hD : va_D A ([(h0, .inr (0, [.ref a1, .ref a2, .ref a3, .null, .null, .null, .int 0, .int 0])), (a1, .inl (cI, 60, .inl (fun _ => 0))), (a2, .inl (cI, 60, .inl (fun _ => 0))), (a3, .inl (cI, 60, .inl (fun _ => 0))), (a4, .inl (cI, 60, .inl (fun _ => 0)))]) := hD
  refine va_putF (D := D) (ci := 0) (v := .ref a4) (ty := (.array .int)) (C := RX0) (T := TX0) (N := 8) hx hb hts hiX0 tyX0 tyX0_ok nmX0 hown hK hP hD hS 0 rfl rfl 3 (by decide) (hts (.fieldLink RX0 21 "ResolutionProver$Clauses" "parentWithout" "[I") (List.mem_of_getElem? (i := 8) rfl)) (fun _ h9 => h9) rfl hin rfl (by decide +kernel) rfl rfl (Nat.le_of_ble_eq_true rfl) dX0_init_33 (fun H locs hP hD hS => ?_)
  have hP : va_P D vwCl ([(h0, .inr (0, [.ref a1, .ref a2, .ref a3, .ref a4, .null, .null, .int 0, .int 0])), (a1, .inl (cI, 60, .inl (fun _ => 0))), (a2, .inl (cI, 60, .inl (fun _ => 0))), (a3, .inl (cI, 60, .inl (fun _ => 0))), (a4, .inl (cI, 60, .inl (fun _ => 0)))]) H := hP
  have hD : va_D A ([(h0, .inr (0, [.ref a1, .ref a2, .ref a3, .ref a4, .null, .null, .int 0, .int 0])), (a1, .inl (cI, 60, .inl (fun _ => 0))), (a2, .inl (cI, 60, .inl (fun _ => 0))), (a3, .inl (cI, 60, .inl (fun _ => 0))), (a4, .inl (cI, 60, .inl (fun _ => 0)))]) := hD
  refine lv_aload_n hx hb dX0_init_36 rfl (lv_at hl 0 rfl) ?_
  refine lv_bipush (v := 60) hx hb dX0_init_37 (by decide) ?_
  refine va_newa (atype := .int) (ty := .int) (a0 := (60, .inl (fun _ => 0))) (N' := 60) hx hb (hts (.arrayClass .int) (List.mem_of_getElem? (i := 4) rfl)) rfl hK hP hD hS hA (fun cA => rfl) (by decide) (by decide) (Nat.le_of_ble_eq_true rfl) (Nat.le_of_ble_eq_true rfl) (Nat.le_of_ble_eq_true rfl) dX0_init_39 (fun a5 cA H hK hP hD hS => ?_)
  have e9 : cA = cI := va_K_one hK (i := 4) (j := 0) rfl rfl
  rw [e9] at hP hD
  have hK : va_K D vwCl (gT cI cB cZ cO) s := hK.sub [0, 1, 2, 3] rfl
  have hP : va_P D vwCl ([(h0, .inr (0, [.ref a1, .ref a2, .ref a3, .ref a4, .null, .null, .int 0, .int 0])), (a1, .inl (cI, 60, .inl (fun _ => 0))), (a2, .inl (cI, 60, .inl (fun _ => 0))), (a3, .inl (cI, 60, .inl (fun _ => 0))), (a4, .inl (cI, 60, .inl (fun _ => 0))), (a5, .inl (cI, 60, .inl (fun _ => 0)))]) H := hP
  have hD : va_D A ([(h0, .inr (0, [.ref a1, .ref a2, .ref a3, .ref a4, .null, .null, .int 0, .int 0])), (a1, .inl (cI, 60, .inl (fun _ => 0))), (a2, .inl (cI, 60, .inl (fun _ => 0))), (a3, .inl (cI, 60, .inl (fun _ => 0))), (a4, .inl (cI, 60, .inl (fun _ => 0))), (a5, .inl (cI, 60, .inl (fun _ => 0)))]) := hD
  refine va_putF (D := D) (ci := 0) (v := .ref a5) (ty := (.array .int)) (C := RX0) (T := TX0) (N := 8) hx hb hts hiX0 tyX0 tyX0_ok nmX0 hown hK hP hD hS 0 rfl rfl 4 (by decide) (hts (.fieldLink RX0 24 "ResolutionProver$Clauses" "pivot" "[I") (List.mem_of_getElem? (i := 9) rfl)) (fun _ h9 => h9) rfl hin rfl (by decide +kernel) rfl rfl (Nat.le_of_ble_eq_true rfl) dX0_init_41 (fun H locs hP hD hS => ?_)
  have hP : va_P D vwCl ([(h0, .inr (0, [.ref a1, .ref a2, .ref a3, .ref a4, .ref a5, .null, .int 0, .int 0])), (a1, .inl (cI, 60, .inl (fun _ => 0))), (a2, .inl (cI, 60, .inl (fun _ => 0))), (a3, .inl (cI, 60, .inl (fun _ => 0))), (a4, .inl (cI, 60, .inl (fun _ => 0))), (a5, .inl (cI, 60, .inl (fun _ => 0)))]) H := hP
  have hD : va_D A ([(h0, .inr (0, [.ref a1, .ref a2, .ref a3, .ref a4, .ref a5, .null, .int 0, .int 0])), (a1, .inl (cI, 60, .inl (fun _ => 0))), (a2, .inl (cI, 60, .inl (fun _ => 0))), (a3, .inl (cI, 60, .inl (fun _ => 0))), (a4, .inl (cI, 60, .inl (fun _ => 0))), (a5, .inl (cI, 60, .inl (fun _ => 0)))]) := hD
  refine lv_aload_n hx hb dX0_init_44 rfl (lv_at hl 0 rfl) ?_
  refine lv_bipush (v := 60) hx hb dX0_init_45 (by decide) ?_
  refine va_newa (atype := .int) (ty := .int) (a0 := (60, .inl (fun _ => 0))) (N' := 60) hx hb (hts (.arrayClass .int) (List.mem_of_getElem? (i := 4) rfl)) rfl hK hP hD hS hA (fun cA => rfl) (by decide) (by decide) (Nat.le_of_ble_eq_true rfl) (Nat.le_of_ble_eq_true rfl) (Nat.le_of_ble_eq_true rfl) dX0_init_47 (fun a6 cA H hK hP hD hS => ?_)
  have e9 : cA = cI := va_K_one hK (i := 4) (j := 0) rfl rfl
  rw [e9] at hP hD
  have hK : va_K D vwCl (gT cI cB cZ cO) s := hK.sub [0, 1, 2, 3] rfl
  have hP : va_P D vwCl ([(h0, .inr (0, [.ref a1, .ref a2, .ref a3, .ref a4, .ref a5, .null, .int 0, .int 0])), (a1, .inl (cI, 60, .inl (fun _ => 0))), (a2, .inl (cI, 60, .inl (fun _ => 0))), (a3, .inl (cI, 60, .inl (fun _ => 0))), (a4, .inl (cI, 60, .inl (fun _ => 0))), (a5, .inl (cI, 60, .inl (fun _ => 0))), (a6, .inl (cI, 60, .inl (fun _ => 0)))]) H := hP
  have hD : va_D A ([(h0, .inr (0, [.ref a1, .ref a2, .ref a3, .ref a4, .ref a5, .null, .int 0, .int 0])), (a1, .inl (cI, 60, .inl (fun _ => 0))), (a2, .inl (cI, 60, .inl (fun _ => 0))), (a3, .inl (cI, 60, .inl (fun _ => 0))), (a4, .inl (cI, 60, .inl (fun _ => 0))), (a5, .inl (cI, 60, .inl (fun _ => 0))), (a6, .inl (cI, 60, .inl (fun _ => 0)))]) := hD
  refine va_putF (D := D) (ci := 0) (v := .ref a6) (ty := (.array .int)) (C := RX0) (T := TX0) (N := 8) hx hb hts hiX0 tyX0 tyX0_ok nmX0 hown hK hP hD hS 0 rfl rfl 5 (by decide) (hts (.fieldLink RX0 27 "ResolutionProver$Clauses" "depth" "[I") (List.mem_of_getElem? (i := 10) rfl)) (fun _ h9 => h9) rfl hin rfl (by decide +kernel) rfl rfl (Nat.le_of_ble_eq_true rfl) dX0_init_49 (fun H locs hP hD hS => ?_)
  have hP : va_P D vwCl ([(h0, .inr (0, [.ref a1, .ref a2, .ref a3, .ref a4, .ref a5, .ref a6, .int 0, .int 0])), (a1, .inl (cI, 60, .inl (fun _ => 0))), (a2, .inl (cI, 60, .inl (fun _ => 0))), (a3, .inl (cI, 60, .inl (fun _ => 0))), (a4, .inl (cI, 60, .inl (fun _ => 0))), (a5, .inl (cI, 60, .inl (fun _ => 0))), (a6, .inl (cI, 60, .inl (fun _ => 0)))]) H := hP
  have hD : va_D A ([(h0, .inr (0, [.ref a1, .ref a2, .ref a3, .ref a4, .ref a5, .ref a6, .int 0, .int 0])), (a1, .inl (cI, 60, .inl (fun _ => 0))), (a2, .inl (cI, 60, .inl (fun _ => 0))), (a3, .inl (cI, 60, .inl (fun _ => 0))), (a4, .inl (cI, 60, .inl (fun _ => 0))), (a5, .inl (cI, 60, .inl (fun _ => 0))), (a6, .inl (cI, 60, .inl (fun _ => 0)))]) := hD
  refine lv_aload_n hx hb dX0_init_52 rfl (lv_at hl 0 rfl) ?_
  refine lv_iconst (v := 4) hx hb dX0_init_53 (by decide) ?_
  refine va_put (D := D) (ci := 0) (v := .int 4) (ty := .int) (C := RX0) (T := TX0) (N := 8) hx hb hts hiX0 tyX0 tyX0_ok nmX0 hown hK hP hD hS 0 rfl rfl 6 (by decide) (hts (.fieldLink RX0 30 "ResolutionProver$Clauses" "variables" "I") (List.mem_of_getElem? (i := 11) rfl)) (fun _ h9 => h9) rfl (by decide +kernel) rfl rfl (Nat.le_of_ble_eq_true rfl) dX0_init_54 (fun H locs hP hD hS => ?_)
  have hP : va_P D vwCl ([(h0, .inr (0, [.ref a1, .ref a2, .ref a3, .ref a4, .ref a5, .ref a6, .int 4, .int 0])), (a1, .inl (cI, 60, .inl (fun _ => 0))), (a2, .inl (cI, 60, .inl (fun _ => 0))), (a3, .inl (cI, 60, .inl (fun _ => 0))), (a4, .inl (cI, 60, .inl (fun _ => 0))), (a5, .inl (cI, 60, .inl (fun _ => 0))), (a6, .inl (cI, 60, .inl (fun _ => 0)))]) H := hP
  have hD : va_D A ([(h0, .inr (0, [.ref a1, .ref a2, .ref a3, .ref a4, .ref a5, .ref a6, .int 4, .int 0])), (a1, .inl (cI, 60, .inl (fun _ => 0))), (a2, .inl (cI, 60, .inl (fun _ => 0))), (a3, .inl (cI, 60, .inl (fun _ => 0))), (a4, .inl (cI, 60, .inl (fun _ => 0))), (a5, .inl (cI, 60, .inl (fun _ => 0))), (a6, .inl (cI, 60, .inl (fun _ => 0)))]) := hD
  refine lv_aload_n hx hb dX0_init_57 rfl (lv_at hl 0 rfl) ?_
  refine lv_iconst (v := 0) hx hb dX0_init_58 (by decide) ?_
  refine va_put (D := D) (ci := 0) (v := .int 0) (ty := .int) (C := RX0) (T := TX0) (N := 8) hx hb hts hiX0 tyX0 tyX0_ok nmX0 hown hK hP hD hS 0 rfl rfl 7 (by decide) (hts (.fieldLink RX0 34 "ResolutionProver$Clauses" "count" "I") (List.mem_of_getElem? (i := 12) rfl)) (fun _ h9 => h9) rfl (by decide +kernel) rfl rfl (Nat.le_of_ble_eq_true rfl) dX0_init_59 (fun H locs hP hD hS => ?_)
  have hP : va_P D vwCl ([(h0, .inr (0, [.ref a1, .ref a2, .ref a3, .ref a4, .ref a5, .ref a6, .int 4, .int 0])), (a1, .inl (cI, 60, .inl (fun _ => 0))), (a2, .inl (cI, 60, .inl (fun _ => 0))), (a3, .inl (cI, 60, .inl (fun _ => 0))), (a4, .inl (cI, 60, .inl (fun _ => 0))), (a5, .inl (cI, 60, .inl (fun _ => 0))), (a6, .inl (cI, 60, .inl (fun _ => 0)))]) H := hP
  have hD : va_D A ([(h0, .inr (0, [.ref a1, .ref a2, .ref a3, .ref a4, .ref a5, .ref a6, .int 4, .int 0])), (a1, .inl (cI, 60, .inl (fun _ => 0))), (a2, .inl (cI, 60, .inl (fun _ => 0))), (a3, .inl (cI, 60, .inl (fun _ => 0))), (a4, .inl (cI, 60, .inl (fun _ => 0))), (a5, .inl (cI, 60, .inl (fun _ => 0))), (a6, .inl (cI, 60, .inl (fun _ => 0)))]) := hD
  exact rA_v (q := (fun k => [h0, a1, a2, a3, a4, a5, a6].getD k 0)) hx hb hr hlocks hP hD hS rfl rfl dX0_init_62
def zX30 : OS := (fun k => 0, fun k => fun _ => 0)
set_option maxRecDepth 100000 in
set_option maxHeartbeats 4000000 in
theorem kX3_init (l : Launch) (D : va_G) (cI cB cZ cO : ClassId) (h0 sz : Nat) : Met l yX3_init wsX3_init ({ frames := 1, cells := 1, slots := 35, locals := 12 }) (va_Pc [.ref h0] (Pw D (gT cI cB cZ cO) ([(h0, .inr (2, [.null, .int 0]))]) sz)) (Qn D (va_A ([(h0, .inr (2, [.null, .int 0]))]) sz) (fun (q : Nat → Nat) => wO cB q zX30) (fun q => q 0) h0) 1 35 (va_A ([(h0, .inr (2, [.null, .int 0]))]) sz) := by
  refine metA (own := RX3) rfl (by decide) rfl (Nat.le_of_ble_eq_true rfl) (fun p e s m args below meth c ls A hx hb hr hml hown hlocks hin hts hK hA hP hD hS hl => ?_)
  have hiX3 : ∀ w ∈ wsX30, w ∈ wsX3_init := (memIn_p [7, 8] rfl)
  have hl : lv_has ls 1 [(0, .ref h0)] := hl
  refine lv_aload_n hx hb dX3_init_0 rfl (lv_at hl 0 rfl) ?_
  refine W.objInit hx hb hown (hts (.methodLink RX3 3 objectInit) (List.mem_of_getElem? (i := 1) rfl)) (hts (.instanceMethod objectInit) (List.mem_of_getElem? (i := 2) rfl)) (hts (.code objectInit ⟨#[0xb1]⟩ 1 none) (List.mem_of_getElem? (i := 3) rfl)) rfl (by rw [hml]; exact hl.1) rfl dX3_init_1 (Nat.le_of_ble_eq_true rfl) (Nat.le_of_ble_eq_true rfl) ?_
  refine W.eq (g2 := F0 m 4 ls []) rfl ?_
  refine lv_aload_n hx hb dX3_init_4 rfl (lv_at hl 0 rfl) ?_
  refine lv_bipush (v := 35) hx hb dX3_init_5 (by decide) ?_
  refine va_newa (atype := .byte) (ty := .byte) (a0 := (35, .inl (fun _ => 0))) (N' := 35) hx hb (hts (.arrayClass .byte) (List.mem_of_getElem? (i := 4) rfl)) rfl hK hP hD hS hA (fun cA => rfl) (by decide) (by decide) (Nat.le_of_ble_eq_true rfl) (Nat.le_of_ble_eq_true rfl) (Nat.le_of_ble_eq_true rfl) dX3_init_7 (fun a1 cA H hK hP hD hS => ?_)
  have e9 : cA = cB := va_K_one hK (i := 4) (j := 1) rfl rfl
  rw [e9] at hP hD
  have hK : va_K D vwCl (gT cI cB cZ cO) s := hK.sub [0, 1, 2, 3] rfl
  have hP : va_P D vwCl ([(h0, .inr (2, [.null, .int 0])), (a1, .inl (cB, 35, .inl (fun _ => 0)))]) H := hP
  have hD : va_D A ([(h0, .inr (2, [.null, .int 0])), (a1, .inl (cB, 35, .inl (fun _ => 0)))]) := hD
  refine va_putF (D := D) (ci := 2) (v := .ref a1) (ty := (.array .byte)) (C := RX3) (T := TX3) (N := 2) hx hb hts hiX3 tyX3 tyX3_ok nmX3 hown hK hP hD hS 0 rfl rfl 0 (by decide) (hts (.fieldLink RX3 9 "ResolutionProver$Output" "bytes" "[B") (List.mem_of_getElem? (i := 5) rfl)) (fun _ h9 => h9) rfl hin rfl (by decide +kernel) rfl rfl (Nat.le_of_ble_eq_true rfl) dX3_init_9 (fun H locs hP hD hS => ?_)
  have hP : va_P D vwCl ([(h0, .inr (2, [.ref a1, .int 0])), (a1, .inl (cB, 35, .inl (fun _ => 0)))]) H := hP
  have hD : va_D A ([(h0, .inr (2, [.ref a1, .int 0])), (a1, .inl (cB, 35, .inl (fun _ => 0)))]) := hD
  refine lv_aload_n hx hb dX3_init_12 rfl (lv_at hl 0 rfl) ?_
  refine lv_iconst (v := 0) hx hb dX3_init_13 (by decide) ?_
  refine va_put (D := D) (ci := 2) (v := .int 0) (ty := .int) (C := RX3) (T := TX3) (N := 2) hx hb hts hiX3 tyX3 tyX3_ok nmX3 hown hK hP hD hS 0 rfl rfl 1 (by decide) (hts (.fieldLink RX3 15 "ResolutionProver$Output" "length" "I") (List.mem_of_getElem? (i := 6) rfl)) (fun _ h9 => h9) rfl (by decide +kernel) rfl rfl (Nat.le_of_ble_eq_true rfl) dX3_init_14 (fun H locs hP hD hS => ?_)
  have hP : va_P D vwCl ([(h0, .inr (2, [.ref a1, .int 0])), (a1, .inl (cB, 35, .inl (fun _ => 0)))]) H := hP
  have hD : va_D A ([(h0, .inr (2, [.ref a1, .int 0])), (a1, .inl (cB, 35, .inl (fun _ => 0)))]) := hD
  exact rA_v (q := (fun k => [h0, a1].getD k 0)) hx hb hr hlocks hP hD hS rfl rfl dX3_init_17
def zX40 : OS := (fun k => 0, fun k => fun _ => 0)
set_option maxRecDepth 100000 in
set_option maxHeartbeats 4000000 in
theorem kX4_init (l : Launch) (D : va_G) (cI cB cZ cO : ClassId) (h0 sz : Nat) : Met l yX4_init wsX4_init ({ frames := 1, cells := 0, slots := 0, locals := 12 }) (va_Pc [.ref h0] (Pw D (gT cI cB cZ cO) ([(h0, .inr (3, [.int 0, .int 0]))]) sz)) (Qn D (va_A ([(h0, .inr (3, [.int 0, .int 0]))]) sz) (fun (q : Nat → Nat) => wP q zX40) (fun q => q 0) h0) 0 0 (va_A ([(h0, .inr (3, [.int 0, .int 0]))]) sz) := by
  refine metA (own := RX4) rfl (by decide) rfl (Nat.le_of_ble_eq_true rfl) (fun p e s m args below meth c ls A hx hb hr hml hown hlocks hin hts hK hA hP hD hS hl => ?_)
  have hiX4 : ∀ w ∈ wsX40, w ∈ wsX4_init := (memIn_p [6, 7] rfl)
  have hl : lv_has ls 1 [(0, .ref h0)] := hl
  refine lv_aload_n hx hb dX4_init_0 rfl (lv_at hl 0 rfl) ?_
  refine W.objInit hx hb hown (hts (.methodLink RX4 3 objectInit) (List.mem_of_getElem? (i := 1) rfl)) (hts (.instanceMethod objectInit) (List.mem_of_getElem? (i := 2) rfl)) (hts (.code objectInit ⟨#[0xb1]⟩ 1 none) (List.mem_of_getElem? (i := 3) rfl)) rfl (by rw [hml]; exact hl.1) rfl dX4_init_1 (Nat.le_of_ble_eq_true rfl) (Nat.le_of_ble_eq_true rfl) ?_
  refine W.eq (g2 := F0 m 4 ls []) rfl ?_
  refine lv_aload_n hx hb dX4_init_4 rfl (lv_at hl 0 rfl) ?_
  refine lv_iconst (v := 0) hx hb dX4_init_5 (by decide) ?_
  refine va_put (D := D) (ci := 3) (v := .int 0) (ty := .int) (C := RX4) (T := TX4) (N := 2) hx hb hts hiX4 tyX4 tyX4_ok nmX4 hown hK hP hD hS 0 rfl rfl 0 (by decide) (hts (.fieldLink RX4 9 "ResolutionProver$Propagation" "trueMask" "I") (List.mem_of_getElem? (i := 4) rfl)) (fun _ h9 => h9) rfl (by decide +kernel) rfl rfl (Nat.le_of_ble_eq_true rfl) dX4_init_6 (fun H locs hP hD hS => ?_)
  have hP : va_P D vwCl ([(h0, .inr (3, [.int 0, .int 0]))]) H := hP
  have hD : va_D A ([(h0, .inr (3, [.int 0, .int 0]))]) := hD
  refine lv_aload_n hx hb dX4_init_9 rfl (lv_at hl 0 rfl) ?_
  refine lv_iconst (v := 0) hx hb dX4_init_10 (by decide) ?_
  refine va_put (D := D) (ci := 3) (v := .int 0) (ty := .int) (C := RX4) (T := TX4) (N := 2) hx hb hts hiX4 tyX4 tyX4_ok nmX4 hown hK hP hD hS 0 rfl rfl 1 (by decide) (hts (.fieldLink RX4 15 "ResolutionProver$Propagation" "falseMask" "I") (List.mem_of_getElem? (i := 5) rfl)) (fun _ h9 => h9) rfl (by decide +kernel) rfl rfl (Nat.le_of_ble_eq_true rfl) dX4_init_11 (fun H locs hP hD hS => ?_)
  have hP : va_P D vwCl ([(h0, .inr (3, [.int 0, .int 0]))]) H := hP
  have hD : va_D A ([(h0, .inr (3, [.int 0, .int 0]))]) := hD
  exact rA_v (q := (fun k => [h0].getD k 0)) hx hb hr hlocks hP hD hS rfl rfl dX4_init_14
def zX50 : OS := (fun k => if k = 1 then 1 else 0, fun k => fun _ => 0)
set_option maxRecDepth 100000 in
set_option maxHeartbeats 4000000 in
theorem kX5_init (l : Launch) (D : va_G) (cI cB cZ cO : ClassId) (h0 sz : Nat) : Met l yX5_init wsX5_init ({ frames := 1, cells := 0, slots := 0, locals := 12 }) (va_Pc [.ref h0] (Pw D (gT cI cB cZ cO) ([(h0, .inr (4, [.int 0, .int 0]))]) sz)) (Qn D (va_A ([(h0, .inr (4, [.int 0, .int 0]))]) sz) (fun (q : Nat → Nat) => wA q zX50) (fun q => q 0) h0) 0 0 (va_A ([(h0, .inr (4, [.int 0, .int 0]))]) sz) := by
  refine metA (own := RX5) rfl (by decide) rfl (Nat.le_of_ble_eq_true rfl) (fun p e s m args below meth c ls A hx hb hr hml hown hlocks hin hts hK hA hP hD hS hl => ?_)
  have hiX5 : ∀ w ∈ wsX50, w ∈ wsX5_init := (memIn_p [6, 7] rfl)
  have hl : lv_has ls 1 [(0, .ref h0)] := hl
  refine lv_aload_n hx hb dX5_init_0 rfl (lv_at hl 0 rfl) ?_
  refine W.objInit hx hb hown (hts (.methodLink RX5 3 objectInit) (List.mem_of_getElem? (i := 1) rfl)) (hts (.instanceMethod objectInit) (List.mem_of_getElem? (i := 2) rfl)) (hts (.code objectInit ⟨#[0xb1]⟩ 1 none) (List.mem_of_getElem? (i := 3) rfl)) rfl (by rw [hml]; exact hl.1) rfl dX5_init_1 (Nat.le_of_ble_eq_true rfl) (Nat.le_of_ble_eq_true rfl) ?_
  refine W.eq (g2 := F0 m 4 ls []) rfl ?_
  refine lv_aload_n hx hb dX5_init_4 rfl (lv_at hl 0 rfl) ?_
  refine lv_iconst (v := 0) hx hb dX5_init_5 (by decide) ?_
  refine va_put (D := D) (ci := 4) (v := .int 0) (ty := .int) (C := RX5) (T := TX5) (N := 2) hx hb hts hiX5 tyX5 tyX5_ok nmX5 hown hK hP hD hS 0 rfl rfl 0 (by decide) (hts (.fieldLink RX5 9 "ResolutionProver$Saturation" "first" "I") (List.mem_of_getElem? (i := 4) rfl)) (fun _ h9 => h9) rfl (by decide +kernel) rfl rfl (Nat.le_of_ble_eq_true rfl) dX5_init_6 (fun H locs hP hD hS => ?_)
  have hP : va_P D vwCl ([(h0, .inr (4, [.int 0, .int 0]))]) H := hP
  have hD : va_D A ([(h0, .inr (4, [.int 0, .int 0]))]) := hD
  refine lv_aload_n hx hb dX5_init_9 rfl (lv_at hl 0 rfl) ?_
  refine lv_iconst (v := 1) hx hb dX5_init_10 (by decide) ?_
  refine va_put (D := D) (ci := 4) (v := .int 1) (ty := .int) (C := RX5) (T := TX5) (N := 2) hx hb hts hiX5 tyX5 tyX5_ok nmX5 hown hK hP hD hS 0 rfl rfl 1 (by decide) (hts (.fieldLink RX5 15 "ResolutionProver$Saturation" "second" "I") (List.mem_of_getElem? (i := 5) rfl)) (fun _ h9 => h9) rfl (by decide +kernel) rfl rfl (Nat.le_of_ble_eq_true rfl) dX5_init_11 (fun H locs hP hD hS => ?_)
  have hP : va_P D vwCl ([(h0, .inr (4, [.int 0, .int 1]))]) H := hP
  have hD : va_D A ([(h0, .inr (4, [.int 0, .int 1]))]) := hD
  exact rA_v (q := (fun k => [h0].getD k 0)) hx hb hr hlocks hP hD hS rfl rfl dX5_init_14
def zX70 : OS := (fun k => 0, fun k => fun _ => 0)
set_option maxRecDepth 100000 in
set_option maxHeartbeats 4000000 in
theorem kX7_init (l : Launch) (D : va_G) (cI cB cZ cO : ClassId) (h0 sz : Nat) : Met l yX7_init wsX7_init ({ frames := 1, cells := 1, slots := 500, locals := 12 }) (va_Pc [.ref h0] (Pw D (gT cI cB cZ cO) ([(h0, .inr (6, [.null, .int 0, .int 0, .int 0, .int 0]))]) sz)) (Qn D (va_A ([(h0, .inr (6, [.null, .int 0, .int 0, .int 0, .int 0]))]) sz) (fun (q : Nat → Nat) => wT cB q zX70) (fun q => q 0) h0) 1 500 (va_A ([(h0, .inr (6, [.null, .int 0, .int 0, .int 0, .int 0]))]) sz) := by
  refine metA (own := RX7) rfl (by decide) rfl (Nat.le_of_ble_eq_true rfl) (fun p e s m args below meth c ls A hx hb hr hml hown hlocks hin hts hK hA hP hD hS hl => ?_)
  have hiX7 : ∀ w ∈ wsX70, w ∈ wsX7_init := (memIn_p [10, 11, 12, 13, 14] rfl)
  have hl : lv_has ls 1 [(0, .ref h0)] := hl
  refine lv_aload_n hx hb dX7_init_0 rfl (lv_at hl 0 rfl) ?_
  refine W.objInit hx hb hown (hts (.methodLink RX7 3 objectInit) (List.mem_of_getElem? (i := 1) rfl)) (hts (.instanceMethod objectInit) (List.mem_of_getElem? (i := 2) rfl)) (hts (.code objectInit ⟨#[0xb1]⟩ 1 none) (List.mem_of_getElem? (i := 3) rfl)) rfl (by rw [hml]; exact hl.1) rfl dX7_init_1 (Nat.le_of_ble_eq_true rfl) (Nat.le_of_ble_eq_true rfl) ?_
  refine W.eq (g2 := F0 m 4 ls []) rfl ?_
  refine lv_aload_n hx hb dX7_init_4 rfl (lv_at hl 0 rfl) ?_
  refine lv_sipush (v := 500) hx hb dX7_init_5 (by decide) ?_
  refine va_newa (atype := .byte) (ty := .byte) (a0 := (500, .inl (fun _ => 0))) (N' := 500) hx hb (hts (.arrayClass .byte) (List.mem_of_getElem? (i := 4) rfl)) rfl hK hP hD hS hA (fun cA => rfl) (by decide) (by decide) (Nat.le_of_ble_eq_true rfl) (Nat.le_of_ble_eq_true rfl) (Nat.le_of_ble_eq_true rfl) dX7_init_8 (fun a1 cA H hK hP hD hS => ?_)
  have e9 : cA = cB := va_K_one hK (i := 4) (j := 1) rfl rfl
  rw [e9] at hP hD
  have hK : va_K D vwCl (gT cI cB cZ cO) s := hK.sub [0, 1, 2, 3] rfl
  have hP : va_P D vwCl ([(h0, .inr (6, [.null, .int 0, .int 0, .int 0, .int 0])), (a1, .inl (cB, 500, .inl (fun _ => 0)))]) H := hP
  have hD : va_D A ([(h0, .inr (6, [.null, .int 0, .int 0, .int 0, .int 0])), (a1, .inl (cB, 500, .inl (fun _ => 0)))]) := hD
  refine va_putF (D := D) (ci := 6) (v := .ref a1) (ty := (.array .byte)) (C := RX7) (T := TX7) (N := 5) hx hb hts hiX7 tyX7 tyX7_ok nmX7 hown hK hP hD hS 0 rfl rfl 0 (by decide) (hts (.fieldLink RX7 9 "ResolutionProver$Tokens" "bytes" "[B") (List.mem_of_getElem? (i := 5) rfl)) (fun _ h9 => h9) rfl hin rfl (by decide +kernel) rfl rfl (Nat.le_of_ble_eq_true rfl) dX7_init_10 (fun H locs hP hD hS => ?_)
  have hP : va_P D vwCl ([(h0, .inr (6, [.ref a1, .int 0, .int 0, .int 0, .int 0])), (a1, .inl (cB, 500, .inl (fun _ => 0)))]) H := hP
  have hD : va_D A ([(h0, .inr (6, [.ref a1, .int 0, .int 0, .int 0, .int 0])), (a1, .inl (cB, 500, .inl (fun _ => 0)))]) := hD
  refine lv_aload_n hx hb dX7_init_13 rfl (lv_at hl 0 rfl) ?_
  refine lv_iconst (v := 0) hx hb dX7_init_14 (by decide) ?_
  refine va_put (D := D) (ci := 6) (v := .int 0) (ty := .int) (C := RX7) (T := TX7) (N := 5) hx hb hts hiX7 tyX7 tyX7_ok nmX7 hown hK hP hD hS 0 rfl rfl 1 (by decide) (hts (.fieldLink RX7 15 "ResolutionProver$Tokens" "length" "I") (List.mem_of_getElem? (i := 6) rfl)) (fun _ h9 => h9) rfl (by decide +kernel) rfl rfl (Nat.le_of_ble_eq_true rfl) dX7_init_15 (fun H locs hP hD hS => ?_)
  have hP : va_P D vwCl ([(h0, .inr (6, [.ref a1, .int 0, .int 0, .int 0, .int 0])), (a1, .inl (cB, 500, .inl (fun _ => 0)))]) H := hP
  have hD : va_D A ([(h0, .inr (6, [.ref a1, .int 0, .int 0, .int 0, .int 0])), (a1, .inl (cB, 500, .inl (fun _ => 0)))]) := hD
  refine lv_aload_n hx hb dX7_init_18 rfl (lv_at hl 0 rfl) ?_
  refine lv_iconst (v := 0) hx hb dX7_init_19 (by decide) ?_
  refine va_put (D := D) (ci := 6) (v := .int 0) (ty := .int) (C := RX7) (T := TX7) (N := 5) hx hb hts hiX7 tyX7 tyX7_ok nmX7 hown hK hP hD hS 0 rfl rfl 2 (by decide) (hts (.fieldLink RX7 19 "ResolutionProver$Tokens" "kind" "I") (List.mem_of_getElem? (i := 7) rfl)) (fun _ h9 => h9) rfl (by decide +kernel) rfl rfl (Nat.le_of_ble_eq_true rfl) dX7_init_20 (fun H locs hP hD hS => ?_)
  have hP : va_P D vwCl ([(h0, .inr (6, [.ref a1, .int 0, .int 0, .int 0, .int 0])), (a1, .inl (cB, 500, .inl (fun _ => 0)))]) H := hP
  have hD : va_D A ([(h0, .inr (6, [.ref a1, .int 0, .int 0, .int 0, .int 0])), (a1, .inl (cB, 500, .inl (fun _ => 0)))]) := hD
  refine lv_aload_n hx hb dX7_init_23 rfl (lv_at hl 0 rfl) ?_
  refine lv_iconst (v := 0) hx hb dX7_init_24 (by decide) ?_
  refine va_put (D := D) (ci := 6) (v := .int 0) (ty := .int) (C := RX7) (T := TX7) (N := 5) hx hb hts hiX7 tyX7 tyX7_ok nmX7 hown hK hP hD hS 0 rfl rfl 3 (by decide) (hts (.fieldLink RX7 22 "ResolutionProver$Tokens" "start" "I") (List.mem_of_getElem? (i := 8) rfl)) (fun _ h9 => h9) rfl (by decide +kernel) rfl rfl (Nat.le_of_ble_eq_true rfl) dX7_init_25 (fun H locs hP hD hS => ?_)
  have hP : va_P D vwCl ([(h0, .inr (6, [.ref a1, .int 0, .int 0, .int 0, .int 0])), (a1, .inl (cB, 500, .inl (fun _ => 0)))]) H := hP
  have hD : va_D A ([(h0, .inr (6, [.ref a1, .int 0, .int 0, .int 0, .int 0])), (a1, .inl (cB, 500, .inl (fun _ => 0)))]) := hD
  refine lv_aload_n hx hb dX7_init_28 rfl (lv_at hl 0 rfl) ?_
  refine lv_iconst (v := 0) hx hb dX7_init_29 (by decide) ?_
  refine va_put (D := D) (ci := 6) (v := .int 0) (ty := .int) (C := RX7) (T := TX7) (N := 5) hx hb hts hiX7 tyX7 tyX7_ok nmX7 hown hK hP hD hS 0 rfl rfl 4 (by decide) (hts (.fieldLink RX7 25 "ResolutionProver$Tokens" "end" "I") (List.mem_of_getElem? (i := 9) rfl)) (fun _ h9 => h9) rfl (by decide +kernel) rfl rfl (Nat.le_of_ble_eq_true rfl) dX7_init_30 (fun H locs hP hD hS => ?_)
  have hP : va_P D vwCl ([(h0, .inr (6, [.ref a1, .int 0, .int 0, .int 0, .int 0])), (a1, .inl (cB, 500, .inl (fun _ => 0)))]) H := hP
  have hD : va_D A ([(h0, .inr (6, [.ref a1, .int 0, .int 0, .int 0, .int 0])), (a1, .inl (cB, 500, .inl (fun _ => 0)))]) := hD
  exact rA_v (q := (fun k => [h0, a1].getD k 0)) hx hb hr hlocks hP hD hS rfl rfl dX7_init_33
