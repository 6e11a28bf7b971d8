def fX0_begin (fu : Nat) (z : OS) (p1 : Int32) : Option ((OS)) :=
  nm (sI z 6 p1) (fun (z_1 : OS) => nm (sI z_1 7 (0 : Int32)) (fun (z_2 : OS) => some z_2))
set_option maxRecDepth 100000 in
set_option maxHeartbeats 4000000 in
theorem mX0_begin (l : Launch) (D : va_G) (cI cB cZ cO : ClassId) (q : Nat → Nat) (sz : Nat) (fu : Nat) (z : OS) (p1 : Int32) {y1 : OS} (hf : fX0_begin fu z p1 = some y1) : Met l yX0_begin wsX0_begin ({ frames := 0, cells := 0, slots := 0, locals := 0 }) (va_Pc [.ref (q 0), .int p1] (Pw D (gT cI cB cZ cO) (wC cI q z) sz)) (Qw D (va_A (wC cI q z) sz) none (wC cI q y1)) 0 0 (va_A (wC cI q z) sz) := by
  unfold fX0_begin at hf
  refine metW (ret := none) (own := RX0) rfl (by decide) rfl (Nat.le_of_ble_eq_true rfl) (fun p e s m args below meth c ls A hx hb hr hml hown hlocks hts hK hA hP hD hS hl => ?_)
  have k30 := (hts (.fieldLink RX0 30 "ResolutionProver$Clauses" "variables" "I") (List.mem_of_getElem? (i := 1) rfl))
  have k34 := (hts (.fieldLink RX0 34 "ResolutionProver$Clauses" "count" "I") (List.mem_of_getElem? (i := 2) rfl))
  have hiX0 : ∀ w ∈ wsX00, w ∈ wsX0_begin := (memIn_p [3, 4, 5, 6, 7, 8, 9, 10] rfl)
  have hl : lv_has ls 2 [(0, .ref (q 0)), (1, .int p1)] := hl
  refine lv_aload_n hx hb dX0_begin_0 rfl (lv_at hl 0 rfl) ?_
  refine lv_iload_n hx hb dX0_begin_1 rfl (lv_at hl 1 rfl) ?_
  refine va_put (D := D) (ci := 0) (v := .int p1) (ty := .int) (C := RX0) (T := TX0) (N := 8) hx hb hts hiX0 tyX0 tyX0_ok nmX0 hown hK hP hD hS 0 rfl rfl 6 (by decide) k30 (fun _ h9 => h9) rfl (by decide +kernel) rfl rfl (Nat.le_of_ble_eq_true rfl) dX0_begin_2 (fun H locs hP hD hS => ?_)
  obtain ⟨z_1, ez_1, hf⟩ := nm_ob hf
  have hP : va_P D vwCl (wC cI q z_1) H := by rw [ez_1]; exact hP
  have hD : va_D A (wC cI q z_1) := by rw [ez_1]; exact hD
  refine lv_aload_n hx hb dX0_begin_5 rfl (lv_at hl 0 rfl) ?_
  refine lv_iconst (v := 0) hx hb dX0_begin_6 (by decide) ?_
  refine va_put (D := D) (ci := 0) (v := .int (0 : Int32)) (ty := .int) (C := RX0) (T := TX0) (N := 8) hx hb hts hiX0 tyX0 tyX0_ok nmX0 hown hK hP hD hS 0 rfl rfl 7 (by decide) k34 (fun _ h9 => h9) rfl (by decide +kernel) rfl rfl (Nat.le_of_ble_eq_true rfl) dX0_begin_7 (fun H locs hP hD hS => ?_)
  obtain ⟨z_2, ez_2, hf⟩ := nm_ob hf
  have hP : va_P D vwCl (wC cI q z_2) H := by rw [ez_2]; exact hP
  have hD : va_D A (wC cI q z_2) := by rw [ez_2]; exact hD
  exact rW_v hx hb hr hlocks hP hD hS (congrArg (fun (q9 : (OS)) => wC cI q q9) (so_ob hf)) dX0_begin_10
def fX0_copyFrom (fu : Nat) (z : OS) (z2 : OS) : Option ((OS)) :=
  nm (sI z 6 (z2.1 6)) (fun (z_1 : OS) => nm (sI z_1 7 (z2.1 7)) (fun (z_2 : OS) => gd (acB (0 : Int32) (0 : Int32) (z_2.1 7) 60 60) (nm (sA z_2 0 (va_cpy (z2.2 0) (z_2.2 0) ((0 : Int32)).toNatClampNeg ((0 : Int32)).toNatClampNeg ((z_2.1 7)).toNatClampNeg)) (fun (z_3 : OS) => gd (acB (0 : Int32) (0 : Int32) (z_3.1 7) 60 60) (nm (sA z_3 1 (va_cpy (z2.2 1) (z_3.2 1) ((0 : Int32)).toNatClampNeg ((0 : Int32)).toNatClampNeg ((z_3.1 7)).toNatClampNeg)) (fun (z_4 : OS) => gd (acB (0 : Int32) (0 : Int32) (z_4.1 7) 60 60) (nm (sA z_4 2 (va_cpy (z2.2 2) (z_4.2 2) ((0 : Int32)).toNatClampNeg ((0 : Int32)).toNatClampNeg ((z_4.1 7)).toNatClampNeg)) (fun (z_5 : OS) => gd (acB (0 : Int32) (0 : Int32) (z_5.1 7) 60 60) (nm (sA z_5 3 (va_cpy (z2.2 3) (z_5.2 3) ((0 : Int32)).toNatClampNeg ((0 : Int32)).toNatClampNeg ((z_5.1 7)).toNatClampNeg)) (fun (z_6 : OS) => gd (acB (0 : Int32) (0 : Int32) (z_6.1 7) 60 60) (nm (sA z_6 4 (va_cpy (z2.2 4) (z_6.2 4) ((0 : Int32)).toNatClampNeg ((0 : Int32)).toNatClampNeg ((z_6.1 7)).toNatClampNeg)) (fun (z_7 : OS) => gd (acB (0 : Int32) (0 : Int32) (z_7.1 7) 60 60) (nm (sA z_7 5 (va_cpy (z2.2 5) (z_7.2 5) ((0 : Int32)).toNatClampNeg ((0 : Int32)).toNatClampNeg ((z_7.1 7)).toNatClampNeg)) (fun (z_8 : OS) => some z_8))))))))))))))
set_option maxRecDepth 100000 in
set_option maxHeartbeats 4000000 in
theorem mX0_copyFrom (l : Launch) (D : va_G) (cI cB cZ cO : ClassId) (q : Nat → Nat) (q2 : Nat → Nat) (sz : Nat) (fu : Nat) (z : OS) (z2 : OS) {y1 : OS} (hf : fX0_copyFrom fu z z2 = some y1) : Met l yX0_copyFrom wsX0_copyFrom ({ frames := 1, cells := 0, slots := 0, locals := 40 }) (va_Pc [.ref (q 0), .ref (q2 0)] (Pw D (gT cI cB cZ cO) (wC cI q z ++ wC cI q2 z2) sz)) (Qw D (va_A (wC cI q z ++ wC cI q2 z2) sz) none (wC cI q y1 ++ wC cI q2 z2)) 0 0 (va_A (wC cI q z ++ wC cI q2 z2) sz) := by
  unfold fX0_copyFrom at hf
  refine metW (ret := none) (own := RX0) rfl (by decide) rfl (Nat.le_of_ble_eq_true rfl) (fun p e s m args below meth c ls A hx hb hr hml hown hlocks hts hK hA hP hD hS hl => ?_)
  have k30 := (hts (.fieldLink RX0 30 "ResolutionProver$Clauses" "variables" "I") (List.mem_of_getElem? (i := 1) rfl))
  have k34 := (hts (.fieldLink RX0 34 "ResolutionProver$Clauses" "count" "I") (List.mem_of_getElem? (i := 2) rfl))
  have k9 := (hts (.fieldLink RX0 9 "ResolutionProver$Clauses" "positive" "[I") (List.mem_of_getElem? (i := 3) rfl))
  have k15 := (hts (.fieldLink RX0 15 "ResolutionProver$Clauses" "negative" "[I") (List.mem_of_getElem? (i := 8) rfl))
  have k18 := (hts (.fieldLink RX0 18 "ResolutionProver$Clauses" "parentWith" "[I") (List.mem_of_getElem? (i := 9) rfl))
  have k21 := (hts (.fieldLink RX0 21 "ResolutionProver$Clauses" "parentWithout" "[I") (List.mem_of_getElem? (i := 10) rfl))
  have k24 := (hts (.fieldLink RX0 24 "ResolutionProver$Clauses" "pivot" "[I") (List.mem_of_getElem? (i := 11) rfl))
  have k27 := (hts (.fieldLink RX0 27 "ResolutionProver$Clauses" "depth" "[I") (List.mem_of_getElem? (i := 12) rfl))
  have hiX0 : ∀ w ∈ wsX00, w ∈ wsX0_copyFrom := (memIn_p [13, 14, 15, 16, 17, 18, 19, 20] rfl)
  have hl : lv_has ls 2 [(0, .ref (q 0)), (1, .ref (q2 0))] := hl
  refine lv_aload_n hx hb dX0_copyFrom_0 rfl (lv_at hl 0 rfl) ?_
  refine lv_aload_n hx hb dX0_copyFrom_1 rfl (lv_at hl 1 rfl) ?_
  refine va_get (D := D) (ci := 0) (v := .int (z2.1 6)) (C := RX0) (T := TX0) (N := 8) hx hb hts hiX0 hown hK hP 7 rfl rfl 6 (by decide) k30 (fun _ h9 => h9) rfl dX0_copyFrom_2 ?_
  refine va_put (D := D) (ci := 0) (v := .int (z2.1 6)) (ty := .int) (C := RX0) (T := TX0) (N := 8) hx hb hts hiX0 tyX0 tyX0_ok nmX0 hown hK hP hD hS 0 rfl rfl 6 (by decide) k30 (fun _ h9 => h9) rfl (by decide +kernel) rfl rfl (Nat.le_of_ble_eq_true rfl) dX0_copyFrom_5 (fun H locs hP hD hS => ?_)
  obtain ⟨z_1, ez_1, hf⟩ := nm_ob hf
  have hP : va_P D vwCl (wC cI q z_1 ++ wC cI q2 z2) H := by rw [ez_1]; exact hP
  have hD : va_D A (wC cI q z_1 ++ wC cI q2 z2) := by rw [ez_1]; exact hD
  refine lv_aload_n hx hb dX0_copyFrom_8 rfl (lv_at hl 0 rfl) ?_
  refine lv_aload_n hx hb dX0_copyFrom_9 rfl (lv_at hl 1 rfl) ?_
  refine va_get (D := D) (ci := 0) (v := .int (z2.1 7)) (C := RX0) (T := TX0) (N := 8) hx hb hts hiX0 hown hK hP 7 rfl rfl 7 (by decide) k34 (fun _ h9 => h9) rfl dX0_copyFrom_10 ?_
  refine va_put (D := D) (ci := 0) (v := .int (z2.1 7)) (ty := .int) (C := RX0) (T := TX0) (N := 8) hx hb hts hiX0 tyX0 tyX0_ok nmX0 hown hK hP hD hS 0 rfl rfl 7 (by decide) k34 (fun _ h9 => h9) rfl (by decide +kernel) rfl rfl (Nat.le_of_ble_eq_true rfl) dX0_copyFrom_13 (fun H locs hP hD hS => ?_)
  obtain ⟨z_2, ez_2, hf⟩ := nm_ob hf
  have hP : va_P D vwCl (wC cI q z_2 ++ wC cI q2 z2) H := by rw [ez_2]; exact hP
  have hD : va_D A (wC cI q z_2 ++ wC cI q2 z2) := by rw [ez_2]; exact hD
  refine lv_aload_n hx hb dX0_copyFrom_16 rfl (lv_at hl 1 rfl) ?_
  refine va_get (D := D) (ci := 0) (v := .ref (q2 1)) (C := RX0) (T := TX0) (N := 8) hx hb hts hiX0 hown hK hP 7 rfl rfl 0 (by decide) k9 (fun _ h9 => h9) rfl dX0_copyFrom_17 ?_
  refine lv_iconst (v := 0) hx hb dX0_copyFrom_20 (by decide) ?_
  refine lv_aload_n hx hb dX0_copyFrom_21 rfl (lv_at hl 0 rfl) ?_
  refine va_get (D := D) (ci := 0) (v := .ref (q 1)) (C := RX0) (T := TX0) (N := 8) hx hb hts hiX0 hown hK hP 0 rfl rfl 0 (by decide) k9 (fun _ h9 => h9) rfl dX0_copyFrom_22 ?_
  refine lv_iconst (v := 0) hx hb dX0_copyFrom_25 (by decide) ?_
  refine lv_aload_n hx hb dX0_copyFrom_26 rfl (lv_at hl 0 rfl) ?_
  refine va_get (D := D) (ci := 0) (v := .int (z_2.1 7)) (C := RX0) (T := TX0) (N := 8) hx hb hts hiX0 hown hK hP 0 rfl rfl 7 (by decide) k34 (fun _ h9 => h9) rfl dX0_copyFrom_27 ?_
  obtain ⟨ha_, hf⟩ := gd_ob hf
  obtain ⟨ha1, ha2, ha3, ha4, ha5⟩ := acB_ob ha_
  refine va_copyi hx hb (by rw [hml]; exact hl.1.symm) hown (hts (.methodLink RX0 37 arraycopyName) (List.mem_of_getElem? (i := 4) rfl)) (hts (.native arraycopyName) (List.mem_of_getElem? (i := 5) rfl)) (hts (.static arraycopyName) (List.mem_of_getElem? (i := 6) rfl)) (hts (.initialized "java/lang/System") (List.mem_of_getElem? (i := 7) rfl)) hK hP hD hS 8 1 0 0 rfl rfl rfl rfl rfl ha1 ha2 ha3 ha4 ha5 (fun _ _ => rfl) (Nat.le_of_ble_eq_true rfl) (by decide) dX0_copyFrom_30 (fun H locs hP hD hS => ?_)
  obtain ⟨z_3, ez_3, hf⟩ := nm_ob hf
  have hP : va_P D vwCl (wC cI q z_3 ++ wC cI q2 z2) H := by rw [ez_3]; exact hP
  have hD : va_D A (wC cI q z_3 ++ wC cI q2 z2) := by rw [ez_3]; exact hD
  refine lv_aload_n hx hb dX0_copyFrom_33 rfl (lv_at hl 1 rfl) ?_
  refine va_get (D := D) (ci := 0) (v := .ref (q2 2)) (C := RX0) (T := TX0) (N := 8) hx hb hts hiX0 hown hK hP 7 rfl rfl 1 (by decide) k15 (fun _ h9 => h9) rfl dX0_copyFrom_34 ?_
  refine lv_iconst (v := 0) hx hb dX0_copyFrom_37 (by decide) ?_
  refine lv_aload_n hx hb dX0_copyFrom_38 rfl (lv_at hl 0 rfl) ?_
  refine va_get (D := D) (ci := 0) (v := .ref (q 2)) (C := RX0) (T := TX0) (N := 8) hx hb hts hiX0 hown hK hP 0 rfl rfl 1 (by decide) k15 (fun _ h9 => h9) rfl dX0_copyFrom_39 ?_
  refine lv_iconst (v := 0) hx hb dX0_copyFrom_42 (by decide) ?_
  refine lv_aload_n hx hb dX0_copyFrom_43 rfl (lv_at hl 0 rfl) ?_
  refine va_get (D := D) (ci := 0) (v := .int (z_3.1 7)) (C := RX0) (T := TX0) (N := 8) hx hb hts hiX0 hown hK hP 0 rfl rfl 7 (by decide) k34 (fun _ h9 => h9) rfl dX0_copyFrom_44 ?_
  obtain ⟨ha_, hf⟩ := gd_ob hf
  obtain ⟨ha1, ha2, ha3, ha4, ha5⟩ := acB_ob ha_
  refine va_copyi hx hb (by rw [hml]; exact hl.1.symm) hown (hts (.methodLink RX0 37 arraycopyName) (List.mem_of_getElem? (i := 4) rfl)) (hts (.native arraycopyName) (List.mem_of_getElem? (i := 5) rfl)) (hts (.static arraycopyName) (List.mem_of_getElem? (i := 6) rfl)) (hts (.initialized "java/lang/System") (List.mem_of_getElem? (i := 7) rfl)) hK hP hD hS 9 2 0 0 rfl rfl rfl rfl rfl ha1 ha2 ha3 ha4 ha5 (fun _ _ => rfl) (Nat.le_of_ble_eq_true rfl) (by decide) dX0_copyFrom_47 (fun H locs hP hD hS => ?_)
  obtain ⟨z_4, ez_4, hf⟩ := nm_ob hf
  have hP : va_P D vwCl (wC cI q z_4 ++ wC cI q2 z2) H := by rw [ez_4]; exact hP
  have hD : va_D A (wC cI q z_4 ++ wC cI q2 z2) := by rw [ez_4]; exact hD
  refine lv_aload_n hx hb dX0_copyFrom_50 rfl (lv_at hl 1 rfl) ?_
  refine va_get (D := D) (ci := 0) (v := .ref (q2 3)) (C := RX0) (T := TX0) (N := 8) hx hb hts hiX0 hown hK hP 7 rfl rfl 2 (by decide) k18 (fun _ h9 => h9) rfl dX0_copyFrom_51 ?_
  refine lv_iconst (v := 0) hx hb dX0_copyFrom_54 (by decide) ?_
  refine lv_aload_n hx hb dX0_copyFrom_55 rfl (lv_at hl 0 rfl) ?_
  refine va_get (D := D) (ci := 0) (v := .ref (q 3)) (C := RX0) (T := TX0) (N := 8) hx hb hts hiX0 hown hK hP 0 rfl rfl 2 (by decide) k18 (fun _ h9 => h9) rfl dX0_copyFrom_56 ?_
  refine lv_iconst (v := 0) hx hb dX0_copyFrom_59 (by decide) ?_
  refine lv_aload_n hx hb dX0_copyFrom_60 rfl (lv_at hl 0 rfl) ?_
  refine va_get (D := D) (ci := 0) (v := .int (z_4.1 7)) (C := RX0) (T := TX0) (N := 8) hx hb hts hiX0 hown hK hP 0 rfl rfl 7 (by decide) k34 (fun _ h9 => h9) rfl dX0_copyFrom_61 ?_
  obtain ⟨ha_, hf⟩ := gd_ob hf
  obtain ⟨ha1, ha2, ha3, ha4, ha5⟩ := acB_ob ha_
  refine va_copyi hx hb (by rw [hml]; exact hl.1.symm) hown (hts (.methodLink RX0 37 arraycopyName) (List.mem_of_getElem? (i := 4) rfl)) (hts (.native arraycopyName) (List.mem_of_getElem? (i := 5) rfl)) (hts (.static arraycopyName) (List.mem_of_getElem? (i := 6) rfl)) (hts (.initialized "java/lang/System") (List.mem_of_getElem? (i := 7) rfl)) hK hP hD hS 10 3 0 0 rfl rfl rfl rfl rfl ha1 ha2 ha3 ha4 ha5 (fun _ _ => rfl) (Nat.le_of_ble_eq_true rfl) (by decide) dX0_copyFrom_64 (fun H locs hP hD hS => ?_)
  obtain ⟨z_5, ez_5, hf⟩ := nm_ob hf
  have hP : va_P D vwCl (wC cI q z_5 ++ wC cI q2 z2) H := by rw [ez_5]; exact hP
  have hD : va_D A (wC cI q z_5 ++ wC cI q2 z2) := by rw [ez_5]; exact hD
  refine lv_aload_n hx hb dX0_copyFrom_67 rfl (lv_at hl 1 rfl) ?_
  refine va_get (D := D) (ci := 0) (v := .ref (q2 4)) (C := RX0) (T := TX0) (N := 8) hx hb hts hiX0 hown hK hP 7 rfl rfl 3 (by decide) k21 (fun _ h9 => h9) rfl dX0_copyFrom_68 ?_
  refine lv_iconst (v := 0) hx hb dX0_copyFrom_71 (by decide) ?_
  refine lv_aload_n hx hb dX0_copyFrom_72 rfl (lv_at hl 0 rfl) ?_
  refine va_get (D := D) (ci := 0) (v := .ref (q 4)) (C := RX0) (T := TX0) (N := 8) hx hb hts hiX0 hown hK hP 0 rfl rfl 3 (by decide) k21 (fun _ h9 => h9) rfl dX0_copyFrom_73 ?_
  refine lv_iconst (v := 0) hx hb dX0_copyFrom_76 (by decide) ?_
  refine lv_aload_n hx hb dX0_copyFrom_77 rfl (lv_at hl 0 rfl) ?_
  refine va_get (D := D) (ci := 0) (v := .int (z_5.1 7)) (C := RX0) (T := TX0) (N := 8) hx hb hts hiX0 hown hK hP 0 rfl rfl 7 (by decide) k34 (fun _ h9 => h9) rfl dX0_copyFrom_78 ?_
  obtain ⟨ha_, hf⟩ := gd_ob hf
  obtain ⟨ha1, ha2, ha3, ha4, ha5⟩ := acB_ob ha_
  refine va_copyi hx hb (by rw [hml]; exact hl.1.symm) hown (hts (.methodLink RX0 37 arraycopyName) (List.mem_of_getElem? (i := 4) rfl)) (hts (.native arraycopyName) (List.mem_of_getElem? (i := 5) rfl)) (hts (.static arraycopyName) (List.mem_of_getElem? (i := 6) rfl)) (hts (.initialized "java/lang/System") (List.mem_of_getElem? (i := 7) rfl)) hK hP hD hS 11 4 0 0 rfl rfl rfl rfl rfl ha1 ha2 ha3 ha4 ha5 (fun _ _ => rfl) (Nat.le_of_ble_eq_true rfl) (by decide) dX0_copyFrom_81 (fun H locs hP hD hS => ?_)
  obtain ⟨z_6, ez_6, hf⟩ := nm_ob hf
  have hP : va_P D vwCl (wC cI q z_6 ++ wC cI q2 z2) H := by rw [ez_6]; exact hP
  have hD : va_D A (wC cI q z_6 ++ wC cI q2 z2) := by rw [ez_6]; exact hD
  refine lv_aload_n hx hb dX0_copyFrom_84 rfl (lv_at hl 1 rfl) ?_
  refine va_get (D := D) (ci := 0) (v := .ref (q2 5)) (C := RX0) (T := TX0) (N := 8) hx hb hts hiX0 hown hK hP 7 rfl rfl 4 (by decide) k24 (fun _ h9 => h9) rfl dX0_copyFrom_85 ?_
  refine lv_iconst (v := 0) hx hb dX0_copyFrom_88 (by decide) ?_
  refine lv_aload_n hx hb dX0_copyFrom_89 rfl (lv_at hl 0 rfl) ?_
  refine va_get (D := D) (ci := 0) (v := .ref (q 5)) (C := RX0) (T := TX0) (N := 8) hx hb hts hiX0 hown hK hP 0 rfl rfl 4 (by decide) k24 (fun _ h9 => h9) rfl dX0_copyFrom_90 ?_
  refine lv_iconst (v := 0) hx hb dX0_copyFrom_93 (by decide) ?_
  refine lv_aload_n hx hb dX0_copyFrom_94 rfl (lv_at hl 0 rfl) ?_
  refine va_get (D := D) (ci := 0) (v := .int (z_6.1 7)) (C := RX0) (T := TX0) (N := 8) hx hb hts hiX0 hown hK hP 0 rfl rfl 7 (by decide) k34 (fun _ h9 => h9) rfl dX0_copyFrom_95 ?_
  obtain ⟨ha_, hf⟩ := gd_ob hf
  obtain ⟨ha1, ha2, ha3, ha4, ha5⟩ := acB_ob ha_
  refine va_copyi hx hb (by rw [hml]; exact hl.1.symm) hown (hts (.methodLink RX0 37 arraycopyName) (List.mem_of_getElem? (i := 4) rfl)) (hts (.native arraycopyName) (List.mem_of_getElem? (i := 5) rfl)) (hts (.static arraycopyName) (List.mem_of_getElem? (i := 6) rfl)) (hts (.initialized "java/lang/System") (List.mem_of_getElem? (i := 7) rfl)) hK hP hD hS 12 5 0 0 rfl rfl rfl rfl rfl ha1 ha2 ha3 ha4 ha5 (fun _ _ => rfl) (Nat.le_of_ble_eq_true rfl) (by decide) dX0_copyFrom_98 (fun H locs hP hD hS => ?_)
  obtain ⟨z_7, ez_7, hf⟩ := nm_ob hf
  have hP : va_P D vwCl (wC cI q z_7 ++ wC cI q2 z2) H := by rw [ez_7]; exact hP
  have hD : va_D A (wC cI q z_7 ++ wC cI q2 z2) := by rw [ez_7]; exact hD
  refine lv_aload_n hx hb dX0_copyFrom_101 rfl (lv_at hl 1 rfl) ?_
  refine va_get (D := D) (ci := 0) (v := .ref (q2 6)) (C := RX0) (T := TX0) (N := 8) hx hb hts hiX0 hown hK hP 7 rfl rfl 5 (by decide) k27 (fun _ h9 => h9) rfl dX0_copyFrom_102 ?_
  refine lv_iconst (v := 0) hx hb dX0_copyFrom_105 (by decide) ?_
  refine lv_aload_n hx hb dX0_copyFrom_106 rfl (lv_at hl 0 rfl) ?_
  refine va_get (D := D) (ci := 0) (v := .ref (q 6)) (C := RX0) (T := TX0) (N := 8) hx hb hts hiX0 hown hK hP 0 rfl rfl 5 (by decide) k27 (fun _ h9 => h9) rfl dX0_copyFrom_107 ?_
  refine lv_iconst (v := 0) hx hb dX0_copyFrom_110 (by decide) ?_
  refine lv_aload_n hx hb dX0_copyFrom_111 rfl (lv_at hl 0 rfl) ?_
  refine va_get (D := D) (ci := 0) (v := .int (z_7.1 7)) (C := RX0) (T := TX0) (N := 8) hx hb hts hiX0 hown hK hP 0 rfl rfl 7 (by decide) k34 (fun _ h9 => h9) rfl dX0_copyFrom_112 ?_
  obtain ⟨ha_, hf⟩ := gd_ob hf
  obtain ⟨ha1, ha2, ha3, ha4, ha5⟩ := acB_ob ha_
  refine va_copyi hx hb (by rw [hml]; exact hl.1.symm) hown (hts (.methodLink RX0 37 arraycopyName) (List.mem_of_getElem? (i := 4) rfl)) (hts (.native arraycopyName) (List.mem_of_getElem? (i := 5) rfl)) (hts (.static arraycopyName) (List.mem_of_getElem? (i := 6) rfl)) (hts (.initialized "java/lang/System") (List.mem_of_getElem? (i := 7) rfl)) hK hP hD hS 13 6 0 0 rfl rfl rfl rfl rfl ha1 ha2 ha3 ha4 ha5 (fun _ _ => rfl) (Nat.le_of_ble_eq_true rfl) (by decide) dX0_copyFrom_115 (fun H locs hP hD hS => ?_)
  obtain ⟨z_8, ez_8, hf⟩ := nm_ob hf
  have hP : va_P D vwCl (wC cI q z_8 ++ wC cI q2 z2) H := by rw [ez_8]; exact hP
  have hD : va_D A (wC cI q z_8 ++ wC cI q2 z2) := by rw [ez_8]; exact hD
  exact rW_v hx hb hr hlocks hP hD hS (congrArg (fun (q9 : (OS)) => wC cI q q9 ++ wC cI q2 z2) (so_ob hf)) dX0_copyFrom_118
def fX0_hasClause (fu : Nat) (z : OS) (p1 : Int32) : Option (Int32) :=
  (if p1 < (0 : Int32) then gd (isZ (0 : Int32)) (some (0 : Int32)) else (if (z.1 7) ≤ p1 then gd (isZ (0 : Int32)) (some (0 : Int32)) else gd (isZ (1 : Int32)) (some (1 : Int32))))
set_option maxRecDepth 100000 in
set_option maxHeartbeats 4000000 in
theorem mX0_hasClause (l : Launch) (D : va_G) (cI cB cZ cO : ClassId) (q : Nat → Nat) (fu : Nat) (z : OS) (p1 : Int32) {r : Int32} (hf : fX0_hasClause fu z p1 = some r) : Met l yX0_hasClause wsX0_hasClause ({ frames := 0, cells := 0, slots := 0, locals := 0 }) (va_Pc [.ref (q 0), .int p1] (Pr D (gT cI cB cZ cO) (wC cI q z))) (Qr (some (.int r))) 0 0 (fun _ => False) := by
  unfold fX0_hasClause at hf
  refine metR (ret := (some .boolean)) (own := RX0) rfl (by decide) rfl (Nat.le_of_ble_eq_true rfl) (fun p e s m args below meth c ls hx hb hr hml hown hlocks hts hP hK hl => ?_)
  have k34 := (hts (.fieldLink RX0 34 "ResolutionProver$Clauses" "count" "I") (List.mem_of_getElem? (i := 1) rfl))
  have hiX0 : ∀ w ∈ wsX00, w ∈ wsX0_hasClause := (memIn_p [2, 3, 4, 5, 6, 7, 8, 9] rfl)
  have hl : lv_has ls 2 [(0, .ref (q 0)), (1, .int p1)] := hl
  refine lv_iload_n hx hb dX0_hasClause_0 rfl (lv_at hl 1 rfl) ?_
  refine lv_if_lt (tgt := 16) hx hb dX0_hasClause_1 (by decide) (fun c_1 => ?_) (fun c_1 => ?_)
  · have hf := ip c_1 hf
    refine lv_iconst (v := 0) hx hb dX0_hasClause_16 (by decide) ?_
    obtain ⟨hz, hf⟩ := gd_ob hf
    exact rR_z hx hb hr hlocks hz (so_ob hf) dX0_hasClause_17
  · have hf := iq c_1 hf
    refine lv_iload_n hx hb dX0_hasClause_4 rfl (lv_at hl 1 rfl) ?_
    refine lv_aload_n hx hb dX0_hasClause_5 rfl (lv_at hl 0 rfl) ?_
    refine va_get (D := D) (ci := 0) (v := .int (z.1 7)) (C := RX0) (T := TX0) (N := 8) hx hb hts hiX0 hown hK hP 0 rfl rfl 7 (by decide) k34 (fun _ h9 => h9) rfl dX0_hasClause_6 ?_
    refine lv_icmp_ge (tgt := 16) hx hb dX0_hasClause_9 (by decide) (fun c_9 => ?_) (fun c_9 => ?_)
    · have hf := ip c_9 hf
      refine lv_iconst (v := 0) hx hb dX0_hasClause_16 (by decide) ?_
      obtain ⟨hz, hf⟩ := gd_ob hf
      exact rR_z hx hb hr hlocks hz (so_ob hf) dX0_hasClause_17
    · have hf := iq c_9 hf
      refine lv_iconst (v := 1) hx hb dX0_hasClause_12 (by decide) ?_
      refine lv_goto (tgt := 17) hx hb dX0_hasClause_13 (by decide) ?_
      obtain ⟨hz, hf⟩ := gd_ob hf
      exact rR_z hx hb hr hlocks hz (so_ob hf) dX0_hasClause_17
def fX0_isFull (fu : Nat) (z : OS) : Option (Int32) :=
  (if (z.1 7) < (60 : Int32) then gd (isZ (0 : Int32)) (some (0 : Int32)) else gd (isZ (1 : Int32)) (some (1 : Int32)))
set_option maxRecDepth 100000 in
set_option maxHeartbeats 4000000 in
theorem mX0_isFull (l : Launch) (D : va_G) (cI cB cZ cO : ClassId) (q : Nat → Nat) (fu : Nat) (z : OS) {r : Int32} (hf : fX0_isFull fu z = some r) : Met l yX0_isFull wsX0_isFull ({ frames := 0, cells := 0, slots := 0, locals := 0 }) (va_Pc [.ref (q 0)] (Pr D (gT cI cB cZ cO) (wC cI q z))) (Qr (some (.int r))) 0 0 (fun _ => False) := by
  unfold fX0_isFull at hf
  refine metR (ret := (some .boolean)) (own := RX0) rfl (by decide) rfl (Nat.le_of_ble_eq_true rfl) (fun p e s m args below meth c ls hx hb hr hml hown hlocks hts hP hK hl => ?_)
  have k34 := (hts (.fieldLink RX0 34 "ResolutionProver$Clauses" "count" "I") (List.mem_of_getElem? (i := 1) rfl))
  have hiX0 : ∀ w ∈ wsX00, w ∈ wsX0_isFull := (memIn_p [2, 3, 4, 5, 6, 7, 8, 9] rfl)
  have hl : lv_has ls 1 [(0, .ref (q 0))] := hl
  refine lv_aload_n hx hb dX0_isFull_0 rfl (lv_at hl 0 rfl) ?_
  refine va_get (D := D) (ci := 0) (v := .int (z.1 7)) (C := RX0) (T := TX0) (N := 8) hx hb hts hiX0 hown hK hP 0 rfl rfl 7 (by decide) k34 (fun _ h9 => h9) rfl dX0_isFull_1 ?_
  refine lv_bipush (v := 60) hx hb dX0_isFull_4 (by decide) ?_
  refine lv_icmp_lt (tgt := 13) hx hb dX0_isFull_6 (by decide) (fun c_6 => ?_) (fun c_6 => ?_)
  · have hf := ip c_6 hf
    refine lv_iconst (v := 0) hx hb dX0_isFull_13 (by decide) ?_
    obtain ⟨hz, hf⟩ := gd_ob hf
    exact rR_z hx hb hr hlocks hz (so_ob hf) dX0_isFull_14
  · have hf := iq c_6 hf
    refine lv_iconst (v := 1) hx hb dX0_isFull_9 (by decide) ?_
    refine lv_goto (tgt := 14) hx hb dX0_isFull_10 (by decide) ?_
    obtain ⟨hz, hf⟩ := gd_ob hf
    exact rR_z hx hb hr hlocks hz (so_ob hf) dX0_isFull_14
def fX0_allVariables (fu : Nat) (z : OS) : Option (Int32) :=
  some (((1 : Int32) <<< ((z.1 6) &&& (31 : Int32))) - (1 : Int32))
set_option maxRecDepth 100000 in
set_option maxHeartbeats 4000000 in
theorem mX0_allVariables (l : Launch) (D : va_G) (cI cB cZ cO : ClassId) (q : Nat → Nat) (fu : Nat) (z : OS) {r : Int32} (hf : fX0_allVariables fu z = some r) : Met l yX0_allVariables wsX0_allVariables ({ frames := 0, cells := 0, slots := 0, locals := 0 }) (va_Pc [.ref (q 0)] (Pr D (gT cI cB cZ cO) (wC cI q z))) (Qr (some (.int r))) 0 0 (fun _ => False) := by
  unfold fX0_allVariables at hf
  refine metR (ret := (some .int)) (own := RX0) rfl (by decide) rfl (Nat.le_of_ble_eq_true rfl) (fun p e s m args below meth c ls hx hb hr hml hown hlocks hts hP hK hl => ?_)
  have k30 := (hts (.fieldLink RX0 30 "ResolutionProver$Clauses" "variables" "I") (List.mem_of_getElem? (i := 1) rfl))
  have hiX0 : ∀ w ∈ wsX00, w ∈ wsX0_allVariables := (memIn_p [2, 3, 4, 5, 6, 7, 8, 9] rfl)
  have hl : lv_has ls 1 [(0, .ref (q 0))] := hl
  refine lv_iconst (v := 1) hx hb dX0_allVariables_0 (by decide) ?_
  refine lv_aload_n hx hb dX0_allVariables_1 rfl (lv_at hl 0 rfl) ?_
  refine va_get (D := D) (ci := 0) (v := .int (z.1 6)) (C := RX0) (T := TX0) (N := 8) hx hb hts hiX0 hown hK hP 0 rfl rfl 6 (by decide) k30 (fun _ h9 => h9) rfl dX0_allVariables_2 ?_
  refine lv_ishl hx hb dX0_allVariables_5 ?_
  refine lv_iconst (v := 1) hx hb dX0_allVariables_6 (by decide) ?_
  refine lv_isub hx hb dX0_allVariables_7 ?_
  exact rR_i hx hb hr hlocks (so_ob hf) dX0_allVariables_8
def fX0_isMask (fu : Nat) (z : OS) (p1 : Int32) : Option (Int32) :=
  bd (fX0_allVariables fu z) (fun (r_1 : Int32) => (if ¬ (p1 &&& (r_1 ^^^ (-1 : Int32))) = (0 : Int32) then gd (isZ (0 : Int32)) (some (0 : Int32)) else gd (isZ (1 : Int32)) (some (1 : Int32))))
set_option maxRecDepth 100000 in
set_option maxHeartbeats 4000000 in
theorem mX0_isMask (l : Launch) (D : va_G) (cI cB cZ cO : ClassId) (q : Nat → Nat) (fu : Nat) (z : OS) (p1 : Int32) {r : Int32} (hf : fX0_isMask fu z p1 = some r) : Met l yX0_isMask wsX0_isMask ({ frames := 1, cells := 0, slots := 0, locals := 20 }) (va_Pc [.ref (q 0), .int p1] (Pr D (gT cI cB cZ cO) (wC cI q z))) (Qr (some (.int r))) 0 0 (fun _ => False) := by
  unfold fX0_isMask at hf
  refine metR (ret := (some .boolean)) (own := RX0) rfl (by decide) rfl (Nat.le_of_ble_eq_true rfl) (fun p e s m args below meth c ls hx hb hr hml hown hlocks hts hP hK hl => ?_)
  have hl : lv_has ls 2 [(0, .ref (q 0)), (1, .int p1)] := hl
  refine lv_iload_n hx hb dX0_isMask_0 rfl (lv_at hl 1 rfl) ?_
  refine lv_aload_n hx hb dX0_isMask_1 rfl (lv_at hl 0 rfl) ?_
  obtain ⟨r_1, hc_2, hf⟩ := bd_ob hf
  refine rdV (As := []) (rest := [.int p1]) ⟨hx, hb, hml, hown, hts⟩ (mX0_allVariables l D cI cB cZ cO q fu z hc_2) (cwV 0 hts gX0_isMask_X0_allVariables rfl rfl rfl (by decide +kernel) ⟨Nat.le_of_ble_eq_true rfl, Nat.le_of_ble_eq_true rfl⟩) hK hP (va_recv hK hP (ci := 0) (q0 := 0) rfl rfl) rfl hl.1 rfl (Nat.le_of_ble_eq_true rfl) dX0_isMask_2 ⟨Nat.zero_le _, Nat.zero_le _⟩ ?_
  refine lv_iconst (v := (-1)) hx hb dX0_isMask_5 (by decide) ?_
  refine lv_ixor hx hb dX0_isMask_6 ?_
  refine lv_iand hx hb dX0_isMask_7 ?_
  refine lv_if_ne (tgt := 15) hx hb dX0_isMask_8 (by decide) (fun c_8 => ?_) (fun c_8 => ?_)
  · have hf := ip c_8 hf
    refine lv_iconst (v := 0) hx hb dX0_isMask_15 (by decide) ?_
    obtain ⟨hz, hf⟩ := gd_ob hf
    exact rR_z hx hb hr hlocks hz (so_ob hf) dX0_isMask_16
  · have hf := iqn c_8 hf
    refine lv_iconst (v := 1) hx hb dX0_isMask_11 (by decide) ?_
    refine lv_goto (tgt := 16) hx hb dX0_isMask_12 (by decide) ?_
    obtain ⟨hz, hf⟩ := gd_ob hf
    exact rR_z hx hb hr hlocks hz (so_ob hf) dX0_isMask_16
def lX0_indexOf_2 (z : OS) (p1 : Int32) (p2 : Int32) (j38 : Option (Int32)) : Nat → Int32 → Option (Int32)
  | 0, _ => none
  | n_2 + 1, v3_2 => (if (z.1 7) ≤ v3_2 then j38 else gd (inB v3_2 60) (jn (κ := Option (Int32)) (nm (v3_2 + (1 : Int32)) (fun (v3_1 : Int32) => lX0_indexOf_2 z p1 p2 j38 n_2 v3_1)) (fun j32 => (if ¬ (z.2 0 (v3_2).toNatClampNeg) = p1 then j32 else gd (inB v3_2 60) ((if ¬ (z.2 1 (v3_2).toNatClampNeg) = p2 then j32 else some v3_2))))))
def fX0_indexOf (fu : Nat) (z : OS) (p1 : Int32) (p2 : Int32) : Option (Int32) :=
  jn (κ := Option (Int32)) (some (-1 : Int32)) (fun j38 => lX0_indexOf_2 z p1 p2 j38 fu (0 : Int32))
set_option maxRecDepth 100000 in
set_option maxHeartbeats 4000000 in
theorem mX0_indexOf (l : Launch) (D : va_G) (cI cB cZ cO : ClassId) (q : Nat → Nat) (fu : Nat) (z : OS) (p1 : Int32) (p2 : Int32) {r : Int32} (hf : fX0_indexOf fu z p1 p2 = some r) : Met l yX0_indexOf wsX0_indexOf ({ frames := 0, cells := 0, slots := 0, locals := 0 }) (va_Pc [.ref (q 0), .int p1, .int p2] (Pr D (gT cI cB cZ cO) (wC cI q z))) (Qr (some (.int r))) 0 0 (fun _ => False) := by
  unfold fX0_indexOf at hf
  refine metR (ret := (some .int)) (own := RX0) rfl (by decide) rfl (Nat.le_of_ble_eq_true rfl) (fun p e s m args below meth c ls hx hb hr hml hown hlocks hts hP hK hl => ?_)
  have k34 := (hts (.fieldLink RX0 34 "ResolutionProver$Clauses" "count" "I") (List.mem_of_getElem? (i := 1) rfl))
  have k9 := (hts (.fieldLink RX0 9 "ResolutionProver$Clauses" "positive" "[I") (List.mem_of_getElem? (i := 2) rfl))
  have k15 := (hts (.fieldLink RX0 15 "ResolutionProver$Clauses" "negative" "[I") (List.mem_of_getElem? (i := 3) rfl))
  have hiX0 : ∀ w ∈ wsX00, w ∈ wsX0_indexOf := (memIn_p [4, 5, 6, 7, 8, 9, 10, 11] rfl)
  have hl : lv_has ls 4 [(0, .ref (q 0)), (1, .int p1), (2, .int p2)] := hl
  refine lv_iconst (v := 0) hx hb dX0_indexOf_0 (by decide) ?_
  refine lv_istore_n (lv' := [(3, .int (0 : Int32)), (0, .ref (q 0)), (1, .int p1), (2, .int p2)]) hx hb dX0_indexOf_1 rfl hl (by decide) rfl (fun ls hl => ?_)
  obtain ⟨j38, ej38, hf⟩ := jn_ob hf
  have hp38 : ∀  (ls : Array Slot), j38 = some r → lv_has ls 4 [] → W p l e (headSpec wsX0_indexOf { frames := 0, cells := 0, slots := 0, locals := 0 }).room s m args below meth c s.heap [] 0 0 (MQ below (Qr (some (.int r))) args s 0 0 (fun _ => False)) (F0 m 38 ls []) := by
    intro ls hf hl
    rw [ej38] at hf
    refine lv_iconst (v := (-1)) hx hb dX0_indexOf_38 (by decide) ?_
    exact rR_i hx hb hr hlocks (so_ob hf) dX0_indexOf_39
  have hL2 : ∀ (n_2 : Nat) (v3_2 : Int32) (ls : Array Slot), lX0_indexOf_2 z p1 p2 j38 n_2 v3_2 = some r → lv_has ls 4 [(0, .ref (q 0)), (1, .int p1), (2, .int p2), (3, .int v3_2)] → W p l e (headSpec wsX0_indexOf { frames := 0, cells := 0, slots := 0, locals := 0 }).room s m args below meth c s.heap [] 0 0 (MQ below (Qr (some (.int r))) args s 0 0 (fun _ => False)) (F0 m 2 ls []) := by
    intro n_2
    induction n_2 with
    | zero =>
      intro v3_2 ls hf
      exact no_ob hf
    | succ n_2 ih2 =>
      intro v3_2 ls hf hl
      rw [lX0_indexOf_2] at hf
      refine lv_iload_n hx hb dX0_indexOf_2 rfl (lv_at hl 3 rfl) ?_
      refine lv_aload_n hx hb dX0_indexOf_3 rfl (lv_at hl 0 rfl) ?_
      refine va_get (D := D) (ci := 0) (v := .int (z.1 7)) (C := RX0) (T := TX0) (N := 8) hx hb hts hiX0 hown hK hP 0 rfl rfl 7 (by decide) k34 (fun _ h9 => h9) rfl dX0_indexOf_4 ?_
      refine lv_icmp_ge (tgt := 38) hx hb dX0_indexOf_7 (by decide) (fun c_7 => ?_) (fun c_7 => ?_)
      · have hf := ip c_7 hf
        exact hp38 _ hf (lv_sub hl [] rfl)
      · have hf := iq c_7 hf
        refine lv_aload_n hx hb dX0_indexOf_10 rfl (lv_at hl 0 rfl) ?_
        refine va_get (D := D) (ci := 0) (v := .ref (q 1)) (C := RX0) (T := TX0) (N := 8) hx hb hts hiX0 hown hK hP 0 rfl rfl 0 (by decide) k9 (fun _ h9 => h9) rfl dX0_indexOf_11 ?_
        refine lv_iload_n hx hb dX0_indexOf_14 rfl (lv_at hl 3 rfl) ?_
        obtain ⟨hi_, hf⟩ := gd_ob hf
        refine va_iald hx hb hK hP 1 0 rfl rfl (inB_in hi_) dX0_indexOf_15 ?_
        refine lv_iload_n hx hb dX0_indexOf_16 rfl (lv_at hl 1 rfl) ?_
        obtain ⟨j32, ej32, hf⟩ := jn_ob hf
        have hp32 : ∀  (ls : Array Slot), j32 = some r → lv_has ls 4 [(0, .ref (q 0)), (1, .int p1), (2, .int p2), (3, .int v3_2)] → W p l e (headSpec wsX0_indexOf { frames := 0, cells := 0, slots := 0, locals := 0 }).room s m args below meth c s.heap [] 0 0 (MQ below (Qr (some (.int r))) args s 0 0 (fun _ => False)) (F0 m 32 ls []) := by
          intro ls hf hl
          rw [ej32] at hf
          obtain ⟨v3_1, ev3_1, hf⟩ := nm_ob hf
          refine lv_iinc (v := v3_1) (lv' := [(3, .int v3_1), (0, .ref (q 0)), (1, .int p1), (2, .int p2)]) hx hb dX0_indexOf_32 hl (k := 3) rfl (by rw [ev3_1]; rfl) (by decide) rfl (fun ls hl => ?_)
          refine lv_goto (tgt := 2) hx hb dX0_indexOf_35 (by decide) ?_
          exact ih2 v3_1 _ hf (lv_sub hl [1, 2, 3, 0] rfl)
        refine lv_icmp_ne (tgt := 32) hx hb dX0_indexOf_17 (by decide) (fun c_17 => ?_) (fun c_17 => ?_)
        · have hf := ip c_17 hf
          exact hp32 _ hf hl
        · have hf := iqn c_17 hf
          refine lv_aload_n hx hb dX0_indexOf_20 rfl (lv_at hl 0 rfl) ?_
          refine va_get (D := D) (ci := 0) (v := .ref (q 2)) (C := RX0) (T := TX0) (N := 8) hx hb hts hiX0 hown hK hP 0 rfl rfl 1 (by decide) k15 (fun _ h9 => h9) rfl dX0_indexOf_21 ?_
          refine lv_iload_n hx hb dX0_indexOf_24 rfl (lv_at hl 3 rfl) ?_
          obtain ⟨hi_, hf⟩ := gd_ob hf
          refine va_iald hx hb hK hP 2 0 rfl rfl (inB_in hi_) dX0_indexOf_25 ?_
          refine lv_iload_n hx hb dX0_indexOf_26 rfl (lv_at hl 2 rfl) ?_
          refine lv_icmp_ne (tgt := 32) hx hb dX0_indexOf_27 (by decide) (fun c_27 => ?_) (fun c_27 => ?_)
          · have hf := ip c_27 hf
            exact hp32 _ hf hl
          · have hf := iqn c_27 hf
            refine lv_iload_n hx hb dX0_indexOf_30 rfl (lv_at hl 3 rfl) ?_
            exact rR_i hx hb hr hlocks (so_ob hf) dX0_indexOf_31
  exact hL2 fu (0 : Int32) _ hf (lv_sub hl [1, 2, 3, 0] rfl)
def fJ6_bitCount_0f7a4 (fu : Nat) (p1 : Int32) : Option (Int32) :=
  nm (p1 - ((((p1).toUInt32 >>> (((1 : Int32)).toUInt32 &&& Int32.toUInt32 31)).toInt32) &&& (1431655765 : Int32))) (fun (v0_1 : Int32) => nm ((v0_1 &&& (858993459 : Int32)) + ((((v0_1).toUInt32 >>> (((2 : Int32)).toUInt32 &&& Int32.toUInt32 31)).toInt32) &&& (858993459 : Int32))) (fun (v0_2 : Int32) => nm ((v0_2 + (((v0_2).toUInt32 >>> (((4 : Int32)).toUInt32 &&& Int32.toUInt32 31)).toInt32)) &&& (252645135 : Int32)) (fun (v0_3 : Int32) => nm (v0_3 + (((v0_3).toUInt32 >>> (((8 : Int32)).toUInt32 &&& Int32.toUInt32 31)).toInt32)) (fun (v0_4 : Int32) => nm (v0_4 + (((v0_4).toUInt32 >>> (((16 : Int32)).toUInt32 &&& Int32.toUInt32 31)).toInt32)) (fun (v0_5 : Int32) => some (v0_5 &&& (63 : Int32)))))))
set_option maxRecDepth 100000 in
set_option maxHeartbeats 4000000 in
theorem mJ6_bitCount_0f7a4 (l : Launch) (D : va_G) (cI cB cZ cO : ClassId) (fu : Nat) (p1 : Int32) {r : Int32} (hf : fJ6_bitCount_0f7a4 fu p1 = some r) : Met l yJ6_bitCount_0f7a4 wsJ6_bitCount_0f7a4 ({ frames := 0, cells := 0, slots := 0, locals := 0 }) (va_Pc [.int p1] (fun _ => True)) (Qr (some (.int r))) 0 0 (fun _ => False) := by
  unfold fJ6_bitCount_0f7a4 at hf
  refine metN (ret := (some .int)) (own := RJ6) rfl (by decide) rfl (Nat.le_of_ble_eq_true rfl) (fun p e s m args below meth c ls hx hb hr hml hown hlocks hts hl => ?_)
  have k265 := (hts (.constant RJ6 265 (1431655765)) (List.mem_of_getElem? (i := 1) rfl))
  have k266 := (hts (.constant RJ6 266 (858993459)) (List.mem_of_getElem? (i := 2) rfl))
  have k267 := (hts (.constant RJ6 267 (252645135)) (List.mem_of_getElem? (i := 3) rfl))
  have hl : lv_has ls 1 [(0, .int p1)] := hl
  refine lv_iload_n hx hb dJ6_bitCount_0f7a4_0 rfl (lv_at hl 0 rfl) ?_
  refine lv_iload_n hx hb dJ6_bitCount_0f7a4_1 rfl (lv_at hl 0 rfl) ?_
  refine lv_iconst (v := 1) hx hb dJ6_bitCount_0f7a4_2 (by decide) ?_
  refine lv_iushr hx hb dJ6_bitCount_0f7a4_3 rfl ?_
  refine lv_ldcw hx hb hown k265 dJ6_bitCount_0f7a4_4 ?_
  refine lv_iand hx hb dJ6_bitCount_0f7a4_7 ?_
  refine lv_isub hx hb dJ6_bitCount_0f7a4_8 ?_
  obtain ⟨v0_1, ev0_1, hf⟩ := nm_ob hf
  refine lv_nmi ev0_1 ?_
  refine lv_istore_n (lv' := [(0, .int v0_1)]) hx hb dJ6_bitCount_0f7a4_9 rfl hl (by decide) rfl (fun ls hl => ?_)
  refine lv_iload_n hx hb dJ6_bitCount_0f7a4_10 rfl (lv_at hl 0 rfl) ?_
  refine lv_ldcw hx hb hown k266 dJ6_bitCount_0f7a4_11 ?_
  refine lv_iand hx hb dJ6_bitCount_0f7a4_14 ?_
  refine lv_iload_n hx hb dJ6_bitCount_0f7a4_15 rfl (lv_at hl 0 rfl) ?_
  refine lv_iconst (v := 2) hx hb dJ6_bitCount_0f7a4_16 (by decide) ?_
  refine lv_iushr hx hb dJ6_bitCount_0f7a4_17 rfl ?_
  refine lv_ldcw hx hb hown k266 dJ6_bitCount_0f7a4_18 ?_
  refine lv_iand hx hb dJ6_bitCount_0f7a4_21 ?_
  refine lv_iadd hx hb dJ6_bitCount_0f7a4_22 ?_
  obtain ⟨v0_2, ev0_2, hf⟩ := nm_ob hf
  refine lv_nmi ev0_2 ?_
  refine lv_istore_n (lv' := [(0, .int v0_2)]) hx hb dJ6_bitCount_0f7a4_23 rfl hl (by decide) rfl (fun ls hl => ?_)
  refine lv_iload_n hx hb dJ6_bitCount_0f7a4_24 rfl (lv_at hl 0 rfl) ?_
  refine lv_iload_n hx hb dJ6_bitCount_0f7a4_25 rfl (lv_at hl 0 rfl) ?_
  refine lv_iconst (v := 4) hx hb dJ6_bitCount_0f7a4_26 (by decide) ?_
  refine lv_iushr hx hb dJ6_bitCount_0f7a4_27 rfl ?_
  refine lv_iadd hx hb dJ6_bitCount_0f7a4_28 ?_
  refine lv_ldcw hx hb hown k267 dJ6_bitCount_0f7a4_29 ?_
  refine lv_iand hx hb dJ6_bitCount_0f7a4_32 ?_
  obtain ⟨v0_3, ev0_3, hf⟩ := nm_ob hf
  refine lv_nmi ev0_3 ?_
  refine lv_istore_n (lv' := [(0, .int v0_3)]) hx hb dJ6_bitCount_0f7a4_33 rfl hl (by decide) rfl (fun ls hl => ?_)
  refine lv_iload_n hx hb dJ6_bitCount_0f7a4_34 rfl (lv_at hl 0 rfl) ?_
  refine lv_iload_n hx hb dJ6_bitCount_0f7a4_35 rfl (lv_at hl 0 rfl) ?_
  refine lv_bipush (v := 8) hx hb dJ6_bitCount_0f7a4_36 (by decide) ?_
  refine lv_iushr hx hb dJ6_bitCount_0f7a4_38 rfl ?_
  refine lv_iadd hx hb dJ6_bitCount_0f7a4_39 ?_
  obtain ⟨v0_4, ev0_4, hf⟩ := nm_ob hf
  refine lv_nmi ev0_4 ?_
  refine lv_istore_n (lv' := [(0, .int v0_4)]) hx hb dJ6_bitCount_0f7a4_40 rfl hl (by decide) rfl (fun ls hl => ?_)
  refine lv_iload_n hx hb dJ6_bitCount_0f7a4_41 rfl (lv_at hl 0 rfl) ?_
  refine lv_iload_n hx hb dJ6_bitCount_0f7a4_42 rfl (lv_at hl 0 rfl) ?_
  refine lv_bipush (v := 16) hx hb dJ6_bitCount_0f7a4_43 (by decide) ?_
  refine lv_iushr hx hb dJ6_bitCount_0f7a4_45 rfl ?_
  refine lv_iadd hx hb dJ6_bitCount_0f7a4_46 ?_
  obtain ⟨v0_5, ev0_5, hf⟩ := nm_ob hf
  refine lv_nmi ev0_5 ?_
  refine lv_istore_n (lv' := [(0, .int v0_5)]) hx hb dJ6_bitCount_0f7a4_47 rfl hl (by decide) rfl (fun ls hl => ?_)
  refine lv_iload_n hx hb dJ6_bitCount_0f7a4_48 rfl (lv_at hl 0 rfl) ?_
  refine lv_bipush (v := 63) hx hb dJ6_bitCount_0f7a4_49 (by decide) ?_
  refine lv_iand hx hb dJ6_bitCount_0f7a4_51 ?_
  exact rR_i hx hb hr hlocks (so_ob hf) dJ6_bitCount_0f7a4_52
def fX0_literalsIn (fu : Nat) (z : OS) (p1 : Int32) : Option (Int32) :=
  gd (inB p1 60) (bd (fJ6_bitCount_0f7a4 fu (z.2 0 (p1).toNatClampNeg)) (fun (r_1 : Int32) => gd (inB p1 60) (bd (fJ6_bitCount_0f7a4 fu (z.2 1 (p1).toNatClampNeg)) (fun (r_3 : Int32) => some (r_1 + r_3)))))
set_option maxRecDepth 100000 in
set_option maxHeartbeats 4000000 in
theorem mX0_literalsIn (l : Launch) (D : va_G) (cI cB cZ cO : ClassId) (q : Nat → Nat) (fu : Nat) (z : OS) (p1 : Int32) {r : Int32} (hf : fX0_literalsIn fu z p1 = some r) : Met l yX0_literalsIn wsX0_literalsIn ({ frames := 1, cells := 0, slots := 0, locals := 20 }) (va_Pc [.ref (q 0), .int p1] (Pr D (gT cI cB cZ cO) (wC cI q z))) (Qr (some (.int r))) 0 0 (fun _ => False) := by
  unfold fX0_literalsIn at hf
  refine metR (ret := (some .int)) (own := RX0) rfl (by decide) rfl (Nat.le_of_ble_eq_true rfl) (fun p e s m args below meth c ls hx hb hr hml hown hlocks hts hP hK hl => ?_)
  have k9 := (hts (.fieldLink RX0 9 "ResolutionProver$Clauses" "positive" "[I") (List.mem_of_getElem? (i := 1) rfl))
  have k15 := (hts (.fieldLink RX0 15 "ResolutionProver$Clauses" "negative" "[I") (List.mem_of_getElem? (i := 2) rfl))
  have hiX0 : ∀ w ∈ wsX00, w ∈ wsX0_literalsIn := (memIn_p [10, 11, 12, 13, 14, 15, 16, 17] rfl)
  have hl : lv_has ls 2 [(0, .ref (q 0)), (1, .int p1)] := hl
  refine lv_aload_n hx hb dX0_literalsIn_0 rfl (lv_at hl 0 rfl) ?_
  refine va_get (D := D) (ci := 0) (v := .ref (q 1)) (C := RX0) (T := TX0) (N := 8) hx hb hts hiX0 hown hK hP 0 rfl rfl 0 (by decide) k9 (fun _ h9 => h9) rfl dX0_literalsIn_1 ?_
  refine lv_iload_n hx hb dX0_literalsIn_4 rfl (lv_at hl 1 rfl) ?_
  obtain ⟨hi_, hf⟩ := gd_ob hf
  refine va_iald hx hb hK hP 1 0 rfl rfl (inB_in hi_) dX0_literalsIn_5 ?_
  obtain ⟨r_1, hc_2, hf⟩ := bd_ob hf
  refine rdN (As := [.int (z.2 0 (p1).toNatClampNeg)]) (rest := []) ⟨hx, hb, hml, hown, hts⟩ (mJ6_bitCount_0f7a4 l D cI cB cZ cO fu (z.2 0 (p1).toNatClampNeg) hc_2) (va_cwS 1 hts gX0_literalsIn_J6_bitCount_0f7a4 rfl rfl rfl (by decide +kernel) ⟨Nat.le_of_ble_eq_true rfl, Nat.le_of_ble_eq_true rfl⟩) rfl hl.1 rfl (Nat.le_of_ble_eq_true rfl) dX0_literalsIn_6 ⟨Nat.zero_le _, Nat.zero_le _⟩ ?_
  refine lv_aload_n hx hb dX0_literalsIn_9 rfl (lv_at hl 0 rfl) ?_
  refine va_get (D := D) (ci := 0) (v := .ref (q 2)) (C := RX0) (T := TX0) (N := 8) hx hb hts hiX0 hown hK hP 0 rfl rfl 1 (by decide) k15 (fun _ h9 => h9) rfl dX0_literalsIn_10 ?_
  refine lv_iload_n hx hb dX0_literalsIn_13 rfl (lv_at hl 1 rfl) ?_
  obtain ⟨hi_, hf⟩ := gd_ob hf
  refine va_iald hx hb hK hP 2 0 rfl rfl (inB_in hi_) dX0_literalsIn_14 ?_
  obtain ⟨r_3, hc_4, hf⟩ := bd_ob hf
  refine rdN (As := [.int (z.2 1 (p1).toNatClampNeg)]) (rest := [.int r_1]) ⟨hx, hb, hml, hown, hts⟩ (mJ6_bitCount_0f7a4 l D cI cB cZ cO fu (z.2 1 (p1).toNatClampNeg) hc_4) (va_cwS 1 hts gX0_literalsIn_J6_bitCount_0f7a4 rfl rfl rfl (by decide +kernel) ⟨Nat.le_of_ble_eq_true rfl, Nat.le_of_ble_eq_true rfl⟩) rfl hl.1 rfl (Nat.le_of_ble_eq_true rfl) dX0_literalsIn_15 ⟨Nat.zero_le _, Nat.zero_le _⟩ ?_
  refine lv_iadd hx hb dX0_literalsIn_18 ?_
  exact rR_i hx hb hr hlocks (so_ob hf) dX0_literalsIn_19
def lX0_countWithLiterals_4 (fu : Nat) (z : OS) (p1 : Int32) (j30 : Int32 → Option (Int32)) : Nat → Int32 → Int32 → Option (Int32)
  | 0, _, _ => none
  | n_4 + 1, v2_4, v3_4 => (if (z.1 7) ≤ v3_4 then j30 v2_4 else bd (fX0_literalsIn fu z v3_4) (fun (r_1 : Int32) => jn (κ := Int32 → Option (Int32)) (fun (v2_24 : Int32) => nm (v3_4 + (1 : Int32)) (fun (v3_3 : Int32) => lX0_countWithLiterals_4 fu z p1 j30 n_4 v2_24 v3_3)) (fun j24 => (if ¬ r_1 = p1 then j24 v2_4 else nm (v2_4 + (1 : Int32)) (fun (v2_4 : Int32) => j24 v2_4)))))
def fX0_countWithLiterals (fu : Nat) (z : OS) (p1 : Int32) : Option (Int32) :=
  jn (κ := Int32 → Option (Int32)) (fun (v2_30 : Int32) => some v2_30) (fun j30 => lX0_countWithLiterals_4 fu z p1 j30 fu (0 : Int32) (0 : Int32))
set_option maxRecDepth 100000 in
set_option maxHeartbeats 4000000 in
theorem mX0_countWithLiterals (l : Launch) (D : va_G) (cI cB cZ cO : ClassId) (q : Nat → Nat) (fu : Nat) (z : OS) (p1 : Int32) {r : Int32} (hf : fX0_countWithLiterals fu z p1 = some r) : Met l yX0_countWithLiterals wsX0_countWithLiterals ({ frames := 2, cells := 0, slots := 0, locals := 41 }) (va_Pc [.ref (q 0), .int p1] (Pr D (gT cI cB cZ cO) (wC cI q z))) (Qr (some (.int r))) 0 0 (fun _ => False) := by
  unfold fX0_countWithLiterals at hf
  refine metR (ret := (some .int)) (own := RX0) rfl (by decide) rfl (Nat.le_of_ble_eq_true rfl) (fun p e s m args below meth c ls hx hb hr hml hown hlocks hts hP hK hl => ?_)
  have k34 := (hts (.fieldLink RX0 34 "ResolutionProver$Clauses" "count" "I") (List.mem_of_getElem? (i := 1) rfl))
  have hiX0 : ∀ w ∈ wsX00, w ∈ wsX0_countWithLiterals := (memIn_p [16, 17, 18, 19, 20, 21, 22, 23] rfl)
  have hl : lv_has ls 4 [(0, .ref (q 0)), (1, .int p1)] := hl
  refine lv_iconst (v := 0) hx hb dX0_countWithLiterals_0 (by decide) ?_
  refine lv_istore_n (lv' := [(2, .int (0 : Int32)), (0, .ref (q 0)), (1, .int p1)]) hx hb dX0_countWithLiterals_1 rfl hl (by decide) rfl (fun ls hl => ?_)
  refine lv_iconst (v := 0) hx hb dX0_countWithLiterals_2 (by decide) ?_
  refine lv_istore_n (lv' := [(3, .int (0 : Int32)), (2, .int (0 : Int32)), (0, .ref (q 0)), (1, .int p1)]) hx hb dX0_countWithLiterals_3 rfl hl (by decide) rfl (fun ls hl => ?_)
  obtain ⟨j30, ej30, hf⟩ := jn_ob hf
  have hp30 : ∀ (v2_30 : Int32) (ls : Array Slot), j30 v2_30 = some r → lv_has ls 4 [(2, .int v2_30)] → W p l e (headSpec wsX0_countWithLiterals { frames := 2, cells := 0, slots := 0, locals := 41 }).room s m args below meth c s.heap [] 0 0 (MQ below (Qr (some (.int r))) args s 0 0 (fun _ => False)) (F0 m 30 ls []) := by
    intro v2_30 ls hf hl
    rw [ej30] at hf
    refine lv_iload_n hx hb dX0_countWithLiterals_30 rfl (lv_at hl 0 rfl) ?_
    exact rR_i hx hb hr hlocks (so_ob hf) dX0_countWithLiterals_31
  have hL4 : ∀ (n_4 : Nat) (v2_4 : Int32) (v3_4 : Int32) (ls : Array Slot), lX0_countWithLiterals_4 fu z p1 j30 n_4 v2_4 v3_4 = some r → lv_has ls 4 [(0, .ref (q 0)), (1, .int p1), (2, .int v2_4), (3, .int v3_4)] → W p l e (headSpec wsX0_countWithLiterals { frames := 2, cells := 0, slots := 0, locals := 41 }).room s m args below meth c s.heap [] 0 0 (MQ below (Qr (some (.int r))) args s 0 0 (fun _ => False)) (F0 m 4 ls []) := by
    intro n_4
    induction n_4 with
    | zero =>
      intro v2_4 v3_4 ls hf
      exact no_ob hf
    | succ n_4 ih4 =>
      intro v2_4 v3_4 ls hf hl
      rw [lX0_countWithLiterals_4] at hf
      refine lv_iload_n hx hb dX0_countWithLiterals_4 rfl (lv_at hl 3 rfl) ?_
      refine lv_aload_n hx hb dX0_countWithLiterals_5 rfl (lv_at hl 0 rfl) ?_
      refine va_get (D := D) (ci := 0) (v := .int (z.1 7)) (C := RX0) (T := TX0) (N := 8) hx hb hts hiX0 hown hK hP 0 rfl rfl 7 (by decide) k34 (fun _ h9 => h9) rfl dX0_countWithLiterals_6 ?_
      refine lv_icmp_ge (tgt := 30) hx hb dX0_countWithLiterals_9 (by decide) (fun c_9 => ?_) (fun c_9 => ?_)
      · have hf := ip c_9 hf
        exact hp30 v2_4 _ hf (lv_sub hl [2] rfl)
      · have hf := iq c_9 hf
        refine lv_aload_n hx hb dX0_countWithLiterals_12 rfl (lv_at hl 0 rfl) ?_
        refine lv_iload_n hx hb dX0_countWithLiterals_13 rfl (lv_at hl 3 rfl) ?_
        obtain ⟨r_1, hc_2, hf⟩ := bd_ob hf
        refine rdV (As := [.int v3_4]) (rest := []) ⟨hx, hb, hml, hown, hts⟩ (mX0_literalsIn l D cI cB cZ cO q fu z v3_4 hc_2) (cwV 1 hts gX0_countWithLiterals_X0_literalsIn rfl rfl rfl (by decide +kernel) ⟨Nat.le_of_ble_eq_true rfl, Nat.le_of_ble_eq_true rfl⟩) hK hP (va_recv hK hP (ci := 0) (q0 := 0) rfl rfl) rfl hl.1 rfl (Nat.le_of_ble_eq_true rfl) dX0_countWithLiterals_14 ⟨Nat.zero_le _, Nat.zero_le _⟩ ?_
        refine lv_iload_n hx hb dX0_countWithLiterals_17 rfl (lv_at hl 1 rfl) ?_
        obtain ⟨j24, ej24, hf⟩ := jn_ob hf
        have hp24 : ∀ (v2_24 : Int32) (ls : Array Slot), j24 v2_24 = some r → lv_has ls 4 [(0, .ref (q 0)), (1, .int p1), (2, .int v2_24), (3, .int v3_4)] → W p l e (headSpec wsX0_countWithLiterals { frames := 2, cells := 0, slots := 0, locals := 41 }).room s m args below meth c s.heap [] 0 0 (MQ below (Qr (some (.int r))) args s 0 0 (fun _ => False)) (F0 m 24 ls []) := by
          intro v2_24 ls hf hl
          rw [ej24] at hf
          obtain ⟨v3_3, ev3_3, hf⟩ := nm_ob hf
          refine lv_iinc (v := v3_3) (lv' := [(3, .int v3_3), (0, .ref (q 0)), (1, .int p1), (2, .int v2_24)]) hx hb dX0_countWithLiterals_24 hl (k := 3) rfl (by rw [ev3_3]; rfl) (by decide) rfl (fun ls hl => ?_)
          refine lv_goto (tgt := 4) hx hb dX0_countWithLiterals_27 (by decide) ?_
          exact ih4 v2_24 v3_3 _ hf (lv_sub hl [1, 2, 3, 0] rfl)
        refine lv_icmp_ne (tgt := 24) hx hb dX0_countWithLiterals_18 (by decide) (fun c_18 => ?_) (fun c_18 => ?_)
        · have hf := ip c_18 hf
          exact hp24 v2_4 _ hf hl
        · have hf := iqn c_18 hf
          obtain ⟨v2_4, ev2_4, hf⟩ := nm_ob hf
          refine lv_iinc (v := v2_4) (lv' := [(2, .int v2_4), (0, .ref (q 0)), (1, .int p1), (3, .int v3_4)]) hx hb dX0_countWithLiterals_21 hl (k := 2) rfl (by rw [ev2_4]; rfl) (by decide) rfl (fun ls hl => ?_)
          exact hp24 v2_4 _ hf (lv_sub hl [1, 2, 0, 3] rfl)
  exact hL4 fu (0 : Int32) (0 : Int32) _ hf (lv_sub hl [2, 3, 1, 0] rfl)
def lX0_countHorn_4 (fu : Nat) (z : OS) (j34 : Int32 → Option (Int32)) : Nat → Int32 → Int32 → Option (Int32)
  | 0, _, _ => none
  | n_4 + 1, v1_4, v2_4 => (if (z.1 7) ≤ v2_4 then j34 v1_4 else gd (inB v2_4 60) (bd (fJ6_bitCount_0f7a4 fu (z.2 0 (v2_4).toNatClampNeg)) (fun (r_1 : Int32) => jn (κ := Int32 → Option (Int32)) (fun (v1_28 : Int32) => nm (v2_4 + (1 : Int32)) (fun (v2_3 : Int32) => lX0_countHorn_4 fu z j34 n_4 v1_28 v2_3)) (fun j28 => (if (1 : Int32) < r_1 then j28 v1_4 else nm (v1_4 + (1 : Int32)) (fun (v1_4 : Int32) => j28 v1_4))))))
def fX0_countHorn (fu : Nat) (z : OS) : Option (Int32) :=
  jn (κ := Int32 → Option (Int32)) (fun (v1_34 : Int32) => some v1_34) (fun j34 => lX0_countHorn_4 fu z j34 fu (0 : Int32) (0 : Int32))
set_option maxRecDepth 100000 in
set_option maxHeartbeats 4000000 in
theorem mX0_countHorn (l : Launch) (D : va_G) (cI cB cZ cO : ClassId) (q : Nat → Nat) (fu : Nat) (z : OS) {r : Int32} (hf : fX0_countHorn fu z = some r) : Met l yX0_countHorn wsX0_countHorn ({ frames := 1, cells := 0, slots := 0, locals := 20 }) (va_Pc [.ref (q 0)] (Pr D (gT cI cB cZ cO) (wC cI q z))) (Qr (some (.int r))) 0 0 (fun _ => False) := by
  unfold fX0_countHorn at hf
  refine metR (ret := (some .int)) (own := RX0) rfl (by decide) rfl (Nat.le_of_ble_eq_true rfl) (fun p e s m args below meth c ls hx hb hr hml hown hlocks hts hP hK hl => ?_)
  have k34 := (hts (.fieldLink RX0 34 "ResolutionProver$Clauses" "count" "I") (List.mem_of_getElem? (i := 1) rfl))
  have k9 := (hts (.fieldLink RX0 9 "ResolutionProver$Clauses" "positive" "[I") (List.mem_of_getElem? (i := 2) rfl))
  have hiX0 : ∀ w ∈ wsX00, w ∈ wsX0_countHorn := (memIn_p [10, 11, 12, 13, 14, 15, 16, 17] rfl)
  have hl : lv_has ls 3 [(0, .ref (q 0))] := hl
  refine lv_iconst (v := 0) hx hb dX0_countHorn_0 (by decide) ?_
  refine lv_istore_n (lv' := [(1, .int (0 : Int32)), (0, .ref (q 0))]) hx hb dX0_countHorn_1 rfl hl (by decide) rfl (fun ls hl => ?_)
  refine lv_iconst (v := 0) hx hb dX0_countHorn_2 (by decide) ?_
  refine lv_istore_n (lv' := [(2, .int (0 : Int32)), (1, .int (0 : Int32)), (0, .ref (q 0))]) hx hb dX0_countHorn_3 rfl hl (by decide) rfl (fun ls hl => ?_)
  obtain ⟨j34, ej34, hf⟩ := jn_ob hf
  have hp34 : ∀ (v1_34 : Int32) (ls : Array Slot), j34 v1_34 = some r → lv_has ls 3 [(1, .int v1_34)] → W p l e (headSpec wsX0_countHorn { frames := 1, cells := 0, slots := 0, locals := 20 }).room s m args below meth c s.heap [] 0 0 (MQ below (Qr (some (.int r))) args s 0 0 (fun _ => False)) (F0 m 34 ls []) := by
    intro v1_34 ls hf hl
    rw [ej34] at hf
    refine lv_iload_n hx hb dX0_countHorn_34 rfl (lv_at hl 0 rfl) ?_
    exact rR_i hx hb hr hlocks (so_ob hf) dX0_countHorn_35
  have hL4 : ∀ (n_4 : Nat) (v1_4 : Int32) (v2_4 : Int32) (ls : Array Slot), lX0_countHorn_4 fu z j34 n_4 v1_4 v2_4 = some r → lv_has ls 3 [(0, .ref (q 0)), (1, .int v1_4), (2, .int v2_4)] → W p l e (headSpec wsX0_countHorn { frames := 1, cells := 0, slots := 0, locals := 20 }).room s m args below meth c s.heap [] 0 0 (MQ below (Qr (some (.int r))) args s 0 0 (fun _ => False)) (F0 m 4 ls []) := by
    intro n_4
    induction n_4 with
    | zero =>
      intro v1_4 v2_4 ls hf
      exact no_ob hf
    | succ n_4 ih4 =>
      intro v1_4 v2_4 ls hf hl
      rw [lX0_countHorn_4] at hf
      refine lv_iload_n hx hb dX0_countHorn_4 rfl (lv_at hl 2 rfl) ?_
      refine lv_aload_n hx hb dX0_countHorn_5 rfl (lv_at hl 0 rfl) ?_
      refine va_get (D := D) (ci := 0) (v := .int (z.1 7)) (C := RX0) (T := TX0) (N := 8) hx hb hts hiX0 hown hK hP 0 rfl rfl 7 (by decide) k34 (fun _ h9 => h9) rfl dX0_countHorn_6 ?_
      refine lv_icmp_ge (tgt := 34) hx hb dX0_countHorn_9 (by decide) (fun c_9 => ?_) (fun c_9 => ?_)
      · have hf := ip c_9 hf
        exact hp34 v1_4 _ hf (lv_sub hl [1] rfl)
      · have hf := iq c_9 hf
        refine lv_aload_n hx hb dX0_countHorn_12 rfl (lv_at hl 0 rfl) ?_
        refine va_get (D := D) (ci := 0) (v := .ref (q 1)) (C := RX0) (T := TX0) (N := 8) hx hb hts hiX0 hown hK hP 0 rfl rfl 0 (by decide) k9 (fun _ h9 => h9) rfl dX0_countHorn_13 ?_
        refine lv_iload_n hx hb dX0_countHorn_16 rfl (lv_at hl 2 rfl) ?_
        obtain ⟨hi_, hf⟩ := gd_ob hf
        refine va_iald hx hb hK hP 1 0 rfl rfl (inB_in hi_) dX0_countHorn_17 ?_
        obtain ⟨r_1, hc_2, hf⟩ := bd_ob hf
        refine rdN (As := [.int (z.2 0 (v2_4).toNatClampNeg)]) (rest := []) ⟨hx, hb, hml, hown, hts⟩ (mJ6_bitCount_0f7a4 l D cI cB cZ cO fu (z.2 0 (v2_4).toNatClampNeg) hc_2) (va_cwS 1 hts gX0_countHorn_J6_bitCount_0f7a4 rfl rfl rfl (by decide +kernel) ⟨Nat.le_of_ble_eq_true rfl, Nat.le_of_ble_eq_true rfl⟩) rfl hl.1 rfl (Nat.le_of_ble_eq_true rfl) dX0_countHorn_18 ⟨Nat.zero_le _, Nat.zero_le _⟩ ?_
        refine lv_iconst (v := 1) hx hb dX0_countHorn_21 (by decide) ?_
        obtain ⟨j28, ej28, hf⟩ := jn_ob hf
        have hp28 : ∀ (v1_28 : Int32) (ls : Array Slot), j28 v1_28 = some r → lv_has ls 3 [(0, .ref (q 0)), (1, .int v1_28), (2, .int v2_4)] → W p l e (headSpec wsX0_countHorn { frames := 1, cells := 0, slots := 0, locals := 20 }).room s m args below meth c s.heap [] 0 0 (MQ below (Qr (some (.int r))) args s 0 0 (fun _ => False)) (F0 m 28 ls []) := by
          intro v1_28 ls hf hl
          rw [ej28] at hf
          obtain ⟨v2_3, ev2_3, hf⟩ := nm_ob hf
          refine lv_iinc (v := v2_3) (lv' := [(2, .int v2_3), (0, .ref (q 0)), (1, .int v1_28)]) hx hb dX0_countHorn_28 hl (k := 2) rfl (by rw [ev2_3]; rfl) (by decide) rfl (fun ls hl => ?_)
          refine lv_goto (tgt := 4) hx hb dX0_countHorn_31 (by decide) ?_
          exact ih4 v1_28 v2_3 _ hf (lv_sub hl [1, 2, 0] rfl)
        refine lv_icmp_gt (tgt := 28) hx hb dX0_countHorn_22 (by decide) (fun c_22 => ?_) (fun c_22 => ?_)
        · have hf := ip c_22 hf
          exact hp28 v1_4 _ hf hl
        · have hf := iq c_22 hf
          obtain ⟨v1_4, ev1_4, hf⟩ := nm_ob hf
          refine lv_iinc (v := v1_4) (lv' := [(1, .int v1_4), (0, .ref (q 0)), (2, .int v2_4)]) hx hb dX0_countHorn_25 hl (k := 1) rfl (by rw [ev1_4]; rfl) (by decide) rfl (fun ls hl => ?_)
          exact hp28 v1_4 _ hf (lv_sub hl [1, 0, 2] rfl)
  exact hL4 fu (0 : Int32) (0 : Int32) _ hf (lv_sub hl [2, 1, 0] rfl)
def lX0_countTouching_5 (z : OS) (p1 : Int32) (p2 : Int32) (j47 : Int32 → Option (Int32)) : Nat → Int32 → Int32 → Option (Int32)
  | 0, _, _ => none
  | n_5 + 1, v3_5, v4_5 => (if (z.1 7) ≤ v4_5 then j47 v3_5 else gd (inB v4_5 60) (jn (κ := Int32 → Option (Int32)) (fun (v3_41 : Int32) => nm (v4_5 + (1 : Int32)) (fun (v4_1 : Int32) => lX0_countTouching_5 z p1 p2 j47 n_5 v3_41 v4_1)) (fun j41 => jn (κ := Option (Int32)) (nm (v3_5 + (1 : Int32)) (fun (v3_2 : Int32) => j41 v3_2)) (fun j38 => (if ¬ ((z.2 0 (v4_5).toNatClampNeg) &&& p1) = (0 : Int32) then j38 else gd (inB v4_5 60) ((if ((z.2 1 (v4_5).toNatClampNeg) &&& p2) = (0 : Int32) then j41 v3_5 else j38)))))))
def fX0_countTouching (fu : Nat) (z : OS) (p1 : Int32) (p2 : Int32) : Option (Int32) :=
  jn (κ := Int32 → Option (Int32)) (fun (v3_47 : Int32) => some v3_47) (fun j47 => lX0_countTouching_5 z p1 p2 j47 fu (0 : Int32) (0 : Int32))
set_option maxRecDepth 100000 in
set_option maxHeartbeats 4000000 in
theorem mX0_countTouching (l : Launch) (D : va_G) (cI cB cZ cO : ClassId) (q : Nat → Nat) (fu : Nat) (z : OS) (p1 : Int32) (p2 : Int32) {r : Int32} (hf : fX0_countTouching fu z p1 p2 = some r) : Met l yX0_countTouching wsX0_countTouching ({ frames := 0, cells := 0, slots := 0, locals := 0 }) (va_Pc [.ref (q 0), .int p1, .int p2] (Pr D (gT cI cB cZ cO) (wC cI q z))) (Qr (some (.int r))) 0 0 (fun _ => False) := by
  unfold fX0_countTouching at hf
  refine metR (ret := (some .int)) (own := RX0) rfl (by decide) rfl (Nat.le_of_ble_eq_true rfl) (fun p e s m args below meth c ls hx hb hr hml hown hlocks hts hP hK hl => ?_)
  have k34 := (hts (.fieldLink RX0 34 "ResolutionProver$Clauses" "count" "I") (List.mem_of_getElem? (i := 1) rfl))
  have k9 := (hts (.fieldLink RX0 9 "ResolutionProver$Clauses" "positive" "[I") (List.mem_of_getElem? (i := 2) rfl))
  have k15 := (hts (.fieldLink RX0 15 "ResolutionProver$Clauses" "negative" "[I") (List.mem_of_getElem? (i := 3) rfl))
  have hiX0 : ∀ w ∈ wsX00, w ∈ wsX0_countTouching := (memIn_p [4, 5, 6, 7, 8, 9, 10, 11] rfl)
  have hl : lv_has ls 5 [(0, .ref (q 0)), (1, .int p1), (2, .int p2)] := hl
  refine lv_iconst (v := 0) hx hb dX0_countTouching_0 (by decide) ?_
  refine lv_istore_n (lv' := [(3, .int (0 : Int32)), (0, .ref (q 0)), (1, .int p1), (2, .int p2)]) hx hb dX0_countTouching_1 rfl hl (by decide) rfl (fun ls hl => ?_)
  refine lv_iconst (v := 0) hx hb dX0_countTouching_2 (by decide) ?_
  refine lv_istore (lv' := [(4, .int (0 : Int32)), (3, .int (0 : Int32)), (0, .ref (q 0)), (1, .int p1), (2, .int p2)]) hx hb dX0_countTouching_3 hl (by decide) rfl (fun ls hl => ?_)
  obtain ⟨j47, ej47, hf⟩ := jn_ob hf
  have hp47 : ∀ (v3_47 : Int32) (ls : Array Slot), j47 v3_47 = some r → lv_has ls 5 [(3, .int v3_47)] → W p l e (headSpec wsX0_countTouching { frames := 0, cells := 0, slots := 0, locals := 0 }).room s m args below meth c s.heap [] 0 0 (MQ below (Qr (some (.int r))) args s 0 0 (fun _ => False)) (F0 m 47 ls []) := by
    intro v3_47 ls hf hl
    rw [ej47] at hf
    refine lv_iload_n hx hb dX0_countTouching_47 rfl (lv_at hl 0 rfl) ?_
    exact rR_i hx hb hr hlocks (so_ob hf) dX0_countTouching_48
  have hL5 : ∀ (n_5 : Nat) (v3_5 : Int32) (v4_5 : Int32) (ls : Array Slot), lX0_countTouching_5 z p1 p2 j47 n_5 v3_5 v4_5 = some r → lv_has ls 5 [(0, .ref (q 0)), (1, .int p1), (2, .int p2), (3, .int v3_5), (4, .int v4_5)] → W p l e (headSpec wsX0_countTouching { frames := 0, cells := 0, slots := 0, locals := 0 }).room s m args below meth c s.heap [] 0 0 (MQ below (Qr (some (.int r))) args s 0 0 (fun _ => False)) (F0 m 5 ls []) := by
    intro n_5
    induction n_5 with
    | zero =>
      intro v3_5 v4_5 ls hf
      exact no_ob hf
    | succ n_5 ih5 =>
      intro v3_5 v4_5 ls hf hl
      rw [lX0_countTouching_5] at hf
      refine lv_iload hx hb dX0_countTouching_5 (lv_at hl 4 rfl) ?_
      refine lv_aload_n hx hb dX0_countTouching_7 rfl (lv_at hl 0 rfl) ?_
      refine va_get (D := D) (ci := 0) (v := .int (z.1 7)) (C := RX0) (T := TX0) (N := 8) hx hb hts hiX0 hown hK hP 0 rfl rfl 7 (by decide) k34 (fun _ h9 => h9) rfl dX0_countTouching_8 ?_
      refine lv_icmp_ge (tgt := 47) hx hb dX0_countTouching_11 (by decide) (fun c_11 => ?_) (fun c_11 => ?_)
      · have hf := ip c_11 hf
        exact hp47 v3_5 _ hf (lv_sub hl [3] rfl)
      · have hf := iq c_11 hf
        refine lv_aload_n hx hb dX0_countTouching_14 rfl (lv_at hl 0 rfl) ?_
        refine va_get (D := D) (ci := 0) (v := .ref (q 1)) (C := RX0) (T := TX0) (N := 8) hx hb hts hiX0 hown hK hP 0 rfl rfl 0 (by decide) k9 (fun _ h9 => h9) rfl dX0_countTouching_15 ?_
        refine lv_iload hx hb dX0_countTouching_18 (lv_at hl 4 rfl) ?_
        obtain ⟨hi_, hf⟩ := gd_ob hf
        refine va_iald hx hb hK hP 1 0 rfl rfl (inB_in hi_) dX0_countTouching_20 ?_
        refine lv_iload_n hx hb dX0_countTouching_21 rfl (lv_at hl 1 rfl) ?_
        refine lv_iand hx hb dX0_countTouching_22 ?_
        obtain ⟨j41, ej41, hf⟩ := jn_ob hf
        have hp41 : ∀ (v3_41 : Int32) (ls : Array Slot), j41 v3_41 = some r → lv_has ls 5 [(0, .ref (q 0)), (1, .int p1), (2, .int p2), (3, .int v3_41), (4, .int v4_5)] → W p l e (headSpec wsX0_countTouching { frames := 0, cells := 0, slots := 0, locals := 0 }).room s m args below meth c s.heap [] 0 0 (MQ below (Qr (some (.int r))) args s 0 0 (fun _ => False)) (F0 m 41 ls []) := by
          intro v3_41 ls hf hl
          rw [ej41] at hf
          obtain ⟨v4_1, ev4_1, hf⟩ := nm_ob hf
          refine lv_iinc (v := v4_1) (lv' := [(4, .int v4_1), (0, .ref (q 0)), (1, .int p1), (2, .int p2), (3, .int v3_41)]) hx hb dX0_countTouching_41 hl (k := 4) rfl (by rw [ev4_1]; rfl) (by decide) rfl (fun ls hl => ?_)
          refine lv_goto (tgt := 5) hx hb dX0_countTouching_44 (by decide) ?_
          exact ih5 v3_41 v4_1 _ hf (lv_sub hl [1, 2, 3, 4, 0] rfl)
        obtain ⟨j38, ej38, hf⟩ := jn_ob hf
        have hp38 : ∀  (ls : Array Slot), j38 = some r → lv_has ls 5 [(0, .ref (q 0)), (1, .int p1), (2, .int p2), (3, .int v3_5), (4, .int v4_5)] → W p l e (headSpec wsX0_countTouching { frames := 0, cells := 0, slots := 0, locals := 0 }).room s m args below meth c s.heap [] 0 0 (MQ below (Qr (some (.int r))) args s 0 0 (fun _ => False)) (F0 m 38 ls []) := by
          intro ls hf hl
          rw [ej38] at hf
          obtain ⟨v3_2, ev3_2, hf⟩ := nm_ob hf
          refine lv_iinc (v := v3_2) (lv' := [(3, .int v3_2), (0, .ref (q 0)), (1, .int p1), (2, .int p2), (4, .int v4_5)]) hx hb dX0_countTouching_38 hl (k := 3) rfl (by rw [ev3_2]; rfl) (by decide) rfl (fun ls hl => ?_)
          exact hp41 v3_2 _ hf (lv_sub hl [1, 2, 3, 0, 4] rfl)
        refine lv_if_ne (tgt := 38) hx hb dX0_countTouching_23 (by decide) (fun c_23 => ?_) (fun c_23 => ?_)
        · have hf := ip c_23 hf
          exact hp38 _ hf hl
        · have hf := iqn c_23 hf
          refine lv_aload_n hx hb dX0_countTouching_26 rfl (lv_at hl 0 rfl) ?_
          refine va_get (D := D) (ci := 0) (v := .ref (q 2)) (C := RX0) (T := TX0) (N := 8) hx hb hts hiX0 hown hK hP 0 rfl rfl 1 (by decide) k15 (fun _ h9 => h9) rfl dX0_countTouching_27 ?_
          refine lv_iload hx hb dX0_countTouching_30 (lv_at hl 4 rfl) ?_
          obtain ⟨hi_, hf⟩ := gd_ob hf
          refine va_iald hx hb hK hP 2 0 rfl rfl (inB_in hi_) dX0_countTouching_32 ?_
          refine lv_iload_n hx hb dX0_countTouching_33 rfl (lv_at hl 2 rfl) ?_
          refine lv_iand hx hb dX0_countTouching_34 ?_
          refine lv_if_eq (tgt := 41) hx hb dX0_countTouching_35 (by decide) (fun c_35 => ?_) (fun c_35 => ?_)
          · have hf := ip c_35 hf
            exact hp41 v3_5 _ hf hl
          · have hf := iq c_35 hf
            exact hp38 _ hf hl
  exact hL5 fu (0 : Int32) (0 : Int32) _ hf (lv_sub hl [2, 3, 4, 1, 0] rfl)
def lX0_firstOfMostClauses_6 (fu : Nat) (z : OS) (j43 : Int32 → Option (Int32)) : Nat → Int32 → Int32 → Int32 → Option (Int32)
  | 0, _, _, _ => none
  | n_6 + 1, v1_6, v2_6, v3_6 => (if (z.1 6) ≤ v3_6 then j43 v1_6 else bd (fX0_countTouching fu z ((1 : Int32) <<< (v3_6 &&& (31 : Int32))) ((1 : Int32) <<< (v3_6 &&& (31 : Int32)))) (fun (r_1 : Int32) => jn (κ := Int32 → Int32 → Option (Int32)) (fun (v1_37 : Int32) (v2_37 : Int32) => nm (v3_6 + (1 : Int32)) (fun (v3_3 : Int32) => lX0_firstOfMostClauses_6 fu z j43 n_6 v1_37 v2_37 v3_3)) (fun j37 => (if r_1 ≤ v2_6 then j37 v1_6 v2_6 else j37 v3_6 r_1))))
def fX0_firstOfMostClauses (fu : Nat) (z : OS) : Option (Int32) :=
  jn (κ := Int32 → Option (Int32)) (fun (v1_43 : Int32) => some v1_43) (fun j43 => lX0_firstOfMostClauses_6 fu z j43 fu (0 : Int32) (0 : Int32) (0 : Int32))
set_option maxRecDepth 100000 in
set_option maxHeartbeats 4000000 in
theorem mX0_firstOfMostClauses (l : Launch) (D : va_G) (cI cB cZ cO : ClassId) (q : Nat → Nat) (fu : Nat) (z : OS) {r : Int32} (hf : fX0_firstOfMostClauses fu z = some r) : Met l yX0_firstOfMostClauses wsX0_firstOfMostClauses ({ frames := 1, cells := 0, slots := 0, locals := 24 }) (va_Pc [.ref (q 0)] (Pr D (gT cI cB cZ cO) (wC cI q z))) (Qr (some (.int r))) 0 0 (fun _ => False) := by
  unfold fX0_firstOfMostClauses at hf
  refine metR (ret := (some .int)) (own := RX0) rfl (by decide) rfl (Nat.le_of_ble_eq_true rfl) (fun p e s m args below meth c ls hx hb hr hml hown hlocks hts hP hK hl => ?_)
  have k30 := (hts (.fieldLink RX0 30 "ResolutionProver$Clauses" "variables" "I") (List.mem_of_getElem? (i := 1) rfl))
  have hiX0 : ∀ w ∈ wsX00, w ∈ wsX0_firstOfMostClauses := (memIn_p [10, 11, 12, 13, 14, 15, 16, 17] rfl)
  have hl : lv_has ls 5 [(0, .ref (q 0))] := hl
  refine lv_iconst (v := 0) hx hb dX0_firstOfMostClauses_0 (by decide) ?_
  refine lv_istore_n (lv' := [(1, .int (0 : Int32)), (0, .ref (q 0))]) hx hb dX0_firstOfMostClauses_1 rfl hl (by decide) rfl (fun ls hl => ?_)
  refine lv_iconst (v := 0) hx hb dX0_firstOfMostClauses_2 (by decide) ?_
  refine lv_istore_n (lv' := [(2, .int (0 : Int32)), (1, .int (0 : Int32)), (0, .ref (q 0))]) hx hb dX0_firstOfMostClauses_3 rfl hl (by decide) rfl (fun ls hl => ?_)
  refine lv_iconst (v := 0) hx hb dX0_firstOfMostClauses_4 (by decide) ?_
  refine lv_istore_n (lv' := [(3, .int (0 : Int32)), (2, .int (0 : Int32)), (1, .int (0 : Int32)), (0, .ref (q 0))]) hx hb dX0_firstOfMostClauses_5 rfl hl (by decide) rfl (fun ls hl => ?_)
  obtain ⟨j43, ej43, hf⟩ := jn_ob hf
  have hp43 : ∀ (v1_43 : Int32) (ls : Array Slot), j43 v1_43 = some r → lv_has ls 5 [(1, .int v1_43)] → W p l e (headSpec wsX0_firstOfMostClauses { frames := 1, cells := 0, slots := 0, locals := 24 }).room s m args below meth c s.heap [] 0 0 (MQ below (Qr (some (.int r))) args s 0 0 (fun _ => False)) (F0 m 43 ls []) := by
    intro v1_43 ls hf hl
    rw [ej43] at hf
    refine lv_iload_n hx hb dX0_firstOfMostClauses_43 rfl (lv_at hl 0 rfl) ?_
    exact rR_i hx hb hr hlocks (so_ob hf) dX0_firstOfMostClauses_44
  have hL6 : ∀ (n_6 : Nat) (v1_6 : Int32) (v2_6 : Int32) (v3_6 : Int32) (ls : Array Slot), lX0_firstOfMostClauses_6 fu z j43 n_6 v1_6 v2_6 v3_6 = some r → lv_has ls 5 [(0, .ref (q 0)), (1, .int v1_6), (2, .int v2_6), (3, .int v3_6)] → W p l e (headSpec wsX0_firstOfMostClauses { frames := 1, cells := 0, slots := 0, locals := 24 }).room s m args below meth c s.heap [] 0 0 (MQ below (Qr (some (.int r))) args s 0 0 (fun _ => False)) (F0 m 6 ls []) := by
    intro n_6
    induction n_6 with
    | zero =>
      intro v1_6 v2_6 v3_6 ls hf
      exact no_ob hf
    | succ n_6 ih6 =>
      intro v1_6 v2_6 v3_6 ls hf hl
      rw [lX0_firstOfMostClauses_6] at hf
      refine lv_iload_n hx hb dX0_firstOfMostClauses_6 rfl (lv_at hl 3 rfl) ?_
      refine lv_aload_n hx hb dX0_firstOfMostClauses_7 rfl (lv_at hl 0 rfl) ?_
      refine va_get (D := D) (ci := 0) (v := .int (z.1 6)) (C := RX0) (T := TX0) (N := 8) hx hb hts hiX0 hown hK hP 0 rfl rfl 6 (by decide) k30 (fun _ h9 => h9) rfl dX0_firstOfMostClauses_8 ?_
      refine lv_icmp_ge (tgt := 43) hx hb dX0_firstOfMostClauses_11 (by decide) (fun c_11 => ?_) (fun c_11 => ?_)
      · have hf := ip c_11 hf
        exact hp43 v1_6 _ hf (lv_sub hl [1] rfl)
      · have hf := iq c_11 hf
        refine lv_aload_n hx hb dX0_firstOfMostClauses_14 rfl (lv_at hl 0 rfl) ?_
        refine lv_iconst (v := 1) hx hb dX0_firstOfMostClauses_15 (by decide) ?_
        refine lv_iload_n hx hb dX0_firstOfMostClauses_16 rfl (lv_at hl 3 rfl) ?_
        refine lv_ishl hx hb dX0_firstOfMostClauses_17 ?_
        refine lv_iconst (v := 1) hx hb dX0_firstOfMostClauses_18 (by decide) ?_
        refine lv_iload_n hx hb dX0_firstOfMostClauses_19 rfl (lv_at hl 3 rfl) ?_
        refine lv_ishl hx hb dX0_firstOfMostClauses_20 ?_
        obtain ⟨r_1, hc_2, hf⟩ := bd_ob hf
        refine rdV (As := [.int ((1 : Int32) <<< (v3_6 &&& (31 : Int32))), .int ((1 : Int32) <<< (v3_6 &&& (31 : Int32)))]) (rest := []) ⟨hx, hb, hml, hown, hts⟩ (mX0_countTouching l D cI cB cZ cO q fu z ((1 : Int32) <<< (v3_6 &&& (31 : Int32))) ((1 : Int32) <<< (v3_6 &&& (31 : Int32))) hc_2) (cwV 2 hts gX0_firstOfMostClauses_X0_countTouching rfl rfl rfl (by decide +kernel) ⟨Nat.le_of_ble_eq_true rfl, Nat.le_of_ble_eq_true rfl⟩) hK hP (va_recv hK hP (ci := 0) (q0 := 0) rfl rfl) rfl hl.1 rfl (Nat.le_of_ble_eq_true rfl) dX0_firstOfMostClauses_21 ⟨Nat.zero_le _, Nat.zero_le _⟩ ?_
        refine lv_istore (lv' := [(4, .int r_1), (0, .ref (q 0)), (1, .int v1_6), (2, .int v2_6), (3, .int v3_6)]) hx hb dX0_firstOfMostClauses_24 hl (by decide) rfl (fun ls hl => ?_)
        refine lv_iload hx hb dX0_firstOfMostClauses_26 (lv_at hl 0 rfl) ?_
        refine lv_iload_n hx hb dX0_firstOfMostClauses_28 rfl (lv_at hl 3 rfl) ?_
        obtain ⟨j37, ej37, hf⟩ := jn_ob hf
        have hp37 : ∀ (v1_37 : Int32) (v2_37 : Int32) (ls : Array Slot), j37 v1_37 v2_37 = some r → lv_has ls 5 [(0, .ref (q 0)), (1, .int v1_37), (2, .int v2_37), (3, .int v3_6)] → W p l e (headSpec wsX0_firstOfMostClauses { frames := 1, cells := 0, slots := 0, locals := 24 }).room s m args below meth c s.heap [] 0 0 (MQ below (Qr (some (.int r))) args s 0 0 (fun _ => False)) (F0 m 37 ls []) := by
          intro v1_37 v2_37 ls hf hl
          rw [ej37] at hf
          obtain ⟨v3_3, ev3_3, hf⟩ := nm_ob hf
          refine lv_iinc (v := v3_3) (lv' := [(3, .int v3_3), (0, .ref (q 0)), (1, .int v1_37), (2, .int v2_37)]) hx hb dX0_firstOfMostClauses_37 hl (k := 3) rfl (by rw [ev3_3]; rfl) (by decide) rfl (fun ls hl => ?_)
          refine lv_goto (tgt := 6) hx hb dX0_firstOfMostClauses_40 (by decide) ?_
          exact ih6 v1_37 v2_37 v3_3 _ hf (lv_sub hl [1, 2, 3, 0] rfl)
        refine lv_icmp_le (tgt := 37) hx hb dX0_firstOfMostClauses_29 (by decide) (fun c_29 => ?_) (fun c_29 => ?_)
        · have hf := ip c_29 hf
          exact hp37 v1_6 v2_6 _ hf (lv_sub hl [1, 2, 3, 4] rfl)
        · have hf := iq c_29 hf
          refine lv_iload_n hx hb dX0_firstOfMostClauses_32 rfl (lv_at hl 4 rfl) ?_
          refine lv_istore_n (lv' := [(1, .int v3_6), (4, .int r_1), (0, .ref (q 0)), (2, .int v2_6), (3, .int v3_6)]) hx hb dX0_firstOfMostClauses_33 rfl hl (by decide) rfl (fun ls hl => ?_)
          refine lv_iload hx hb dX0_firstOfMostClauses_34 (lv_at hl 1 rfl) ?_
          refine lv_istore_n (lv' := [(2, .int r_1), (1, .int v3_6), (4, .int r_1), (0, .ref (q 0)), (3, .int v3_6)]) hx hb dX0_firstOfMostClauses_36 rfl hl (by decide) rfl (fun ls hl => ?_)
          exact hp37 v3_6 r_1 _ hf (lv_sub hl [3, 1, 0, 4] rfl)
  exact hL6 fu (0 : Int32) (0 : Int32) (0 : Int32) _ hf (lv_sub hl [3, 2, 1, 0] rfl)
def lX0_allPositive_4 (z : OS) (j27 : Int32 → Option (Int32)) : Nat → Int32 → Int32 → Option (Int32)
  | 0, _, _ => none
  | n_4 + 1, v1_4, v2_4 => (if (z.1 7) ≤ v2_4 then j27 v1_4 else gd (inB v2_4 60) (nm (v1_4 ||| (z.2 0 (v2_4).toNatClampNeg)) (fun (v1_1 : Int32) => nm (v2_4 + (1 : Int32)) (fun (v2_2 : Int32) => lX0_allPositive_4 z j27 n_4 v1_1 v2_2))))
def fX0_allPositive (fu : Nat) (z : OS) : Option (Int32) :=
  jn (κ := Int32 → Option (Int32)) (fun (v1_27 : Int32) => some v1_27) (fun j27 => lX0_allPositive_4 z j27 fu (0 : Int32) (0 : Int32))
set_option maxRecDepth 100000 in
set_option maxHeartbeats 4000000 in
theorem mX0_allPositive (l : Launch) (D : va_G) (cI cB cZ cO : ClassId) (q : Nat → Nat) (fu : Nat) (z : OS) {r : Int32} (hf : fX0_allPositive fu z = some r) : Met l yX0_allPositive wsX0_allPositive ({ frames := 0, cells := 0, slots := 0, locals := 0 }) (va_Pc [.ref (q 0)] (Pr D (gT cI cB cZ cO) (wC cI q z))) (Qr (some (.int r))) 0 0 (fun _ => False) := by
  unfold fX0_allPositive at hf
  refine metR (ret := (some .int)) (own := RX0) rfl (by decide) rfl (Nat.le_of_ble_eq_true rfl) (fun p e s m args below meth c ls hx hb hr hml hown hlocks hts hP hK hl => ?_)
  have k34 := (hts (.fieldLink RX0 34 "ResolutionProver$Clauses" "count" "I") (List.mem_of_getElem? (i := 1) rfl))
  have k9 := (hts (.fieldLink RX0 9 "ResolutionProver$Clauses" "positive" "[I") (List.mem_of_getElem? (i := 2) rfl))
  have hiX0 : ∀ w ∈ wsX00, w ∈ wsX0_allPositive := (memIn_p [3, 4, 5, 6, 7, 8, 9, 10] rfl)
  have hl : lv_has ls 3 [(0, .ref (q 0))] := hl
  refine lv_iconst (v := 0) hx hb dX0_allPositive_0 (by decide) ?_
  refine lv_istore_n (lv' := [(1, .int (0 : Int32)), (0, .ref (q 0))]) hx hb dX0_allPositive_1 rfl hl (by decide) rfl (fun ls hl => ?_)
  refine lv_iconst (v := 0) hx hb dX0_allPositive_2 (by decide) ?_
  refine lv_istore_n (lv' := [(2, .int (0 : Int32)), (1, .int (0 : Int32)), (0, .ref (q 0))]) hx hb dX0_allPositive_3 rfl hl (by decide) rfl (fun ls hl => ?_)
  obtain ⟨j27, ej27, hf⟩ := jn_ob hf
  have hp27 : ∀ (v1_27 : Int32) (ls : Array Slot), j27 v1_27 = some r → lv_has ls 3 [(1, .int v1_27)] → W p l e (headSpec wsX0_allPositive { frames := 0, cells := 0, slots := 0, locals := 0 }).room s m args below meth c s.heap [] 0 0 (MQ below (Qr (some (.int r))) args s 0 0 (fun _ => False)) (F0 m 27 ls []) := by
    intro v1_27 ls hf hl
    rw [ej27] at hf
    refine lv_iload_n hx hb dX0_allPositive_27 rfl (lv_at hl 0 rfl) ?_
    exact rR_i hx hb hr hlocks (so_ob hf) dX0_allPositive_28
  have hL4 : ∀ (n_4 : Nat) (v1_4 : Int32) (v2_4 : Int32) (ls : Array Slot), lX0_allPositive_4 z j27 n_4 v1_4 v2_4 = some r → lv_has ls 3 [(0, .ref (q 0)), (1, .int v1_4), (2, .int v2_4)] → W p l e (headSpec wsX0_allPositive { frames := 0, cells := 0, slots := 0, locals := 0 }).room s m args below meth c s.heap [] 0 0 (MQ below (Qr (some (.int r))) args s 0 0 (fun _ => False)) (F0 m 4 ls []) := by
    intro n_4
    induction n_4 with
    | zero =>
      intro v1_4 v2_4 ls hf
      exact no_ob hf
    | succ n_4 ih4 =>
      intro v1_4 v2_4 ls hf hl
      rw [lX0_allPositive_4] at hf
      refine lv_iload_n hx hb dX0_allPositive_4 rfl (lv_at hl 2 rfl) ?_
      refine lv_aload_n hx hb dX0_allPositive_5 rfl (lv_at hl 0 rfl) ?_
      refine va_get (D := D) (ci := 0) (v := .int (z.1 7)) (C := RX0) (T := TX0) (N := 8) hx hb hts hiX0 hown hK hP 0 rfl rfl 7 (by decide) k34 (fun _ h9 => h9) rfl dX0_allPositive_6 ?_
      refine lv_icmp_ge (tgt := 27) hx hb dX0_allPositive_9 (by decide) (fun c_9 => ?_) (fun c_9 => ?_)
      · have hf := ip c_9 hf
        exact hp27 v1_4 _ hf (lv_sub hl [1] rfl)
      · have hf := iq c_9 hf
        refine lv_iload_n hx hb dX0_allPositive_12 rfl (lv_at hl 1 rfl) ?_
        refine lv_aload_n hx hb dX0_allPositive_13 rfl (lv_at hl 0 rfl) ?_
        refine va_get (D := D) (ci := 0) (v := .ref (q 1)) (C := RX0) (T := TX0) (N := 8) hx hb hts hiX0 hown hK hP 0 rfl rfl 0 (by decide) k9 (fun _ h9 => h9) rfl dX0_allPositive_14 ?_
        refine lv_iload_n hx hb dX0_allPositive_17 rfl (lv_at hl 2 rfl) ?_
        obtain ⟨hi_, hf⟩ := gd_ob hf
        refine va_iald hx hb hK hP 1 0 rfl rfl (inB_in hi_) dX0_allPositive_18 ?_
        refine lv_ior hx hb dX0_allPositive_19 ?_
        obtain ⟨v1_1, ev1_1, hf⟩ := nm_ob hf
        refine lv_nmi ev1_1 ?_
        refine lv_istore_n (lv' := [(1, .int v1_1), (0, .ref (q 0)), (2, .int v2_4)]) hx hb dX0_allPositive_20 rfl hl (by decide) rfl (fun ls hl => ?_)
        obtain ⟨v2_2, ev2_2, hf⟩ := nm_ob hf
        refine lv_iinc (v := v2_2) (lv' := [(2, .int v2_2), (1, .int v1_1), (0, .ref (q 0))]) hx hb dX0_allPositive_21 hl (k := 2) rfl (by rw [ev2_2]; rfl) (by decide) rfl (fun ls hl => ?_)
        refine lv_goto (tgt := 4) hx hb dX0_allPositive_24 (by decide) ?_
        exact ih4 v1_1 v2_2 _ hf (lv_sub hl [2, 1, 0] rfl)
  exact hL4 fu (0 : Int32) (0 : Int32) _ hf (lv_sub hl [2, 1, 0] rfl)
def lX0_allNegative_4 (z : OS) (j27 : Int32 → Option (Int32)) : Nat → Int32 → Int32 → Option (Int32)
  | 0, _, _ => none
  | n_4 + 1, v1_4, v2_4 => (if (z.1 7) ≤ v2_4 then j27 v1_4 else gd (inB v2_4 60) (nm (v1_4 ||| (z.2 1 (v2_4).toNatClampNeg)) (fun (v1_1 : Int32) => nm (v2_4 + (1 : Int32)) (fun (v2_2 : Int32) => lX0_allNegative_4 z j27 n_4 v1_1 v2_2))))
def fX0_allNegative (fu : Nat) (z : OS) : Option (Int32) :=
  jn (κ := Int32 → Option (Int32)) (fun (v1_27 : Int32) => some v1_27) (fun j27 => lX0_allNegative_4 z j27 fu (0 : Int32) (0 : Int32))
set_option maxRecDepth 100000 in
set_option maxHeartbeats 4000000 in
theorem mX0_allNegative (l : Launch) (D : va_G) (cI cB cZ cO : ClassId) (q : Nat → Nat) (fu : Nat) (z : OS) {r : Int32} (hf : fX0_allNegative fu z = some r) : Met l yX0_allNegative wsX0_allNegative ({ frames := 0, cells := 0, slots := 0, locals := 0 }) (va_Pc [.ref (q 0)] (Pr D (gT cI cB cZ cO) (wC cI q z))) (Qr (some (.int r))) 0 0 (fun _ => False) := by
  unfold fX0_allNegative at hf
  refine metR (ret := (some .int)) (own := RX0) rfl (by decide) rfl (Nat.le_of_ble_eq_true rfl) (fun p e s m args below meth c ls hx hb hr hml hown hlocks hts hP hK hl => ?_)
  have k34 := (hts (.fieldLink RX0 34 "ResolutionProver$Clauses" "count" "I") (List.mem_of_getElem? (i := 1) rfl))
  have k15 := (hts (.fieldLink RX0 15 "ResolutionProver$Clauses" "negative" "[I") (List.mem_of_getElem? (i := 2) rfl))
  have hiX0 : ∀ w ∈ wsX00, w ∈ wsX0_allNegative := (memIn_p [3, 4, 5, 6, 7, 8, 9, 10] rfl)
  have hl : lv_has ls 3 [(0, .ref (q 0))] := hl
  refine lv_iconst (v := 0) hx hb dX0_allNegative_0 (by decide) ?_
  refine lv_istore_n (lv' := [(1, .int (0 : Int32)), (0, .ref (q 0))]) hx hb dX0_allNegative_1 rfl hl (by decide) rfl (fun ls hl => ?_)
  refine lv_iconst (v := 0) hx hb dX0_allNegative_2 (by decide) ?_
  refine lv_istore_n (lv' := [(2, .int (0 : Int32)), (1, .int (0 : Int32)), (0, .ref (q 0))]) hx hb dX0_allNegative_3 rfl hl (by decide) rfl (fun ls hl => ?_)
  obtain ⟨j27, ej27, hf⟩ := jn_ob hf
  have hp27 : ∀ (v1_27 : Int32) (ls : Array Slot), j27 v1_27 = some r → lv_has ls 3 [(1, .int v1_27)] → W p l e (headSpec wsX0_allNegative { frames := 0, cells := 0, slots := 0, locals := 0 }).room s m args below meth c s.heap [] 0 0 (MQ below (Qr (some (.int r))) args s 0 0 (fun _ => False)) (F0 m 27 ls []) := by
    intro v1_27 ls hf hl
    rw [ej27] at hf
    refine lv_iload_n hx hb dX0_allNegative_27 rfl (lv_at hl 0 rfl) ?_
    exact rR_i hx hb hr hlocks (so_ob hf) dX0_allNegative_28
  have hL4 : ∀ (n_4 : Nat) (v1_4 : Int32) (v2_4 : Int32) (ls : Array Slot), lX0_allNegative_4 z j27 n_4 v1_4 v2_4 = some r → lv_has ls 3 [(0, .ref (q 0)), (1, .int v1_4), (2, .int v2_4)] → W p l e (headSpec wsX0_allNegative { frames := 0, cells := 0, slots := 0, locals := 0 }).room s m args below meth c s.heap [] 0 0 (MQ below (Qr (some (.int r))) args s 0 0 (fun _ => False)) (F0 m 4 ls []) := by
    intro n_4
    induction n_4 with
    | zero =>
      intro v1_4 v2_4 ls hf
      exact no_ob hf
    | succ n_4 ih4 =>
      intro v1_4 v2_4 ls hf hl
      rw [lX0_allNegative_4] at hf
      refine lv_iload_n hx hb dX0_allNegative_4 rfl (lv_at hl 2 rfl) ?_
      refine lv_aload_n hx hb dX0_allNegative_5 rfl (lv_at hl 0 rfl) ?_
      refine va_get (D := D) (ci := 0) (v := .int (z.1 7)) (C := RX0) (T := TX0) (N := 8) hx hb hts hiX0 hown hK hP 0 rfl rfl 7 (by decide) k34 (fun _ h9 => h9) rfl dX0_allNegative_6 ?_
      refine lv_icmp_ge (tgt := 27) hx hb dX0_allNegative_9 (by decide) (fun c_9 => ?_) (fun c_9 => ?_)
      · have hf := ip c_9 hf
        exact hp27 v1_4 _ hf (lv_sub hl [1] rfl)
      · have hf := iq c_9 hf
        refine lv_iload_n hx hb dX0_allNegative_12 rfl (lv_at hl 1 rfl) ?_
        refine lv_aload_n hx hb dX0_allNegative_13 rfl (lv_at hl 0 rfl) ?_
        refine va_get (D := D) (ci := 0) (v := .ref (q 2)) (C := RX0) (T := TX0) (N := 8) hx hb hts hiX0 hown hK hP 0 rfl rfl 1 (by decide) k15 (fun _ h9 => h9) rfl dX0_allNegative_14 ?_
        refine lv_iload_n hx hb dX0_allNegative_17 rfl (lv_at hl 2 rfl) ?_
        obtain ⟨hi_, hf⟩ := gd_ob hf
        refine va_iald hx hb hK hP 2 0 rfl rfl (inB_in hi_) dX0_allNegative_18 ?_
        refine lv_ior hx hb dX0_allNegative_19 ?_
        obtain ⟨v1_1, ev1_1, hf⟩ := nm_ob hf
        refine lv_nmi ev1_1 ?_
        refine lv_istore_n (lv' := [(1, .int v1_1), (0, .ref (q 0)), (2, .int v2_4)]) hx hb dX0_allNegative_20 rfl hl (by decide) rfl (fun ls hl => ?_)
        obtain ⟨v2_2, ev2_2, hf⟩ := nm_ob hf
        refine lv_iinc (v := v2_2) (lv' := [(2, .int v2_2), (1, .int v1_1), (0, .ref (q 0))]) hx hb dX0_allNegative_21 hl (k := 2) rfl (by rw [ev2_2]; rfl) (by decide) rfl (fun ls hl => ?_)
        refine lv_goto (tgt := 4) hx hb dX0_allNegative_24 (by decide) ?_
        exact ih4 v1_1 v2_2 _ hf (lv_sub hl [2, 1, 0] rfl)
  exact hL4 fu (0 : Int32) (0 : Int32) _ hf (lv_sub hl [2, 1, 0] rfl)
def lX0_firstOfGreatestDepth_6 (z : OS) (j39 : Int32 → Option (Int32)) : Nat → Int32 → Int32 → Int32 → Option (Int32)
  | 0, _, _, _ => none
  | n_6 + 1, v1_6, v2_6, v3_6 => (if (z.1 7) ≤ v3_6 then j39 v1_6 else gd (inB v3_6 60) (jn (κ := Int32 → Int32 → Option (Int32)) (fun (v1_33 : Int32) (v2_33 : Int32) => nm (v3_6 + (1 : Int32)) (fun (v3_1 : Int32) => lX0_firstOfGreatestDepth_6 z j39 n_6 v1_33 v2_33 v3_1)) (fun j33 => (if (z.2 5 (v3_6).toNatClampNeg) ≤ v2_6 then j33 v1_6 v2_6 else gd (inB v3_6 60) (nm (z.2 5 (v3_6).toNatClampNeg) (fun (v2_2 : Int32) => j33 v3_6 v2_2))))))
def fX0_firstOfGreatestDepth (fu : Nat) (z : OS) : Option (Int32) :=
  jn (κ := Int32 → Option (Int32)) (fun (v1_39 : Int32) => some v1_39) (fun j39 => lX0_firstOfGreatestDepth_6 z j39 fu (-1 : Int32) (-1 : Int32) (0 : Int32))
set_option maxRecDepth 100000 in
set_option maxHeartbeats 4000000 in
theorem mX0_firstOfGreatestDepth (l : Launch) (D : va_G) (cI cB cZ cO : ClassId) (q : Nat → Nat) (fu : Nat) (z : OS) {r : Int32} (hf : fX0_firstOfGreatestDepth fu z = some r) : Met l yX0_firstOfGreatestDepth wsX0_firstOfGreatestDepth ({ frames := 0, cells := 0, slots := 0, locals := 0 }) (va_Pc [.ref (q 0)] (Pr D (gT cI cB cZ cO) (wC cI q z))) (Qr (some (.int r))) 0 0 (fun _ => False) := by
  unfold fX0_firstOfGreatestDepth at hf
  refine metR (ret := (some .int)) (own := RX0) rfl (by decide) rfl (Nat.le_of_ble_eq_true rfl) (fun p e s m args below meth c ls hx hb hr hml hown hlocks hts hP hK hl => ?_)
  have k34 := (hts (.fieldLink RX0 34 "ResolutionProver$Clauses" "count" "I") (List.mem_of_getElem? (i := 1) rfl))
  have k27 := (hts (.fieldLink RX0 27 "ResolutionProver$Clauses" "depth" "[I") (List.mem_of_getElem? (i := 2) rfl))
  have hiX0 : ∀ w ∈ wsX00, w ∈ wsX0_firstOfGreatestDepth := (memIn_p [3, 4, 5, 6, 7, 8, 9, 10] rfl)
  have hl : lv_has ls 4 [(0, .ref (q 0))] := hl
  refine lv_iconst (v := (-1)) hx hb dX0_firstOfGreatestDepth_0 (by decide) ?_
  refine lv_istore_n (lv' := [(1, .int (-1 : Int32)), (0, .ref (q 0))]) hx hb dX0_firstOfGreatestDepth_1 rfl hl (by decide) rfl (fun ls hl => ?_)
  refine lv_iconst (v := (-1)) hx hb dX0_firstOfGreatestDepth_2 (by decide) ?_
  refine lv_istore_n (lv' := [(2, .int (-1 : Int32)), (1, .int (-1 : Int32)), (0, .ref (q 0))]) hx hb dX0_firstOfGreatestDepth_3 rfl hl (by decide) rfl (fun ls hl => ?_)
  refine lv_iconst (v := 0) hx hb dX0_firstOfGreatestDepth_4 (by decide) ?_
  refine lv_istore_n (lv' := [(3, .int (0 : Int32)), (2, .int (-1 : Int32)), (1, .int (-1 : Int32)), (0, .ref (q 0))]) hx hb dX0_firstOfGreatestDepth_5 rfl hl (by decide) rfl (fun ls hl => ?_)
  obtain ⟨j39, ej39, hf⟩ := jn_ob hf
  have hp39 : ∀ (v1_39 : Int32) (ls : Array Slot), j39 v1_39 = some r → lv_has ls 4 [(1, .int v1_39)] → W p l e (headSpec wsX0_firstOfGreatestDepth { frames := 0, cells := 0, slots := 0, locals := 0 }).room s m args below meth c s.heap [] 0 0 (MQ below (Qr (some (.int r))) args s 0 0 (fun _ => False)) (F0 m 39 ls []) := by
    intro v1_39 ls hf hl
    rw [ej39] at hf
    refine lv_iload_n hx hb dX0_firstOfGreatestDepth_39 rfl (lv_at hl 0 rfl) ?_
    exact rR_i hx hb hr hlocks (so_ob hf) dX0_firstOfGreatestDepth_40
  have hL6 : ∀ (n_6 : Nat) (v1_6 : Int32) (v2_6 : Int32) (v3_6 : Int32) (ls : Array Slot), lX0_firstOfGreatestDepth_6 z j39 n_6 v1_6 v2_6 v3_6 = some r → lv_has ls 4 [(0, .ref (q 0)), (1, .int v1_6), (2, .int v2_6), (3, .int v3_6)] → W p l e (headSpec wsX0_firstOfGreatestDepth { frames := 0, cells := 0, slots := 0, locals := 0 }).room s m args below meth c s.heap [] 0 0 (MQ below (Qr (some (.int r))) args s 0 0 (fun _ => False)) (F0 m 6 ls []) := by
    intro n_6
    induction n_6 with
    | zero =>
      intro v1_6 v2_6 v3_6 ls hf
      exact no_ob hf
    | succ n_6 ih6 =>
      intro v1_6 v2_6 v3_6 ls hf hl
      rw [lX0_firstOfGreatestDepth_6] at hf
      refine lv_iload_n hx hb dX0_firstOfGreatestDepth_6 rfl (lv_at hl 3 rfl) ?_
      refine lv_aload_n hx hb dX0_firstOfGreatestDepth_7 rfl (lv_at hl 0 rfl) ?_
      refine va_get (D := D) (ci := 0) (v := .int (z.1 7)) (C := RX0) (T := TX0) (N := 8) hx hb hts hiX0 hown hK hP 0 rfl rfl 7 (by decide) k34 (fun _ h9 => h9) rfl dX0_firstOfGreatestDepth_8 ?_
      refine lv_icmp_ge (tgt := 39) hx hb dX0_firstOfGreatestDepth_11 (by decide) (fun c_11 => ?_) (fun c_11 => ?_)
      · have hf := ip c_11 hf
        exact hp39 v1_6 _ hf (lv_sub hl [1] rfl)
      · have hf := iq c_11 hf
        refine lv_aload_n hx hb dX0_firstOfGreatestDepth_14 rfl (lv_at hl 0 rfl) ?_
        refine va_get (D := D) (ci := 0) (v := .ref (q 6)) (C := RX0) (T := TX0) (N := 8) hx hb hts hiX0 hown hK hP 0 rfl rfl 5 (by decide) k27 (fun _ h9 => h9) rfl dX0_firstOfGreatestDepth_15 ?_
        refine lv_iload_n hx hb dX0_firstOfGreatestDepth_18 rfl (lv_at hl 3 rfl) ?_
        obtain ⟨hi_, hf⟩ := gd_ob hf
        refine va_iald hx hb hK hP 6 0 rfl rfl (inB_in hi_) dX0_firstOfGreatestDepth_19 ?_
        refine lv_iload_n hx hb dX0_firstOfGreatestDepth_20 rfl (lv_at hl 2 rfl) ?_
        obtain ⟨j33, ej33, hf⟩ := jn_ob hf
        have hp33 : ∀ (v1_33 : Int32) (v2_33 : Int32) (ls : Array Slot), j33 v1_33 v2_33 = some r → lv_has ls 4 [(0, .ref (q 0)), (1, .int v1_33), (2, .int v2_33), (3, .int v3_6)] → W p l e (headSpec wsX0_firstOfGreatestDepth { frames := 0, cells := 0, slots := 0, locals := 0 }).room s m args below meth c s.heap [] 0 0 (MQ below (Qr (some (.int r))) args s 0 0 (fun _ => False)) (F0 m 33 ls []) := by
          intro v1_33 v2_33 ls hf hl
          rw [ej33] at hf
          obtain ⟨v3_1, ev3_1, hf⟩ := nm_ob hf
          refine lv_iinc (v := v3_1) (lv' := [(3, .int v3_1), (0, .ref (q 0)), (1, .int v1_33), (2, .int v2_33)]) hx hb dX0_firstOfGreatestDepth_33 hl (k := 3) rfl (by rw [ev3_1]; rfl) (by decide) rfl (fun ls hl => ?_)
          refine lv_goto (tgt := 6) hx hb dX0_firstOfGreatestDepth_36 (by decide) ?_
          exact ih6 v1_33 v2_33 v3_1 _ hf (lv_sub hl [1, 2, 3, 0] rfl)
        refine lv_icmp_le (tgt := 33) hx hb dX0_firstOfGreatestDepth_21 (by decide) (fun c_21 => ?_) (fun c_21 => ?_)
        · have hf := ip c_21 hf
          exact hp33 v1_6 v2_6 _ hf hl
        · have hf := iq c_21 hf
          refine lv_iload_n hx hb dX0_firstOfGreatestDepth_24 rfl (lv_at hl 3 rfl) ?_
          refine lv_istore_n (lv' := [(1, .int v3_6), (0, .ref (q 0)), (2, .int v2_6), (3, .int v3_6)]) hx hb dX0_firstOfGreatestDepth_25 rfl hl (by decide) rfl (fun ls hl => ?_)
          refine lv_aload_n hx hb dX0_firstOfGreatestDepth_26 rfl (lv_at hl 1 rfl) ?_
          refine va_get (D := D) (ci := 0) (v := .ref (q 6)) (C := RX0) (T := TX0) (N := 8) hx hb hts hiX0 hown hK hP 0 rfl rfl 5 (by decide) k27 (fun _ h9 => h9) rfl dX0_firstOfGreatestDepth_27 ?_
          refine lv_iload_n hx hb dX0_firstOfGreatestDepth_30 rfl (lv_at hl 3 rfl) ?_
          obtain ⟨hi_, hf⟩ := gd_ob hf
          refine va_iald hx hb hK hP 6 0 rfl rfl (inB_in hi_) dX0_firstOfGreatestDepth_31 ?_
          obtain ⟨v2_2, ev2_2, hf⟩ := nm_ob hf
          refine lv_nmi ev2_2 ?_
          refine lv_istore_n (lv' := [(2, .int v2_2), (1, .int v3_6), (0, .ref (q 0)), (3, .int v3_6)]) hx hb dX0_firstOfGreatestDepth_32 rfl hl (by decide) rfl (fun ls hl => ?_)
          exact hp33 v3_6 v2_2 _ hf (lv_sub hl [2, 1, 0, 3] rfl)
  exact hL6 fu (-1 : Int32) (-1 : Int32) (0 : Int32) _ hf (lv_sub hl [3, 2, 1, 0] rfl)
def lX0_givenMask_4 (z : OS) (j34 : Int64 → Option (Int64)) : Nat → Int64 → Int32 → Option (Int64)
  | 0, _, _ => none
  | n_4 + 1, v1_4, v3_4 => (if (z.1 7) ≤ v3_4 then j34 v1_4 else gd (inB v3_4 60) (jn (κ := Int64 → Option (Int64)) (fun (v1_28 : Int64) => nm (v3_4 + (1 : Int32)) (fun (v3_1 : Int32) => lX0_givenMask_4 z j34 n_4 v1_28 v3_1)) (fun j28 => (if ¬ (z.2 4 (v3_4).toNatClampNeg) = (-1 : Int32) then j28 v1_4 else nm (v1_4 ||| ((1 : Int64) <<< ((v3_4).toInt64 &&& (63 : Int64)))) (fun (v1_2 : Int64) => j28 v1_2)))))
def fX0_givenMask (fu : Nat) (z : OS) : Option (Int64) :=
  jn (κ := Int64 → Option (Int64)) (fun (v1_34 : Int64) => some v1_34) (fun j34 => lX0_givenMask_4 z j34 fu (0 : Int64) (0 : Int32))
set_option maxRecDepth 100000 in
set_option maxHeartbeats 4000000 in
theorem mX0_givenMask (l : Launch) (D : va_G) (cI cB cZ cO : ClassId) (q : Nat → Nat) (fu : Nat) (z : OS) {r : Int64} (hf : fX0_givenMask fu z = some r) : Met l yX0_givenMask wsX0_givenMask ({ frames := 0, cells := 0, slots := 0, locals := 0 }) (va_Pc [.ref (q 0)] (Pr D (gT cI cB cZ cO) (wC cI q z))) (Qr (some (.long r))) 0 0 (fun _ => False) := by
  unfold fX0_givenMask at hf
  refine metR (ret := (some .long)) (own := RX0) rfl (by decide) rfl (Nat.le_of_ble_eq_true rfl) (fun p e s m args below meth c ls hx hb hr hml hown hlocks hts hP hK hl => ?_)
  have k34 := (hts (.fieldLink RX0 34 "ResolutionProver$Clauses" "count" "I") (List.mem_of_getElem? (i := 1) rfl))
  have k24 := (hts (.fieldLink RX0 24 "ResolutionProver$Clauses" "pivot" "[I") (List.mem_of_getElem? (i := 2) rfl))
  have hiX0 : ∀ w ∈ wsX00, w ∈ wsX0_givenMask := (memIn_p [3, 4, 5, 6, 7, 8, 9, 10] rfl)
  have hl : lv_has ls 4 [(0, .ref (q 0))] := hl
  refine lv_lconst (v := 0) hx hb dX0_givenMask_0 (by decide) ?_
  refine lv_lstore_n (lv' := [(1, .long (0 : Int64)), (0, .ref (q 0))]) hx hb dX0_givenMask_1 rfl hl (by decide) rfl (fun ls hl => ?_)
  refine lv_iconst (v := 0) hx hb dX0_givenMask_2 (by decide) ?_
  refine lv_istore_n (lv' := [(3, .int (0 : Int32)), (1, .long (0 : Int64)), (0, .ref (q 0))]) hx hb dX0_givenMask_3 rfl hl (by decide) rfl (fun ls hl => ?_)
  obtain ⟨j34, ej34, hf⟩ := jn_ob hf
  have hp34 : ∀ (v1_34 : Int64) (ls : Array Slot), j34 v1_34 = some r → lv_has ls 4 [(1, .long v1_34)] → W p l e (headSpec wsX0_givenMask { frames := 0, cells := 0, slots := 0, locals := 0 }).room s m args below meth c s.heap [] 0 0 (MQ below (Qr (some (.long r))) args s 0 0 (fun _ => False)) (F0 m 34 ls []) := by
    intro v1_34 ls hf hl
    rw [ej34] at hf
    refine lv_lload_n hx hb dX0_givenMask_34 rfl (lv_at hl 0 rfl) ?_
    exact rR_l hx hb hr hlocks (so_ob hf) dX0_givenMask_35
  have hL4 : ∀ (n_4 : Nat) (v1_4 : Int64) (v3_4 : Int32) (ls : Array Slot), lX0_givenMask_4 z j34 n_4 v1_4 v3_4 = some r → lv_has ls 4 [(0, .ref (q 0)), (1, .long v1_4), (3, .int v3_4)] → W p l e (headSpec wsX0_givenMask { frames := 0, cells := 0, slots := 0, locals := 0 }).room s m args below meth c s.heap [] 0 0 (MQ below (Qr (some (.long r))) args s 0 0 (fun _ => False)) (F0 m 4 ls []) := by
    intro n_4
    induction n_4 with
    | zero =>
      intro v1_4 v3_4 ls hf
      exact no_ob hf
    | succ n_4 ih4 =>
      intro v1_4 v3_4 ls hf hl
      rw [lX0_givenMask_4] at hf
      refine lv_iload_n hx hb dX0_givenMask_4 rfl (lv_at hl 2 rfl) ?_
      refine lv_aload_n hx hb dX0_givenMask_5 rfl (lv_at hl 0 rfl) ?_
      refine va_get (D := D) (ci := 0) (v := .int (z.1 7)) (C := RX0) (T := TX0) (N := 8) hx hb hts hiX0 hown hK hP 0 rfl rfl 7 (by decide) k34 (fun _ h9 => h9) rfl dX0_givenMask_6 ?_
      refine lv_icmp_ge (tgt := 34) hx hb dX0_givenMask_9 (by decide) (fun c_9 => ?_) (fun c_9 => ?_)
      · have hf := ip c_9 hf
        exact hp34 v1_4 _ hf (lv_sub hl [1] rfl)
      · have hf := iq c_9 hf
        refine lv_aload_n hx hb dX0_givenMask_12 rfl (lv_at hl 0 rfl) ?_
        refine va_get (D := D) (ci := 0) (v := .ref (q 5)) (C := RX0) (T := TX0) (N := 8) hx hb hts hiX0 hown hK hP 0 rfl rfl 4 (by decide) k24 (fun _ h9 => h9) rfl dX0_givenMask_13 ?_
        refine lv_iload_n hx hb dX0_givenMask_16 rfl (lv_at hl 2 rfl) ?_
        obtain ⟨hi_, hf⟩ := gd_ob hf
        refine va_iald hx hb hK hP 5 0 rfl rfl (inB_in hi_) dX0_givenMask_17 ?_
        refine lv_iconst (v := (-1)) hx hb dX0_givenMask_18 (by decide) ?_
        obtain ⟨j28, ej28, hf⟩ := jn_ob hf
        have hp28 : ∀ (v1_28 : Int64) (ls : Array Slot), j28 v1_28 = some r → lv_has ls 4 [(0, .ref (q 0)), (1, .long v1_28), (3, .int v3_4)] → W p l e (headSpec wsX0_givenMask { frames := 0, cells := 0, slots := 0, locals := 0 }).room s m args below meth c s.heap [] 0 0 (MQ below (Qr (some (.long r))) args s 0 0 (fun _ => False)) (F0 m 28 ls []) := by
          intro v1_28 ls hf hl
          rw [ej28] at hf
          obtain ⟨v3_1, ev3_1, hf⟩ := nm_ob hf
          refine lv_iinc (v := v3_1) (lv' := [(3, .int v3_1), (0, .ref (q 0)), (1, .long v1_28)]) hx hb dX0_givenMask_28 hl (k := 2) rfl (by rw [ev3_1]; rfl) (by decide) rfl (fun ls hl => ?_)
          refine lv_goto (tgt := 4) hx hb dX0_givenMask_31 (by decide) ?_
          exact ih4 v1_28 v3_1 _ hf (lv_sub hl [1, 2, 0] rfl)
        refine lv_icmp_ne (tgt := 28) hx hb dX0_givenMask_19 (by decide) (fun c_19 => ?_) (fun c_19 => ?_)
        · have hf := ip c_19 hf
          exact hp28 v1_4 _ hf hl
        · have hf := iqn c_19 hf
          refine lv_lload_n hx hb dX0_givenMask_22 rfl (lv_at hl 1 rfl) ?_
          refine lv_lconst (v := 1) hx hb dX0_givenMask_23 (by decide) ?_
          refine lv_iload_n hx hb dX0_givenMask_24 rfl (lv_at hl 2 rfl) ?_
          refine lv_lshl hx hb dX0_givenMask_25 rfl ?_
          refine lv_lor hx hb dX0_givenMask_26 ?_
          obtain ⟨v1_2, ev1_2, hf⟩ := nm_ob hf
          refine lv_nml ev1_2 ?_
          refine lv_lstore_n (lv' := [(1, .long v1_2), (0, .ref (q 0)), (3, .int v3_4)]) hx hb dX0_givenMask_27 rfl hl (by decide) rfl (fun ls hl => ?_)
          exact hp28 v1_2 _ hf (lv_sub hl [1, 0, 2] rfl)
  exact hL4 fu (0 : Int64) (0 : Int32) _ hf (lv_sub hl [2, 1, 0] rfl)
def lX0_derivationMask_7 (z : OS) (j62 : Int64 → Option (Int64)) : Nat → Int64 → Int32 → Option (Int64)
  | 0, _, _ => none
  | n_7 + 1, v2_7, v4_7 => (if v4_7 < (0 : Int32) then j62 v2_7 else jn (κ := Int64 → Option (Int64)) (fun (v2_56 : Int64) => nm (v4_7 + (-1 : Int32)) (fun (v4_2 : Int32) => lX0_derivationMask_7 z j62 n_7 v2_56 v4_2)) (fun j56 => (if (lg_cmp ((v2_7 >>> ((v4_7).toInt64 &&& (63 : Int64))) &&& (1 : Int64)) (0 : Int64)) = (0 : Int32) then j56 v2_7 else gd (inB v4_7 60) ((if (z.2 4 (v4_7).toNatClampNeg) = (-1 : Int32) then j56 v2_7 else gd (inB v4_7 60) (gd (inB v4_7 60) (nm (v2_7 ||| (((1 : Int64) <<< (((z.2 2 (v4_7).toNatClampNeg)).toInt64 &&& (63 : Int64))) ||| ((1 : Int64) <<< (((z.2 3 (v4_7).toNatClampNeg)).toInt64 &&& (63 : Int64))))) (fun (v2_3 : Int64) => j56 v2_3))))))))
def fX0_derivationMask (fu : Nat) (z : OS) (p1 : Int32) : Option (Int64) :=
  nm ((1 : Int64) <<< ((p1).toInt64 &&& (63 : Int64))) (fun (v2_1 : Int64) => jn (κ := Int64 → Option (Int64)) (fun (v2_62 : Int64) => some v2_62) (fun j62 => lX0_derivationMask_7 z j62 fu v2_1 p1))
set_option maxRecDepth 100000 in
set_option maxHeartbeats 4000000 in
theorem mX0_derivationMask (l : Launch) (D : va_G) (cI cB cZ cO : ClassId) (q : Nat → Nat) (fu : Nat) (z : OS) (p1 : Int32) {r : Int64} (hf : fX0_derivationMask fu z p1 = some r) : Met l yX0_derivationMask wsX0_derivationMask ({ frames := 0, cells := 0, slots := 0, locals := 0 }) (va_Pc [.ref (q 0), .int p1] (Pr D (gT cI cB cZ cO) (wC cI q z))) (Qr (some (.long r))) 0 0 (fun _ => False) := by
  unfold fX0_derivationMask at hf
  refine metR (ret := (some .long)) (own := RX0) rfl (by decide) rfl (Nat.le_of_ble_eq_true rfl) (fun p e s m args below meth c ls hx hb hr hml hown hlocks hts hP hK hl => ?_)
  have k24 := (hts (.fieldLink RX0 24 "ResolutionProver$Clauses" "pivot" "[I") (List.mem_of_getElem? (i := 1) rfl))
  have k18 := (hts (.fieldLink RX0 18 "ResolutionProver$Clauses" "parentWith" "[I") (List.mem_of_getElem? (i := 2) rfl))
  have k21 := (hts (.fieldLink RX0 21 "ResolutionProver$Clauses" "parentWithout" "[I") (List.mem_of_getElem? (i := 3) rfl))
  have hiX0 : ∀ w ∈ wsX00, w ∈ wsX0_derivationMask := (memIn_p [4, 5, 6, 7, 8, 9, 10, 11] rfl)
  have hl : lv_has ls 5 [(0, .ref (q 0)), (1, .int p1)] := hl
  refine lv_lconst (v := 1) hx hb dX0_derivationMask_0 (by decide) ?_
  refine lv_iload_n hx hb dX0_derivationMask_1 rfl (lv_at hl 1 rfl) ?_
  refine lv_lshl hx hb dX0_derivationMask_2 rfl ?_
  obtain ⟨v2_1, ev2_1, hf⟩ := nm_ob hf
  refine lv_nml ev2_1 ?_
  refine lv_lstore_n (lv' := [(2, .long v2_1), (0, .ref (q 0)), (1, .int p1)]) hx hb dX0_derivationMask_3 rfl hl (by decide) rfl (fun ls hl => ?_)
  refine lv_iload_n hx hb dX0_derivationMask_4 rfl (lv_at hl 2 rfl) ?_
  refine lv_istore (lv' := [(4, .int p1), (2, .long v2_1), (0, .ref (q 0)), (1, .int p1)]) hx hb dX0_derivationMask_5 hl (by decide) rfl (fun ls hl => ?_)
  obtain ⟨j62, ej62, hf⟩ := jn_ob hf
  have hp62 : ∀ (v2_62 : Int64) (ls : Array Slot), j62 v2_62 = some r → lv_has ls 5 [(2, .long v2_62)] → W p l e (headSpec wsX0_derivationMask { frames := 0, cells := 0, slots := 0, locals := 0 }).room s m args below meth c s.heap [] 0 0 (MQ below (Qr (some (.long r))) args s 0 0 (fun _ => False)) (F0 m 62 ls []) := by
    intro v2_62 ls hf hl
    rw [ej62] at hf
    refine lv_lload_n hx hb dX0_derivationMask_62 rfl (lv_at hl 0 rfl) ?_
    exact rR_l hx hb hr hlocks (so_ob hf) dX0_derivationMask_63
  have hL7 : ∀ (n_7 : Nat) (v2_7 : Int64) (v4_7 : Int32) (ls : Array Slot), lX0_derivationMask_7 z j62 n_7 v2_7 v4_7 = some r → lv_has ls 5 [(0, .ref (q 0)), (2, .long v2_7), (4, .int v4_7)] → W p l e (headSpec wsX0_derivationMask { frames := 0, cells := 0, slots := 0, locals := 0 }).room s m args below meth c s.heap [] 0 0 (MQ below (Qr (some (.long r))) args s 0 0 (fun _ => False)) (F0 m 7 ls []) := by
    intro n_7
    induction n_7 with
    | zero =>
      intro v2_7 v4_7 ls hf
      exact no_ob hf
    | succ n_7 ih7 =>
      intro v2_7 v4_7 ls hf hl
      rw [lX0_derivationMask_7] at hf
      refine lv_iload hx hb dX0_derivationMask_7 (lv_at hl 2 rfl) ?_
      refine lv_if_lt (tgt := 62) hx hb dX0_derivationMask_9 (by decide) (fun c_9 => ?_) (fun c_9 => ?_)
      · have hf := ip c_9 hf
        exact hp62 v2_7 _ hf (lv_sub hl [1] rfl)
      · have hf := iq c_9 hf
        refine lv_lload_n hx hb dX0_derivationMask_12 rfl (lv_at hl 1 rfl) ?_
        refine lv_iload hx hb dX0_derivationMask_13 (lv_at hl 2 rfl) ?_
        refine lv_lshr hx hb dX0_derivationMask_15 rfl ?_
        refine lv_lconst (v := 1) hx hb dX0_derivationMask_16 (by decide) ?_
        refine lv_land hx hb dX0_derivationMask_17 ?_
        refine lv_lconst (v := 0) hx hb dX0_derivationMask_18 (by decide) ?_
        refine W.lcmp hx hb dX0_derivationMask_19 ?_
        obtain ⟨j56, ej56, hf⟩ := jn_ob hf
        have hp56 : ∀ (v2_56 : Int64) (ls : Array Slot), j56 v2_56 = some r → lv_has ls 5 [(0, .ref (q 0)), (2, .long v2_56), (4, .int v4_7)] → W p l e (headSpec wsX0_derivationMask { frames := 0, cells := 0, slots := 0, locals := 0 }).room s m args below meth c s.heap [] 0 0 (MQ below (Qr (some (.long r))) args s 0 0 (fun _ => False)) (F0 m 56 ls []) := by
          intro v2_56 ls hf hl
          rw [ej56] at hf
          obtain ⟨v4_2, ev4_2, hf⟩ := nm_ob hf
          refine lv_iinc (v := v4_2) (lv' := [(4, .int v4_2), (0, .ref (q 0)), (2, .long v2_56)]) hx hb dX0_derivationMask_56 hl (k := 2) rfl (by rw [ev4_2]; rfl) (by decide) rfl (fun ls hl => ?_)
          refine lv_goto (tgt := 7) hx hb dX0_derivationMask_59 (by decide) ?_
          exact ih7 v2_56 v4_2 _ hf (lv_sub hl [1, 2, 0] rfl)
        refine lv_if_eq (tgt := 56) hx hb dX0_derivationMask_20 (by decide) (fun c_20 => ?_) (fun c_20 => ?_)
        · have hf := ip c_20 hf
          exact hp56 v2_7 _ hf hl
        · have hf := iq c_20 hf
          refine lv_aload_n hx hb dX0_derivationMask_23 rfl (lv_at hl 0 rfl) ?_
          refine va_get (D := D) (ci := 0) (v := .ref (q 5)) (C := RX0) (T := TX0) (N := 8) hx hb hts hiX0 hown hK hP 0 rfl rfl 4 (by decide) k24 (fun _ h9 => h9) rfl dX0_derivationMask_24 ?_
          refine lv_iload hx hb dX0_derivationMask_27 (lv_at hl 2 rfl) ?_
          obtain ⟨hi_, hf⟩ := gd_ob hf
          refine va_iald hx hb hK hP 5 0 rfl rfl (inB_in hi_) dX0_derivationMask_29 ?_
          refine lv_iconst (v := (-1)) hx hb dX0_derivationMask_30 (by decide) ?_
          refine lv_icmp_eq (tgt := 56) hx hb dX0_derivationMask_31 (by decide) (fun c_31 => ?_) (fun c_31 => ?_)
          · have hf := ip c_31 hf
            exact hp56 v2_7 _ hf hl
          · have hf := iq c_31 hf
            refine lv_lload_n hx hb dX0_derivationMask_34 rfl (lv_at hl 1 rfl) ?_
            refine lv_lconst (v := 1) hx hb dX0_derivationMask_35 (by decide) ?_
            refine lv_aload_n hx hb dX0_derivationMask_36 rfl (lv_at hl 0 rfl) ?_
            refine va_get (D := D) (ci := 0) (v := .ref (q 3)) (C := RX0) (T := TX0) (N := 8) hx hb hts hiX0 hown hK hP 0 rfl rfl 2 (by decide) k18 (fun _ h9 => h9) rfl dX0_derivationMask_37 ?_
            refine lv_iload hx hb dX0_derivationMask_40 (lv_at hl 2 rfl) ?_
            obtain ⟨hi_, hf⟩ := gd_ob hf
            refine va_iald hx hb hK hP 3 0 rfl rfl (inB_in hi_) dX0_derivationMask_42 ?_
            refine lv_lshl hx hb dX0_derivationMask_43 rfl ?_
            refine lv_lconst (v := 1) hx hb dX0_derivationMask_44 (by decide) ?_
            refine lv_aload_n hx hb dX0_derivationMask_45 rfl (lv_at hl 0 rfl) ?_
            refine va_get (D := D) (ci := 0) (v := .ref (q 4)) (C := RX0) (T := TX0) (N := 8) hx hb hts hiX0 hown hK hP 0 rfl rfl 3 (by decide) k21 (fun _ h9 => h9) rfl dX0_derivationMask_46 ?_
            refine lv_iload hx hb dX0_derivationMask_49 (lv_at hl 2 rfl) ?_
            obtain ⟨hi_, hf⟩ := gd_ob hf
            refine va_iald hx hb hK hP 4 0 rfl rfl (inB_in hi_) dX0_derivationMask_51 ?_
            refine lv_lshl hx hb dX0_derivationMask_52 rfl ?_
            refine lv_lor hx hb dX0_derivationMask_53 ?_
            refine lv_lor hx hb dX0_derivationMask_54 ?_
            obtain ⟨v2_3, ev2_3, hf⟩ := nm_ob hf
            refine lv_nml ev2_3 ?_
            refine lv_lstore_n (lv' := [(2, .long v2_3), (0, .ref (q 0)), (4, .int v4_7)]) hx hb dX0_derivationMask_55 rfl hl (by decide) rfl (fun ls hl => ?_)
            exact hp56 v2_3 _ hf (lv_sub hl [1, 0, 2] rfl)
  exact hL7 fu v2_1 p1 _ hf (lv_sub hl [2, 1, 0] rfl)
def lX0_isParent_2 (z : OS) (p1 : Int32) (j38 : Option (Int32)) : Nat → Int32 → Option (Int32)
  | 0, _ => none
  | n_2 + 1, v2_2 => (if (z.1 7) ≤ v2_2 then j38 else gd (inB v2_2 60) ((if (z.2 2 (v2_2).toNatClampNeg) = p1 then gd (isZ (1 : Int32)) (some (1 : Int32)) else gd (inB v2_2 60) ((if ¬ (z.2 3 (v2_2).toNatClampNeg) = p1 then nm (v2_2 + (1 : Int32)) (fun (v2_1 : Int32) => lX0_isParent_2 z p1 j38 n_2 v2_1) else gd (isZ (1 : Int32)) (some (1 : Int32)))))))
def fX0_isParent (fu : Nat) (z : OS) (p1 : Int32) : Option (Int32) :=
  jn (κ := Option (Int32)) (gd (isZ (0 : Int32)) (some (0 : Int32))) (fun j38 => lX0_isParent_2 z p1 j38 fu (0 : Int32))
set_option maxRecDepth 100000 in
set_option maxHeartbeats 4000000 in
theorem mX0_isParent (l : Launch) (D : va_G) (cI cB cZ cO : ClassId) (q : Nat → Nat) (fu : Nat) (z : OS) (p1 : Int32) {r : Int32} (hf : fX0_isParent fu z p1 = some r) : Met l yX0_isParent wsX0_isParent ({ frames := 0, cells := 0, slots := 0, locals := 0 }) (va_Pc [.ref (q 0), .int p1] (Pr D (gT cI cB cZ cO) (wC cI q z))) (Qr (some (.int r))) 0 0 (fun _ => False) := by
  unfold fX0_isParent at hf
  refine metR (ret := (some .boolean)) (own := RX0) rfl (by decide) rfl (Nat.le_of_ble_eq_true rfl) (fun p e s m args below meth c ls hx hb hr hml hown hlocks hts hP hK hl => ?_)
  have k34 := (hts (.fieldLink RX0 34 "ResolutionProver$Clauses" "count" "I") (List.mem_of_getElem? (i := 1) rfl))
  have k18 := (hts (.fieldLink RX0 18 "ResolutionProver$Clauses" "parentWith" "[I") (List.mem_of_getElem? (i := 2) rfl))
  have k21 := (hts (.fieldLink RX0 21 "ResolutionProver$Clauses" "parentWithout" "[I") (List.mem_of_getElem? (i := 3) rfl))
  have hiX0 : ∀ w ∈ wsX00, w ∈ wsX0_isParent := (memIn_p [4, 5, 6, 7, 8, 9, 10, 11] rfl)
  have hl : lv_has ls 3 [(0, .ref (q 0)), (1, .int p1)] := hl
  refine lv_iconst (v := 0) hx hb dX0_isParent_0 (by decide) ?_
  refine lv_istore_n (lv' := [(2, .int (0 : Int32)), (0, .ref (q 0)), (1, .int p1)]) hx hb dX0_isParent_1 rfl hl (by decide) rfl (fun ls hl => ?_)
  obtain ⟨j38, ej38, hf⟩ := jn_ob hf
  have hp38 : ∀  (ls : Array Slot), j38 = some r → lv_has ls 3 [] → W p l e (headSpec wsX0_isParent { frames := 0, cells := 0, slots := 0, locals := 0 }).room s m args below meth c s.heap [] 0 0 (MQ below (Qr (some (.int r))) args s 0 0 (fun _ => False)) (F0 m 38 ls []) := by
    intro ls hf hl
    rw [ej38] at hf
    refine lv_iconst (v := 0) hx hb dX0_isParent_38 (by decide) ?_
    obtain ⟨hz, hf⟩ := gd_ob hf
    exact rR_z hx hb hr hlocks hz (so_ob hf) dX0_isParent_39
  have hL2 : ∀ (n_2 : Nat) (v2_2 : Int32) (ls : Array Slot), lX0_isParent_2 z p1 j38 n_2 v2_2 = some r → lv_has ls 3 [(0, .ref (q 0)), (1, .int p1), (2, .int v2_2)] → W p l e (headSpec wsX0_isParent { frames := 0, cells := 0, slots := 0, locals := 0 }).room s m args below meth c s.heap [] 0 0 (MQ below (Qr (some (.int r))) args s 0 0 (fun _ => False)) (F0 m 2 ls []) := by
    intro n_2
    induction n_2 with
    | zero =>
      intro v2_2 ls hf
      exact no_ob hf
    | succ n_2 ih2 =>
      intro v2_2 ls hf hl
      rw [lX0_isParent_2] at hf
      refine lv_iload_n hx hb dX0_isParent_2 rfl (lv_at hl 2 rfl) ?_
      refine lv_aload_n hx hb dX0_isParent_3 rfl (lv_at hl 0 rfl) ?_
      refine va_get (D := D) (ci := 0) (v := .int (z.1 7)) (C := RX0) (T := TX0) (N := 8) hx hb hts hiX0 hown hK hP 0 rfl rfl 7 (by decide) k34 (fun _ h9 => h9) rfl dX0_isParent_4 ?_
      refine lv_icmp_ge (tgt := 38) hx hb dX0_isParent_7 (by decide) (fun c_7 => ?_) (fun c_7 => ?_)
      · have hf := ip c_7 hf
        exact hp38 _ hf (lv_sub hl [] rfl)
      · have hf := iq c_7 hf
        refine lv_aload_n hx hb dX0_isParent_10 rfl (lv_at hl 0 rfl) ?_
        refine va_get (D := D) (ci := 0) (v := .ref (q 3)) (C := RX0) (T := TX0) (N := 8) hx hb hts hiX0 hown hK hP 0 rfl rfl 2 (by decide) k18 (fun _ h9 => h9) rfl dX0_isParent_11 ?_
        refine lv_iload_n hx hb dX0_isParent_14 rfl (lv_at hl 2 rfl) ?_
        obtain ⟨hi_, hf⟩ := gd_ob hf
        refine va_iald hx hb hK hP 3 0 rfl rfl (inB_in hi_) dX0_isParent_15 ?_
        refine lv_iload_n hx hb dX0_isParent_16 rfl (lv_at hl 1 rfl) ?_
        refine lv_icmp_eq (tgt := 30) hx hb dX0_isParent_17 (by decide) (fun c_17 => ?_) (fun c_17 => ?_)
        · have hf := ip c_17 hf
          refine lv_iconst (v := 1) hx hb dX0_isParent_30 (by decide) ?_
          obtain ⟨hz, hf⟩ := gd_ob hf
          exact rR_z hx hb hr hlocks hz (so_ob hf) dX0_isParent_31
        · have hf := iq c_17 hf
          refine lv_aload_n hx hb dX0_isParent_20 rfl (lv_at hl 0 rfl) ?_
          refine va_get (D := D) (ci := 0) (v := .ref (q 4)) (C := RX0) (T := TX0) (N := 8) hx hb hts hiX0 hown hK hP 0 rfl rfl 3 (by decide) k21 (fun _ h9 => h9) rfl dX0_isParent_21 ?_
          refine lv_iload_n hx hb dX0_isParent_24 rfl (lv_at hl 2 rfl) ?_
          obtain ⟨hi_, hf⟩ := gd_ob hf
          refine va_iald hx hb hK hP 4 0 rfl rfl (inB_in hi_) dX0_isParent_25 ?_
          refine lv_iload_n hx hb dX0_isParent_26 rfl (lv_at hl 1 rfl) ?_
          refine lv_icmp_ne (tgt := 32) hx hb dX0_isParent_27 (by decide) (fun c_27 => ?_) (fun c_27 => ?_)
          · have hf := ip c_27 hf
            obtain ⟨v2_1, ev2_1, hf⟩ := nm_ob hf
            refine lv_iinc (v := v2_1) (lv' := [(2, .int v2_1), (0, .ref (q 0)), (1, .int p1)]) hx hb dX0_isParent_32 hl (k := 2) rfl (by rw [ev2_1]; rfl) (by decide) rfl (fun ls hl => ?_)
            refine lv_goto (tgt := 2) hx hb dX0_isParent_35 (by decide) ?_
            exact ih2 v2_1 _ hf (lv_sub hl [1, 2, 0] rfl)
          · have hf := iqn c_27 hf
            refine lv_iconst (v := 1) hx hb dX0_isParent_30 (by decide) ?_
            obtain ⟨hz, hf⟩ := gd_ob hf
            exact rR_z hx hb hr hlocks hz (so_ob hf) dX0_isParent_31
  exact hL2 fu (0 : Int32) _ hf (lv_sub hl [1, 2, 0] rfl)
def fX0_clashMask (fu : Nat) (z : OS) (p1 : Int32) (p2 : Int32) : Option (Int32) :=
  gd (inB p1 60) (gd (inB p2 60) (gd (inB p1 60) (gd (inB p2 60) (some (((z.2 0 (p1).toNatClampNeg) &&& (z.2 1 (p2).toNatClampNeg)) ||| ((z.2 1 (p1).toNatClampNeg) &&& (z.2 0 (p2).toNatClampNeg)))))))
set_option maxRecDepth 100000 in
set_option maxHeartbeats 4000000 in
theorem mX0_clashMask (l : Launch) (D : va_G) (cI cB cZ cO : ClassId) (q : Nat → Nat) (fu : Nat) (z : OS) (p1 : Int32) (p2 : Int32) {r : Int32} (hf : fX0_clashMask fu z p1 p2 = some r) : Met l yX0_clashMask wsX0_clashMask ({ frames := 0, cells := 0, slots := 0, locals := 0 }) (va_Pc [.ref (q 0), .int p1, .int p2] (Pr D (gT cI cB cZ cO) (wC cI q z))) (Qr (some (.int r))) 0 0 (fun _ => False) := by
  unfold fX0_clashMask at hf
  refine metR (ret := (some .int)) (own := RX0) rfl (by decide) rfl (Nat.le_of_ble_eq_true rfl) (fun p e s m args below meth c ls hx hb hr hml hown hlocks hts hP hK hl => ?_)
  have k9 := (hts (.fieldLink RX0 9 "ResolutionProver$Clauses" "positive" "[I") (List.mem_of_getElem? (i := 1) rfl))
  have k15 := (hts (.fieldLink RX0 15 "ResolutionProver$Clauses" "negative" "[I") (List.mem_of_getElem? (i := 2) rfl))
  have hiX0 : ∀ w ∈ wsX00, w ∈ wsX0_clashMask := (memIn_p [3, 4, 5, 6, 7, 8, 9, 10] rfl)
  have hl : lv_has ls 3 [(0, .ref (q 0)), (1, .int p1), (2, .int p2)] := hl
  refine lv_aload_n hx hb dX0_clashMask_0 rfl (lv_at hl 0 rfl) ?_
  refine va_get (D := D) (ci := 0) (v := .ref (q 1)) (C := RX0) (T := TX0) (N := 8) hx hb hts hiX0 hown hK hP 0 rfl rfl 0 (by decide) k9 (fun _ h9 => h9) rfl dX0_clashMask_1 ?_
  refine lv_iload_n hx hb dX0_clashMask_4 rfl (lv_at hl 1 rfl) ?_
  obtain ⟨hi_, hf⟩ := gd_ob hf
  refine va_iald hx hb hK hP 1 0 rfl rfl (inB_in hi_) dX0_clashMask_5 ?_
  refine lv_aload_n hx hb dX0_clashMask_6 rfl (lv_at hl 0 rfl) ?_
  refine va_get (D := D) (ci := 0) (v := .ref (q 2)) (C := RX0) (T := TX0) (N := 8) hx hb hts hiX0 hown hK hP 0 rfl rfl 1 (by decide) k15 (fun _ h9 => h9) rfl dX0_clashMask_7 ?_
  refine lv_iload_n hx hb dX0_clashMask_10 rfl (lv_at hl 2 rfl) ?_
  obtain ⟨hi_, hf⟩ := gd_ob hf
  refine va_iald hx hb hK hP 2 0 rfl rfl (inB_in hi_) dX0_clashMask_11 ?_
  refine lv_iand hx hb dX0_clashMask_12 ?_
  refine lv_aload_n hx hb dX0_clashMask_13 rfl (lv_at hl 0 rfl) ?_
  refine va_get (D := D) (ci := 0) (v := .ref (q 2)) (C := RX0) (T := TX0) (N := 8) hx hb hts hiX0 hown hK hP 0 rfl rfl 1 (by decide) k15 (fun _ h9 => h9) rfl dX0_clashMask_14 ?_
  refine lv_iload_n hx hb dX0_clashMask_17 rfl (lv_at hl 1 rfl) ?_
  obtain ⟨hi_, hf⟩ := gd_ob hf
  refine va_iald hx hb hK hP 2 0 rfl rfl (inB_in hi_) dX0_clashMask_18 ?_
  refine lv_aload_n hx hb dX0_clashMask_19 rfl (lv_at hl 0 rfl) ?_
  refine va_get (D := D) (ci := 0) (v := .ref (q 1)) (C := RX0) (T := TX0) (N := 8) hx hb hts hiX0 hown hK hP 0 rfl rfl 0 (by decide) k9 (fun _ h9 => h9) rfl dX0_clashMask_20 ?_
  refine lv_iload_n hx hb dX0_clashMask_23 rfl (lv_at hl 2 rfl) ?_
  obtain ⟨hi_, hf⟩ := gd_ob hf
  refine va_iald hx hb hK hP 1 0 rfl rfl (inB_in hi_) dX0_clashMask_24 ?_
  refine lv_iand hx hb dX0_clashMask_25 ?_
  refine lv_ior hx hb dX0_clashMask_26 ?_
  exact rR_i hx hb hr hlocks (so_ob hf) dX0_clashMask_27
def fX0_clashOnce (fu : Nat) (z : OS) (p1 : Int32) (p2 : Int32) : Option (Int32) :=
  bd (fX0_clashMask fu z p1 p2) (fun (r_1 : Int32) => bd (fJ6_bitCount_0f7a4 fu r_1) (fun (r_3 : Int32) => (if ¬ r_3 = (1 : Int32) then gd (isZ (0 : Int32)) (some (0 : Int32)) else gd (isZ (1 : Int32)) (some (1 : Int32)))))
set_option maxRecDepth 100000 in
set_option maxHeartbeats 4000000 in
theorem mX0_clashOnce (l : Launch) (D : va_G) (cI cB cZ cO : ClassId) (q : Nat → Nat) (fu : Nat) (z : OS) (p1 : Int32) (p2 : Int32) {r : Int32} (hf : fX0_clashOnce fu z p1 p2 = some r) : Met l yX0_clashOnce wsX0_clashOnce ({ frames := 1, cells := 0, slots := 0, locals := 22 }) (va_Pc [.ref (q 0), .int p1, .int p2] (Pr D (gT cI cB cZ cO) (wC cI q z))) (Qr (some (.int r))) 0 0 (fun _ => False) := by
  unfold fX0_clashOnce at hf
  refine metR (ret := (some .boolean)) (own := RX0) rfl (by decide) rfl (Nat.le_of_ble_eq_true rfl) (fun p e s m args below meth c ls hx hb hr hml hown hlocks hts hP hK hl => ?_)
  have hl : lv_has ls 3 [(0, .ref (q 0)), (1, .int p1), (2, .int p2)] := hl
  refine lv_aload_n hx hb dX0_clashOnce_0 rfl (lv_at hl 0 rfl) ?_
  refine lv_iload_n hx hb dX0_clashOnce_1 rfl (lv_at hl 1 rfl) ?_
  refine lv_iload_n hx hb dX0_clashOnce_2 rfl (lv_at hl 2 rfl) ?_
  obtain ⟨r_1, hc_2, hf⟩ := bd_ob hf
  refine rdV (As := [.int p1, .int p2]) (rest := []) ⟨hx, hb, hml, hown, hts⟩ (mX0_clashMask l D cI cB cZ cO q fu z p1 p2 hc_2) (cwV 2 hts gX0_clashOnce_X0_clashMask rfl rfl rfl (by decide +kernel) ⟨Nat.le_of_ble_eq_true rfl, Nat.le_of_ble_eq_true rfl⟩) hK hP (va_recv hK hP (ci := 0) (q0 := 0) rfl rfl) rfl hl.1 rfl (Nat.le_of_ble_eq_true rfl) dX0_clashOnce_3 ⟨Nat.zero_le _, Nat.zero_le _⟩ ?_
  obtain ⟨r_3, hc_4, hf⟩ := bd_ob hf
  refine rdN (As := [.int r_1]) (rest := []) ⟨hx, hb, hml, hown, hts⟩ (mJ6_bitCount_0f7a4 l D cI cB cZ cO fu r_1 hc_4) (va_cwS 1 hts gX0_clashOnce_J6_bitCount_0f7a4 rfl rfl rfl (by decide +kernel) ⟨Nat.le_of_ble_eq_true rfl, Nat.le_of_ble_eq_true rfl⟩) rfl hl.1 rfl (Nat.le_of_ble_eq_true rfl) dX0_clashOnce_6 ⟨Nat.zero_le _, Nat.zero_le _⟩ ?_
  refine lv_iconst (v := 1) hx hb dX0_clashOnce_9 (by decide) ?_
  refine lv_icmp_ne (tgt := 17) hx hb dX0_clashOnce_10 (by decide) (fun c_10 => ?_) (fun c_10 => ?_)
  · have hf := ip c_10 hf
    refine lv_iconst (v := 0) hx hb dX0_clashOnce_17 (by decide) ?_
    obtain ⟨hz, hf⟩ := gd_ob hf
    exact rR_z hx hb hr hlocks hz (so_ob hf) dX0_clashOnce_18
  · have hf := iqn c_10 hf
    refine lv_iconst (v := 1) hx hb dX0_clashOnce_13 (by decide) ?_
    refine lv_goto (tgt := 18) hx hb dX0_clashOnce_14 (by decide) ?_
    obtain ⟨hz, hf⟩ := gd_ob hf
    exact rR_z hx hb hr hlocks hz (so_ob hf) dX0_clashOnce_18
def fX0_mergedPositive (fu : Nat) (z : OS) (p1 : Int32) (p2 : Int32) : Option (Int32) :=
  gd (inB p1 60) (gd (inB p2 60) (bd (fX0_clashMask fu z p1 p2) (fun (r_1 : Int32) => some (((z.2 0 (p1).toNatClampNeg) ||| (z.2 0 (p2).toNatClampNeg)) &&& (r_1 ^^^ (-1 : Int32))))))
set_option maxRecDepth 100000 in
set_option maxHeartbeats 4000000 in
theorem mX0_mergedPositive (l : Launch) (D : va_G) (cI cB cZ cO : ClassId) (q : Nat → Nat) (fu : Nat) (z : OS) (p1 : Int32) (p2 : Int32) {r : Int32} (hf : fX0_mergedPositive fu z p1 p2 = some r) : Met l yX0_mergedPositive wsX0_mergedPositive ({ frames := 1, cells := 0, slots := 0, locals := 22 }) (va_Pc [.ref (q 0), .int p1, .int p2] (Pr D (gT cI cB cZ cO) (wC cI q z))) (Qr (some (.int r))) 0 0 (fun _ => False) := by
  unfold fX0_mergedPositive at hf
  refine metR (ret := (some .int)) (own := RX0) rfl (by decide) rfl (Nat.le_of_ble_eq_true rfl) (fun p e s m args below meth c ls hx hb hr hml hown hlocks hts hP hK hl => ?_)
  have k9 := (hts (.fieldLink RX0 9 "ResolutionProver$Clauses" "positive" "[I") (List.mem_of_getElem? (i := 1) rfl))
  have hiX0 : ∀ w ∈ wsX00, w ∈ wsX0_mergedPositive := (memIn_p [8, 9, 10, 11, 12, 13, 14, 15] rfl)
  have hl : lv_has ls 3 [(0, .ref (q 0)), (1, .int p1), (2, .int p2)] := hl
  refine lv_aload_n hx hb dX0_mergedPositive_0 rfl (lv_at hl 0 rfl) ?_
  refine va_get (D := D) (ci := 0) (v := .ref (q 1)) (C := RX0) (T := TX0) (N := 8) hx hb hts hiX0 hown hK hP 0 rfl rfl 0 (by decide) k9 (fun _ h9 => h9) rfl dX0_mergedPositive_1 ?_
  refine lv_iload_n hx hb dX0_mergedPositive_4 rfl (lv_at hl 1 rfl) ?_
  obtain ⟨hi_, hf⟩ := gd_ob hf
  refine va_iald hx hb hK hP 1 0 rfl rfl (inB_in hi_) dX0_mergedPositive_5 ?_
  refine lv_aload_n hx hb dX0_mergedPositive_6 rfl (lv_at hl 0 rfl) ?_
  refine va_get (D := D) (ci := 0) (v := .ref (q 1)) (C := RX0) (T := TX0) (N := 8) hx hb hts hiX0 hown hK hP 0 rfl rfl 0 (by decide) k9 (fun _ h9 => h9) rfl dX0_mergedPositive_7 ?_
  refine lv_iload_n hx hb dX0_mergedPositive_10 rfl (lv_at hl 2 rfl) ?_
  obtain ⟨hi_, hf⟩ := gd_ob hf
  refine va_iald hx hb hK hP 1 0 rfl rfl (inB_in hi_) dX0_mergedPositive_11 ?_
  refine lv_ior hx hb dX0_mergedPositive_12 ?_
  refine lv_aload_n hx hb dX0_mergedPositive_13 rfl (lv_at hl 0 rfl) ?_
  refine lv_iload_n hx hb dX0_mergedPositive_14 rfl (lv_at hl 1 rfl) ?_
  refine lv_iload_n hx hb dX0_mergedPositive_15 rfl (lv_at hl 2 rfl) ?_
  obtain ⟨r_1, hc_2, hf⟩ := bd_ob hf
  refine rdV (As := [.int p1, .int p2]) (rest := [.int ((z.2 0 (p1).toNatClampNeg) ||| (z.2 0 (p2).toNatClampNeg))]) ⟨hx, hb, hml, hown, hts⟩ (mX0_clashMask l D cI cB cZ cO q fu z p1 p2 hc_2) (cwV 2 hts gX0_mergedPositive_X0_clashMask rfl rfl rfl (by decide +kernel) ⟨Nat.le_of_ble_eq_true rfl, Nat.le_of_ble_eq_true rfl⟩) hK hP (va_recv hK hP (ci := 0) (q0 := 0) rfl rfl) rfl hl.1 rfl (Nat.le_of_ble_eq_true rfl) dX0_mergedPositive_16 ⟨Nat.zero_le _, Nat.zero_le _⟩ ?_
  refine lv_iconst (v := (-1)) hx hb dX0_mergedPositive_19 (by decide) ?_
  refine lv_ixor hx hb dX0_mergedPositive_20 ?_
  refine lv_iand hx hb dX0_mergedPositive_21 ?_
  exact rR_i hx hb hr hlocks (so_ob hf) dX0_mergedPositive_22
def fX0_mergedNegative (fu : Nat) (z : OS) (p1 : Int32) (p2 : Int32) : Option (Int32) :=
  gd (inB p1 60) (gd (inB p2 60) (bd (fX0_clashMask fu z p1 p2) (fun (r_1 : Int32) => some (((z.2 1 (p1).toNatClampNeg) ||| (z.2 1 (p2).toNatClampNeg)) &&& (r_1 ^^^ (-1 : Int32))))))
set_option maxRecDepth 100000 in
set_option maxHeartbeats 4000000 in
theorem mX0_mergedNegative (l : Launch) (D : va_G) (cI cB cZ cO : ClassId) (q : Nat → Nat) (fu : Nat) (z : OS) (p1 : Int32) (p2 : Int32) {r : Int32} (hf : fX0_mergedNegative fu z p1 p2 = some r) : Met l yX0_mergedNegative wsX0_mergedNegative ({ frames := 1, cells := 0, slots := 0, locals := 22 }) (va_Pc [.ref (q 0), .int p1, .int p2] (Pr D (gT cI cB cZ cO) (wC cI q z))) (Qr (some (.int r))) 0 0 (fun _ => False) := by
  unfold fX0_mergedNegative at hf
  refine metR (ret := (some .int)) (own := RX0) rfl (by decide) rfl (Nat.le_of_ble_eq_true rfl) (fun p e s m args below meth c ls hx hb hr hml hown hlocks hts hP hK hl => ?_)
  have k15 := (hts (.fieldLink RX0 15 "ResolutionProver$Clauses" "negative" "[I") (List.mem_of_getElem? (i := 1) rfl))
  have hiX0 : ∀ w ∈ wsX00, w ∈ wsX0_mergedNegative := (memIn_p [8, 9, 10, 11, 12, 13, 14, 15] rfl)
  have hl : lv_has ls 3 [(0, .ref (q 0)), (1, .int p1), (2, .int p2)] := hl
  refine lv_aload_n hx hb dX0_mergedNegative_0 rfl (lv_at hl 0 rfl) ?_
  refine va_get (D := D) (ci := 0) (v := .ref (q 2)) (C := RX0) (T := TX0) (N := 8) hx hb hts hiX0 hown hK hP 0 rfl rfl 1 (by decide) k15 (fun _ h9 => h9) rfl dX0_mergedNegative_1 ?_
  refine lv_iload_n hx hb dX0_mergedNegative_4 rfl (lv_at hl 1 rfl) ?_
  obtain ⟨hi_, hf⟩ := gd_ob hf
  refine va_iald hx hb hK hP 2 0 rfl rfl (inB_in hi_) dX0_mergedNegative_5 ?_
  refine lv_aload_n hx hb dX0_mergedNegative_6 rfl (lv_at hl 0 rfl) ?_
  refine va_get (D := D) (ci := 0) (v := .ref (q 2)) (C := RX0) (T := TX0) (N := 8) hx hb hts hiX0 hown hK hP 0 rfl rfl 1 (by decide) k15 (fun _ h9 => h9) rfl dX0_mergedNegative_7 ?_
  refine lv_iload_n hx hb dX0_mergedNegative_10 rfl (lv_at hl 2 rfl) ?_
  obtain ⟨hi_, hf⟩ := gd_ob hf
  refine va_iald hx hb hK hP 2 0 rfl rfl (inB_in hi_) dX0_mergedNegative_11 ?_
  refine lv_ior hx hb dX0_mergedNegative_12 ?_
  refine lv_aload_n hx hb dX0_mergedNegative_13 rfl (lv_at hl 0 rfl) ?_
  refine lv_iload_n hx hb dX0_mergedNegative_14 rfl (lv_at hl 1 rfl) ?_
  refine lv_iload_n hx hb dX0_mergedNegative_15 rfl (lv_at hl 2 rfl) ?_
  obtain ⟨r_1, hc_2, hf⟩ := bd_ob hf
  refine rdV (As := [.int p1, .int p2]) (rest := [.int ((z.2 1 (p1).toNatClampNeg) ||| (z.2 1 (p2).toNatClampNeg))]) ⟨hx, hb, hml, hown, hts⟩ (mX0_clashMask l D cI cB cZ cO q fu z p1 p2 hc_2) (cwV 2 hts gX0_mergedNegative_X0_clashMask rfl rfl rfl (by decide +kernel) ⟨Nat.le_of_ble_eq_true rfl, Nat.le_of_ble_eq_true rfl⟩) hK hP (va_recv hK hP (ci := 0) (q0 := 0) rfl rfl) rfl hl.1 rfl (Nat.le_of_ble_eq_true rfl) dX0_mergedNegative_16 ⟨Nat.zero_le _, Nat.zero_le _⟩ ?_
  refine lv_iconst (v := (-1)) hx hb dX0_mergedNegative_19 (by decide) ?_
  refine lv_ixor hx hb dX0_mergedNegative_20 ?_
  refine lv_iand hx hb dX0_mergedNegative_21 ?_
  exact rR_i hx hb hr hlocks (so_ob hf) dX0_mergedNegative_22
def lX0_countPairsThatClashOnce_14 (fu : Nat) (z : OS) (v2_4 : Int32) (j37 : Int32 → Option (Int32)) : Nat → Int32 → Int32 → Option (Int32)
  | 0, _, _ => none
  | n_14 + 1, v1_14, v3_14 => (if v2_4 ≤ v3_14 then j37 v1_14 else bd (fX0_clashOnce fu z v3_14 v2_4) (fun (r_2 : Int32) => jn (κ := Int32 → Option (Int32)) (fun (v1_31 : Int32) => nm (v3_14 + (1 : Int32)) (fun (v3_4 : Int32) => lX0_countPairsThatClashOnce_14 fu z v2_4 j37 n_14 v1_31 v3_4)) (fun j31 => (if r_2 = (0 : Int32) then j31 v1_14 else nm (v1_14 + (1 : Int32)) (fun (v1_5 : Int32) => j31 v1_5)))))
def lX0_countPairsThatClashOnce_4 (fu : Nat) (z : OS) (j43 : Int32 → Option (Int32)) : Nat → Int32 → Int32 → Option (Int32)
  | 0, _, _ => none
  | n_4 + 1, v1_4, v2_4 => (if (z.1 7) ≤ v2_4 then j43 v1_4 else jn (κ := Int32 → Option (Int32)) (fun (v1_37 : Int32) => nm (v2_4 + (1 : Int32)) (fun (v2_1 : Int32) => lX0_countPairsThatClashOnce_4 fu z j43 n_4 v1_37 v2_1)) (fun j37 => lX0_countPairsThatClashOnce_14 fu z v2_4 j37 fu v1_4 (0 : Int32)))
def fX0_countPairsThatClashOnce (fu : Nat) (z : OS) : Option (Int32) :=
  jn (κ := Int32 → Option (Int32)) (fun (v1_43 : Int32) => some v1_43) (fun j43 => lX0_countPairsThatClashOnce_4 fu z j43 fu (0 : Int32) (1 : Int32))
set_option maxRecDepth 100000 in
set_option maxHeartbeats 4000000 in
theorem mX0_countPairsThatClashOnce (l : Launch) (D : va_G) (cI cB cZ cO : ClassId) (q : Nat → Nat) (fu : Nat) (z : OS) {r : Int32} (hf : fX0_countPairsThatClashOnce fu z = some r) : Met l yX0_countPairsThatClashOnce wsX0_countPairsThatClashOnce ({ frames := 2, cells := 0, slots := 0, locals := 44 }) (va_Pc [.ref (q 0)] (Pr D (gT cI cB cZ cO) (wC cI q z))) (Qr (some (.int r))) 0 0 (fun _ => False) := by
  unfold fX0_countPairsThatClashOnce at hf
  refine metR (ret := (some .int)) (own := RX0) rfl (by decide) rfl (Nat.le_of_ble_eq_true rfl) (fun p e s m args below meth c ls hx hb hr hml hown hlocks hts hP hK hl => ?_)
  have k34 := (hts (.fieldLink RX0 34 "ResolutionProver$Clauses" "count" "I") (List.mem_of_getElem? (i := 1) rfl))
  have hiX0 : ∀ w ∈ wsX00, w ∈ wsX0_countPairsThatClashOnce := (memIn_p [20, 21, 22, 23, 24, 25, 26, 27] rfl)
  have hl : lv_has ls 4 [(0, .ref (q 0))] := hl
  refine lv_iconst (v := 0) hx hb dX0_countPairsThatClashOnce_0 (by decide) ?_
  refine lv_istore_n (lv' := [(1, .int (0 : Int32)), (0, .ref (q 0))]) hx hb dX0_countPairsThatClashOnce_1 rfl hl (by decide) rfl (fun ls hl => ?_)
  refine lv_iconst (v := 1) hx hb dX0_countPairsThatClashOnce_2 (by decide) ?_
  refine lv_istore_n (lv' := [(2, .int (1 : Int32)), (1, .int (0 : Int32)), (0, .ref (q 0))]) hx hb dX0_countPairsThatClashOnce_3 rfl hl (by decide) rfl (fun ls hl => ?_)
  obtain ⟨j43, ej43, hf⟩ := jn_ob hf
  have hp43 : ∀ (v1_43 : Int32) (ls : Array Slot), j43 v1_43 = some r → lv_has ls 4 [(1, .int v1_43)] → W p l e (headSpec wsX0_countPairsThatClashOnce { frames := 2, cells := 0, slots := 0, locals := 44 }).room s m args below meth c s.heap [] 0 0 (MQ below (Qr (some (.int r))) args s 0 0 (fun _ => False)) (F0 m 43 ls []) := by
    intro v1_43 ls hf hl
    rw [ej43] at hf
    refine lv_iload_n hx hb dX0_countPairsThatClashOnce_43 rfl (lv_at hl 0 rfl) ?_
    exact rR_i hx hb hr hlocks (so_ob hf) dX0_countPairsThatClashOnce_44
  have hL4 : ∀ (n_4 : Nat) (v1_4 : Int32) (v2_4 : Int32) (ls : Array Slot), lX0_countPairsThatClashOnce_4 fu z j43 n_4 v1_4 v2_4 = some r → lv_has ls 4 [(0, .ref (q 0)), (1, .int v1_4), (2, .int v2_4)] → W p l e (headSpec wsX0_countPairsThatClashOnce { frames := 2, cells := 0, slots := 0, locals := 44 }).room s m args below meth c s.heap [] 0 0 (MQ below (Qr (some (.int r))) args s 0 0 (fun _ => False)) (F0 m 4 ls []) := by
    intro n_4
    induction n_4 with
    | zero =>
      intro v1_4 v2_4 ls hf
      exact no_ob hf
    | succ n_4 ih4 =>
      intro v1_4 v2_4 ls hf hl
      rw [lX0_countPairsThatClashOnce_4] at hf
      refine lv_iload_n hx hb dX0_countPairsThatClashOnce_4 rfl (lv_at hl 2 rfl) ?_
      refine lv_aload_n hx hb dX0_countPairsThatClashOnce_5 rfl (lv_at hl 0 rfl) ?_
      refine va_get (D := D) (ci := 0) (v := .int (z.1 7)) (C := RX0) (T := TX0) (N := 8) hx hb hts hiX0 hown hK hP 0 rfl rfl 7 (by decide) k34 (fun _ h9 => h9) rfl dX0_countPairsThatClashOnce_6 ?_
      refine lv_icmp_ge (tgt := 43) hx hb dX0_countPairsThatClashOnce_9 (by decide) (fun c_9 => ?_) (fun c_9 => ?_)
      · have hf := ip c_9 hf
        exact hp43 v1_4 _ hf (lv_sub hl [1] rfl)
      · have hf := iq c_9 hf
        refine lv_iconst (v := 0) hx hb dX0_countPairsThatClashOnce_12 (by decide) ?_
        refine lv_istore_n (lv' := [(3, .int (0 : Int32)), (0, .ref (q 0)), (1, .int v1_4), (2, .int v2_4)]) hx hb dX0_countPairsThatClashOnce_13 rfl hl (by decide) rfl (fun ls hl => ?_)
        obtain ⟨j37, ej37, hf⟩ := jn_ob hf
        have hp37 : ∀ (v1_37 : Int32) (ls : Array Slot), j37 v1_37 = some r → lv_has ls 4 [(0, .ref (q 0)), (1, .int v1_37), (2, .int v2_4)] → W p l e (headSpec wsX0_countPairsThatClashOnce { frames := 2, cells := 0, slots := 0, locals := 44 }).room s m args below meth c s.heap [] 0 0 (MQ below (Qr (some (.int r))) args s 0 0 (fun _ => False)) (F0 m 37 ls []) := by
          intro v1_37 ls hf hl
          rw [ej37] at hf
          obtain ⟨v2_1, ev2_1, hf⟩ := nm_ob hf
          refine lv_iinc (v := v2_1) (lv' := [(2, .int v2_1), (0, .ref (q 0)), (1, .int v1_37)]) hx hb dX0_countPairsThatClashOnce_37 hl (k := 2) rfl (by rw [ev2_1]; rfl) (by decide) rfl (fun ls hl => ?_)
          refine lv_goto (tgt := 4) hx hb dX0_countPairsThatClashOnce_40 (by decide) ?_
          exact ih4 v1_37 v2_1 _ hf (lv_sub hl [1, 2, 0] rfl)
        have hL14 : ∀ (n_14 : Nat) (v1_14 : Int32) (v3_14 : Int32) (ls : Array Slot), lX0_countPairsThatClashOnce_14 fu z v2_4 j37 n_14 v1_14 v3_14 = some r → lv_has ls 4 [(0, .ref (q 0)), (1, .int v1_14), (2, .int v2_4), (3, .int v3_14)] → W p l e (headSpec wsX0_countPairsThatClashOnce { frames := 2, cells := 0, slots := 0, locals := 44 }).room s m args below meth c s.heap [] 0 0 (MQ below (Qr (some (.int r))) args s 0 0 (fun _ => False)) (F0 m 14 ls []) := by
          intro n_14
          induction n_14 with
          | zero =>
            intro v1_14 v3_14 ls hf
            exact no_ob hf
          | succ n_14 ih14 =>
            intro v1_14 v3_14 ls hf hl
            rw [lX0_countPairsThatClashOnce_14] at hf
            refine lv_iload_n hx hb dX0_countPairsThatClashOnce_14 rfl (lv_at hl 3 rfl) ?_
            refine lv_iload_n hx hb dX0_countPairsThatClashOnce_15 rfl (lv_at hl 2 rfl) ?_
            refine lv_icmp_ge (tgt := 37) hx hb dX0_countPairsThatClashOnce_16 (by decide) (fun c_16 => ?_) (fun c_16 => ?_)
            · have hf := ip c_16 hf
              exact hp37 v1_14 _ hf (lv_sub hl [0, 1, 2] rfl)
            · have hf := iq c_16 hf
              refine lv_aload_n hx hb dX0_countPairsThatClashOnce_19 rfl (lv_at hl 0 rfl) ?_
              refine lv_iload_n hx hb dX0_countPairsThatClashOnce_20 rfl (lv_at hl 3 rfl) ?_
              refine lv_iload_n hx hb dX0_countPairsThatClashOnce_21 rfl (lv_at hl 2 rfl) ?_
              obtain ⟨r_2, hc_3, hf⟩ := bd_ob hf
              refine rdV (As := [.int v3_14, .int v2_4]) (rest := []) ⟨hx, hb, hml, hown, hts⟩ (mX0_clashOnce l D cI cB cZ cO q fu z v3_14 v2_4 hc_3) (cwV 2 hts gX0_countPairsThatClashOnce_X0_clashOnce rfl rfl rfl (by decide +kernel) ⟨Nat.le_of_ble_eq_true rfl, Nat.le_of_ble_eq_true rfl⟩) hK hP (va_recv hK hP (ci := 0) (q0 := 0) rfl rfl) rfl hl.1 rfl (Nat.le_of_ble_eq_true rfl) dX0_countPairsThatClashOnce_22 ⟨Nat.zero_le _, Nat.zero_le _⟩ ?_
              obtain ⟨j31, ej31, hf⟩ := jn_ob hf
              have hp31 : ∀ (v1_31 : Int32) (ls : Array Slot), j31 v1_31 = some r → lv_has ls 4 [(0, .ref (q 0)), (1, .int v1_31), (2, .int v2_4), (3, .int v3_14)] → W p l e (headSpec wsX0_countPairsThatClashOnce { frames := 2, cells := 0, slots := 0, locals := 44 }).room s m args below meth c s.heap [] 0 0 (MQ below (Qr (some (.int r))) args s 0 0 (fun _ => False)) (F0 m 31 ls []) := by
                intro v1_31 ls hf hl
                rw [ej31] at hf
                obtain ⟨v3_4, ev3_4, hf⟩ := nm_ob hf
                refine lv_iinc (v := v3_4) (lv' := [(3, .int v3_4), (0, .ref (q 0)), (1, .int v1_31), (2, .int v2_4)]) hx hb dX0_countPairsThatClashOnce_31 hl (k := 3) rfl (by rw [ev3_4]; rfl) (by decide) rfl (fun ls hl => ?_)
                refine lv_goto (tgt := 14) hx hb dX0_countPairsThatClashOnce_34 (by decide) ?_
                exact ih14 v1_31 v3_4 _ hf (lv_sub hl [1, 2, 3, 0] rfl)
              refine lv_if_eq (tgt := 31) hx hb dX0_countPairsThatClashOnce_25 (by decide) (fun c_25 => ?_) (fun c_25 => ?_)
              · have hf := ip c_25 hf
                exact hp31 v1_14 _ hf hl
              · have hf := iq c_25 hf
                obtain ⟨v1_5, ev1_5, hf⟩ := nm_ob hf
                refine lv_iinc (v := v1_5) (lv' := [(1, .int v1_5), (0, .ref (q 0)), (2, .int v2_4), (3, .int v3_14)]) hx hb dX0_countPairsThatClashOnce_28 hl (k := 1) rfl (by rw [ev1_5]; rfl) (by decide) rfl (fun ls hl => ?_)
                exact hp31 v1_5 _ hf (lv_sub hl [1, 0, 2, 3] rfl)
        exact hL14 fu v1_4 (0 : Int32) _ hf (lv_sub hl [1, 2, 3, 0] rfl)
  exact hL4 fu (0 : Int32) (1 : Int32) _ hf (lv_sub hl [2, 1, 0] rfl)
def fX0_hasRoomForResolvent (fu : Nat) (z : OS) (p1 : Int32) (p2 : Int32) : Option (Int32) :=
  bd (fX0_mergedPositive fu z p1 p2) (fun (r_1 : Int32) => bd (fX0_mergedNegative fu z p1 p2) (fun (r_3 : Int32) => bd (fX0_isFull fu z) (fun (r_5 : Int32) => (if ¬ r_5 = (0 : Int32) then gd (isZ (0 : Int32)) (some (0 : Int32)) else bd (fX0_indexOf fu z r_1 r_3) (fun (r_7 : Int32) => (if ¬ r_7 = (-1 : Int32) then gd (isZ (0 : Int32)) (some (0 : Int32)) else gd (isZ (1 : Int32)) (some (1 : Int32))))))))
set_option maxRecDepth 100000 in
set_option maxHeartbeats 4000000 in
theorem mX0_hasRoomForResolvent (l : Launch) (D : va_G) (cI cB cZ cO : ClassId) (q : Nat → Nat) (fu : Nat) (z : OS) (p1 : Int32) (p2 : Int32) {r : Int32} (hf : fX0_hasRoomForResolvent fu z p1 p2 = some r) : Met l yX0_hasRoomForResolvent wsX0_hasRoomForResolvent ({ frames := 2, cells := 0, slots := 0, locals := 44 }) (va_Pc [.ref (q 0), .int p1, .int p2] (Pr D (gT cI cB cZ cO) (wC cI q z))) (Qr (some (.int r))) 0 0 (fun _ => False) := by
  unfold fX0_hasRoomForResolvent at hf
  refine metR (ret := (some .boolean)) (own := RX0) rfl (by decide) rfl (Nat.le_of_ble_eq_true rfl) (fun p e s m args below meth c ls hx hb hr hml hown hlocks hts hP hK hl => ?_)
  have hl : lv_has ls 5 [(0, .ref (q 0)), (1, .int p1), (2, .int p2)] := hl
  refine lv_aload_n hx hb dX0_hasRoomForResolvent_0 rfl (lv_at hl 0 rfl) ?_
  refine lv_iload_n hx hb dX0_hasRoomForResolvent_1 rfl (lv_at hl 1 rfl) ?_
  refine lv_iload_n hx hb dX0_hasRoomForResolvent_2 rfl (lv_at hl 2 rfl) ?_
  obtain ⟨r_1, hc_2, hf⟩ := bd_ob hf
  refine rdV (As := [.int p1, .int p2]) (rest := []) ⟨hx, hb, hml, hown, hts⟩ (mX0_mergedPositive l D cI cB cZ cO q fu z p1 p2 hc_2) (cwV 2 hts gX0_hasRoomForResolvent_X0_mergedPositive rfl rfl rfl (by decide +kernel) ⟨Nat.le_of_ble_eq_true rfl, Nat.le_of_ble_eq_true rfl⟩) hK hP (va_recv hK hP (ci := 0) (q0 := 0) rfl rfl) rfl hl.1 rfl (Nat.le_of_ble_eq_true rfl) dX0_hasRoomForResolvent_3 ⟨Nat.zero_le _, Nat.zero_le _⟩ ?_
  refine lv_istore_n (lv' := [(3, .int r_1), (0, .ref (q 0)), (1, .int p1), (2, .int p2)]) hx hb dX0_hasRoomForResolvent_6 rfl hl (by decide) rfl (fun ls hl => ?_)
  refine lv_aload_n hx hb dX0_hasRoomForResolvent_7 rfl (lv_at hl 1 rfl) ?_
  refine lv_iload_n hx hb dX0_hasRoomForResolvent_8 rfl (lv_at hl 2 rfl) ?_
  refine lv_iload_n hx hb dX0_hasRoomForResolvent_9 rfl (lv_at hl 3 rfl) ?_
  obtain ⟨r_3, hc_4, hf⟩ := bd_ob hf
  refine rdV (As := [.int p1, .int p2]) (rest := []) ⟨hx, hb, hml, hown, hts⟩ (mX0_mergedNegative l D cI cB cZ cO q fu z p1 p2 hc_4) (cwV 2 hts gX0_hasRoomForResolvent_X0_mergedNegative rfl rfl rfl (by decide +kernel) ⟨Nat.le_of_ble_eq_true rfl, Nat.le_of_ble_eq_true rfl⟩) hK hP (va_recv hK hP (ci := 0) (q0 := 0) rfl rfl) rfl hl.1 rfl (Nat.le_of_ble_eq_true rfl) dX0_hasRoomForResolvent_10 ⟨Nat.zero_le _, Nat.zero_le _⟩ ?_
  refine lv_istore (lv' := [(4, .int r_3), (3, .int r_1), (0, .ref (q 0)), (1, .int p1), (2, .int p2)]) hx hb dX0_hasRoomForResolvent_13 hl (by decide) rfl (fun ls hl => ?_)
  refine lv_aload_n hx hb dX0_hasRoomForResolvent_15 rfl (lv_at hl 2 rfl) ?_
  obtain ⟨r_5, hc_6, hf⟩ := bd_ob hf
  refine rdV (As := []) (rest := []) ⟨hx, hb, hml, hown, hts⟩ (mX0_isFull l D cI cB cZ cO q fu z hc_6) (cwV 0 hts gX0_hasRoomForResolvent_X0_isFull rfl rfl rfl (by decide +kernel) ⟨Nat.le_of_ble_eq_true rfl, Nat.le_of_ble_eq_true rfl⟩) hK hP (va_recv hK hP (ci := 0) (q0 := 0) rfl rfl) rfl hl.1 rfl (Nat.le_of_ble_eq_true rfl) dX0_hasRoomForResolvent_16 ⟨Nat.zero_le _, Nat.zero_le _⟩ ?_
  refine lv_if_ne (tgt := 37) hx hb dX0_hasRoomForResolvent_19 (by decide) (fun c_19 => ?_) (fun c_19 => ?_)
  · have hf := ip c_19 hf
    refine lv_iconst (v := 0) hx hb dX0_hasRoomForResolvent_37 (by decide) ?_
    obtain ⟨hz, hf⟩ := gd_ob hf
    exact rR_z hx hb hr hlocks hz (so_ob hf) dX0_hasRoomForResolvent_38
  · have hf := iqn c_19 hf
    refine lv_aload_n hx hb dX0_hasRoomForResolvent_22 rfl (lv_at hl 2 rfl) ?_
    refine lv_iload_n hx hb dX0_hasRoomForResolvent_23 rfl (lv_at hl 1 rfl) ?_
    refine lv_iload hx hb dX0_hasRoomForResolvent_24 (lv_at hl 0 rfl) ?_
    obtain ⟨r_7, hc_8, hf⟩ := bd_ob hf
    refine rdV (As := [.int r_1, .int r_3]) (rest := []) ⟨hx, hb, hml, hown, hts⟩ (mX0_indexOf l D cI cB cZ cO q fu z r_1 r_3 hc_8) (cwV 2 hts gX0_hasRoomForResolvent_X0_indexOf rfl rfl rfl (by decide +kernel) ⟨Nat.le_of_ble_eq_true rfl, Nat.le_of_ble_eq_true rfl⟩) hK hP (va_recv hK hP (ci := 0) (q0 := 0) rfl rfl) rfl hl.1 rfl (Nat.le_of_ble_eq_true rfl) dX0_hasRoomForResolvent_26 ⟨Nat.zero_le _, Nat.zero_le _⟩ ?_
    refine lv_iconst (v := (-1)) hx hb dX0_hasRoomForResolvent_29 (by decide) ?_
    refine lv_icmp_ne (tgt := 37) hx hb dX0_hasRoomForResolvent_30 (by decide) (fun c_30 => ?_) (fun c_30 => ?_)
    · have hf := ip c_30 hf
      refine lv_iconst (v := 0) hx hb dX0_hasRoomForResolvent_37 (by decide) ?_
      obtain ⟨hz, hf⟩ := gd_ob hf
      exact rR_z hx hb hr hlocks hz (so_ob hf) dX0_hasRoomForResolvent_38
    · have hf := iqn c_30 hf
      refine lv_iconst (v := 1) hx hb dX0_hasRoomForResolvent_33 (by decide) ?_
      refine lv_goto (tgt := 38) hx hb dX0_hasRoomForResolvent_34 (by decide) ?_
      obtain ⟨hz, hf⟩ := gd_ob hf
      exact rR_z hx hb hr hlocks hz (so_ob hf) dX0_hasRoomForResolvent_38
def fX0_isWithin (fu : Nat) (z : OS) (p1 : Int32) (p2 : Int32) (p3 : Int32) : Option (Int32) :=
  gd (inB p1 60) ((if ¬ ((z.2 0 (p1).toNatClampNeg) &&& (p2 ^^^ (-1 : Int32))) = (0 : Int32) then gd (isZ (0 : Int32)) (some (0 : Int32)) else gd (inB p1 60) ((if ¬ ((z.2 1 (p1).toNatClampNeg) &&& (p3 ^^^ (-1 : Int32))) = (0 : Int32) then gd (isZ (0 : Int32)) (some (0 : Int32)) else gd (isZ (1 : Int32)) (some (1 : Int32))))))
set_option maxRecDepth 100000 in
set_option maxHeartbeats 4000000 in
theorem mX0_isWithin (l : Launch) (D : va_G) (cI cB cZ cO : ClassId) (q : Nat → Nat) (fu : Nat) (z : OS) (p1 : Int32) (p2 : Int32) (p3 : Int32) {r : Int32} (hf : fX0_isWithin fu z p1 p2 p3 = some r) : Met l yX0_isWithin wsX0_isWithin ({ frames := 0, cells := 0, slots := 0, locals := 0 }) (va_Pc [.ref (q 0), .int p1, .int p2, .int p3] (Pr D (gT cI cB cZ cO) (wC cI q z))) (Qr (some (.int r))) 0 0 (fun _ => False) := by
  unfold fX0_isWithin at hf
  refine metR (ret := (some .boolean)) (own := RX0) rfl (by decide) rfl (Nat.le_of_ble_eq_true rfl) (fun p e s m args below meth c ls hx hb hr hml hown hlocks hts hP hK hl => ?_)
  have k9 := (hts (.fieldLink RX0 9 "ResolutionProver$Clauses" "positive" "[I") (List.mem_of_getElem? (i := 1) rfl))
  have k15 := (hts (.fieldLink RX0 15 "ResolutionProver$Clauses" "negative" "[I") (List.mem_of_getElem? (i := 2) rfl))
  have hiX0 : ∀ w ∈ wsX00, w ∈ wsX0_isWithin := (memIn_p [3, 4, 5, 6, 7, 8, 9, 10] rfl)
  have hl : lv_has ls 4 [(0, .ref (q 0)), (1, .int p1), (2, .int p2), (3, .int p3)] := hl
  refine lv_aload_n hx hb dX0_isWithin_0 rfl (lv_at hl 0 rfl) ?_
  refine va_get (D := D) (ci := 0) (v := .ref (q 1)) (C := RX0) (T := TX0) (N := 8) hx hb hts hiX0 hown hK hP 0 rfl rfl 0 (by decide) k9 (fun _ h9 => h9) rfl dX0_isWithin_1 ?_
  refine lv_iload_n hx hb dX0_isWithin_4 rfl (lv_at hl 1 rfl) ?_
  obtain ⟨hi_, hf⟩ := gd_ob hf
  refine va_iald hx hb hK hP 1 0 rfl rfl (inB_in hi_) dX0_isWithin_5 ?_
  refine lv_iload_n hx hb dX0_isWithin_6 rfl (lv_at hl 2 rfl) ?_
  refine lv_iconst (v := (-1)) hx hb dX0_isWithin_7 (by decide) ?_
  refine lv_ixor hx hb dX0_isWithin_8 ?_
  refine lv_iand hx hb dX0_isWithin_9 ?_
  refine lv_if_ne (tgt := 30) hx hb dX0_isWithin_10 (by decide) (fun c_10 => ?_) (fun c_10 => ?_)
  · have hf := ip c_10 hf
    refine lv_iconst (v := 0) hx hb dX0_isWithin_30 (by decide) ?_
    obtain ⟨hz, hf⟩ := gd_ob hf
    exact rR_z hx hb hr hlocks hz (so_ob hf) dX0_isWithin_31
  · have hf := iqn c_10 hf
    refine lv_aload_n hx hb dX0_isWithin_13 rfl (lv_at hl 0 rfl) ?_
    refine va_get (D := D) (ci := 0) (v := .ref (q 2)) (C := RX0) (T := TX0) (N := 8) hx hb hts hiX0 hown hK hP 0 rfl rfl 1 (by decide) k15 (fun _ h9 => h9) rfl dX0_isWithin_14 ?_
    refine lv_iload_n hx hb dX0_isWithin_17 rfl (lv_at hl 1 rfl) ?_
    obtain ⟨hi_, hf⟩ := gd_ob hf
    refine va_iald hx hb hK hP 2 0 rfl rfl (inB_in hi_) dX0_isWithin_18 ?_
    refine lv_iload_n hx hb dX0_isWithin_19 rfl (lv_at hl 3 rfl) ?_
    refine lv_iconst (v := (-1)) hx hb dX0_isWithin_20 (by decide) ?_
    refine lv_ixor hx hb dX0_isWithin_21 ?_
    refine lv_iand hx hb dX0_isWithin_22 ?_
    refine lv_if_ne (tgt := 30) hx hb dX0_isWithin_23 (by decide) (fun c_23 => ?_) (fun c_23 => ?_)
    · have hf := ip c_23 hf
      refine lv_iconst (v := 0) hx hb dX0_isWithin_30 (by decide) ?_
      obtain ⟨hz, hf⟩ := gd_ob hf
      exact rR_z hx hb hr hlocks hz (so_ob hf) dX0_isWithin_31
    · have hf := iqn c_23 hf
      refine lv_iconst (v := 1) hx hb dX0_isWithin_26 (by decide) ?_
      refine lv_goto (tgt := 31) hx hb dX0_isWithin_27 (by decide) ?_
      obtain ⟨hz, hf⟩ := gd_ob hf
      exact rR_z hx hb hr hlocks hz (so_ob hf) dX0_isWithin_31
def lX0_isSomeWithin_2 (fu : Nat) (z : OS) (p1 : Int32) (p2 : Int32) (j28 : Option (Int32)) : Nat → Int32 → Option (Int32)
  | 0, _ => none
  | n_2 + 1, v3_2 => (if (z.1 7) ≤ v3_2 then j28 else bd (fX0_isWithin fu z v3_2 p1 p2) (fun (r_1 : Int32) => (if r_1 = (0 : Int32) then nm (v3_2 + (1 : Int32)) (fun (v3_3 : Int32) => lX0_isSomeWithin_2 fu z p1 p2 j28 n_2 v3_3) else gd (isZ (1 : Int32)) (some (1 : Int32)))))
def fX0_isSomeWithin (fu : Nat) (z : OS) (p1 : Int32) (p2 : Int32) : Option (Int32) :=
  jn (κ := Option (Int32)) (gd (isZ (0 : Int32)) (some (0 : Int32))) (fun j28 => lX0_isSomeWithin_2 fu z p1 p2 j28 fu (0 : Int32))
set_option maxRecDepth 100000 in
set_option maxHeartbeats 4000000 in
theorem mX0_isSomeWithin (l : Launch) (D : va_G) (cI cB cZ cO : ClassId) (q : Nat → Nat) (fu : Nat) (z : OS) (p1 : Int32) (p2 : Int32) {r : Int32} (hf : fX0_isSomeWithin fu z p1 p2 = some r) : Met l yX0_isSomeWithin wsX0_isSomeWithin ({ frames := 1, cells := 0, slots := 0, locals := 23 }) (va_Pc [.ref (q 0), .int p1, .int p2] (Pr D (gT cI cB cZ cO) (wC cI q z))) (Qr (some (.int r))) 0 0 (fun _ => False) := by
  unfold fX0_isSomeWithin at hf
  refine metR (ret := (some .boolean)) (own := RX0) rfl (by decide) rfl (Nat.le_of_ble_eq_true rfl) (fun p e s m args below meth c ls hx hb hr hml hown hlocks hts hP hK hl => ?_)
  have k34 := (hts (.fieldLink RX0 34 "ResolutionProver$Clauses" "count" "I") (List.mem_of_getElem? (i := 1) rfl))
  have hiX0 : ∀ w ∈ wsX00, w ∈ wsX0_isSomeWithin := (memIn_p [9, 10, 11, 12, 13, 14, 15, 16] rfl)
  have hl : lv_has ls 4 [(0, .ref (q 0)), (1, .int p1), (2, .int p2)] := hl
  refine lv_iconst (v := 0) hx hb dX0_isSomeWithin_0 (by decide) ?_
  refine lv_istore_n (lv' := [(3, .int (0 : Int32)), (0, .ref (q 0)), (1, .int p1), (2, .int p2)]) hx hb dX0_isSomeWithin_1 rfl hl (by decide) rfl (fun ls hl => ?_)
  obtain ⟨j28, ej28, hf⟩ := jn_ob hf
  have hp28 : ∀  (ls : Array Slot), j28 = some r → lv_has ls 4 [] → W p l e (headSpec wsX0_isSomeWithin { frames := 1, cells := 0, slots := 0, locals := 23 }).room s m args below meth c s.heap [] 0 0 (MQ below (Qr (some (.int r))) args s 0 0 (fun _ => False)) (F0 m 28 ls []) := by
    intro ls hf hl
    rw [ej28] at hf
    refine lv_iconst (v := 0) hx hb dX0_isSomeWithin_28 (by decide) ?_
    obtain ⟨hz, hf⟩ := gd_ob hf
    exact rR_z hx hb hr hlocks hz (so_ob hf) dX0_isSomeWithin_29
  have hL2 : ∀ (n_2 : Nat) (v3_2 : Int32) (ls : Array Slot), lX0_isSomeWithin_2 fu z p1 p2 j28 n_2 v3_2 = some r → lv_has ls 4 [(0, .ref (q 0)), (1, .int p1), (2, .int p2), (3, .int v3_2)] → W p l e (headSpec wsX0_isSomeWithin { frames := 1, cells := 0, slots := 0, locals := 23 }).room s m args below meth c s.heap [] 0 0 (MQ below (Qr (some (.int r))) args s 0 0 (fun _ => False)) (F0 m 2 ls []) := by
    intro n_2
    induction n_2 with
    | zero =>
      intro v3_2 ls hf
      exact no_ob hf
    | succ n_2 ih2 =>
      intro v3_2 ls hf hl
      rw [lX0_isSomeWithin_2] at hf
      refine lv_iload_n hx hb dX0_isSomeWithin_2 rfl (lv_at hl 3 rfl) ?_
      refine lv_aload_n hx hb dX0_isSomeWithin_3 rfl (lv_at hl 0 rfl) ?_
      refine va_get (D := D) (ci := 0) (v := .int (z.1 7)) (C := RX0) (T := TX0) (N := 8) hx hb hts hiX0 hown hK hP 0 rfl rfl 7 (by decide) k34 (fun _ h9 => h9) rfl dX0_isSomeWithin_4 ?_
      refine lv_icmp_ge (tgt := 28) hx hb dX0_isSomeWithin_7 (by decide) (fun c_7 => ?_) (fun c_7 => ?_)
      · have hf := ip c_7 hf
        exact hp28 _ hf (lv_sub hl [] rfl)
      · have hf := iq c_7 hf
        refine lv_aload_n hx hb dX0_isSomeWithin_10 rfl (lv_at hl 0 rfl) ?_
        refine lv_iload_n hx hb dX0_isSomeWithin_11 rfl (lv_at hl 3 rfl) ?_
        refine lv_iload_n hx hb dX0_isSomeWithin_12 rfl (lv_at hl 1 rfl) ?_
        refine lv_iload_n hx hb dX0_isSomeWithin_13 rfl (lv_at hl 2 rfl) ?_
        obtain ⟨r_1, hc_2, hf⟩ := bd_ob hf
        refine rdV (As := [.int v3_2, .int p1, .int p2]) (rest := []) ⟨hx, hb, hml, hown, hts⟩ (mX0_isWithin l D cI cB cZ cO q fu z v3_2 p1 p2 hc_2) (cwV 3 hts gX0_isSomeWithin_X0_isWithin rfl rfl rfl (by decide +kernel) ⟨Nat.le_of_ble_eq_true rfl, Nat.le_of_ble_eq_true rfl⟩) hK hP (va_recv hK hP (ci := 0) (q0 := 0) rfl rfl) rfl hl.1 rfl (Nat.le_of_ble_eq_true rfl) dX0_isSomeWithin_14 ⟨Nat.zero_le _, Nat.zero_le _⟩ ?_
        refine lv_if_eq (tgt := 22) hx hb dX0_isSomeWithin_17 (by decide) (fun c_17 => ?_) (fun c_17 => ?_)
        · have hf := ip c_17 hf
          obtain ⟨v3_3, ev3_3, hf⟩ := nm_ob hf
          refine lv_iinc (v := v3_3) (lv' := [(3, .int v3_3), (0, .ref (q 0)), (1, .int p1), (2, .int p2)]) hx hb dX0_isSomeWithin_22 hl (k := 3) rfl (by rw [ev3_3]; rfl) (by decide) rfl (fun ls hl => ?_)
          refine lv_goto (tgt := 2) hx hb dX0_isSomeWithin_25 (by decide) ?_
          exact ih2 v3_3 _ hf (lv_sub hl [1, 2, 3, 0] rfl)
        · have hf := iq c_17 hf
          refine lv_iconst (v := 1) hx hb dX0_isSomeWithin_20 (by decide) ?_
          obtain ⟨hz, hf⟩ := gd_ob hf
          exact rR_z hx hb hr hlocks hz (so_ob hf) dX0_isSomeWithin_21
  exact hL2 fu (0 : Int32) _ hf (lv_sub hl [1, 2, 3, 0] rfl)
def lX0_firstSubsumer_2 (fu : Nat) (z : OS) (p1 : Int32) (j43 : Option (Int32)) : Nat → Int32 → Option (Int32)
  | 0, _ => none
  | n_2 + 1, v2_2 => (if (z.1 7) ≤ v2_2 then j43 else jn (κ := Option (Int32)) (nm (v2_2 + (1 : Int32)) (fun (v2_1 : Int32) => lX0_firstSubsumer_2 fu z p1 j43 n_2 v2_1)) (fun j37 => (if v2_2 = p1 then j37 else gd (inB p1 60) (gd (inB p1 60) (bd (fX0_isWithin fu z v2_2 (z.2 0 (p1).toNatClampNeg) (z.2 1 (p1).toNatClampNeg)) (fun (r_2 : Int32) => (if r_2 = (0 : Int32) then j37 else some v2_2)))))))
def fX0_firstSubsumer (fu : Nat) (z : OS) (p1 : Int32) : Option (Int32) :=
  jn (κ := Option (Int32)) (some (-1 : Int32)) (fun j43 => lX0_firstSubsumer_2 fu z p1 j43 fu (0 : Int32))
set_option maxRecDepth 100000 in
set_option maxHeartbeats 4000000 in
theorem mX0_firstSubsumer (l : Launch) (D : va_G) (cI cB cZ cO : ClassId) (q : Nat → Nat) (fu : Nat) (z : OS) (p1 : Int32) {r : Int32} (hf : fX0_firstSubsumer fu z p1 = some r) : Met l yX0_firstSubsumer wsX0_firstSubsumer ({ frames := 1, cells := 0, slots := 0, locals := 23 }) (va_Pc [.ref (q 0), .int p1] (Pr D (gT cI cB cZ cO) (wC cI q z))) (Qr (some (.int r))) 0 0 (fun _ => False) := by
  unfold fX0_firstSubsumer at hf
  refine metR (ret := (some .int)) (own := RX0) rfl (by decide) rfl (Nat.le_of_ble_eq_true rfl) (fun p e s m args below meth c ls hx hb hr hml hown hlocks hts hP hK hl => ?_)
  have k34 := (hts (.fieldLink RX0 34 "ResolutionProver$Clauses" "count" "I") (List.mem_of_getElem? (i := 1) rfl))
  have k9 := (hts (.fieldLink RX0 9 "ResolutionProver$Clauses" "positive" "[I") (List.mem_of_getElem? (i := 2) rfl))
  have k15 := (hts (.fieldLink RX0 15 "ResolutionProver$Clauses" "negative" "[I") (List.mem_of_getElem? (i := 3) rfl))
  have hiX0 : ∀ w ∈ wsX00, w ∈ wsX0_firstSubsumer := (memIn_p [9, 10, 11, 12, 13, 14, 15, 16] rfl)
  have hl : lv_has ls 3 [(0, .ref (q 0)), (1, .int p1)] := hl
  refine lv_iconst (v := 0) hx hb dX0_firstSubsumer_0 (by decide) ?_
  refine lv_istore_n (lv' := [(2, .int (0 : Int32)), (0, .ref (q 0)), (1, .int p1)]) hx hb dX0_firstSubsumer_1 rfl hl (by decide) rfl (fun ls hl => ?_)
  obtain ⟨j43, ej43, hf⟩ := jn_ob hf
  have hp43 : ∀  (ls : Array Slot), j43 = some r → lv_has ls 3 [] → W p l e (headSpec wsX0_firstSubsumer { frames := 1, cells := 0, slots := 0, locals := 23 }).room s m args below meth c s.heap [] 0 0 (MQ below (Qr (some (.int r))) args s 0 0 (fun _ => False)) (F0 m 43 ls []) := by
    intro ls hf hl
    rw [ej43] at hf
    refine lv_iconst (v := (-1)) hx hb dX0_firstSubsumer_43 (by decide) ?_
    exact rR_i hx hb hr hlocks (so_ob hf) dX0_firstSubsumer_44
  have hL2 : ∀ (n_2 : Nat) (v2_2 : Int32) (ls : Array Slot), lX0_firstSubsumer_2 fu z p1 j43 n_2 v2_2 = some r → lv_has ls 3 [(0, .ref (q 0)), (1, .int p1), (2, .int v2_2)] → W p l e (headSpec wsX0_firstSubsumer { frames := 1, cells := 0, slots := 0, locals := 23 }).room s m args below meth c s.heap [] 0 0 (MQ below (Qr (some (.int r))) args s 0 0 (fun _ => False)) (F0 m 2 ls []) := by
    intro n_2
    induction n_2 with
    | zero =>
      intro v2_2 ls hf
      exact no_ob hf
    | succ n_2 ih2 =>
      intro v2_2 ls hf hl
      rw [lX0_firstSubsumer_2] at hf
      refine lv_iload_n hx hb dX0_firstSubsumer_2 rfl (lv_at hl 2 rfl) ?_
      refine lv_aload_n hx hb dX0_firstSubsumer_3 rfl (lv_at hl 0 rfl) ?_
      refine va_get (D := D) (ci := 0) (v := .int (z.1 7)) (C := RX0) (T := TX0) (N := 8) hx hb hts hiX0 hown hK hP 0 rfl rfl 7 (by decide) k34 (fun _ h9 => h9) rfl dX0_firstSubsumer_4 ?_
      refine lv_icmp_ge (tgt := 43) hx hb dX0_firstSubsumer_7 (by decide) (fun c_7 => ?_) (fun c_7 => ?_)
      · have hf := ip c_7 hf
        exact hp43 _ hf (lv_sub hl [] rfl)
      · have hf := iq c_7 hf
        refine lv_iload_n hx hb dX0_firstSubsumer_10 rfl (lv_at hl 2 rfl) ?_
        refine lv_iload_n hx hb dX0_firstSubsumer_11 rfl (lv_at hl 1 rfl) ?_
        obtain ⟨j37, ej37, hf⟩ := jn_ob hf
        have hp37 : ∀  (ls : Array Slot), j37 = some r → lv_has ls 3 [(0, .ref (q 0)), (1, .int p1), (2, .int v2_2)] → W p l e (headSpec wsX0_firstSubsumer { frames := 1, cells := 0, slots := 0, locals := 23 }).room s m args below meth c s.heap [] 0 0 (MQ below (Qr (some (.int r))) args s 0 0 (fun _ => False)) (F0 m 37 ls []) := by
          intro ls hf hl
          rw [ej37] at hf
          obtain ⟨v2_1, ev2_1, hf⟩ := nm_ob hf
          refine lv_iinc (v := v2_1) (lv' := [(2, .int v2_1), (0, .ref (q 0)), (1, .int p1)]) hx hb dX0_firstSubsumer_37 hl (k := 2) rfl (by rw [ev2_1]; rfl) (by decide) rfl (fun ls hl => ?_)
          refine lv_goto (tgt := 2) hx hb dX0_firstSubsumer_40 (by decide) ?_
          exact ih2 v2_1 _ hf (lv_sub hl [1, 2, 0] rfl)
        refine lv_icmp_eq (tgt := 37) hx hb dX0_firstSubsumer_12 (by decide) (fun c_12 => ?_) (fun c_12 => ?_)
        · have hf := ip c_12 hf
          exact hp37 _ hf hl
        · have hf := iq c_12 hf
          refine lv_aload_n hx hb dX0_firstSubsumer_15 rfl (lv_at hl 0 rfl) ?_
          refine lv_iload_n hx hb dX0_firstSubsumer_16 rfl (lv_at hl 2 rfl) ?_
          refine lv_aload_n hx hb dX0_firstSubsumer_17 rfl (lv_at hl 0 rfl) ?_
          refine va_get (D := D) (ci := 0) (v := .ref (q 1)) (C := RX0) (T := TX0) (N := 8) hx hb hts hiX0 hown hK hP 0 rfl rfl 0 (by decide) k9 (fun _ h9 => h9) rfl dX0_firstSubsumer_18 ?_
          refine lv_iload_n hx hb dX0_firstSubsumer_21 rfl (lv_at hl 1 rfl) ?_
          obtain ⟨hi_, hf⟩ := gd_ob hf
          refine va_iald hx hb hK hP 1 0 rfl rfl (inB_in hi_) dX0_firstSubsumer_22 ?_
          refine lv_aload_n hx hb dX0_firstSubsumer_23 rfl (lv_at hl 0 rfl) ?_
          refine va_get (D := D) (ci := 0) (v := .ref (q 2)) (C := RX0) (T := TX0) (N := 8) hx hb hts hiX0 hown hK hP 0 rfl rfl 1 (by decide) k15 (fun _ h9 => h9) rfl dX0_firstSubsumer_24 ?_
          refine lv_iload_n hx hb dX0_firstSubsumer_27 rfl (lv_at hl 1 rfl) ?_
          obtain ⟨hi_, hf⟩ := gd_ob hf
          refine va_iald hx hb hK hP 2 0 rfl rfl (inB_in hi_) dX0_firstSubsumer_28 ?_
          obtain ⟨r_2, hc_3, hf⟩ := bd_ob hf
          refine rdV (As := [.int v2_2, .int (z.2 0 (p1).toNatClampNeg), .int (z.2 1 (p1).toNatClampNeg)]) (rest := []) ⟨hx, hb, hml, hown, hts⟩ (mX0_isWithin l D cI cB cZ cO q fu z v2_2 (z.2 0 (p1).toNatClampNeg) (z.2 1 (p1).toNatClampNeg) hc_3) (cwV 3 hts gX0_firstSubsumer_X0_isWithin rfl rfl rfl (by decide +kernel) ⟨Nat.le_of_ble_eq_true rfl, Nat.le_of_ble_eq_true rfl⟩) hK hP (va_recv hK hP (ci := 0) (q0 := 0) rfl rfl) rfl hl.1 rfl (Nat.le_of_ble_eq_true rfl) dX0_firstSubsumer_29 ⟨Nat.zero_le _, Nat.zero_le _⟩ ?_
          refine lv_if_eq (tgt := 37) hx hb dX0_firstSubsumer_32 (by decide) (fun c_32 => ?_) (fun c_32 => ?_)
          · have hf := ip c_32 hf
            exact hp37 _ hf hl
          · have hf := iq c_32 hf
            refine lv_iload_n hx hb dX0_firstSubsumer_35 rfl (lv_at hl 2 rfl) ?_
            exact rR_i hx hb hr hlocks (so_ob hf) dX0_firstSubsumer_36
  exact hL2 fu (0 : Int32) _ hf (lv_sub hl [1, 2, 0] rfl)
def lX0_countSubsumed_4 (fu : Nat) (z : OS) (j30 : Int32 → Option (Int32)) : Nat → Int32 → Int32 → Option (Int32)
  | 0, _, _ => none
  | n_4 + 1, v1_4, v2_4 => (if (z.1 7) ≤ v2_4 then j30 v1_4 else bd (fX0_firstSubsumer fu z v2_4) (fun (r_1 : Int32) => jn (κ := Int32 → Option (Int32)) (fun (v1_24 : Int32) => nm (v2_4 + (1 : Int32)) (fun (v2_3 : Int32) => lX0_countSubsumed_4 fu z j30 n_4 v1_24 v2_3)) (fun j24 => (if r_1 = (-1 : Int32) then j24 v1_4 else nm (v1_4 + (1 : Int32)) (fun (v1_4 : Int32) => j24 v1_4)))))
def fX0_countSubsumed (fu : Nat) (z : OS) : Option (Int32) :=
  jn (κ := Int32 → Option (Int32)) (fun (v1_30 : Int32) => some v1_30) (fun j30 => lX0_countSubsumed_4 fu z j30 fu (0 : Int32) (0 : Int32))
set_option maxRecDepth 100000 in
set_option maxHeartbeats 4000000 in
theorem mX0_countSubsumed (l : Launch) (D : va_G) (cI cB cZ cO : ClassId) (q : Nat → Nat) (fu : Nat) (z : OS) {r : Int32} (hf : fX0_countSubsumed fu z = some r) : Met l yX0_countSubsumed wsX0_countSubsumed ({ frames := 2, cells := 0, slots := 0, locals := 45 }) (va_Pc [.ref (q 0)] (Pr D (gT cI cB cZ cO) (wC cI q z))) (Qr (some (.int r))) 0 0 (fun _ => False) := by
  unfold fX0_countSubsumed at hf
  refine metR (ret := (some .int)) (own := RX0) rfl (by decide) rfl (Nat.le_of_ble_eq_true rfl) (fun p e s m args below meth c ls hx hb hr hml hown hlocks hts hP hK hl => ?_)
  have k34 := (hts (.fieldLink RX0 34 "ResolutionProver$Clauses" "count" "I") (List.mem_of_getElem? (i := 1) rfl))
  have hiX0 : ∀ w ∈ wsX00, w ∈ wsX0_countSubsumed := (memIn_p [13, 14, 15, 16, 17, 18, 19, 20] rfl)
  have hl : lv_has ls 3 [(0, .ref (q 0))] := hl
  refine lv_iconst (v := 0) hx hb dX0_countSubsumed_0 (by decide) ?_
  refine lv_istore_n (lv' := [(1, .int (0 : Int32)), (0, .ref (q 0))]) hx hb dX0_countSubsumed_1 rfl hl (by decide) rfl (fun ls hl => ?_)
  refine lv_iconst (v := 0) hx hb dX0_countSubsumed_2 (by decide) ?_
  refine lv_istore_n (lv' := [(2, .int (0 : Int32)), (1, .int (0 : Int32)), (0, .ref (q 0))]) hx hb dX0_countSubsumed_3 rfl hl (by decide) rfl (fun ls hl => ?_)
  obtain ⟨j30, ej30, hf⟩ := jn_ob hf
  have hp30 : ∀ (v1_30 : Int32) (ls : Array Slot), j30 v1_30 = some r → lv_has ls 3 [(1, .int v1_30)] → W p l e (headSpec wsX0_countSubsumed { frames := 2, cells := 0, slots := 0, locals := 45 }).room s m args below meth c s.heap [] 0 0 (MQ below (Qr (some (.int r))) args s 0 0 (fun _ => False)) (F0 m 30 ls []) := by
    intro v1_30 ls hf hl
    rw [ej30] at hf
    refine lv_iload_n hx hb dX0_countSubsumed_30 rfl (lv_at hl 0 rfl) ?_
    exact rR_i hx hb hr hlocks (so_ob hf) dX0_countSubsumed_31
  have hL4 : ∀ (n_4 : Nat) (v1_4 : Int32) (v2_4 : Int32) (ls : Array Slot), lX0_countSubsumed_4 fu z j30 n_4 v1_4 v2_4 = some r → lv_has ls 3 [(0, .ref (q 0)), (1, .int v1_4), (2, .int v2_4)] → W p l e (headSpec wsX0_countSubsumed { frames := 2, cells := 0, slots := 0, locals := 45 }).room s m args below meth c s.heap [] 0 0 (MQ below (Qr (some (.int r))) args s 0 0 (fun _ => False)) (F0 m 4 ls []) := by
    intro n_4
    induction n_4 with
    | zero =>
      intro v1_4 v2_4 ls hf
      exact no_ob hf
    | succ n_4 ih4 =>
      intro v1_4 v2_4 ls hf hl
      rw [lX0_countSubsumed_4] at hf
      refine lv_iload_n hx hb dX0_countSubsumed_4 rfl (lv_at hl 2 rfl) ?_
      refine lv_aload_n hx hb dX0_countSubsumed_5 rfl (lv_at hl 0 rfl) ?_
      refine va_get (D := D) (ci := 0) (v := .int (z.1 7)) (C := RX0) (T := TX0) (N := 8) hx hb hts hiX0 hown hK hP 0 rfl rfl 7 (by decide) k34 (fun _ h9 => h9) rfl dX0_countSubsumed_6 ?_
      refine lv_icmp_ge (tgt := 30) hx hb dX0_countSubsumed_9 (by decide) (fun c_9 => ?_) (fun c_9 => ?_)
      · have hf := ip c_9 hf
        exact hp30 v1_4 _ hf (lv_sub hl [1] rfl)
      · have hf := iq c_9 hf
        refine lv_aload_n hx hb dX0_countSubsumed_12 rfl (lv_at hl 0 rfl) ?_
        refine lv_iload_n hx hb dX0_countSubsumed_13 rfl (lv_at hl 2 rfl) ?_
        obtain ⟨r_1, hc_2, hf⟩ := bd_ob hf
        refine rdV (As := [.int v2_4]) (rest := []) ⟨hx, hb, hml, hown, hts⟩ (mX0_firstSubsumer l D cI cB cZ cO q fu z v2_4 hc_2) (cwV 1 hts gX0_countSubsumed_X0_firstSubsumer rfl rfl rfl (by decide +kernel) ⟨Nat.le_of_ble_eq_true rfl, Nat.le_of_ble_eq_true rfl⟩) hK hP (va_recv hK hP (ci := 0) (q0 := 0) rfl rfl) rfl hl.1 rfl (Nat.le_of_ble_eq_true rfl) dX0_countSubsumed_14 ⟨Nat.zero_le _, Nat.zero_le _⟩ ?_
        refine lv_iconst (v := (-1)) hx hb dX0_countSubsumed_17 (by decide) ?_
        obtain ⟨j24, ej24, hf⟩ := jn_ob hf
        have hp24 : ∀ (v1_24 : Int32) (ls : Array Slot), j24 v1_24 = some r → lv_has ls 3 [(0, .ref (q 0)), (1, .int v1_24), (2, .int v2_4)] → W p l e (headSpec wsX0_countSubsumed { frames := 2, cells := 0, slots := 0, locals := 45 }).room s m args below meth c s.heap [] 0 0 (MQ below (Qr (some (.int r))) args s 0 0 (fun _ => False)) (F0 m 24 ls []) := by
          intro v1_24 ls hf hl
          rw [ej24] at hf
          obtain ⟨v2_3, ev2_3, hf⟩ := nm_ob hf
          refine lv_iinc (v := v2_3) (lv' := [(2, .int v2_3), (0, .ref (q 0)), (1, .int v1_24)]) hx hb dX0_countSubsumed_24 hl (k := 2) rfl (by rw [ev2_3]; rfl) (by decide) rfl (fun ls hl => ?_)
          refine lv_goto (tgt := 4) hx hb dX0_countSubsumed_27 (by decide) ?_
          exact ih4 v1_24 v2_3 _ hf (lv_sub hl [1, 2, 0] rfl)
        refine lv_icmp_eq (tgt := 24) hx hb dX0_countSubsumed_18 (by decide) (fun c_18 => ?_) (fun c_18 => ?_)
        · have hf := ip c_18 hf
          exact hp24 v1_4 _ hf hl
        · have hf := iq c_18 hf
          obtain ⟨v1_4, ev1_4, hf⟩ := nm_ob hf
          refine lv_iinc (v := v1_4) (lv' := [(1, .int v1_4), (0, .ref (q 0)), (2, .int v2_4)]) hx hb dX0_countSubsumed_21 hl (k := 1) rfl (by rw [ev1_4]; rfl) (by decide) rfl (fun ls hl => ?_)
          exact hp24 v1_4 _ hf (lv_sub hl [1, 0, 2] rfl)
  exact hL4 fu (0 : Int32) (0 : Int32) _ hf (lv_sub hl [2, 1, 0] rfl)
def fX0_isTrueUnder (fu : Nat) (z : OS) (p1 : Int32) (p2 : Int32) : Option (Int32) :=
  gd (inB p1 60) (jn (κ := Option (Int32)) (gd (isZ (1 : Int32)) (some (1 : Int32))) (fun j24 => (if ¬ ((z.2 0 (p1).toNatClampNeg) &&& p2) = (0 : Int32) then j24 else gd (inB p1 60) ((if ((z.2 1 (p1).toNatClampNeg) &&& (p2 ^^^ (-1 : Int32))) = (0 : Int32) then gd (isZ (0 : Int32)) (some (0 : Int32)) else j24)))))
set_option maxRecDepth 100000 in
set_option maxHeartbeats 4000000 in
theorem mX0_isTrueUnder (l : Launch) (D : va_G) (cI cB cZ cO : ClassId) (q : Nat → Nat) (fu : Nat) (z : OS) (p1 : Int32) (p2 : Int32) {r : Int32} (hf : fX0_isTrueUnder fu z p1 p2 = some r) : Met l yX0_isTrueUnder wsX0_isTrueUnder ({ frames := 0, cells := 0, slots := 0, locals := 0 }) (va_Pc [.ref (q 0), .int p1, .int p2] (Pr D (gT cI cB cZ cO) (wC cI q z))) (Qr (some (.int r))) 0 0 (fun _ => False) := by
  unfold fX0_isTrueUnder at hf
  refine metR (ret := (some .boolean)) (own := RX0) rfl (by decide) rfl (Nat.le_of_ble_eq_true rfl) (fun p e s m args below meth c ls hx hb hr hml hown hlocks hts hP hK hl => ?_)
  have k9 := (hts (.fieldLink RX0 9 "ResolutionProver$Clauses" "positive" "[I") (List.mem_of_getElem? (i := 1) rfl))
  have k15 := (hts (.fieldLink RX0 15 "ResolutionProver$Clauses" "negative" "[I") (List.mem_of_getElem? (i := 2) rfl))
  have hiX0 : ∀ w ∈ wsX00, w ∈ wsX0_isTrueUnder := (memIn_p [3, 4, 5, 6, 7, 8, 9, 10] rfl)
  have hl : lv_has ls 3 [(0, .ref (q 0)), (1, .int p1), (2, .int p2)] := hl
  refine lv_aload_n hx hb dX0_isTrueUnder_0 rfl (lv_at hl 0 rfl) ?_
  refine va_get (D := D) (ci := 0) (v := .ref (q 1)) (C := RX0) (T := TX0) (N := 8) hx hb hts hiX0 hown hK hP 0 rfl rfl 0 (by decide) k9 (fun _ h9 => h9) rfl dX0_isTrueUnder_1 ?_
  refine lv_iload_n hx hb dX0_isTrueUnder_4 rfl (lv_at hl 1 rfl) ?_
  obtain ⟨hi_, hf⟩ := gd_ob hf
  refine va_iald hx hb hK hP 1 0 rfl rfl (inB_in hi_) dX0_isTrueUnder_5 ?_
  refine lv_iload_n hx hb dX0_isTrueUnder_6 rfl (lv_at hl 2 rfl) ?_
  refine lv_iand hx hb dX0_isTrueUnder_7 ?_
  obtain ⟨j24, ej24, hf⟩ := jn_ob hf
  have hp24 : ∀  (ls : Array Slot), j24 = some r → lv_has ls 3 [] → W p l e (headSpec wsX0_isTrueUnder { frames := 0, cells := 0, slots := 0, locals := 0 }).room s m args below meth c s.heap [] 0 0 (MQ below (Qr (some (.int r))) args s 0 0 (fun _ => False)) (F0 m 24 ls []) := by
    intro ls hf hl
    rw [ej24] at hf
    refine lv_iconst (v := 1) hx hb dX0_isTrueUnder_24 (by decide) ?_
    refine lv_goto (tgt := 29) hx hb dX0_isTrueUnder_25 (by decide) ?_
    obtain ⟨hz, hf⟩ := gd_ob hf
    exact rR_z hx hb hr hlocks hz (so_ob hf) dX0_isTrueUnder_29
  refine lv_if_ne (tgt := 24) hx hb dX0_isTrueUnder_8 (by decide) (fun c_8 => ?_) (fun c_8 => ?_)
  · have hf := ip c_8 hf
    exact hp24 _ hf (lv_sub hl [] rfl)
  · have hf := iqn c_8 hf
    refine lv_aload_n hx hb dX0_isTrueUnder_11 rfl (lv_at hl 0 rfl) ?_
    refine va_get (D := D) (ci := 0) (v := .ref (q 2)) (C := RX0) (T := TX0) (N := 8) hx hb hts hiX0 hown hK hP 0 rfl rfl 1 (by decide) k15 (fun _ h9 => h9) rfl dX0_isTrueUnder_12 ?_
    refine lv_iload_n hx hb dX0_isTrueUnder_15 rfl (lv_at hl 1 rfl) ?_
    obtain ⟨hi_, hf⟩ := gd_ob hf
    refine va_iald hx hb hK hP 2 0 rfl rfl (inB_in hi_) dX0_isTrueUnder_16 ?_
    refine lv_iload_n hx hb dX0_isTrueUnder_17 rfl (lv_at hl 2 rfl) ?_
    refine lv_iconst (v := (-1)) hx hb dX0_isTrueUnder_18 (by decide) ?_
    refine lv_ixor hx hb dX0_isTrueUnder_19 ?_
    refine lv_iand hx hb dX0_isTrueUnder_20 ?_
    refine lv_if_eq (tgt := 28) hx hb dX0_isTrueUnder_21 (by decide) (fun c_21 => ?_) (fun c_21 => ?_)
    · have hf := ip c_21 hf
      refine lv_iconst (v := 0) hx hb dX0_isTrueUnder_28 (by decide) ?_
      obtain ⟨hz, hf⟩ := gd_ob hf
      exact rR_z hx hb hr hlocks hz (so_ob hf) dX0_isTrueUnder_29
    · have hf := iq c_21 hf
      exact hp24 _ hf (lv_sub hl [] rfl)
def fX0_addGiven (fu : Nat) (z : OS) (p1 : Int32) (p2 : Int32) : Option (Int32 × (OS)) :=
  bd (fX0_isFull fu z) (fun (r_1 : Int32) => (if r_1 = (0 : Int32) then nm (z.1 7) (fun (v3_3 : Int32) => gd (inB v3_3 60) (nm (sA z 0 (upd (z.2 0) (v3_3).toNatClampNeg p1)) (fun (z_4 : OS) => gd (inB v3_3 60) (nm (sA z_4 1 (upd (z_4.2 1) (v3_3).toNatClampNeg p2)) (fun (z_5 : OS) => gd (inB v3_3 60) (nm (sA z_5 2 (upd (z_5.2 2) (v3_3).toNatClampNeg (-1 : Int32))) (fun (z_6 : OS) => gd (inB v3_3 60) (nm (sA z_6 3 (upd (z_6.2 3) (v3_3).toNatClampNeg (-1 : Int32))) (fun (z_7 : OS) => gd (inB v3_3 60) (nm (sA z_7 4 (upd (z_7.2 4) (v3_3).toNatClampNeg (-1 : Int32))) (fun (z_8 : OS) => gd (inB v3_3 60) (nm (sA z_8 5 (upd (z_8.2 5) (v3_3).toNatClampNeg (0 : Int32))) (fun (z_9 : OS) => nm (sI z_9 7 ((z_9.1 7) + (1 : Int32))) (fun (z_10 : OS) => some (v3_3, z_10))))))))))))))) else some ((-1 : Int32), z)))
set_option maxRecDepth 100000 in
set_option maxHeartbeats 4000000 in
theorem mX0_addGiven (l : Launch) (D : va_G) (cI cB cZ cO : ClassId) (q : Nat → Nat) (sz : Nat) (fu : Nat) (z : OS) (p1 : Int32) (p2 : Int32) {r : Int32} {y1 : OS} (hf : fX0_addGiven fu z p1 p2 = some (r, y1)) : Met l yX0_addGiven wsX0_addGiven ({ frames := 1, cells := 0, slots := 0, locals := 20 }) (va_Pc [.ref (q 0), .int p1, .int p2] (Pw D (gT cI cB cZ cO) (wC cI q z) sz)) (Qw D (va_A (wC cI q z) sz) (some (.int r)) (wC cI q y1)) 0 0 (va_A (wC cI q z) sz) := by
  unfold fX0_addGiven at hf
  refine metW (ret := (some .int)) (own := RX0) rfl (by decide) rfl (Nat.le_of_ble_eq_true rfl) (fun p e s m args below meth c ls A hx hb hr hml hown hlocks hts hK hA hP hD hS hl => ?_)
  have k34 := (hts (.fieldLink RX0 34 "ResolutionProver$Clauses" "count" "I") (List.mem_of_getElem? (i := 1) rfl))
  have k9 := (hts (.fieldLink RX0 9 "ResolutionProver$Clauses" "positive" "[I") (List.mem_of_getElem? (i := 2) rfl))
  have k15 := (hts (.fieldLink RX0 15 "ResolutionProver$Clauses" "negative" "[I") (List.mem_of_getElem? (i := 3) rfl))
  have k18 := (hts (.fieldLink RX0 18 "ResolutionProver$Clauses" "parentWith" "[I") (List.mem_of_getElem? (i := 4) rfl))
  have k21 := (hts (.fieldLink RX0 21 "ResolutionProver$Clauses" "parentWithout" "[I") (List.mem_of_getElem? (i := 5) rfl))
  have k24 := (hts (.fieldLink RX0 24 "ResolutionProver$Clauses" "pivot" "[I") (List.mem_of_getElem? (i := 6) rfl))
  have k27 := (hts (.fieldLink RX0 27 "ResolutionProver$Clauses" "depth" "[I") (List.mem_of_getElem? (i := 7) rfl))
  have hiX0 : ∀ w ∈ wsX00, w ∈ wsX0_addGiven := (memIn_p [13, 14, 15, 16, 17, 18, 19, 20] rfl)
  have hl : lv_has ls 4 [(0, .ref (q 0)), (1, .int p1), (2, .int p2)] := hl
  refine lv_aload_n hx hb dX0_addGiven_0 rfl (lv_at hl 0 rfl) ?_
  obtain ⟨r_1, hc_2, hf⟩ := bd_ob hf
  refine rdV (As := []) (rest := []) ⟨hx, hb, hml, hown, hts⟩ (mX0_isFull l D cI cB cZ cO q fu z hc_2) (cwV 0 hts gX0_addGiven_X0_isFull rfl rfl rfl (by decide +kernel) ⟨Nat.le_of_ble_eq_true rfl, Nat.le_of_ble_eq_true rfl⟩) hK hP (va_recv hK hP (ci := 0) (q0 := 0) rfl rfl) rfl hl.1 rfl (Nat.le_of_ble_eq_true rfl) dX0_addGiven_1 ⟨Nat.zero_le _, Nat.zero_le _⟩ ?_
  refine lv_if_eq (tgt := 9) hx hb dX0_addGiven_4 (by decide) (fun c_4 => ?_) (fun c_4 => ?_)
  · have hf := ip c_4 hf
    refine lv_aload_n hx hb dX0_addGiven_9 rfl (lv_at hl 0 rfl) ?_
    refine va_get (D := D) (ci := 0) (v := .int (z.1 7)) (C := RX0) (T := TX0) (N := 8) hx hb hts hiX0 hown hK hP 0 rfl rfl 7 (by decide) k34 (fun _ h9 => h9) rfl dX0_addGiven_10 ?_
    obtain ⟨v3_3, ev3_3, hf⟩ := nm_ob hf
    refine lv_nmi ev3_3 ?_
    refine lv_istore_n (lv' := [(3, .int v3_3), (0, .ref (q 0)), (1, .int p1), (2, .int p2)]) hx hb dX0_addGiven_13 rfl hl (by decide) rfl (fun ls hl => ?_)
    refine lv_aload_n hx hb dX0_addGiven_14 rfl (lv_at hl 1 rfl) ?_
    refine va_get (D := D) (ci := 0) (v := .ref (q 1)) (C := RX0) (T := TX0) (N := 8) hx hb hts hiX0 hown hK hP 0 rfl rfl 0 (by decide) k9 (fun _ h9 => h9) rfl dX0_addGiven_15 ?_
    refine lv_iload_n hx hb dX0_addGiven_18 rfl (lv_at hl 0 rfl) ?_
    refine lv_iload_n hx hb dX0_addGiven_19 rfl (lv_at hl 2 rfl) ?_
    obtain ⟨hi_, hf⟩ := gd_ob hf
    refine va_iast hx hb hK hP hD hS 1 0 rfl rfl (inB_in hi_) dX0_addGiven_20 (fun H locs hP hD hS => ?_)
    obtain ⟨z_4, ez_4, hf⟩ := nm_ob hf
    have hP : va_P D vwCl (wC cI q z_4) H := by rw [ez_4]; exact hP
    have hD : va_D A (wC cI q z_4) := by rw [ez_4]; exact hD
    refine lv_aload_n hx hb dX0_addGiven_21 rfl (lv_at hl 1 rfl) ?_
    refine va_get (D := D) (ci := 0) (v := .ref (q 2)) (C := RX0) (T := TX0) (N := 8) hx hb hts hiX0 hown hK hP 0 rfl rfl 1 (by decide) k15 (fun _ h9 => h9) rfl dX0_addGiven_22 ?_
    refine lv_iload_n hx hb dX0_addGiven_25 rfl (lv_at hl 0 rfl) ?_
    refine lv_iload_n hx hb dX0_addGiven_26 rfl (lv_at hl 3 rfl) ?_
    obtain ⟨hi_, hf⟩ := gd_ob hf
    refine va_iast hx hb hK hP hD hS 2 0 rfl rfl (inB_in hi_) dX0_addGiven_27 (fun H locs hP hD hS => ?_)
    obtain ⟨z_5, ez_5, hf⟩ := nm_ob hf
    have hP : va_P D vwCl (wC cI q z_5) H := by rw [ez_5]; exact hP
    have hD : va_D A (wC cI q z_5) := by rw [ez_5]; exact hD
    refine lv_aload_n hx hb dX0_addGiven_28 rfl (lv_at hl 1 rfl) ?_
    refine va_get (D := D) (ci := 0) (v := .ref (q 3)) (C := RX0) (T := TX0) (N := 8) hx hb hts hiX0 hown hK hP 0 rfl rfl 2 (by decide) k18 (fun _ h9 => h9) rfl dX0_addGiven_29 ?_
    refine lv_iload_n hx hb dX0_addGiven_32 rfl (lv_at hl 0 rfl) ?_
    refine lv_iconst (v := (-1)) hx hb dX0_addGiven_33 (by decide) ?_
    obtain ⟨hi_, hf⟩ := gd_ob hf
    refine va_iast hx hb hK hP hD hS 3 0 rfl rfl (inB_in hi_) dX0_addGiven_34 (fun H locs hP hD hS => ?_)
    obtain ⟨z_6, ez_6, hf⟩ := nm_ob hf
    have hP : va_P D vwCl (wC cI q z_6) H := by rw [ez_6]; exact hP
    have hD : va_D A (wC cI q z_6) := by rw [ez_6]; exact hD
    refine lv_aload_n hx hb dX0_addGiven_35 rfl (lv_at hl 1 rfl) ?_
    refine va_get (D := D) (ci := 0) (v := .ref (q 4)) (C := RX0) (T := TX0) (N := 8) hx hb hts hiX0 hown hK hP 0 rfl rfl 3 (by decide) k21 (fun _ h9 => h9) rfl dX0_addGiven_36 ?_
    refine lv_iload_n hx hb dX0_addGiven_39 rfl (lv_at hl 0 rfl) ?_
    refine lv_iconst (v := (-1)) hx hb dX0_addGiven_40 (by decide) ?_
    obtain ⟨hi_, hf⟩ := gd_ob hf
    refine va_iast hx hb hK hP hD hS 4 0 rfl rfl (inB_in hi_) dX0_addGiven_41 (fun H locs hP hD hS => ?_)
    obtain ⟨z_7, ez_7, hf⟩ := nm_ob hf
    have hP : va_P D vwCl (wC cI q z_7) H := by rw [ez_7]; exact hP
    have hD : va_D A (wC cI q z_7) := by rw [ez_7]; exact hD
    refine lv_aload_n hx hb dX0_addGiven_42 rfl (lv_at hl 1 rfl) ?_
    refine va_get (D := D) (ci := 0) (v := .ref (q 5)) (C := RX0) (T := TX0) (N := 8) hx hb hts hiX0 hown hK hP 0 rfl rfl 4 (by decide) k24 (fun _ h9 => h9) rfl dX0_addGiven_43 ?_
    refine lv_iload_n hx hb dX0_addGiven_46 rfl (lv_at hl 0 rfl) ?_
    refine lv_iconst (v := (-1)) hx hb dX0_addGiven_47 (by decide) ?_
    obtain ⟨hi_, hf⟩ := gd_ob hf
    refine va_iast hx hb hK hP hD hS 5 0 rfl rfl (inB_in hi_) dX0_addGiven_48 (fun H locs hP hD hS => ?_)
    obtain ⟨z_8, ez_8, hf⟩ := nm_ob hf
    have hP : va_P D vwCl (wC cI q z_8) H := by rw [ez_8]; exact hP
    have hD : va_D A (wC cI q z_8) := by rw [ez_8]; exact hD
    refine lv_aload_n hx hb dX0_addGiven_49 rfl (lv_at hl 1 rfl) ?_
    refine va_get (D := D) (ci := 0) (v := .ref (q 6)) (C := RX0) (T := TX0) (N := 8) hx hb hts hiX0 hown hK hP 0 rfl rfl 5 (by decide) k27 (fun _ h9 => h9) rfl dX0_addGiven_50 ?_
    refine lv_iload_n hx hb dX0_addGiven_53 rfl (lv_at hl 0 rfl) ?_
    refine lv_iconst (v := 0) hx hb dX0_addGiven_54 (by decide) ?_
    obtain ⟨hi_, hf⟩ := gd_ob hf
    refine va_iast hx hb hK hP hD hS 6 0 rfl rfl (inB_in hi_) dX0_addGiven_55 (fun H locs hP hD hS => ?_)
    obtain ⟨z_9, ez_9, hf⟩ := nm_ob hf
    have hP : va_P D vwCl (wC cI q z_9) H := by rw [ez_9]; exact hP
    have hD : va_D A (wC cI q z_9) := by rw [ez_9]; exact hD
    refine lv_aload_n hx hb dX0_addGiven_56 rfl (lv_at hl 1 rfl) ?_
    refine lv_dup hx hb dX0_addGiven_57 rfl ?_
    refine va_get (D := D) (ci := 0) (v := .int (z_9.1 7)) (C := RX0) (T := TX0) (N := 8) hx hb hts hiX0 hown hK hP 0 rfl rfl 7 (by decide) k34 (fun _ h9 => h9) rfl dX0_addGiven_58 ?_
    refine lv_iconst (v := 1) hx hb dX0_addGiven_61 (by decide) ?_
    refine lv_iadd hx hb dX0_addGiven_62 ?_
    refine va_put (D := D) (ci := 0) (v := .int ((z_9.1 7) + (1 : Int32))) (ty := .int) (C := RX0) (T := TX0) (N := 8) hx hb hts hiX0 tyX0 tyX0_ok nmX0 hown hK hP hD hS 0 rfl rfl 7 (by decide) k34 (fun _ h9 => h9) rfl (by decide +kernel) rfl rfl (Nat.le_of_ble_eq_true rfl) dX0_addGiven_63 (fun H locs hP hD hS => ?_)
    obtain ⟨z_10, ez_10, hf⟩ := nm_ob hf
    have hP : va_P D vwCl (wC cI q z_10) H := by rw [ez_10]; exact hP
    have hD : va_D A (wC cI q z_10) := by rw [ez_10]; exact hD
    refine lv_iload_n hx hb dX0_addGiven_66 rfl (lv_at hl 0 rfl) ?_
    exact rW_i hx hb hr hlocks hP hD hS (congrArg (fun q9 => q9.1) (so_ob hf)) (congrArg (fun (q9 : Int32 × (OS)) => wC cI q q9.2) (so_ob hf)) dX0_addGiven_67
  · have hf := iq c_4 hf
    refine lv_iconst (v := (-1)) hx hb dX0_addGiven_7 (by decide) ?_
    exact rW_i hx hb hr hlocks hP hD hS (congrArg (fun q9 => q9.1) (so_ob hf)) (congrArg (fun (q9 : Int32 × (OS)) => wC cI q q9.2) (so_ob hf)) dX0_addGiven_8
def fJ6_numberOfTrailingZeros_0f7a4 (fu : Nat) (p1 : Int32) : Option (Int32) :=
  nm ((p1 ^^^ (-1 : Int32)) &&& (p1 - (1 : Int32))) (fun (v0_1 : Int32) => (if (0 : Int32) < v0_1 then jn (κ := Int32 → Int32 → Option (Int32)) (fun (v0_34 : Int32) (v1_34 : Int32) => jn (κ := Int32 → Int32 → Option (Int32)) (fun (v0_49 : Int32) (v1_49 : Int32) => jn (κ := Int32 → Int32 → Option (Int32)) (fun (v0_62 : Int32) (v1_62 : Int32) => jn (κ := Int32 → Int32 → Option (Int32)) (fun (v0_74 : Int32) (v1_74 : Int32) => some (v1_74 + (((v0_74).toUInt32 >>> (((1 : Int32)).toUInt32 &&& Int32.toUInt32 31)).toInt32))) (fun j74 => (if v0_62 ≤ (4 : Int32) then j74 v0_62 v1_62 else nm (v1_62 + (2 : Int32)) (fun (v1_2 : Int32) => nm (((v0_62).toUInt32 >>> (((2 : Int32)).toUInt32 &&& Int32.toUInt32 31)).toInt32) (fun (v0_3 : Int32) => j74 v0_3 v1_2))))) (fun j62 => (if v0_49 ≤ (16 : Int32) then j62 v0_49 v1_49 else nm (v1_49 + (4 : Int32)) (fun (v1_4 : Int32) => nm (((v0_49).toUInt32 >>> (((4 : Int32)).toUInt32 &&& Int32.toUInt32 31)).toInt32) (fun (v0_5 : Int32) => j62 v0_5 v1_4))))) (fun j49 => (if v0_34 ≤ (256 : Int32) then j49 v0_34 v1_34 else nm (v1_34 + (8 : Int32)) (fun (v1_6 : Int32) => nm (((v0_34).toUInt32 >>> (((8 : Int32)).toUInt32 &&& Int32.toUInt32 31)).toInt32) (fun (v0_7 : Int32) => j49 v0_7 v1_6))))) (fun j34 => (if v0_1 ≤ (65536 : Int32) then j34 v0_1 (1 : Int32) else nm ((1 : Int32) + (16 : Int32)) (fun (v1_8 : Int32) => nm (((v0_1).toUInt32 >>> (((16 : Int32)).toUInt32 &&& Int32.toUInt32 31)).toInt32) (fun (v0_9 : Int32) => j34 v0_9 v1_8)))) else some (v0_1 &&& (32 : Int32))))
set_option maxRecDepth 100000 in
set_option maxHeartbeats 4000000 in
theorem mJ6_numberOfTrailingZeros_0f7a4 (l : Launch) (D : va_G) (cI cB cZ cO : ClassId) (fu : Nat) (p1 : Int32) {r : Int32} (hf : fJ6_numberOfTrailingZeros_0f7a4 fu p1 = some r) : Met l yJ6_numberOfTrailingZeros_0f7a4 wsJ6_numberOfTrailingZeros_0f7a4 ({ frames := 0, cells := 0, slots := 0, locals := 0 }) (va_Pc [.int p1] (fun _ => True)) (Qr (some (.int r))) 0 0 (fun _ => False) := by
  unfold fJ6_numberOfTrailingZeros_0f7a4 at hf
  refine metN (ret := (some .int)) (own := RJ6) rfl (by decide) rfl (Nat.le_of_ble_eq_true rfl) (fun p e s m args below meth c ls hx hb hr hml hown hlocks hts hl => ?_)
  have k264 := (hts (.constant RJ6 264 (65536)) (List.mem_of_getElem? (i := 1) rfl))
  have hl : lv_has ls 2 [(0, .int p1)] := hl
  refine lv_iload_n hx hb dJ6_numberOfTrailingZeros_0f7a4_0 rfl (lv_at hl 0 rfl) ?_
  refine lv_iconst (v := (-1)) hx hb dJ6_numberOfTrailingZeros_0f7a4_1 (by decide) ?_
  refine lv_ixor hx hb dJ6_numberOfTrailingZeros_0f7a4_2 ?_
  refine lv_iload_n hx hb dJ6_numberOfTrailingZeros_0f7a4_3 rfl (lv_at hl 0 rfl) ?_
  refine lv_iconst (v := 1) hx hb dJ6_numberOfTrailingZeros_0f7a4_4 (by decide) ?_
  refine lv_isub hx hb dJ6_numberOfTrailingZeros_0f7a4_5 ?_
  refine lv_iand hx hb dJ6_numberOfTrailingZeros_0f7a4_6 ?_
  obtain ⟨v0_1, ev0_1, hf⟩ := nm_ob hf
  refine lv_nmi ev0_1 ?_
  refine lv_istore_n (lv' := [(0, .int v0_1)]) hx hb dJ6_numberOfTrailingZeros_0f7a4_7 rfl hl (by decide) rfl (fun ls hl => ?_)
  refine lv_iload_n hx hb dJ6_numberOfTrailingZeros_0f7a4_8 rfl (lv_at hl 0 rfl) ?_
  refine lv_if_gt (tgt := 17) hx hb dJ6_numberOfTrailingZeros_0f7a4_9 (by decide) (fun c_9 => ?_) (fun c_9 => ?_)
  · have hf := ip c_9 hf
    refine lv_iconst (v := 1) hx hb dJ6_numberOfTrailingZeros_0f7a4_17 (by decide) ?_
    refine lv_istore_n (lv' := [(1, .int (1 : Int32)), (0, .int v0_1)]) hx hb dJ6_numberOfTrailingZeros_0f7a4_18 rfl hl (by decide) rfl (fun ls hl => ?_)
    refine lv_iload_n hx hb dJ6_numberOfTrailingZeros_0f7a4_19 rfl (lv_at hl 1 rfl) ?_
    refine lv_ldcw hx hb hown k264 dJ6_numberOfTrailingZeros_0f7a4_20 ?_
    obtain ⟨j34, ej34, hf⟩ := jn_ob hf
    have hp34 : ∀ (v0_34 : Int32) (v1_34 : Int32) (ls : Array Slot), j34 v0_34 v1_34 = some r → lv_has ls 2 [(0, .int v0_34), (1, .int v1_34)] → W p l e (headSpec wsJ6_numberOfTrailingZeros_0f7a4 { frames := 0, cells := 0, slots := 0, locals := 0 }).room s m args below meth c s.heap [] 0 0 (MQ below (Qr (some (.int r))) args s 0 0 (fun _ => False)) (F0 m 34 ls []) := by
      intro v0_34 v1_34 ls hf hl
      rw [ej34] at hf
      refine lv_iload_n hx hb dJ6_numberOfTrailingZeros_0f7a4_34 rfl (lv_at hl 0 rfl) ?_
      refine lv_sipush (v := 256) hx hb dJ6_numberOfTrailingZeros_0f7a4_35 (by decide) ?_
      obtain ⟨j49, ej49, hf⟩ := jn_ob hf
      have hp49 : ∀ (v0_49 : Int32) (v1_49 : Int32) (ls : Array Slot), j49 v0_49 v1_49 = some r → lv_has ls 2 [(0, .int v0_49), (1, .int v1_49)] → W p l e (headSpec wsJ6_numberOfTrailingZeros_0f7a4 { frames := 0, cells := 0, slots := 0, locals := 0 }).room s m args below meth c s.heap [] 0 0 (MQ below (Qr (some (.int r))) args s 0 0 (fun _ => False)) (F0 m 49 ls []) := by
        intro v0_49 v1_49 ls hf hl
        rw [ej49] at hf
        refine lv_iload_n hx hb dJ6_numberOfTrailingZeros_0f7a4_49 rfl (lv_at hl 0 rfl) ?_
        refine lv_bipush (v := 16) hx hb dJ6_numberOfTrailingZeros_0f7a4_50 (by decide) ?_
        obtain ⟨j62, ej62, hf⟩ := jn_ob hf
        have hp62 : ∀ (v0_62 : Int32) (v1_62 : Int32) (ls : Array Slot), j62 v0_62 v1_62 = some r → lv_has ls 2 [(0, .int v0_62), (1, .int v1_62)] → W p l e (headSpec wsJ6_numberOfTrailingZeros_0f7a4 { frames := 0, cells := 0, slots := 0, locals := 0 }).room s m args below meth c s.heap [] 0 0 (MQ below (Qr (some (.int r))) args s 0 0 (fun _ => False)) (F0 m 62 ls []) := by
          intro v0_62 v1_62 ls hf hl
          rw [ej62] at hf
          refine lv_iload_n hx hb dJ6_numberOfTrailingZeros_0f7a4_62 rfl (lv_at hl 0 rfl) ?_
          refine lv_iconst (v := 4) hx hb dJ6_numberOfTrailingZeros_0f7a4_63 (by decide) ?_
          obtain ⟨j74, ej74, hf⟩ := jn_ob hf
          have hp74 : ∀ (v0_74 : Int32) (v1_74 : Int32) (ls : Array Slot), j74 v0_74 v1_74 = some r → lv_has ls 2 [(0, .int v0_74), (1, .int v1_74)] → W p l e (headSpec wsJ6_numberOfTrailingZeros_0f7a4 { frames := 0, cells := 0, slots := 0, locals := 0 }).room s m args below meth c s.heap [] 0 0 (MQ below (Qr (some (.int r))) args s 0 0 (fun _ => False)) (F0 m 74 ls []) := by
            intro v0_74 v1_74 ls hf hl
            rw [ej74] at hf
            refine lv_iload_n hx hb dJ6_numberOfTrailingZeros_0f7a4_74 rfl (lv_at hl 1 rfl) ?_
            refine lv_iload_n hx hb dJ6_numberOfTrailingZeros_0f7a4_75 rfl (lv_at hl 0 rfl) ?_
            refine lv_iconst (v := 1) hx hb dJ6_numberOfTrailingZeros_0f7a4_76 (by decide) ?_
            refine lv_iushr hx hb dJ6_numberOfTrailingZeros_0f7a4_77 rfl ?_
            refine lv_iadd hx hb dJ6_numberOfTrailingZeros_0f7a4_78 ?_
            exact rR_i hx hb hr hlocks (so_ob hf) dJ6_numberOfTrailingZeros_0f7a4_79
          refine lv_icmp_le (tgt := 74) hx hb dJ6_numberOfTrailingZeros_0f7a4_64 (by decide) (fun c_64 => ?_) (fun c_64 => ?_)
          · have hf := ip c_64 hf
            exact hp74 v0_62 v1_62 _ hf hl
          · have hf := iq c_64 hf
            obtain ⟨v1_2, ev1_2, hf⟩ := nm_ob hf
            refine lv_iinc (v := v1_2) (lv' := [(1, .int v1_2), (0, .int v0_62)]) hx hb dJ6_numberOfTrailingZeros_0f7a4_67 hl (k := 1) rfl (by rw [ev1_2]; rfl) (by decide) rfl (fun ls hl => ?_)
            refine lv_iload_n hx hb dJ6_numberOfTrailingZeros_0f7a4_70 rfl (lv_at hl 1 rfl) ?_
            refine lv_iconst (v := 2) hx hb dJ6_numberOfTrailingZeros_0f7a4_71 (by decide) ?_
            refine lv_iushr hx hb dJ6_numberOfTrailingZeros_0f7a4_72 rfl ?_
            obtain ⟨v0_3, ev0_3, hf⟩ := nm_ob hf
            refine lv_nmi ev0_3 ?_
            refine lv_istore_n (lv' := [(0, .int v0_3), (1, .int v1_2)]) hx hb dJ6_numberOfTrailingZeros_0f7a4_73 rfl hl (by decide) rfl (fun ls hl => ?_)
            exact hp74 v0_3 v1_2 _ hf hl
        refine lv_icmp_le (tgt := 62) hx hb dJ6_numberOfTrailingZeros_0f7a4_52 (by decide) (fun c_52 => ?_) (fun c_52 => ?_)
        · have hf := ip c_52 hf
          exact hp62 v0_49 v1_49 _ hf hl
        · have hf := iq c_52 hf
          obtain ⟨v1_4, ev1_4, hf⟩ := nm_ob hf
          refine lv_iinc (v := v1_4) (lv' := [(1, .int v1_4), (0, .int v0_49)]) hx hb dJ6_numberOfTrailingZeros_0f7a4_55 hl (k := 1) rfl (by rw [ev1_4]; rfl) (by decide) rfl (fun ls hl => ?_)
          refine lv_iload_n hx hb dJ6_numberOfTrailingZeros_0f7a4_58 rfl (lv_at hl 1 rfl) ?_
          refine lv_iconst (v := 4) hx hb dJ6_numberOfTrailingZeros_0f7a4_59 (by decide) ?_
          refine lv_iushr hx hb dJ6_numberOfTrailingZeros_0f7a4_60 rfl ?_
          obtain ⟨v0_5, ev0_5, hf⟩ := nm_ob hf
          refine lv_nmi ev0_5 ?_
          refine lv_istore_n (lv' := [(0, .int v0_5), (1, .int v1_4)]) hx hb dJ6_numberOfTrailingZeros_0f7a4_61 rfl hl (by decide) rfl (fun ls hl => ?_)
          exact hp62 v0_5 v1_4 _ hf hl
      refine lv_icmp_le (tgt := 49) hx hb dJ6_numberOfTrailingZeros_0f7a4_38 (by decide) (fun c_38 => ?_) (fun c_38 => ?_)
      · have hf := ip c_38 hf
        exact hp49 v0_34 v1_34 _ hf hl
      · have hf := iq c_38 hf
        obtain ⟨v1_6, ev1_6, hf⟩ := nm_ob hf
        refine lv_iinc (v := v1_6) (lv' := [(1, .int v1_6), (0, .int v0_34)]) hx hb dJ6_numberOfTrailingZeros_0f7a4_41 hl (k := 1) rfl (by rw [ev1_6]; rfl) (by decide) rfl (fun ls hl => ?_)
        refine lv_iload_n hx hb dJ6_numberOfTrailingZeros_0f7a4_44 rfl (lv_at hl 1 rfl) ?_
        refine lv_bipush (v := 8) hx hb dJ6_numberOfTrailingZeros_0f7a4_45 (by decide) ?_
        refine lv_iushr hx hb dJ6_numberOfTrailingZeros_0f7a4_47 rfl ?_
        obtain ⟨v0_7, ev0_7, hf⟩ := nm_ob hf
        refine lv_nmi ev0_7 ?_
        refine lv_istore_n (lv' := [(0, .int v0_7), (1, .int v1_6)]) hx hb dJ6_numberOfTrailingZeros_0f7a4_48 rfl hl (by decide) rfl (fun ls hl => ?_)
        exact hp49 v0_7 v1_6 _ hf hl
    refine lv_icmp_le (tgt := 34) hx hb dJ6_numberOfTrailingZeros_0f7a4_23 (by decide) (fun c_23 => ?_) (fun c_23 => ?_)
    · have hf := ip c_23 hf
      exact hp34 v0_1 (1 : Int32) _ hf (lv_sub hl [1, 0] rfl)
    · have hf := iq c_23 hf
      obtain ⟨v1_8, ev1_8, hf⟩ := nm_ob hf
      refine lv_iinc (v := v1_8) (lv' := [(1, .int v1_8), (0, .int v0_1)]) hx hb dJ6_numberOfTrailingZeros_0f7a4_26 hl (k := 0) rfl (by rw [ev1_8]; rfl) (by decide) rfl (fun ls hl => ?_)
      refine lv_iload_n hx hb dJ6_numberOfTrailingZeros_0f7a4_29 rfl (lv_at hl 1 rfl) ?_
      refine lv_bipush (v := 16) hx hb dJ6_numberOfTrailingZeros_0f7a4_30 (by decide) ?_
      refine lv_iushr hx hb dJ6_numberOfTrailingZeros_0f7a4_32 rfl ?_
      obtain ⟨v0_9, ev0_9, hf⟩ := nm_ob hf
      refine lv_nmi ev0_9 ?_
      refine lv_istore_n (lv' := [(0, .int v0_9), (1, .int v1_8)]) hx hb dJ6_numberOfTrailingZeros_0f7a4_33 rfl hl (by decide) rfl (fun ls hl => ?_)
      exact hp34 v0_9 v1_8 _ hf hl
  · have hf := iq c_9 hf
    refine lv_iload_n hx hb dJ6_numberOfTrailingZeros_0f7a4_12 rfl (lv_at hl 0 rfl) ?_
    refine lv_bipush (v := 32) hx hb dJ6_numberOfTrailingZeros_0f7a4_13 (by decide) ?_
    refine lv_iand hx hb dJ6_numberOfTrailingZeros_0f7a4_15 ?_
    exact rR_i hx hb hr hlocks (so_ob hf) dJ6_numberOfTrailingZeros_0f7a4_16
def fX0_addResolvent (fu : Nat) (z : OS) (p1 : Int32) (p2 : Int32) : Option (Int32 × (OS)) :=
  bd (fX0_clashMask fu z p1 p2) (fun (r_1 : Int32) => gd (inB p1 60) (jn (κ := Int32 → Option (Int32 × (OS))) (fun (t0_23 : Int32) => gd (inB p1 60) (gd (inB p2 60) (nm ((1 : Int32) + (if (z.2 5 (p1).toNatClampNeg) < (z.2 5 (p2).toNatClampNeg) then (z.2 5 (p2).toNatClampNeg) else (z.2 5 (p1).toNatClampNeg))) (fun (v5_3 : Int32) => bd (fX0_mergedPositive fu z p1 p2) (fun (r_4 : Int32) => bd (fX0_mergedNegative fu z p1 p2) (fun (r_6 : Int32) => bd (fX0_addGiven fu z r_4 r_6) (fun (w_10 : Int32 × OS) => nm w_10.1 (fun (r_8 : Int32) => nm w_10.2 (fun (z_9 : OS) => (if ¬ r_8 = (-1 : Int32) then jn (κ := Int32 → Int32 → Option (Int32 × (OS))) (fun (t1_86 : Int32) (t2_86 : Int32) => gd (inB t1_86 60) (nm (sA z_9 2 (upd (z_9.2 2) (t1_86).toNatClampNeg t2_86)) (fun (z_12 : OS) => jn (κ := Int32 → Int32 → Option (Int32 × (OS))) (fun (t1_103 : Int32) (t2_103 : Int32) => gd (inB t1_103 60) (nm (sA z_12 3 (upd (z_12.2 3) (t1_103).toNatClampNeg t2_103)) (fun (z_13 : OS) => bd (fJ6_numberOfTrailingZeros_0f7a4 fu r_1) (fun (r_14 : Int32) => gd (inB r_8 60) (nm (sA z_13 4 (upd (z_13.2 4) (r_8).toNatClampNeg r_14)) (fun (z_16 : OS) => gd (inB r_8 60) (nm (sA z_16 5 (upd (z_16.2 5) (r_8).toNatClampNeg v5_3)) (fun (z_17 : OS) => some (r_8, z_17))))))))) (fun j103 => (if t0_23 = (0 : Int32) then j103 r_8 p1 else j103 r_8 p2))))) (fun j86 => (if t0_23 = (0 : Int32) then j86 r_8 p2 else j86 r_8 p1)) else some ((-1 : Int32), z_9))))))))))) (fun j23 => (if ((z.2 0 (p1).toNatClampNeg) &&& r_1) = (0 : Int32) then j23 (0 : Int32) else j23 (1 : Int32)))))
set_option maxRecDepth 100000 in
set_option maxHeartbeats 4000000 in
theorem mX0_addResolvent (l : Launch) (D : va_G) (cI cB cZ cO : ClassId) (q : Nat → Nat) (sz : Nat) (fu : Nat) (z : OS) (p1 : Int32) (p2 : Int32) {r : Int32} {y1 : OS} (hf : fX0_addResolvent fu z p1 p2 = some (r, y1)) : Met l yX0_addResolvent wsX0_addResolvent ({ frames := 2, cells := 0, slots := 0, locals := 44 }) (va_Pc [.ref (q 0), .int p1, .int p2] (Pw D (gT cI cB cZ cO) (wC cI q z) sz)) (Qw D (va_A (wC cI q z) sz) (some (.int r)) (wC cI q y1)) 0 0 (va_A (wC cI q z) sz) := by
  unfold fX0_addResolvent at hf
  refine metW (ret := (some .int)) (own := RX0) rfl (by decide) rfl (Nat.le_of_ble_eq_true rfl) (fun p e s m args below meth c ls A hx hb hr hml hown hlocks hts hK hA hP hD hS hl => ?_)
  have k9 := (hts (.fieldLink RX0 9 "ResolutionProver$Clauses" "positive" "[I") (List.mem_of_getElem? (i := 1) rfl))
  have k27 := (hts (.fieldLink RX0 27 "ResolutionProver$Clauses" "depth" "[I") (List.mem_of_getElem? (i := 2) rfl))
  have k18 := (hts (.fieldLink RX0 18 "ResolutionProver$Clauses" "parentWith" "[I") (List.mem_of_getElem? (i := 7) rfl))
  have k21 := (hts (.fieldLink RX0 21 "ResolutionProver$Clauses" "parentWithout" "[I") (List.mem_of_getElem? (i := 8) rfl))
  have k24 := (hts (.fieldLink RX0 24 "ResolutionProver$Clauses" "pivot" "[I") (List.mem_of_getElem? (i := 9) rfl))
  have hiX0 : ∀ w ∈ wsX00, w ∈ wsX0_addResolvent := (memIn_p [38, 39, 40, 41, 42, 43, 44, 45] rfl)
  have hl : lv_has ls 7 [(0, .ref (q 0)), (1, .int p1), (2, .int p2)] := hl
  refine lv_aload_n hx hb dX0_addResolvent_0 rfl (lv_at hl 0 rfl) ?_
  refine lv_iload_n hx hb dX0_addResolvent_1 rfl (lv_at hl 1 rfl) ?_
  refine lv_iload_n hx hb dX0_addResolvent_2 rfl (lv_at hl 2 rfl) ?_
  obtain ⟨r_1, hc_2, hf⟩ := bd_ob hf
  refine rdV (As := [.int p1, .int p2]) (rest := []) ⟨hx, hb, hml, hown, hts⟩ (mX0_clashMask l D cI cB cZ cO q fu z p1 p2 hc_2) (cwV 2 hts gX0_addResolvent_X0_clashMask rfl rfl rfl (by decide +kernel) ⟨Nat.le_of_ble_eq_true rfl, Nat.le_of_ble_eq_true rfl⟩) hK hP (va_recv hK hP (ci := 0) (q0 := 0) rfl rfl) rfl hl.1 rfl (Nat.le_of_ble_eq_true rfl) dX0_addResolvent_3 ⟨Nat.zero_le _, Nat.zero_le _⟩ ?_
  refine lv_istore_n (lv' := [(3, .int r_1), (0, .ref (q 0)), (1, .int p1), (2, .int p2)]) hx hb dX0_addResolvent_6 rfl hl (by decide) rfl (fun ls hl => ?_)
  refine lv_aload_n hx hb dX0_addResolvent_7 rfl (lv_at hl 1 rfl) ?_
  refine va_get (D := D) (ci := 0) (v := .ref (q 1)) (C := RX0) (T := TX0) (N := 8) hx hb hts hiX0 hown hK hP 0 rfl rfl 0 (by decide) k9 (fun _ h9 => h9) rfl dX0_addResolvent_8 ?_
  refine lv_iload_n hx hb dX0_addResolvent_11 rfl (lv_at hl 2 rfl) ?_
  obtain ⟨hi_, hf⟩ := gd_ob hf
  refine va_iald hx hb hK hP 1 0 rfl rfl (inB_in hi_) dX0_addResolvent_12 ?_
  refine lv_iload_n hx hb dX0_addResolvent_13 rfl (lv_at hl 0 rfl) ?_
  refine lv_iand hx hb dX0_addResolvent_14 ?_
  obtain ⟨j23, ej23, hf⟩ := jn_ob hf
  have hp23 : ∀ (t0_23 : Int32) (H : Heap) (locs : List Loc) (ls : Array Slot), j23 t0_23 = some (r, y1) → va_P D vwCl (wC cI q z) H → va_D A (wC cI q z) → va_S A s.heap H locs → lv_has ls 7 [(0, .ref (q 0)), (1, .int p1), (2, .int p2), (3, .int r_1)] → W p l e (headSpec wsX0_addResolvent { frames := 2, cells := 0, slots := 0, locals := 44 }).room s m args below meth c H locs 0 0 (MQ below (Qw D A (some (.int r)) (wC cI q y1)) args s 0 0 A) (F0 m 23 ls [.int t0_23]) := by
    intro t0_23 H locs ls hf hP hD hS hl
    rw [ej23] at hf
    refine lv_istore (lv' := [(4, .int t0_23), (0, .ref (q 0)), (1, .int p1), (2, .int p2), (3, .int r_1)]) hx hb dX0_addResolvent_23 hl (by decide) rfl (fun ls hl => ?_)
    refine lv_iconst (v := 1) hx hb dX0_addResolvent_25 (by decide) ?_
    refine lv_aload_n hx hb dX0_addResolvent_26 rfl (lv_at hl 1 rfl) ?_
    refine va_get (D := D) (ci := 0) (v := .ref (q 6)) (C := RX0) (T := TX0) (N := 8) hx hb hts hiX0 hown hK hP 0 rfl rfl 5 (by decide) k27 (fun _ h9 => h9) rfl dX0_addResolvent_27 ?_
    refine lv_iload_n hx hb dX0_addResolvent_30 rfl (lv_at hl 2 rfl) ?_
    obtain ⟨hi_, hf⟩ := gd_ob hf
    refine va_iald hx hb hK hP 6 0 rfl rfl (inB_in hi_) dX0_addResolvent_31 ?_
    refine lv_aload_n hx hb dX0_addResolvent_32 rfl (lv_at hl 1 rfl) ?_
    refine va_get (D := D) (ci := 0) (v := .ref (q 6)) (C := RX0) (T := TX0) (N := 8) hx hb hts hiX0 hown hK hP 0 rfl rfl 5 (by decide) k27 (fun _ h9 => h9) rfl dX0_addResolvent_33 ?_
    refine lv_iload_n hx hb dX0_addResolvent_36 rfl (lv_at hl 3 rfl) ?_
    obtain ⟨hi_, hf⟩ := gd_ob hf
    refine va_iald hx hb hK hP 6 0 rfl rfl (inB_in hi_) dX0_addResolvent_37 ?_
    refine va_mmax hx hb (by rw [hml]; exact hl.1.symm) hown (hts (.methodLink RX0 87 Lib.Math.max.name) (List.mem_of_getElem? (i := 3) rfl)) (hts (.static Lib.Math.max.name) (List.mem_of_getElem? (i := 4) rfl)) (hts (.initialized "java/lang/Math") (List.mem_of_getElem? (i := 5) rfl)) (hts (.code Lib.Math.max.name Lib.Math.max.code 2 (some .int)) (List.mem_of_getElem? (i := 6) rfl)) (Nat.le_of_ble_eq_true rfl) (Nat.le_of_ble_eq_true rfl) (Nat.zero_le _) (Nat.zero_le _) dX0_addResolvent_38 ?_
    refine lv_iadd hx hb dX0_addResolvent_41 ?_
    obtain ⟨v5_3, ev5_3, hf⟩ := nm_ob hf
    refine lv_nmi ev5_3 ?_
    refine lv_istore (lv' := [(5, .int v5_3), (4, .int t0_23), (0, .ref (q 0)), (1, .int p1), (2, .int p2), (3, .int r_1)]) hx hb dX0_addResolvent_42 hl (by decide) rfl (fun ls hl => ?_)
    refine lv_aload_n hx hb dX0_addResolvent_44 rfl (lv_at hl 2 rfl) ?_
    refine lv_aload_n hx hb dX0_addResolvent_45 rfl (lv_at hl 2 rfl) ?_
    refine lv_iload_n hx hb dX0_addResolvent_46 rfl (lv_at hl 3 rfl) ?_
    refine lv_iload_n hx hb dX0_addResolvent_47 rfl (lv_at hl 4 rfl) ?_
    obtain ⟨r_4, hc_5, hf⟩ := bd_ob hf
    refine rdV (As := [.int p1, .int p2]) (rest := [.ref (q 0)]) ⟨hx, hb, hml, hown, hts⟩ (mX0_mergedPositive l D cI cB cZ cO q fu z p1 p2 hc_5) (cwV 2 hts gX0_addResolvent_X0_mergedPositive rfl rfl rfl (by decide +kernel) ⟨Nat.le_of_ble_eq_true rfl, Nat.le_of_ble_eq_true rfl⟩) hK hP (va_recv hK hP (ci := 0) (q0 := 0) rfl rfl) rfl hl.1 rfl (Nat.le_of_ble_eq_true rfl) dX0_addResolvent_48 ⟨Nat.zero_le _, Nat.zero_le _⟩ ?_
    refine lv_aload_n hx hb dX0_addResolvent_51 rfl (lv_at hl 2 rfl) ?_
    refine lv_iload_n hx hb dX0_addResolvent_52 rfl (lv_at hl 3 rfl) ?_
    refine lv_iload_n hx hb dX0_addResolvent_53 rfl (lv_at hl 4 rfl) ?_
    obtain ⟨r_6, hc_7, hf⟩ := bd_ob hf
    refine rdV (As := [.int p1, .int p2]) (rest := [.int r_4, .ref (q 0)]) ⟨hx, hb, hml, hown, hts⟩ (mX0_mergedNegative l D cI cB cZ cO q fu z p1 p2 hc_7) (cwV 2 hts gX0_addResolvent_X0_mergedNegative rfl rfl rfl (by decide +kernel) ⟨Nat.le_of_ble_eq_true rfl, Nat.le_of_ble_eq_true rfl⟩) hK hP (va_recv hK hP (ci := 0) (q0 := 0) rfl rfl) rfl hl.1 rfl (Nat.le_of_ble_eq_true rfl) dX0_addResolvent_54 ⟨Nat.zero_le _, Nat.zero_le _⟩ ?_
    obtain ⟨⟨r_8, z_9⟩, hc_11, hf⟩ := bd_ob hf
    have hf := nm_st hf
    have hf := nm_st hf
    refine weV (As := [.int r_4, .int r_6]) (rest := []) ⟨hx, hb, hml, hown, hts⟩ (mX0_addGiven l D cI cB cZ cO q _ fu z r_4 r_6 hc_11) (cwV 2 hts gX0_addResolvent_X0_addGiven rfl rfl rfl (by decide +kernel) ⟨Nat.le_of_ble_eq_true rfl, Nat.le_of_ble_eq_true rfl⟩) hK hP hD hS hA (va_recv hK hP (ci := 0) (q0 := 0) rfl rfl) rfl hl.1 rfl (Nat.le_of_ble_eq_true rfl) dX0_addResolvent_57 ⟨Nat.zero_le _, Nat.zero_le _⟩ (fun H locs hP hD hS => ?_)
    refine lv_istore (lv' := [(6, .int r_8), (5, .int v5_3), (4, .int t0_23), (0, .ref (q 0)), (1, .int p1), (2, .int p2), (3, .int r_1)]) hx hb dX0_addResolvent_60 hl (by decide) rfl (fun ls hl => ?_)
    refine lv_iload hx hb dX0_addResolvent_62 (lv_at hl 0 rfl) ?_
    refine lv_iconst (v := (-1)) hx hb dX0_addResolvent_64 (by decide) ?_
    refine lv_icmp_ne (tgt := 70) hx hb dX0_addResolvent_65 (by decide) (fun c_65 => ?_) (fun c_65 => ?_)
    · have hf := ip c_65 hf
      refine lv_aload_n hx hb dX0_addResolvent_70 rfl (lv_at hl 3 rfl) ?_
      refine va_get (D := D) (ci := 0) (v := .ref (q 3)) (C := RX0) (T := TX0) (N := 8) hx hb hts hiX0 hown hK hP 0 rfl rfl 2 (by decide) k18 (fun _ h9 => h9) rfl dX0_addResolvent_71 ?_
      refine lv_iload hx hb dX0_addResolvent_74 (lv_at hl 0 rfl) ?_
      refine lv_iload hx hb dX0_addResolvent_76 (lv_at hl 2 rfl) ?_
      obtain ⟨j86, ej86, hf⟩ := jn_ob hf
      have hp86 : ∀ (t1_86 : Int32) (t2_86 : Int32) (H : Heap) (locs : List Loc) (ls : Array Slot), j86 t1_86 t2_86 = some (r, y1) → va_P D vwCl (wC cI q z_9) H → va_D A (wC cI q z_9) → va_S A s.heap H locs → lv_has ls 7 [(0, .ref (q 0)), (1, .int p1), (2, .int p2), (3, .int r_1), (4, .int t0_23), (5, .int v5_3), (6, .int r_8)] → W p l e (headSpec wsX0_addResolvent { frames := 2, cells := 0, slots := 0, locals := 44 }).room s m args below meth c H locs 0 0 (MQ below (Qw D A (some (.int r)) (wC cI q y1)) args s 0 0 A) (F0 m 86 ls [.int t2_86, .int t1_86, .ref (q 3)]) := by
        intro t1_86 t2_86 H locs ls hf hP hD hS hl
        rw [ej86] at hf
        obtain ⟨hi_, hf⟩ := gd_ob hf
        refine va_iast hx hb hK hP hD hS 3 0 rfl rfl (inB_in hi_) dX0_addResolvent_86 (fun H locs hP hD hS => ?_)
        obtain ⟨z_12, ez_12, hf⟩ := nm_ob hf
        have hP : va_P D vwCl (wC cI q z_12) H := by rw [ez_12]; exact hP
        have hD : va_D A (wC cI q z_12) := by rw [ez_12]; exact hD
        refine lv_aload_n hx hb dX0_addResolvent_87 rfl (lv_at hl 0 rfl) ?_
        refine va_get (D := D) (ci := 0) (v := .ref (q 4)) (C := RX0) (T := TX0) (N := 8) hx hb hts hiX0 hown hK hP 0 rfl rfl 3 (by decide) k21 (fun _ h9 => h9) rfl dX0_addResolvent_88 ?_
        refine lv_iload hx hb dX0_addResolvent_91 (lv_at hl 6 rfl) ?_
        refine lv_iload hx hb dX0_addResolvent_93 (lv_at hl 4 rfl) ?_
        obtain ⟨j103, ej103, hf⟩ := jn_ob hf
        have hp103 : ∀ (t1_103 : Int32) (t2_103 : Int32) (H : Heap) (locs : List Loc) (ls : Array Slot), j103 t1_103 t2_103 = some (r, y1) → va_P D vwCl (wC cI q z_12) H → va_D A (wC cI q z_12) → va_S A s.heap H locs → lv_has ls 7 [(0, .ref (q 0)), (3, .int r_1), (5, .int v5_3), (6, .int r_8)] → W p l e (headSpec wsX0_addResolvent { frames := 2, cells := 0, slots := 0, locals := 44 }).room s m args below meth c H locs 0 0 (MQ below (Qw D A (some (.int r)) (wC cI q y1)) args s 0 0 A) (F0 m 103 ls [.int t2_103, .int t1_103, .ref (q 4)]) := by
          intro t1_103 t2_103 H locs ls hf hP hD hS hl
          rw [ej103] at hf
          obtain ⟨hi_, hf⟩ := gd_ob hf
          refine va_iast hx hb hK hP hD hS 4 0 rfl rfl (inB_in hi_) dX0_addResolvent_103 (fun H locs hP hD hS => ?_)
          obtain ⟨z_13, ez_13, hf⟩ := nm_ob hf
          have hP : va_P D vwCl (wC cI q z_13) H := by rw [ez_13]; exact hP
          have hD : va_D A (wC cI q z_13) := by rw [ez_13]; exact hD
          refine lv_aload_n hx hb dX0_addResolvent_104 rfl (lv_at hl 0 rfl) ?_
          refine va_get (D := D) (ci := 0) (v := .ref (q 5)) (C := RX0) (T := TX0) (N := 8) hx hb hts hiX0 hown hK hP 0 rfl rfl 4 (by decide) k24 (fun _ h9 => h9) rfl dX0_addResolvent_105 ?_
          refine lv_iload hx hb dX0_addResolvent_108 (lv_at hl 3 rfl) ?_
          refine lv_iload_n hx hb dX0_addResolvent_110 rfl (lv_at hl 1 rfl) ?_
          obtain ⟨r_14, hc_15, hf⟩ := bd_ob hf
          refine rdN (As := [.int r_1]) (rest := [.int r_8, .ref (q 5)]) ⟨hx, hb, hml, hown, hts⟩ (mJ6_numberOfTrailingZeros_0f7a4 l D cI cB cZ cO fu r_1 hc_15) (va_cwS 1 hts gX0_addResolvent_J6_numberOfTrailingZeros_0f7a4 rfl rfl rfl (by decide +kernel) ⟨Nat.le_of_ble_eq_true rfl, Nat.le_of_ble_eq_true rfl⟩) rfl hl.1 rfl (Nat.le_of_ble_eq_true rfl) dX0_addResolvent_111 ⟨Nat.zero_le _, Nat.zero_le _⟩ ?_
          obtain ⟨hi_, hf⟩ := gd_ob hf
          refine va_iast hx hb hK hP hD hS 5 0 rfl rfl (inB_in hi_) dX0_addResolvent_114 (fun H locs hP hD hS => ?_)
          obtain ⟨z_16, ez_16, hf⟩ := nm_ob hf
          have hP : va_P D vwCl (wC cI q z_16) H := by rw [ez_16]; exact hP
          have hD : va_D A (wC cI q z_16) := by rw [ez_16]; exact hD
          refine lv_aload_n hx hb dX0_addResolvent_115 rfl (lv_at hl 0 rfl) ?_
          refine va_get (D := D) (ci := 0) (v := .ref (q 6)) (C := RX0) (T := TX0) (N := 8) hx hb hts hiX0 hown hK hP 0 rfl rfl 5 (by decide) k27 (fun _ h9 => h9) rfl dX0_addResolvent_116 ?_
          refine lv_iload hx hb dX0_addResolvent_119 (lv_at hl 3 rfl) ?_
          refine lv_iload hx hb dX0_addResolvent_121 (lv_at hl 2 rfl) ?_
          obtain ⟨hi_, hf⟩ := gd_ob hf
          refine va_iast hx hb hK hP hD hS 6 0 rfl rfl (inB_in hi_) dX0_addResolvent_123 (fun H locs hP hD hS => ?_)
          obtain ⟨z_17, ez_17, hf⟩ := nm_ob hf
          have hP : va_P D vwCl (wC cI q z_17) H := by rw [ez_17]; exact hP
          have hD : va_D A (wC cI q z_17) := by rw [ez_17]; exact hD
          refine lv_iload hx hb dX0_addResolvent_124 (lv_at hl 3 rfl) ?_
          exact rW_i hx hb hr hlocks hP hD hS (congrArg (fun q9 => q9.1) (so_ob hf)) (congrArg (fun (q9 : Int32 × (OS)) => wC cI q q9.2) (so_ob hf)) dX0_addResolvent_126
        refine lv_if_eq (tgt := 102) hx hb dX0_addResolvent_95 (by decide) (fun c_95 => ?_) (fun c_95 => ?_)
        · have hf := ip c_95 hf
          refine lv_iload_n hx hb dX0_addResolvent_102 rfl (lv_at hl 1 rfl) ?_
          exact hp103 r_8 p1 _ _ _ hf hP hD hS (lv_sub hl [0, 3, 5, 6] rfl)
        · have hf := iq c_95 hf
          refine lv_iload_n hx hb dX0_addResolvent_98 rfl (lv_at hl 2 rfl) ?_
          refine lv_goto (tgt := 103) hx hb dX0_addResolvent_99 (by decide) ?_
          exact hp103 r_8 p2 _ _ _ hf hP hD hS (lv_sub hl [0, 3, 5, 6] rfl)
      refine lv_if_eq (tgt := 85) hx hb dX0_addResolvent_78 (by decide) (fun c_78 => ?_) (fun c_78 => ?_)
      · have hf := ip c_78 hf
        refine lv_iload_n hx hb dX0_addResolvent_85 rfl (lv_at hl 5 rfl) ?_
        exact hp86 r_8 p2 _ _ _ hf hP hD hS (lv_sub hl [3, 4, 5, 6, 2, 1, 0] rfl)
      · have hf := iq c_78 hf
        refine lv_iload_n hx hb dX0_addResolvent_81 rfl (lv_at hl 4 rfl) ?_
        refine lv_goto (tgt := 86) hx hb dX0_addResolvent_82 (by decide) ?_
        exact hp86 r_8 p1 _ _ _ hf hP hD hS (lv_sub hl [3, 4, 5, 6, 2, 1, 0] rfl)
    · have hf := iqn c_65 hf
      refine lv_iconst (v := (-1)) hx hb dX0_addResolvent_68 (by decide) ?_
      exact rW_i hx hb hr hlocks hP hD hS (congrArg (fun q9 => q9.1) (so_ob hf)) (congrArg (fun (q9 : Int32 × (OS)) => wC cI q q9.2) (so_ob hf)) dX0_addResolvent_69
  refine lv_if_eq (tgt := 22) hx hb dX0_addResolvent_15 (by decide) (fun c_15 => ?_) (fun c_15 => ?_)
  · have hf := ip c_15 hf
    refine lv_iconst (v := 0) hx hb dX0_addResolvent_22 (by decide) ?_
    exact hp23 (0 : Int32) _ _ _ hf hP hD hS (lv_sub hl [1, 2, 3, 0] rfl)
  · have hf := iq c_15 hf
    refine lv_iconst (v := 1) hx hb dX0_addResolvent_18 (by decide) ?_
    refine lv_goto (tgt := 23) hx hb dX0_addResolvent_19 (by decide) ?_
    exact hp23 (1 : Int32) _ _ _ hf hP hD hS (lv_sub hl [1, 2, 3, 0] rfl)
def lX0_remove_4 (p1 : Int32) (j144 : OS → Option ((OS))) : Nat → Int32 → OS → Option ((OS))
  | 0, _, _ => none
  | n_4 + 1, v2_4, z1_4 => (if (z1_4.1 7) ≤ v2_4 then j144 z1_4 else gd (inB v2_4 60) (gd (inB (v2_4 - (1 : Int32)) 60) (nm (sA z1_4 0 (upd (z1_4.2 0) ((v2_4 - (1 : Int32))).toNatClampNeg (z1_4.2 0 (v2_4).toNatClampNeg))) (fun (z_3 : OS) => gd (inB v2_4 60) (gd (inB (v2_4 - (1 : Int32)) 60) (nm (sA z_3 1 (upd (z_3.2 1) ((v2_4 - (1 : Int32))).toNatClampNeg (z_3.2 1 (v2_4).toNatClampNeg))) (fun (z_4 : OS) => gd (inB v2_4 60) (jn (κ := Int32 → Int32 → Option ((OS))) (fun (t1_74 : Int32) (t2_74 : Int32) => gd (inB t1_74 60) (nm (sA z_4 2 (upd (z_4.2 2) (t1_74).toNatClampNeg t2_74)) (fun (z_5 : OS) => gd (inB v2_4 60) (jn (κ := Int32 → Int32 → Option ((OS))) (fun (t1_109 : Int32) (t2_109 : Int32) => gd (inB t1_109 60) (nm (sA z_5 3 (upd (z_5.2 3) (t1_109).toNatClampNeg t2_109)) (fun (z_6 : OS) => gd (inB v2_4 60) (gd (inB (v2_4 - (1 : Int32)) 60) (nm (sA z_6 4 (upd (z_6.2 4) ((v2_4 - (1 : Int32))).toNatClampNeg (z_6.2 4 (v2_4).toNatClampNeg))) (fun (z_7 : OS) => gd (inB v2_4 60) (gd (inB (v2_4 - (1 : Int32)) 60) (nm (sA z_7 5 (upd (z_7.2 5) ((v2_4 - (1 : Int32))).toNatClampNeg (z_7.2 5 (v2_4).toNatClampNeg))) (fun (z_8 : OS) => nm (v2_4 + (1 : Int32)) (fun (v2_9 : Int32) => lX0_remove_4 p1 j144 n_4 v2_9 z_8)))))))))) (fun j109 => (if (z_5.2 3 (v2_4).toNatClampNeg) ≤ p1 then gd (inB v2_4 60) (j109 (v2_4 - (1 : Int32)) (z_5.2 3 (v2_4).toNatClampNeg)) else gd (inB v2_4 60) (j109 (v2_4 - (1 : Int32)) ((z_5.2 3 (v2_4).toNatClampNeg) - (1 : Int32))))))))) (fun j74 => (if (z_4.2 2 (v2_4).toNatClampNeg) ≤ p1 then gd (inB v2_4 60) (j74 (v2_4 - (1 : Int32)) (z_4.2 2 (v2_4).toNatClampNeg)) else gd (inB v2_4 60) (j74 (v2_4 - (1 : Int32)) ((z_4.2 2 (v2_4).toNatClampNeg) - (1 : Int32)))))))))))))
def fX0_remove (fu : Nat) (z : OS) (p1 : Int32) : Option ((OS)) :=
  nm (p1 + (1 : Int32)) (fun (v2_1 : Int32) => jn (κ := OS → Option ((OS))) (fun (z1_144 : OS) => nm (sI z1_144 7 ((z1_144.1 7) - (1 : Int32))) (fun (z_2 : OS) => some z_2)) (fun j144 => lX0_remove_4 p1 j144 fu v2_1 z))
set_option maxRecDepth 100000 in
set_option maxHeartbeats 4000000 in
theorem mX0_remove (l : Launch) (D : va_G) (cI cB cZ cO : ClassId) (q : Nat → Nat) (sz : Nat) (fu : Nat) (z : OS) (p1 : Int32) {y1 : OS} (hf : fX0_remove fu z p1 = some y1) : Met l yX0_remove wsX0_remove ({ frames := 0, cells := 0, slots := 0, locals := 0 }) (va_Pc [.ref (q 0), .int p1] (Pw D (gT cI cB cZ cO) (wC cI q z) sz)) (Qw D (va_A (wC cI q z) sz) none (wC cI q y1)) 0 0 (va_A (wC cI q z) sz) := by
  unfold fX0_remove at hf
  refine metW (ret := none) (own := RX0) rfl (by decide) rfl (Nat.le_of_ble_eq_true rfl) (fun p e s m args below meth c ls A hx hb hr hml hown hlocks hts hK hA hP hD hS hl => ?_)
  have k34 := (hts (.fieldLink RX0 34 "ResolutionProver$Clauses" "count" "I") (List.mem_of_getElem? (i := 1) rfl))
  have k9 := (hts (.fieldLink RX0 9 "ResolutionProver$Clauses" "positive" "[I") (List.mem_of_getElem? (i := 2) rfl))
  have k15 := (hts (.fieldLink RX0 15 "ResolutionProver$Clauses" "negative" "[I") (List.mem_of_getElem? (i := 3) rfl))
  have k18 := (hts (.fieldLink RX0 18 "ResolutionProver$Clauses" "parentWith" "[I") (List.mem_of_getElem? (i := 4) rfl))
  have k21 := (hts (.fieldLink RX0 21 "ResolutionProver$Clauses" "parentWithout" "[I") (List.mem_of_getElem? (i := 5) rfl))
  have k24 := (hts (.fieldLink RX0 24 "ResolutionProver$Clauses" "pivot" "[I") (List.mem_of_getElem? (i := 6) rfl))
  have k27 := (hts (.fieldLink RX0 27 "ResolutionProver$Clauses" "depth" "[I") (List.mem_of_getElem? (i := 7) rfl))
  have hiX0 : ∀ w ∈ wsX00, w ∈ wsX0_remove := (memIn_p [8, 9, 10, 11, 12, 13, 14, 15] rfl)
  have hl : lv_has ls 3 [(0, .ref (q 0)), (1, .int p1)] := hl
  refine lv_iload_n hx hb dX0_remove_0 rfl (lv_at hl 1 rfl) ?_
  refine lv_iconst (v := 1) hx hb dX0_remove_1 (by decide) ?_
  refine lv_iadd hx hb dX0_remove_2 ?_
  obtain ⟨v2_1, ev2_1, hf⟩ := nm_ob hf
  refine lv_nmi ev2_1 ?_
  refine lv_istore_n (lv' := [(2, .int v2_1), (0, .ref (q 0)), (1, .int p1)]) hx hb dX0_remove_3 rfl hl (by decide) rfl (fun ls hl => ?_)
  obtain ⟨j144, ej144, hf⟩ := jn_ob hf
  have hp144 : ∀ (z1_144 : OS) (H : Heap) (locs : List Loc) (ls : Array Slot), j144 z1_144 = some y1 → va_P D vwCl (wC cI q z1_144) H → va_D A (wC cI q z1_144) → va_S A s.heap H locs → lv_has ls 3 [(0, .ref (q 0))] → W p l e (headSpec wsX0_remove { frames := 0, cells := 0, slots := 0, locals := 0 }).room s m args below meth c H locs 0 0 (MQ below (Qw D A none (wC cI q y1)) args s 0 0 A) (F0 m 144 ls []) := by
    intro z1_144 H locs ls hf hP hD hS hl
    rw [ej144] at hf
    refine lv_aload_n hx hb dX0_remove_144 rfl (lv_at hl 0 rfl) ?_
    refine lv_dup hx hb dX0_remove_145 rfl ?_
    refine va_get (D := D) (ci := 0) (v := .int (z1_144.1 7)) (C := RX0) (T := TX0) (N := 8) hx hb hts hiX0 hown hK hP 0 rfl rfl 7 (by decide) k34 (fun _ h9 => h9) rfl dX0_remove_146 ?_
    refine lv_iconst (v := 1) hx hb dX0_remove_149 (by decide) ?_
    refine lv_isub hx hb dX0_remove_150 ?_
    refine va_put (D := D) (ci := 0) (v := .int ((z1_144.1 7) - (1 : Int32))) (ty := .int) (C := RX0) (T := TX0) (N := 8) hx hb hts hiX0 tyX0 tyX0_ok nmX0 hown hK hP hD hS 0 rfl rfl 7 (by decide) k34 (fun _ h9 => h9) rfl (by decide +kernel) rfl rfl (Nat.le_of_ble_eq_true rfl) dX0_remove_151 (fun H locs hP hD hS => ?_)
    obtain ⟨z_2, ez_2, hf⟩ := nm_ob hf
    have hP : va_P D vwCl (wC cI q z_2) H := by rw [ez_2]; exact hP
    have hD : va_D A (wC cI q z_2) := by rw [ez_2]; exact hD
    exact rW_v hx hb hr hlocks hP hD hS (congrArg (fun (q9 : (OS)) => wC cI q q9) (so_ob hf)) dX0_remove_154
  have hL4 : ∀ (n_4 : Nat) (v2_4 : Int32) (z1_4 : OS) (H : Heap) (locs : List Loc) (ls : Array Slot), lX0_remove_4 p1 j144 n_4 v2_4 z1_4 = some y1 → va_P D vwCl (wC cI q z1_4) H → va_D A (wC cI q z1_4) → va_S A s.heap H locs → lv_has ls 3 [(0, .ref (q 0)), (1, .int p1), (2, .int v2_4)] → W p l e (headSpec wsX0_remove { frames := 0, cells := 0, slots := 0, locals := 0 }).room s m args below meth c H locs 0 0 (MQ below (Qw D A none (wC cI q y1)) args s 0 0 A) (F0 m 4 ls []) := by
    intro n_4
    induction n_4 with
    | zero =>
      intro v2_4 z1_4 H locs ls hf
      exact no_ob hf
    | succ n_4 ih4 =>
      intro v2_4 z1_4 H locs ls hf hP hD hS hl
      rw [lX0_remove_4] at hf
      refine lv_iload_n hx hb dX0_remove_4 rfl (lv_at hl 2 rfl) ?_
      refine lv_aload_n hx hb dX0_remove_5 rfl (lv_at hl 0 rfl) ?_
      refine va_get (D := D) (ci := 0) (v := .int (z1_4.1 7)) (C := RX0) (T := TX0) (N := 8) hx hb hts hiX0 hown hK hP 0 rfl rfl 7 (by decide) k34 (fun _ h9 => h9) rfl dX0_remove_6 ?_
      refine lv_icmp_ge (tgt := 144) hx hb dX0_remove_9 (by decide) (fun c_9 => ?_) (fun c_9 => ?_)
      · have hf := ip c_9 hf
        exact hp144 z1_4 _ _ _ hf hP hD hS (lv_sub hl [0] rfl)
      · have hf := iq c_9 hf
        refine lv_aload_n hx hb dX0_remove_12 rfl (lv_at hl 0 rfl) ?_
        refine va_get (D := D) (ci := 0) (v := .ref (q 1)) (C := RX0) (T := TX0) (N := 8) hx hb hts hiX0 hown hK hP 0 rfl rfl 0 (by decide) k9 (fun _ h9 => h9) rfl dX0_remove_13 ?_
        refine lv_iload_n hx hb dX0_remove_16 rfl (lv_at hl 2 rfl) ?_
        refine lv_iconst (v := 1) hx hb dX0_remove_17 (by decide) ?_
        refine lv_isub hx hb dX0_remove_18 ?_
        refine lv_aload_n hx hb dX0_remove_19 rfl (lv_at hl 0 rfl) ?_
        refine va_get (D := D) (ci := 0) (v := .ref (q 1)) (C := RX0) (T := TX0) (N := 8) hx hb hts hiX0 hown hK hP 0 rfl rfl 0 (by decide) k9 (fun _ h9 => h9) rfl dX0_remove_20 ?_
        refine lv_iload_n hx hb dX0_remove_23 rfl (lv_at hl 2 rfl) ?_
        obtain ⟨hi_, hf⟩ := gd_ob hf
        refine va_iald hx hb hK hP 1 0 rfl rfl (inB_in hi_) dX0_remove_24 ?_
        obtain ⟨hi_, hf⟩ := gd_ob hf
        refine va_iast hx hb hK hP hD hS 1 0 rfl rfl (inB_in hi_) dX0_remove_25 (fun H locs hP hD hS => ?_)
        obtain ⟨z_3, ez_3, hf⟩ := nm_ob hf
        have hP : va_P D vwCl (wC cI q z_3) H := by rw [ez_3]; exact hP
        have hD : va_D A (wC cI q z_3) := by rw [ez_3]; exact hD
        refine lv_aload_n hx hb dX0_remove_26 rfl (lv_at hl 0 rfl) ?_
        refine va_get (D := D) (ci := 0) (v := .ref (q 2)) (C := RX0) (T := TX0) (N := 8) hx hb hts hiX0 hown hK hP 0 rfl rfl 1 (by decide) k15 (fun _ h9 => h9) rfl dX0_remove_27 ?_
        refine lv_iload_n hx hb dX0_remove_30 rfl (lv_at hl 2 rfl) ?_
        refine lv_iconst (v := 1) hx hb dX0_remove_31 (by decide) ?_
        refine lv_isub hx hb dX0_remove_32 ?_
        refine lv_aload_n hx hb dX0_remove_33 rfl (lv_at hl 0 rfl) ?_
        refine va_get (D := D) (ci := 0) (v := .ref (q 2)) (C := RX0) (T := TX0) (N := 8) hx hb hts hiX0 hown hK hP 0 rfl rfl 1 (by decide) k15 (fun _ h9 => h9) rfl dX0_remove_34 ?_
        refine lv_iload_n hx hb dX0_remove_37 rfl (lv_at hl 2 rfl) ?_
        obtain ⟨hi_, hf⟩ := gd_ob hf
        refine va_iald hx hb hK hP 2 0 rfl rfl (inB_in hi_) dX0_remove_38 ?_
        obtain ⟨hi_, hf⟩ := gd_ob hf
        refine va_iast hx hb hK hP hD hS 2 0 rfl rfl (inB_in hi_) dX0_remove_39 (fun H locs hP hD hS => ?_)
        obtain ⟨z_4, ez_4, hf⟩ := nm_ob hf
        have hP : va_P D vwCl (wC cI q z_4) H := by rw [ez_4]; exact hP
        have hD : va_D A (wC cI q z_4) := by rw [ez_4]; exact hD
        refine lv_aload_n hx hb dX0_remove_40 rfl (lv_at hl 0 rfl) ?_
        refine va_get (D := D) (ci := 0) (v := .ref (q 3)) (C := RX0) (T := TX0) (N := 8) hx hb hts hiX0 hown hK hP 0 rfl rfl 2 (by decide) k18 (fun _ h9 => h9) rfl dX0_remove_41 ?_
        refine lv_iload_n hx hb dX0_remove_44 rfl (lv_at hl 2 rfl) ?_
        refine lv_iconst (v := 1) hx hb dX0_remove_45 (by decide) ?_
        refine lv_isub hx hb dX0_remove_46 ?_
        refine lv_aload_n hx hb dX0_remove_47 rfl (lv_at hl 0 rfl) ?_
        refine va_get (D := D) (ci := 0) (v := .ref (q 3)) (C := RX0) (T := TX0) (N := 8) hx hb hts hiX0 hown hK hP 0 rfl rfl 2 (by decide) k18 (fun _ h9 => h9) rfl dX0_remove_48 ?_
        refine lv_iload_n hx hb dX0_remove_51 rfl (lv_at hl 2 rfl) ?_
        obtain ⟨hi_, hf⟩ := gd_ob hf
        refine va_iald hx hb hK hP 3 0 rfl rfl (inB_in hi_) dX0_remove_52 ?_
        refine lv_iload_n hx hb dX0_remove_53 rfl (lv_at hl 1 rfl) ?_
        obtain ⟨j74, ej74, hf⟩ := jn_ob hf
        have hp74 : ∀ (t1_74 : Int32) (t2_74 : Int32) (H : Heap) (locs : List Loc) (ls : Array Slot), j74 t1_74 t2_74 = some y1 → va_P D vwCl (wC cI q z_4) H → va_D A (wC cI q z_4) → va_S A s.heap H locs → lv_has ls 3 [(0, .ref (q 0)), (1, .int p1), (2, .int v2_4)] → W p l e (headSpec wsX0_remove { frames := 0, cells := 0, slots := 0, locals := 0 }).room s m args below meth c H locs 0 0 (MQ below (Qw D A none (wC cI q y1)) args s 0 0 A) (F0 m 74 ls [.int t2_74, .int t1_74, .ref (q 3)]) := by
          intro t1_74 t2_74 H locs ls hf hP hD hS hl
          rw [ej74] at hf
          obtain ⟨hi_, hf⟩ := gd_ob hf
          refine va_iast hx hb hK hP hD hS 3 0 rfl rfl (inB_in hi_) dX0_remove_74 (fun H locs hP hD hS => ?_)
          obtain ⟨z_5, ez_5, hf⟩ := nm_ob hf
          have hP : va_P D vwCl (wC cI q z_5) H := by rw [ez_5]; exact hP
          have hD : va_D A (wC cI q z_5) := by rw [ez_5]; exact hD
          refine lv_aload_n hx hb dX0_remove_75 rfl (lv_at hl 0 rfl) ?_
          refine va_get (D := D) (ci := 0) (v := .ref (q 4)) (C := RX0) (T := TX0) (N := 8) hx hb hts hiX0 hown hK hP 0 rfl rfl 3 (by decide) k21 (fun _ h9 => h9) rfl dX0_remove_76 ?_
          refine lv_iload_n hx hb dX0_remove_79 rfl (lv_at hl 2 rfl) ?_
          refine lv_iconst (v := 1) hx hb dX0_remove_80 (by decide) ?_
          refine lv_isub hx hb dX0_remove_81 ?_
          refine lv_aload_n hx hb dX0_remove_82 rfl (lv_at hl 0 rfl) ?_
          refine va_get (D := D) (ci := 0) (v := .ref (q 4)) (C := RX0) (T := TX0) (N := 8) hx hb hts hiX0 hown hK hP 0 rfl rfl 3 (by decide) k21 (fun _ h9 => h9) rfl dX0_remove_83 ?_
          refine lv_iload_n hx hb dX0_remove_86 rfl (lv_at hl 2 rfl) ?_
          obtain ⟨hi_, hf⟩ := gd_ob hf
          refine va_iald hx hb hK hP 4 0 rfl rfl (inB_in hi_) dX0_remove_87 ?_
          refine lv_iload_n hx hb dX0_remove_88 rfl (lv_at hl 1 rfl) ?_
          obtain ⟨j109, ej109, hf⟩ := jn_ob hf
          have hp109 : ∀ (t1_109 : Int32) (t2_109 : Int32) (H : Heap) (locs : List Loc) (ls : Array Slot), j109 t1_109 t2_109 = some y1 → va_P D vwCl (wC cI q z_5) H → va_D A (wC cI q z_5) → va_S A s.heap H locs → lv_has ls 3 [(0, .ref (q 0)), (1, .int p1), (2, .int v2_4)] → W p l e (headSpec wsX0_remove { frames := 0, cells := 0, slots := 0, locals := 0 }).room s m args below meth c H locs 0 0 (MQ below (Qw D A none (wC cI q y1)) args s 0 0 A) (F0 m 109 ls [.int t2_109, .int t1_109, .ref (q 4)]) := by
            intro t1_109 t2_109 H locs ls hf hP hD hS hl
            rw [ej109] at hf
            obtain ⟨hi_, hf⟩ := gd_ob hf
            refine va_iast hx hb hK hP hD hS 4 0 rfl rfl (inB_in hi_) dX0_remove_109 (fun H locs hP hD hS => ?_)
            obtain ⟨z_6, ez_6, hf⟩ := nm_ob hf
            have hP : va_P D vwCl (wC cI q z_6) H := by rw [ez_6]; exact hP
            have hD : va_D A (wC cI q z_6) := by rw [ez_6]; exact hD
            refine lv_aload_n hx hb dX0_remove_110 rfl (lv_at hl 0 rfl) ?_
            refine va_get (D := D) (ci := 0) (v := .ref (q 5)) (C := RX0) (T := TX0) (N := 8) hx hb hts hiX0 hown hK hP 0 rfl rfl 4 (by decide) k24 (fun _ h9 => h9) rfl dX0_remove_111 ?_
            refine lv_iload_n hx hb dX0_remove_114 rfl (lv_at hl 2 rfl) ?_
            refine lv_iconst (v := 1) hx hb dX0_remove_115 (by decide) ?_
            refine lv_isub hx hb dX0_remove_116 ?_
            refine lv_aload_n hx hb dX0_remove_117 rfl (lv_at hl 0 rfl) ?_
            refine va_get (D := D) (ci := 0) (v := .ref (q 5)) (C := RX0) (T := TX0) (N := 8) hx hb hts hiX0 hown hK hP 0 rfl rfl 4 (by decide) k24 (fun _ h9 => h9) rfl dX0_remove_118 ?_
            refine lv_iload_n hx hb dX0_remove_121 rfl (lv_at hl 2 rfl) ?_
            obtain ⟨hi_, hf⟩ := gd_ob hf
            refine va_iald hx hb hK hP 5 0 rfl rfl (inB_in hi_) dX0_remove_122 ?_
            obtain ⟨hi_, hf⟩ := gd_ob hf
            refine va_iast hx hb hK hP hD hS 5 0 rfl rfl (inB_in hi_) dX0_remove_123 (fun H locs hP hD hS => ?_)
            obtain ⟨z_7, ez_7, hf⟩ := nm_ob hf
            have hP : va_P D vwCl (wC cI q z_7) H := by rw [ez_7]; exact hP
            have hD : va_D A (wC cI q z_7) := by rw [ez_7]; exact hD
            refine lv_aload_n hx hb dX0_remove_124 rfl (lv_at hl 0 rfl) ?_
            refine va_get (D := D) (ci := 0) (v := .ref (q 6)) (C := RX0) (T := TX0) (N := 8) hx hb hts hiX0 hown hK hP 0 rfl rfl 5 (by decide) k27 (fun _ h9 => h9) rfl dX0_remove_125 ?_
            refine lv_iload_n hx hb dX0_remove_128 rfl (lv_at hl 2 rfl) ?_
            refine lv_iconst (v := 1) hx hb dX0_remove_129 (by decide) ?_
            refine lv_isub hx hb dX0_remove_130 ?_
            refine lv_aload_n hx hb dX0_remove_131 rfl (lv_at hl 0 rfl) ?_
            refine va_get (D := D) (ci := 0) (v := .ref (q 6)) (C := RX0) (T := TX0) (N := 8) hx hb hts hiX0 hown hK hP 0 rfl rfl 5 (by decide) k27 (fun _ h9 => h9) rfl dX0_remove_132 ?_
            refine lv_iload_n hx hb dX0_remove_135 rfl (lv_at hl 2 rfl) ?_
            obtain ⟨hi_, hf⟩ := gd_ob hf
            refine va_iald hx hb hK hP 6 0 rfl rfl (inB_in hi_) dX0_remove_136 ?_
            obtain ⟨hi_, hf⟩ := gd_ob hf
            refine va_iast hx hb hK hP hD hS 6 0 rfl rfl (inB_in hi_) dX0_remove_137 (fun H locs hP hD hS => ?_)
            obtain ⟨z_8, ez_8, hf⟩ := nm_ob hf
            have hP : va_P D vwCl (wC cI q z_8) H := by rw [ez_8]; exact hP
            have hD : va_D A (wC cI q z_8) := by rw [ez_8]; exact hD
            obtain ⟨v2_9, ev2_9, hf⟩ := nm_ob hf
            refine lv_iinc (v := v2_9) (lv' := [(2, .int v2_9), (0, .ref (q 0)), (1, .int p1)]) hx hb dX0_remove_138 hl (k := 2) rfl (by rw [ev2_9]; rfl) (by decide) rfl (fun ls hl => ?_)
            refine lv_goto (tgt := 4) hx hb dX0_remove_141 (by decide) ?_
            exact ih4 v2_9 z_8 _ _ _ hf hP hD hS (lv_sub hl [1, 2, 0] rfl)
          refine lv_icmp_le (tgt := 103) hx hb dX0_remove_89 (by decide) (fun c_89 => ?_) (fun c_89 => ?_)
          · have hf := ip c_89 hf
            refine lv_aload_n hx hb dX0_remove_103 rfl (lv_at hl 0 rfl) ?_
            refine va_get (D := D) (ci := 0) (v := .ref (q 4)) (C := RX0) (T := TX0) (N := 8) hx hb hts hiX0 hown hK hP 0 rfl rfl 3 (by decide) k21 (fun _ h9 => h9) rfl dX0_remove_104 ?_
            refine lv_iload_n hx hb dX0_remove_107 rfl (lv_at hl 2 rfl) ?_
            obtain ⟨hi_, hf⟩ := gd_ob hf
            refine va_iald hx hb hK hP 4 0 rfl rfl (inB_in hi_) dX0_remove_108 ?_
            exact hp109 (v2_4 - (1 : Int32)) (z_5.2 3 (v2_4).toNatClampNeg) _ _ _ hf hP hD hS hl
          · have hf := iq c_89 hf
            refine lv_aload_n hx hb dX0_remove_92 rfl (lv_at hl 0 rfl) ?_
            refine va_get (D := D) (ci := 0) (v := .ref (q 4)) (C := RX0) (T := TX0) (N := 8) hx hb hts hiX0 hown hK hP 0 rfl rfl 3 (by decide) k21 (fun _ h9 => h9) rfl dX0_remove_93 ?_
            refine lv_iload_n hx hb dX0_remove_96 rfl (lv_at hl 2 rfl) ?_
            obtain ⟨hi_, hf⟩ := gd_ob hf
            refine va_iald hx hb hK hP 4 0 rfl rfl (inB_in hi_) dX0_remove_97 ?_
            refine lv_iconst (v := 1) hx hb dX0_remove_98 (by decide) ?_
            refine lv_isub hx hb dX0_remove_99 ?_
            refine lv_goto (tgt := 109) hx hb dX0_remove_100 (by decide) ?_
            exact hp109 (v2_4 - (1 : Int32)) ((z_5.2 3 (v2_4).toNatClampNeg) - (1 : Int32)) _ _ _ hf hP hD hS hl
        refine lv_icmp_le (tgt := 68) hx hb dX0_remove_54 (by decide) (fun c_54 => ?_) (fun c_54 => ?_)
        · have hf := ip c_54 hf
          refine lv_aload_n hx hb dX0_remove_68 rfl (lv_at hl 0 rfl) ?_
          refine va_get (D := D) (ci := 0) (v := .ref (q 3)) (C := RX0) (T := TX0) (N := 8) hx hb hts hiX0 hown hK hP 0 rfl rfl 2 (by decide) k18 (fun _ h9 => h9) rfl dX0_remove_69 ?_
          refine lv_iload_n hx hb dX0_remove_72 rfl (lv_at hl 2 rfl) ?_
          obtain ⟨hi_, hf⟩ := gd_ob hf
          refine va_iald hx hb hK hP 3 0 rfl rfl (inB_in hi_) dX0_remove_73 ?_
          exact hp74 (v2_4 - (1 : Int32)) (z_4.2 2 (v2_4).toNatClampNeg) _ _ _ hf hP hD hS hl
        · have hf := iq c_54 hf
          refine lv_aload_n hx hb dX0_remove_57 rfl (lv_at hl 0 rfl) ?_
          refine va_get (D := D) (ci := 0) (v := .ref (q 3)) (C := RX0) (T := TX0) (N := 8) hx hb hts hiX0 hown hK hP 0 rfl rfl 2 (by decide) k18 (fun _ h9 => h9) rfl dX0_remove_58 ?_
          refine lv_iload_n hx hb dX0_remove_61 rfl (lv_at hl 2 rfl) ?_
          obtain ⟨hi_, hf⟩ := gd_ob hf
          refine va_iald hx hb hK hP 3 0 rfl rfl (inB_in hi_) dX0_remove_62 ?_
          refine lv_iconst (v := 1) hx hb dX0_remove_63 (by decide) ?_
          refine lv_isub hx hb dX0_remove_64 ?_
          refine lv_goto (tgt := 74) hx hb dX0_remove_65 (by decide) ?_
          exact hp74 (v2_4 - (1 : Int32)) ((z_4.2 2 (v2_4).toNatClampNeg) - (1 : Int32)) _ _ _ hf hP hD hS hl
  exact hL4 fu v2_1 z _ _ _ hf hP hD hS (lv_sub hl [1, 2, 0] rfl)
def lX0_lastToReduce_7 (fu : Nat) (z : OS) (j36 : Option (Int32)) : Nat → Int32 → Option (Int32)
  | 0, _ => none
  | n_7 + 1, v1_7 => (if v1_7 < (0 : Int32) then j36 else bd (fX0_isParent fu z v1_7) (fun (r_2 : Int32) => jn (κ := Option (Int32)) (nm (v1_7 + (-1 : Int32)) (fun (v1_4 : Int32) => lX0_lastToReduce_7 fu z j36 n_7 v1_4)) (fun j30 => (if ¬ r_2 = (0 : Int32) then j30 else bd (fX0_firstSubsumer fu z v1_7) (fun (r_5 : Int32) => (if r_5 = (-1 : Int32) then j30 else some v1_7))))))
def fX0_lastToReduce (fu : Nat) (z : OS) : Option (Int32) :=
  nm ((z.1 7) - (1 : Int32)) (fun (v1_1 : Int32) => jn (κ := Option (Int32)) (some (-1 : Int32)) (fun j36 => lX0_lastToReduce_7 fu z j36 fu v1_1))
set_option maxRecDepth 100000 in
set_option maxHeartbeats 4000000 in
theorem mX0_lastToReduce (l : Launch) (D : va_G) (cI cB cZ cO : ClassId) (q : Nat → Nat) (fu : Nat) (z : OS) {r : Int32} (hf : fX0_lastToReduce fu z = some r) : Met l yX0_lastToReduce wsX0_lastToReduce ({ frames := 2, cells := 0, slots := 0, locals := 45 }) (va_Pc [.ref (q 0)] (Pr D (gT cI cB cZ cO) (wC cI q z))) (Qr (some (.int r))) 0 0 (fun _ => False) := by
  unfold fX0_lastToReduce at hf
  refine metR (ret := (some .int)) (own := RX0) rfl (by decide) rfl (Nat.le_of_ble_eq_true rfl) (fun p e s m args below meth c ls hx hb hr hml hown hlocks hts hP hK hl => ?_)
  have k34 := (hts (.fieldLink RX0 34 "ResolutionProver$Clauses" "count" "I") (List.mem_of_getElem? (i := 1) rfl))
  have hiX0 : ∀ w ∈ wsX00, w ∈ wsX0_lastToReduce := (memIn_p [19, 20, 21, 22, 23, 24, 25, 26] rfl)
  have hl : lv_has ls 2 [(0, .ref (q 0))] := hl
  refine lv_aload_n hx hb dX0_lastToReduce_0 rfl (lv_at hl 0 rfl) ?_
  refine va_get (D := D) (ci := 0) (v := .int (z.1 7)) (C := RX0) (T := TX0) (N := 8) hx hb hts hiX0 hown hK hP 0 rfl rfl 7 (by decide) k34 (fun _ h9 => h9) rfl dX0_lastToReduce_1 ?_
  refine lv_iconst (v := 1) hx hb dX0_lastToReduce_4 (by decide) ?_
  refine lv_isub hx hb dX0_lastToReduce_5 ?_
  obtain ⟨v1_1, ev1_1, hf⟩ := nm_ob hf
  refine lv_nmi ev1_1 ?_
  refine lv_istore_n (lv' := [(1, .int v1_1), (0, .ref (q 0))]) hx hb dX0_lastToReduce_6 rfl hl (by decide) rfl (fun ls hl => ?_)
  obtain ⟨j36, ej36, hf⟩ := jn_ob hf
  have hp36 : ∀  (ls : Array Slot), j36 = some r → lv_has ls 2 [] → W p l e (headSpec wsX0_lastToReduce { frames := 2, cells := 0, slots := 0, locals := 45 }).room s m args below meth c s.heap [] 0 0 (MQ below (Qr (some (.int r))) args s 0 0 (fun _ => False)) (F0 m 36 ls []) := by
    intro ls hf hl
    rw [ej36] at hf
    refine lv_iconst (v := (-1)) hx hb dX0_lastToReduce_36 (by decide) ?_
    exact rR_i hx hb hr hlocks (so_ob hf) dX0_lastToReduce_37
  have hL7 : ∀ (n_7 : Nat) (v1_7 : Int32) (ls : Array Slot), lX0_lastToReduce_7 fu z j36 n_7 v1_7 = some r → lv_has ls 2 [(0, .ref (q 0)), (1, .int v1_7)] → W p l e (headSpec wsX0_lastToReduce { frames := 2, cells := 0, slots := 0, locals := 45 }).room s m args below meth c s.heap [] 0 0 (MQ below (Qr (some (.int r))) args s 0 0 (fun _ => False)) (F0 m 7 ls []) := by
    intro n_7
    induction n_7 with
    | zero =>
      intro v1_7 ls hf
      exact no_ob hf
    | succ n_7 ih7 =>
      intro v1_7 ls hf hl
      rw [lX0_lastToReduce_7] at hf
      refine lv_iload_n hx hb dX0_lastToReduce_7 rfl (lv_at hl 1 rfl) ?_
      refine lv_if_lt (tgt := 36) hx hb dX0_lastToReduce_8 (by decide) (fun c_8 => ?_) (fun c_8 => ?_)
      · have hf := ip c_8 hf
        exact hp36 _ hf (lv_sub hl [] rfl)
      · have hf := iq c_8 hf
        refine lv_aload_n hx hb dX0_lastToReduce_11 rfl (lv_at hl 0 rfl) ?_
        refine lv_iload_n hx hb dX0_lastToReduce_12 rfl (lv_at hl 1 rfl) ?_
        obtain ⟨r_2, hc_3, hf⟩ := bd_ob hf
        refine rdV (As := [.int v1_7]) (rest := []) ⟨hx, hb, hml, hown, hts⟩ (mX0_isParent l D cI cB cZ cO q fu z v1_7 hc_3) (cwV 1 hts gX0_lastToReduce_X0_isParent rfl rfl rfl (by decide +kernel) ⟨Nat.le_of_ble_eq_true rfl, Nat.le_of_ble_eq_true rfl⟩) hK hP (va_recv hK hP (ci := 0) (q0 := 0) rfl rfl) rfl hl.1 rfl (Nat.le_of_ble_eq_true rfl) dX0_lastToReduce_13 ⟨Nat.zero_le _, Nat.zero_le _⟩ ?_
        obtain ⟨j30, ej30, hf⟩ := jn_ob hf
        have hp30 : ∀  (ls : Array Slot), j30 = some r → lv_has ls 2 [(0, .ref (q 0)), (1, .int v1_7)] → W p l e (headSpec wsX0_lastToReduce { frames := 2, cells := 0, slots := 0, locals := 45 }).room s m args below meth c s.heap [] 0 0 (MQ below (Qr (some (.int r))) args s 0 0 (fun _ => False)) (F0 m 30 ls []) := by
          intro ls hf hl
          rw [ej30] at hf
          obtain ⟨v1_4, ev1_4, hf⟩ := nm_ob hf
          refine lv_iinc (v := v1_4) (lv' := [(1, .int v1_4), (0, .ref (q 0))]) hx hb dX0_lastToReduce_30 hl (k := 1) rfl (by rw [ev1_4]; rfl) (by decide) rfl (fun ls hl => ?_)
          refine lv_goto (tgt := 7) hx hb dX0_lastToReduce_33 (by decide) ?_
          exact ih7 v1_4 _ hf (lv_sub hl [1, 0] rfl)
        refine lv_if_ne (tgt := 30) hx hb dX0_lastToReduce_16 (by decide) (fun c_16 => ?_) (fun c_16 => ?_)
        · have hf := ip c_16 hf
          exact hp30 _ hf hl
        · have hf := iqn c_16 hf
          refine lv_aload_n hx hb dX0_lastToReduce_19 rfl (lv_at hl 0 rfl) ?_
          refine lv_iload_n hx hb dX0_lastToReduce_20 rfl (lv_at hl 1 rfl) ?_
          obtain ⟨r_5, hc_6, hf⟩ := bd_ob hf
          refine rdV (As := [.int v1_7]) (rest := []) ⟨hx, hb, hml, hown, hts⟩ (mX0_firstSubsumer l D cI cB cZ cO q fu z v1_7 hc_6) (cwV 1 hts gX0_lastToReduce_X0_firstSubsumer rfl rfl rfl (by decide +kernel) ⟨Nat.le_of_ble_eq_true rfl, Nat.le_of_ble_eq_true rfl⟩) hK hP (va_recv hK hP (ci := 0) (q0 := 0) rfl rfl) rfl hl.1 rfl (Nat.le_of_ble_eq_true rfl) dX0_lastToReduce_21 ⟨Nat.zero_le _, Nat.zero_le _⟩ ?_
          refine lv_iconst (v := (-1)) hx hb dX0_lastToReduce_24 (by decide) ?_
          refine lv_icmp_eq (tgt := 30) hx hb dX0_lastToReduce_25 (by decide) (fun c_25 => ?_) (fun c_25 => ?_)
          · have hf := ip c_25 hf
            exact hp30 _ hf hl
          · have hf := iq c_25 hf
            refine lv_iload_n hx hb dX0_lastToReduce_28 rfl (lv_at hl 1 rfl) ?_
            exact rR_i hx hb hr hlocks (so_ob hf) dX0_lastToReduce_29
  exact hL7 fu v1_1 _ hf (lv_sub hl [1, 0] rfl)
def lX0_removeSubsumed_7 (fu : Nat) (j34 : Int32 → OS → Option (Int32 × (OS))) : Nat → Int32 → Int32 → OS → Option (Int32 × (OS))
  | 0, _, _, _ => none
  | n_7 + 1, v1_7, v2_7, z1_7 => (if v2_7 = (-1 : Int32) then j34 v1_7 z1_7 else (if (60 : Int32) ≤ v1_7 then j34 v1_7 z1_7 else bd (fX0_remove fu z1_7 v2_7) (fun (z_3 : OS) => nm (v1_7 + (1 : Int32)) (fun (v1_5 : Int32) => bd (fX0_lastToReduce fu z_3) (fun (r_6 : Int32) => lX0_removeSubsumed_7 fu j34 n_7 v1_5 r_6 z_3)))))
def fX0_removeSubsumed (fu : Nat) (z : OS) : Option (Int32 × (OS)) :=
  bd (fX0_lastToReduce fu z) (fun (r_1 : Int32) => jn (κ := Int32 → OS → Option (Int32 × (OS))) (fun (v1_34 : Int32) (z1_34 : OS) => some (v1_34, z1_34)) (fun j34 => lX0_removeSubsumed_7 fu j34 fu (0 : Int32) r_1 z))
set_option maxRecDepth 100000 in
set_option maxHeartbeats 4000000 in
theorem mX0_removeSubsumed (l : Launch) (D : va_G) (cI cB cZ cO : ClassId) (q : Nat → Nat) (sz : Nat) (fu : Nat) (z : OS) {r : Int32} {y1 : OS} (hf : fX0_removeSubsumed fu z = some (r, y1)) : Met l yX0_removeSubsumed wsX0_removeSubsumed ({ frames := 3, cells := 0, slots := 0, locals := 66 }) (va_Pc [.ref (q 0)] (Pw D (gT cI cB cZ cO) (wC cI q z) sz)) (Qw D (va_A (wC cI q z) sz) (some (.int r)) (wC cI q y1)) 0 0 (va_A (wC cI q z) sz) := by
  unfold fX0_removeSubsumed at hf
  refine metW (ret := (some .int)) (own := RX0) rfl (by decide) rfl (Nat.le_of_ble_eq_true rfl) (fun p e s m args below meth c ls A hx hb hr hml hown hlocks hts hK hA hP hD hS hl => ?_)
  have hl : lv_has ls 3 [(0, .ref (q 0))] := hl
  refine lv_iconst (v := 0) hx hb dX0_removeSubsumed_0 (by decide) ?_
  refine lv_istore_n (lv' := [(1, .int (0 : Int32)), (0, .ref (q 0))]) hx hb dX0_removeSubsumed_1 rfl hl (by decide) rfl (fun ls hl => ?_)
  refine lv_aload_n hx hb dX0_removeSubsumed_2 rfl (lv_at hl 1 rfl) ?_
  obtain ⟨r_1, hc_2, hf⟩ := bd_ob hf
  refine rdV (As := []) (rest := []) ⟨hx, hb, hml, hown, hts⟩ (mX0_lastToReduce l D cI cB cZ cO q fu z hc_2) (cwV 0 hts gX0_removeSubsumed_X0_lastToReduce rfl rfl rfl (by decide +kernel) ⟨Nat.le_of_ble_eq_true rfl, Nat.le_of_ble_eq_true rfl⟩) hK hP (va_recv hK hP (ci := 0) (q0 := 0) rfl rfl) rfl hl.1 rfl (Nat.le_of_ble_eq_true rfl) dX0_removeSubsumed_3 ⟨Nat.zero_le _, Nat.zero_le _⟩ ?_
  refine lv_istore_n (lv' := [(2, .int r_1), (1, .int (0 : Int32)), (0, .ref (q 0))]) hx hb dX0_removeSubsumed_6 rfl hl (by decide) rfl (fun ls hl => ?_)
  obtain ⟨j34, ej34, hf⟩ := jn_ob hf
  have hp34 : ∀ (v1_34 : Int32) (z1_34 : OS) (H : Heap) (locs : List Loc) (ls : Array Slot), j34 v1_34 z1_34 = some (r, y1) → va_P D vwCl (wC cI q z1_34) H → va_D A (wC cI q z1_34) → va_S A s.heap H locs → lv_has ls 3 [(1, .int v1_34)] → W p l e (headSpec wsX0_removeSubsumed { frames := 3, cells := 0, slots := 0, locals := 66 }).room s m args below meth c H locs 0 0 (MQ below (Qw D A (some (.int r)) (wC cI q y1)) args s 0 0 A) (F0 m 34 ls []) := by
    intro v1_34 z1_34 H locs ls hf hP hD hS hl
    rw [ej34] at hf
    refine lv_iload_n hx hb dX0_removeSubsumed_34 rfl (lv_at hl 0 rfl) ?_
    exact rW_i hx hb hr hlocks hP hD hS (congrArg (fun q9 => q9.1) (so_ob hf)) (congrArg (fun (q9 : Int32 × (OS)) => wC cI q q9.2) (so_ob hf)) dX0_removeSubsumed_35
  have hL7 : ∀ (n_7 : Nat) (v1_7 : Int32) (v2_7 : Int32) (z1_7 : OS) (H : Heap) (locs : List Loc) (ls : Array Slot), lX0_removeSubsumed_7 fu j34 n_7 v1_7 v2_7 z1_7 = some (r, y1) → va_P D vwCl (wC cI q z1_7) H → va_D A (wC cI q z1_7) → va_S A s.heap H locs → lv_has ls 3 [(0, .ref (q 0)), (1, .int v1_7), (2, .int v2_7)] → W p l e (headSpec wsX0_removeSubsumed { frames := 3, cells := 0, slots := 0, locals := 66 }).room s m args below meth c H locs 0 0 (MQ below (Qw D A (some (.int r)) (wC cI q y1)) args s 0 0 A) (F0 m 7 ls []) := by
    intro n_7
    induction n_7 with
    | zero =>
      intro v1_7 v2_7 z1_7 H locs ls hf
      exact no_ob hf
    | succ n_7 ih7 =>
      intro v1_7 v2_7 z1_7 H locs ls hf hP hD hS hl
      rw [lX0_removeSubsumed_7] at hf
      refine lv_iload_n hx hb dX0_removeSubsumed_7 rfl (lv_at hl 2 rfl) ?_
      refine lv_iconst (v := (-1)) hx hb dX0_removeSubsumed_8 (by decide) ?_
      refine lv_icmp_eq (tgt := 34) hx hb dX0_removeSubsumed_9 (by decide) (fun c_9 => ?_) (fun c_9 => ?_)
      · have hf := ip c_9 hf
        exact hp34 v1_7 z1_7 _ _ _ hf hP hD hS (lv_sub hl [1] rfl)
      · have hf := iq c_9 hf
        refine lv_iload_n hx hb dX0_removeSubsumed_12 rfl (lv_at hl 1 rfl) ?_
        refine lv_bipush (v := 60) hx hb dX0_removeSubsumed_13 (by decide) ?_
        refine lv_icmp_ge (tgt := 34) hx hb dX0_removeSubsumed_15 (by decide) (fun c_15 => ?_) (fun c_15 => ?_)
        · have hf := ip c_15 hf
          exact hp34 v1_7 z1_7 _ _ _ hf hP hD hS (lv_sub hl [1] rfl)
        · have hf := iq c_15 hf
          refine lv_aload_n hx hb dX0_removeSubsumed_18 rfl (lv_at hl 0 rfl) ?_
          refine lv_iload_n hx hb dX0_removeSubsumed_19 rfl (lv_at hl 2 rfl) ?_
          obtain ⟨z_3, hc_4, hf⟩ := bd_ob hf
          refine weV (As := [.int v2_7]) (rest := []) ⟨hx, hb, hml, hown, hts⟩ (mX0_remove l D cI cB cZ cO q _ fu z1_7 v2_7 hc_4) (cwV 1 hts gX0_removeSubsumed_X0_remove rfl rfl rfl (by decide +kernel) ⟨Nat.le_of_ble_eq_true rfl, Nat.le_of_ble_eq_true rfl⟩) hK hP hD hS hA (va_recv hK hP (ci := 0) (q0 := 0) rfl rfl) rfl hl.1 rfl (Nat.le_of_ble_eq_true rfl) dX0_removeSubsumed_20 ⟨Nat.zero_le _, Nat.zero_le _⟩ (fun H locs hP hD hS => ?_)
          obtain ⟨v1_5, ev1_5, hf⟩ := nm_ob hf
          refine lv_iinc (v := v1_5) (lv' := [(1, .int v1_5), (0, .ref (q 0)), (2, .int v2_7)]) hx hb dX0_removeSubsumed_23 hl (k := 1) rfl (by rw [ev1_5]; rfl) (by decide) rfl (fun ls hl => ?_)
          refine lv_aload_n hx hb dX0_removeSubsumed_26 rfl (lv_at hl 1 rfl) ?_
          obtain ⟨r_6, hc_7, hf⟩ := bd_ob hf
          refine rdV (As := []) (rest := []) ⟨hx, hb, hml, hown, hts⟩ (mX0_lastToReduce l D cI cB cZ cO q fu z_3 hc_7) (cwV 0 hts gX0_removeSubsumed_X0_lastToReduce rfl rfl rfl (by decide +kernel) ⟨Nat.le_of_ble_eq_true rfl, Nat.le_of_ble_eq_true rfl⟩) hK hP (va_recv hK hP (ci := 0) (q0 := 0) rfl rfl) rfl hl.1 rfl (Nat.le_of_ble_eq_true rfl) dX0_removeSubsumed_27 ⟨Nat.zero_le _, Nat.zero_le _⟩ ?_
          refine lv_istore_n (lv' := [(2, .int r_6), (1, .int v1_5), (0, .ref (q 0))]) hx hb dX0_removeSubsumed_30 rfl hl (by decide) rfl (fun ls hl => ?_)
          refine lv_goto (tgt := 7) hx hb dX0_removeSubsumed_31 (by decide) ?_
          exact ih7 v1_5 r_6 z_3 _ _ _ hf hP hD hS (lv_sub hl [2, 1, 0] rfl)
  exact hL7 fu (0 : Int32) r_1 z _ _ _ hf hP hD hS (lv_sub hl [2, 1, 0] rfl)
def lX0_negate_6 (p1 : Int32) (v2_1 : Int32) (j97 : OS → Option ((OS))) : Nat → Int32 → OS → Option ((OS))
  | 0, _, _ => none
  | n_6 + 1, v3_6, z1_6 => (if (z1_6.1 7) ≤ v3_6 then j97 z1_6 else gd (inB v3_6 60) (gd (inB v3_6 60) (nm (((z1_6.2 0 (v3_6).toNatClampNeg) ^^^ (z1_6.2 1 (v3_6).toNatClampNeg)) &&& v2_1) (fun (v4_2 : Int32) => gd (inB v3_6 60) (gd (inB v3_6 60) (nm (sA z1_6 0 (upd (z1_6.2 0) (v3_6).toNatClampNeg ((z1_6.2 0 (v3_6).toNatClampNeg) ^^^ v4_2))) (fun (z_3 : OS) => gd (inB v3_6 60) (gd (inB v3_6 60) (nm (sA z_3 1 (upd (z_3.2 1) (v3_6).toNatClampNeg ((z_3.2 1 (v3_6).toNatClampNeg) ^^^ v4_2))) (fun (z_4 : OS) => gd (inB v3_6 60) (jn (κ := OS → Option ((OS))) (fun (z1_91 : OS) => nm (v3_6 + (1 : Int32)) (fun (v3_5 : Int32) => lX0_negate_6 p1 v2_1 j97 n_6 v3_5 z1_91)) (fun j91 => (if ¬ (z_4.2 4 (v3_6).toNatClampNeg) = p1 then j91 z_4 else gd (inB v3_6 60) (nm (z_4.2 2 (v3_6).toNatClampNeg) (fun (v5_6 : Int32) => gd (inB v3_6 60) (gd (inB v3_6 60) (nm (sA z_4 2 (upd (z_4.2 2) (v3_6).toNatClampNeg (z_4.2 3 (v3_6).toNatClampNeg))) (fun (z_7 : OS) => gd (inB v3_6 60) (nm (sA z_7 3 (upd (z_7.2 3) (v3_6).toNatClampNeg v5_6)) (fun (z_8 : OS) => j91 z_8))))))))))))))))))))
def fX0_negate (fu : Nat) (z : OS) (p1 : Int32) : Option ((OS)) :=
  nm ((1 : Int32) <<< (p1 &&& (31 : Int32))) (fun (v2_1 : Int32) => jn (κ := OS → Option ((OS))) (fun (z1_97 : OS) => some z1_97) (fun j97 => lX0_negate_6 p1 v2_1 j97 fu (0 : Int32) z))
set_option maxRecDepth 100000 in
set_option maxHeartbeats 4000000 in
theorem mX0_negate (l : Launch) (D : va_G) (cI cB cZ cO : ClassId) (q : Nat → Nat) (sz : Nat) (fu : Nat) (z : OS) (p1 : Int32) {y1 : OS} (hf : fX0_negate fu z p1 = some y1) : Met l yX0_negate wsX0_negate ({ frames := 0, cells := 0, slots := 0, locals := 0 }) (va_Pc [.ref (q 0), .int p1] (Pw D (gT cI cB cZ cO) (wC cI q z) sz)) (Qw D (va_A (wC cI q z) sz) none (wC cI q y1)) 0 0 (va_A (wC cI q z) sz) := by
  unfold fX0_negate at hf
  refine metW (ret := none) (own := RX0) rfl (by decide) rfl (Nat.le_of_ble_eq_true rfl) (fun p e s m args below meth c ls A hx hb hr hml hown hlocks hts hK hA hP hD hS hl => ?_)
  have k34 := (hts (.fieldLink RX0 34 "ResolutionProver$Clauses" "count" "I") (List.mem_of_getElem? (i := 1) rfl))
  have k9 := (hts (.fieldLink RX0 9 "ResolutionProver$Clauses" "positive" "[I") (List.mem_of_getElem? (i := 2) rfl))
  have k15 := (hts (.fieldLink RX0 15 "ResolutionProver$Clauses" "negative" "[I") (List.mem_of_getElem? (i := 3) rfl))
  have k24 := (hts (.fieldLink RX0 24 "ResolutionProver$Clauses" "pivot" "[I") (List.mem_of_getElem? (i := 4) rfl))
  have k18 := (hts (.fieldLink RX0 18 "ResolutionProver$Clauses" "parentWith" "[I") (List.mem_of_getElem? (i := 5) rfl))
  have k21 := (hts (.fieldLink RX0 21 "ResolutionProver$Clauses" "parentWithout" "[I") (List.mem_of_getElem? (i := 6) rfl))
  have hiX0 : ∀ w ∈ wsX00, w ∈ wsX0_negate := (memIn_p [7, 8, 9, 10, 11, 12, 13, 14] rfl)
  have hl : lv_has ls 6 [(0, .ref (q 0)), (1, .int p1)] := hl
  refine lv_iconst (v := 1) hx hb dX0_negate_0 (by decide) ?_
  refine lv_iload_n hx hb dX0_negate_1 rfl (lv_at hl 1 rfl) ?_
  refine lv_ishl hx hb dX0_negate_2 ?_
  obtain ⟨v2_1, ev2_1, hf⟩ := nm_ob hf
  refine lv_nmi ev2_1 ?_
  refine lv_istore_n (lv' := [(2, .int v2_1), (0, .ref (q 0)), (1, .int p1)]) hx hb dX0_negate_3 rfl hl (by decide) rfl (fun ls hl => ?_)
  refine lv_iconst (v := 0) hx hb dX0_negate_4 (by decide) ?_
  refine lv_istore_n (lv' := [(3, .int (0 : Int32)), (2, .int v2_1), (0, .ref (q 0)), (1, .int p1)]) hx hb dX0_negate_5 rfl hl (by decide) rfl (fun ls hl => ?_)
  obtain ⟨j97, ej97, hf⟩ := jn_ob hf
  have hp97 : ∀ (z1_97 : OS) (H : Heap) (locs : List Loc) (ls : Array Slot), j97 z1_97 = some y1 → va_P D vwCl (wC cI q z1_97) H → va_D A (wC cI q z1_97) → va_S A s.heap H locs → lv_has ls 6 [] → W p l e (headSpec wsX0_negate { frames := 0, cells := 0, slots := 0, locals := 0 }).room s m args below meth c H locs 0 0 (MQ below (Qw D A none (wC cI q y1)) args s 0 0 A) (F0 m 97 ls []) := by
    intro z1_97 H locs ls hf hP hD hS hl
    rw [ej97] at hf
    exact rW_v hx hb hr hlocks hP hD hS (congrArg (fun (q9 : (OS)) => wC cI q q9) (so_ob hf)) dX0_negate_97
  have hL6 : ∀ (n_6 : Nat) (v3_6 : Int32) (z1_6 : OS) (H : Heap) (locs : List Loc) (ls : Array Slot), lX0_negate_6 p1 v2_1 j97 n_6 v3_6 z1_6 = some y1 → va_P D vwCl (wC cI q z1_6) H → va_D A (wC cI q z1_6) → va_S A s.heap H locs → lv_has ls 6 [(0, .ref (q 0)), (1, .int p1), (2, .int v2_1), (3, .int v3_6)] → W p l e (headSpec wsX0_negate { frames := 0, cells := 0, slots := 0, locals := 0 }).room s m args below meth c H locs 0 0 (MQ below (Qw D A none (wC cI q y1)) args s 0 0 A) (F0 m 6 ls []) := by
    intro n_6
    induction n_6 with
    | zero =>
      intro v3_6 z1_6 H locs ls hf
      exact no_ob hf
    | succ n_6 ih6 =>
      intro v3_6 z1_6 H locs ls hf hP hD hS hl
      rw [lX0_negate_6] at hf
      refine lv_iload_n hx hb dX0_negate_6 rfl (lv_at hl 3 rfl) ?_
      refine lv_aload_n hx hb dX0_negate_7 rfl (lv_at hl 0 rfl) ?_
      refine va_get (D := D) (ci := 0) (v := .int (z1_6.1 7)) (C := RX0) (T := TX0) (N := 8) hx hb hts hiX0 hown hK hP 0 rfl rfl 7 (by decide) k34 (fun _ h9 => h9) rfl dX0_negate_8 ?_
      refine lv_icmp_ge (tgt := 97) hx hb dX0_negate_11 (by decide) (fun c_11 => ?_) (fun c_11 => ?_)
      · have hf := ip c_11 hf
        exact hp97 z1_6 _ _ _ hf hP hD hS (lv_sub hl [] rfl)
      · have hf := iq c_11 hf
        refine lv_aload_n hx hb dX0_negate_14 rfl (lv_at hl 0 rfl) ?_
        refine va_get (D := D) (ci := 0) (v := .ref (q 1)) (C := RX0) (T := TX0) (N := 8) hx hb hts hiX0 hown hK hP 0 rfl rfl 0 (by decide) k9 (fun _ h9 => h9) rfl dX0_negate_15 ?_
        refine lv_iload_n hx hb dX0_negate_18 rfl (lv_at hl 3 rfl) ?_
        obtain ⟨hi_, hf⟩ := gd_ob hf
        refine va_iald hx hb hK hP 1 0 rfl rfl (inB_in hi_) dX0_negate_19 ?_
        refine lv_aload_n hx hb dX0_negate_20 rfl (lv_at hl 0 rfl) ?_
        refine va_get (D := D) (ci := 0) (v := .ref (q 2)) (C := RX0) (T := TX0) (N := 8) hx hb hts hiX0 hown hK hP 0 rfl rfl 1 (by decide) k15 (fun _ h9 => h9) rfl dX0_negate_21 ?_
        refine lv_iload_n hx hb dX0_negate_24 rfl (lv_at hl 3 rfl) ?_
        obtain ⟨hi_, hf⟩ := gd_ob hf
        refine va_iald hx hb hK hP 2 0 rfl rfl (inB_in hi_) dX0_negate_25 ?_
        refine lv_ixor hx hb dX0_negate_26 ?_
        refine lv_iload_n hx hb dX0_negate_27 rfl (lv_at hl 2 rfl) ?_
        refine lv_iand hx hb dX0_negate_28 ?_
        obtain ⟨v4_2, ev4_2, hf⟩ := nm_ob hf
        refine lv_nmi ev4_2 ?_
        refine lv_istore (lv' := [(4, .int v4_2), (0, .ref (q 0)), (1, .int p1), (2, .int v2_1), (3, .int v3_6)]) hx hb dX0_negate_29 hl (by decide) rfl (fun ls hl => ?_)
        refine lv_aload_n hx hb dX0_negate_31 rfl (lv_at hl 1 rfl) ?_
        refine va_get (D := D) (ci := 0) (v := .ref (q 1)) (C := RX0) (T := TX0) (N := 8) hx hb hts hiX0 hown hK hP 0 rfl rfl 0 (by decide) k9 (fun _ h9 => h9) rfl dX0_negate_32 ?_
        refine lv_iload_n hx hb dX0_negate_35 rfl (lv_at hl 4 rfl) ?_
        refine lv_dup2_11 hx hb dX0_negate_36 rfl rfl ?_
        obtain ⟨hi_, hf⟩ := gd_ob hf
        refine va_iald hx hb hK hP 1 0 rfl rfl (inB_in hi_) dX0_negate_37 ?_
        refine lv_iload hx hb dX0_negate_38 (lv_at hl 0 rfl) ?_
        refine lv_ixor hx hb dX0_negate_40 ?_
        obtain ⟨hi_, hf⟩ := gd_ob hf
        refine va_iast hx hb hK hP hD hS 1 0 rfl rfl (inB_in hi_) dX0_negate_41 (fun H locs hP hD hS => ?_)
        obtain ⟨z_3, ez_3, hf⟩ := nm_ob hf
        have hP : va_P D vwCl (wC cI q z_3) H := by rw [ez_3]; exact hP
        have hD : va_D A (wC cI q z_3) := by rw [ez_3]; exact hD
        refine lv_aload_n hx hb dX0_negate_42 rfl (lv_at hl 1 rfl) ?_
        refine va_get (D := D) (ci := 0) (v := .ref (q 2)) (C := RX0) (T := TX0) (N := 8) hx hb hts hiX0 hown hK hP 0 rfl rfl 1 (by decide) k15 (fun _ h9 => h9) rfl dX0_negate_43 ?_
        refine lv_iload_n hx hb dX0_negate_46 rfl (lv_at hl 4 rfl) ?_
        refine lv_dup2_11 hx hb dX0_negate_47 rfl rfl ?_
        obtain ⟨hi_, hf⟩ := gd_ob hf
        refine va_iald hx hb hK hP 2 0 rfl rfl (inB_in hi_) dX0_negate_48 ?_
        refine lv_iload hx hb dX0_negate_49 (lv_at hl 0 rfl) ?_
        refine lv_ixor hx hb dX0_negate_51 ?_
        obtain ⟨hi_, hf⟩ := gd_ob hf
        refine va_iast hx hb hK hP hD hS 2 0 rfl rfl (inB_in hi_) dX0_negate_52 (fun H locs hP hD hS => ?_)
        obtain ⟨z_4, ez_4, hf⟩ := nm_ob hf
        have hP : va_P D vwCl (wC cI q z_4) H := by rw [ez_4]; exact hP
        have hD : va_D A (wC cI q z_4) := by rw [ez_4]; exact hD
        refine lv_aload_n hx hb dX0_negate_53 rfl (lv_at hl 1 rfl) ?_
        refine va_get (D := D) (ci := 0) (v := .ref (q 5)) (C := RX0) (T := TX0) (N := 8) hx hb hts hiX0 hown hK hP 0 rfl rfl 4 (by decide) k24 (fun _ h9 => h9) rfl dX0_negate_54 ?_
        refine lv_iload_n hx hb dX0_negate_57 rfl (lv_at hl 4 rfl) ?_
        obtain ⟨hi_, hf⟩ := gd_ob hf
        refine va_iald hx hb hK hP 5 0 rfl rfl (inB_in hi_) dX0_negate_58 ?_
        refine lv_iload_n hx hb dX0_negate_59 rfl (lv_at hl 2 rfl) ?_
        obtain ⟨j91, ej91, hf⟩ := jn_ob hf
        have hp91 : ∀ (z1_91 : OS) (H : Heap) (locs : List Loc) (ls : Array Slot), j91 z1_91 = some y1 → va_P D vwCl (wC cI q z1_91) H → va_D A (wC cI q z1_91) → va_S A s.heap H locs → lv_has ls 6 [(0, .ref (q 0)), (1, .int p1), (2, .int v2_1), (3, .int v3_6)] → W p l e (headSpec wsX0_negate { frames := 0, cells := 0, slots := 0, locals := 0 }).room s m args below meth c H locs 0 0 (MQ below (Qw D A none (wC cI q y1)) args s 0 0 A) (F0 m 91 ls []) := by
          intro z1_91 H locs ls hf hP hD hS hl
          rw [ej91] at hf
          obtain ⟨v3_5, ev3_5, hf⟩ := nm_ob hf
          refine lv_iinc (v := v3_5) (lv' := [(3, .int v3_5), (0, .ref (q 0)), (1, .int p1), (2, .int v2_1)]) hx hb dX0_negate_91 hl (k := 3) rfl (by rw [ev3_5]; rfl) (by decide) rfl (fun ls hl => ?_)
          refine lv_goto (tgt := 6) hx hb dX0_negate_94 (by decide) ?_
          exact ih6 v3_5 z1_91 _ _ _ hf hP hD hS (lv_sub hl [1, 2, 3, 0] rfl)
        refine lv_icmp_ne (tgt := 91) hx hb dX0_negate_60 (by decide) (fun c_60 => ?_) (fun c_60 => ?_)
        · have hf := ip c_60 hf
          exact hp91 z_4 _ _ _ hf hP hD hS (lv_sub hl [1, 2, 3, 4] rfl)
        · have hf := iqn c_60 hf
          refine lv_aload_n hx hb dX0_negate_63 rfl (lv_at hl 1 rfl) ?_
          refine va_get (D := D) (ci := 0) (v := .ref (q 3)) (C := RX0) (T := TX0) (N := 8) hx hb hts hiX0 hown hK hP 0 rfl rfl 2 (by decide) k18 (fun _ h9 => h9) rfl dX0_negate_64 ?_
          refine lv_iload_n hx hb dX0_negate_67 rfl (lv_at hl 4 rfl) ?_
          obtain ⟨hi_, hf⟩ := gd_ob hf
          refine va_iald hx hb hK hP 3 0 rfl rfl (inB_in hi_) dX0_negate_68 ?_
          obtain ⟨v5_6, ev5_6, hf⟩ := nm_ob hf
          refine lv_nmi ev5_6 ?_
          refine lv_istore (lv' := [(5, .int v5_6), (4, .int v4_2), (0, .ref (q 0)), (1, .int p1), (2, .int v2_1), (3, .int v3_6)]) hx hb dX0_negate_69 hl (by decide) rfl (fun ls hl => ?_)
          refine lv_aload_n hx hb dX0_negate_71 rfl (lv_at hl 2 rfl) ?_
          refine va_get (D := D) (ci := 0) (v := .ref (q 3)) (C := RX0) (T := TX0) (N := 8) hx hb hts hiX0 hown hK hP 0 rfl rfl 2 (by decide) k18 (fun _ h9 => h9) rfl dX0_negate_72 ?_
          refine lv_iload_n hx hb dX0_negate_75 rfl (lv_at hl 5 rfl) ?_
          refine lv_aload_n hx hb dX0_negate_76 rfl (lv_at hl 2 rfl) ?_
          refine va_get (D := D) (ci := 0) (v := .ref (q 4)) (C := RX0) (T := TX0) (N := 8) hx hb hts hiX0 hown hK hP 0 rfl rfl 3 (by decide) k21 (fun _ h9 => h9) rfl dX0_negate_77 ?_
          refine lv_iload_n hx hb dX0_negate_80 rfl (lv_at hl 5 rfl) ?_
          obtain ⟨hi_, hf⟩ := gd_ob hf
          refine va_iald hx hb hK hP 4 0 rfl rfl (inB_in hi_) dX0_negate_81 ?_
          obtain ⟨hi_, hf⟩ := gd_ob hf
          refine va_iast hx hb hK hP hD hS 3 0 rfl rfl (inB_in hi_) dX0_negate_82 (fun H locs hP hD hS => ?_)
          obtain ⟨z_7, ez_7, hf⟩ := nm_ob hf
          have hP : va_P D vwCl (wC cI q z_7) H := by rw [ez_7]; exact hP
          have hD : va_D A (wC cI q z_7) := by rw [ez_7]; exact hD
          refine lv_aload_n hx hb dX0_negate_83 rfl (lv_at hl 2 rfl) ?_
          refine va_get (D := D) (ci := 0) (v := .ref (q 4)) (C := RX0) (T := TX0) (N := 8) hx hb hts hiX0 hown hK hP 0 rfl rfl 3 (by decide) k21 (fun _ h9 => h9) rfl dX0_negate_84 ?_
          refine lv_iload_n hx hb dX0_negate_87 rfl (lv_at hl 5 rfl) ?_
          refine lv_iload hx hb dX0_negate_88 (lv_at hl 0 rfl) ?_
          obtain ⟨hi_, hf⟩ := gd_ob hf
          refine va_iast hx hb hK hP hD hS 4 0 rfl rfl (inB_in hi_) dX0_negate_90 (fun H locs hP hD hS => ?_)
          obtain ⟨z_8, ez_8, hf⟩ := nm_ob hf
          have hP : va_P D vwCl (wC cI q z_8) H := by rw [ez_8]; exact hP
          have hD : va_D A (wC cI q z_8) := by rw [ez_8]; exact hD
          exact hp91 z_8 _ _ _ hf hP hD hS (lv_sub hl [2, 3, 4, 5] rfl)
  exact hL6 fu (0 : Int32) z _ _ _ hf hP hD hS (lv_sub hl [2, 3, 1, 0] rfl)
