def fX9_sizeOf (fu : Nat) (z : OS) (p1 : Int32) : Option (Int32 × (OS)) :=
  nm (sI z 0 (0 : Int32)) (fun (z_1 : OS) => bd (fX9_noClause fu z_1 p1) (fun (w_4 : Int32 × OS) => nm w_4.1 (fun (r_2 : Int32) => nm w_4.2 (fun (z_3 : OS) => (if r_2 = (0 : Int32) then bd (fX9_literals fu z_3 p1) (fun (r_6 : Int32) => some (r_6, z_3)) else some ((0 : Int32), z_3))))))
set_option maxRecDepth 100000 in
set_option maxHeartbeats 4000000 in
theorem mX9_sizeOf (l : Launch) (D : va_G) (cI cB cZ cO : ClassId) (q : Nat → Nat) (sz : Nat) (fu : Nat) (z : OS) (p1 : Int32) {r : Int32} {y1 : OS} (hf : fX9_sizeOf fu z p1 = some (r, y1)) : Met l yX9_sizeOf wsX9_sizeOf ({ frames := 2, cells := 0, slots := 0, locals := 46 }) (va_Pc [.ref (q 0), .int p1] (Pw D (gT cI cB cZ cO) (wM cI cB cZ q z) sz)) (Qw D (va_A (wM cI cB cZ q z) sz) (some (.int r)) (wM cI cB cZ q y1)) 0 0 (va_A (wM cI cB cZ q z) sz) := by
  unfold fX9_sizeOf at hf
  refine metW (ret := (some .int)) (own := RX9) rfl (by decide) rfl (Nat.le_of_ble_eq_true rfl) (fun p e s m args below meth c ls A hx hb hr hml hown hlocks hts hK hA hP hD hS hl => ?_)
  have k46 := (hts (.fieldLink RX9 46 "ResolutionProverModel" "thrown" "I") (List.mem_of_getElem? (i := 1) rfl))
  have hiX9 : ∀ w ∈ wsX90, w ∈ wsX9_sizeOf := (memIn_p [31, 32, 33, 34, 35, 36, 37, 38, 39, 40, 41, 42, 43, 44, 45, 46, 47, 48, 49, 50, 51, 52, 53, 54, 55, 56, 57] rfl)
  have hl : lv_has ls 2 [(0, .ref (q 0)), (1, .int p1)] := hl
  refine lv_aload_n hx hb dX9_sizeOf_0 rfl (lv_at hl 0 rfl) ?_
  refine lv_iconst (v := 0) hx hb dX9_sizeOf_1 (by decide) ?_
  refine va_put (D := D) (ci := 8) (v := .int (0 : Int32)) (ty := .int) (C := RX9) (T := TX9) (N := 27) hx hb hts hiX9 tyX9 tyX9_ok nmX9 hown hK hP hD hS 0 rfl rfl 0 (by decide) k46 (fun _ h9 => h9) rfl (by decide +kernel) rfl rfl (Nat.le_of_ble_eq_true rfl) dX9_sizeOf_2 (fun H locs hP hD hS => ?_)
  obtain ⟨z_1, ez_1, hf⟩ := nm_ob hf
  have hP : va_P D vwCl (wM cI cB cZ q z_1) H := by rw [ez_1]; exact hP
  have hD : va_D A (wM cI cB cZ q z_1) := by rw [ez_1]; exact hD
  refine lv_aload_n hx hb dX9_sizeOf_5 rfl (lv_at hl 0 rfl) ?_
  refine lv_iload_n hx hb dX9_sizeOf_6 rfl (lv_at hl 1 rfl) ?_
  obtain ⟨⟨r_2, z_3⟩, hc_5, hf⟩ := bd_ob hf
  have hf := nm_st hf
  have hf := nm_st hf
  refine weV (As := [.int p1]) (rest := []) ⟨hx, hb, hml, hown, hts⟩ (mX9_noClause l D cI cB cZ cO q _ fu z_1 p1 hc_5) (cwV 1 hts gX9_sizeOf_X9_noClause rfl rfl rfl (by decide +kernel) ⟨Nat.le_of_ble_eq_true rfl, Nat.le_of_ble_eq_true rfl⟩) hK hP hD hS hA (va_recv hK hP (ci := 8) (q0 := 0) rfl rfl) rfl hl.1 rfl (Nat.le_of_ble_eq_true rfl) dX9_sizeOf_7 ⟨Nat.zero_le _, Nat.zero_le _⟩ (fun H locs hP hD hS => ?_)
  refine lv_if_eq (tgt := 17) hx hb dX9_sizeOf_10 (by decide) (fun c_10 => ?_) (fun c_10 => ?_)
  · have hf := ip c_10 hf
    refine lv_aload_n hx hb dX9_sizeOf_17 rfl (lv_at hl 0 rfl) ?_
    refine lv_iload_n hx hb dX9_sizeOf_18 rfl (lv_at hl 1 rfl) ?_
    obtain ⟨r_6, hc_7, hf⟩ := bd_ob hf
    refine rdV (As := [.int p1]) (rest := []) ⟨hx, hb, hml, hown, hts⟩ (mX9_literals l D cI cB cZ cO q fu z_3 p1 hc_7) (cwV 1 hts gX9_sizeOf_X9_literals rfl rfl rfl (by decide +kernel) ⟨Nat.le_of_ble_eq_true rfl, Nat.le_of_ble_eq_true rfl⟩) hK hP (va_recv hK hP (ci := 8) (q0 := 0) rfl rfl) rfl hl.1 rfl (Nat.le_of_ble_eq_true rfl) dX9_sizeOf_19 ⟨Nat.zero_le _, Nat.zero_le _⟩ ?_
    exact rW_i hx hb hr hlocks hP hD hS (congrArg (fun q9 => q9.1) (so_ob hf)) (congrArg (fun (q9 : Int32 × (OS)) => wM cI cB cZ q q9.2) (so_ob hf)) dX9_sizeOf_22
  · have hf := iq c_10 hf
    refine lv_iconst (v := 0) hx hb dX9_sizeOf_13 (by decide) ?_
    refine lv_goto (tgt := 22) hx hb dX9_sizeOf_14 (by decide) ?_
    exact rW_i hx hb hr hlocks hP hD hS (congrArg (fun q9 => q9.1) (so_ob hf)) (congrArg (fun (q9 : Int32 × (OS)) => wM cI cB cZ q q9.2) (so_ob hf)) dX9_sizeOf_22

def fX9_find (fu : Nat) (z : OS) (p1 : Int32) (p2 : Int32) : Option (Int32 × (OS)) :=
  nm (sI z 0 (0 : Int32)) (fun (z_1 : OS) => bd (fX9_noMasks fu z_1 p1 p2) (fun (w_4 : Int32 × OS) => nm w_4.1 (fun (r_2 : Int32) => nm w_4.2 (fun (z_3 : OS) => (if r_2 = (0 : Int32) then bd (fX9_same fu z_3) (fun (r_6 : Int32) => some (r_6, z_3)) else some ((0 : Int32), z_3))))))
set_option maxRecDepth 100000 in
set_option maxHeartbeats 4000000 in
theorem mX9_find (l : Launch) (D : va_G) (cI cB cZ cO : ClassId) (q : Nat → Nat) (sz : Nat) (fu : Nat) (z : OS) (p1 : Int32) (p2 : Int32) {r : Int32} {y1 : OS} (hf : fX9_find fu z p1 p2 = some (r, y1)) : Met l yX9_find wsX9_find ({ frames := 4, cells := 0, slots := 0, locals := 83 }) (va_Pc [.ref (q 0), .int p1, .int p2] (Pw D (gT cI cB cZ cO) (wM cI cB cZ q z) sz)) (Qw D (va_A (wM cI cB cZ q z) sz) (some (.int r)) (wM cI cB cZ q y1)) 0 0 (va_A (wM cI cB cZ q z) sz) := by
  unfold fX9_find at hf
  refine metW (ret := (some .int)) (own := RX9) rfl (by decide) rfl (Nat.le_of_ble_eq_true rfl) (fun p e s m args below meth c ls A hx hb hr hml hown hlocks hts hK hA hP hD hS hl => ?_)
  have k46 := (hts (.fieldLink RX9 46 "ResolutionProverModel" "thrown" "I") (List.mem_of_getElem? (i := 1) rfl))
  have hiX9 : ∀ w ∈ wsX90, w ∈ wsX9_find := (memIn_p [51, 52, 53, 54, 55, 56, 57, 58, 59, 60, 61, 62, 63, 64, 65, 66, 67, 68, 69, 70, 71, 72, 73, 74, 75, 76, 77] rfl)
  have hl : lv_has ls 3 [(0, .ref (q 0)), (1, .int p1), (2, .int p2)] := hl
  refine lv_aload_n hx hb dX9_find_0 rfl (lv_at hl 0 rfl) ?_
  refine lv_iconst (v := 0) hx hb dX9_find_1 (by decide) ?_
  refine va_put (D := D) (ci := 8) (v := .int (0 : Int32)) (ty := .int) (C := RX9) (T := TX9) (N := 27) hx hb hts hiX9 tyX9 tyX9_ok nmX9 hown hK hP hD hS 0 rfl rfl 0 (by decide) k46 (fun _ h9 => h9) rfl (by decide +kernel) rfl rfl (Nat.le_of_ble_eq_true rfl) dX9_find_2 (fun H locs hP hD hS => ?_)
  obtain ⟨z_1, ez_1, hf⟩ := nm_ob hf
  have hP : va_P D vwCl (wM cI cB cZ q z_1) H := by rw [ez_1]; exact hP
  have hD : va_D A (wM cI cB cZ q z_1) := by rw [ez_1]; exact hD
  refine lv_aload_n hx hb dX9_find_5 rfl (lv_at hl 0 rfl) ?_
  refine lv_iload_n hx hb dX9_find_6 rfl (lv_at hl 1 rfl) ?_
  refine lv_iload_n hx hb dX9_find_7 rfl (lv_at hl 2 rfl) ?_
  obtain ⟨⟨r_2, z_3⟩, hc_5, hf⟩ := bd_ob hf
  have hf := nm_st hf
  have hf := nm_st hf
  refine weV (As := [.int p1, .int p2]) (rest := []) ⟨hx, hb, hml, hown, hts⟩ (mX9_noMasks l D cI cB cZ cO q _ fu z_1 p1 p2 hc_5) (cwV 2 hts gX9_find_X9_noMasks rfl rfl rfl (by decide +kernel) ⟨Nat.le_of_ble_eq_true rfl, Nat.le_of_ble_eq_true rfl⟩) hK hP hD hS hA (va_recv hK hP (ci := 8) (q0 := 0) rfl rfl) rfl hl.1 rfl (Nat.le_of_ble_eq_true rfl) dX9_find_8 ⟨Nat.zero_le _, Nat.zero_le _⟩ (fun H locs hP hD hS => ?_)
  refine lv_if_eq (tgt := 18) hx hb dX9_find_11 (by decide) (fun c_11 => ?_) (fun c_11 => ?_)
  · have hf := ip c_11 hf
    refine lv_aload_n hx hb dX9_find_18 rfl (lv_at hl 0 rfl) ?_
    obtain ⟨r_6, hc_7, hf⟩ := bd_ob hf
    refine rdV (As := []) (rest := []) ⟨hx, hb, hml, hown, hts⟩ (mX9_same l D cI cB cZ cO q fu z_3 hc_7) (cwV 0 hts gX9_find_X9_same rfl rfl rfl (by decide +kernel) ⟨Nat.le_of_ble_eq_true rfl, Nat.le_of_ble_eq_true rfl⟩) hK hP (va_recv hK hP (ci := 8) (q0 := 0) rfl rfl) rfl hl.1 rfl (Nat.le_of_ble_eq_true rfl) dX9_find_19 ⟨Nat.zero_le _, Nat.zero_le _⟩ ?_
    exact rW_i hx hb hr hlocks hP hD hS (congrArg (fun q9 => q9.1) (so_ob hf)) (congrArg (fun (q9 : Int32 × (OS)) => wM cI cB cZ q q9.2) (so_ob hf)) dX9_find_22
  · have hf := iq c_11 hf
    refine lv_iconst (v := 0) hx hb dX9_find_14 (by decide) ?_
    refine lv_goto (tgt := 22) hx hb dX9_find_15 (by decide) ?_
    exact rW_i hx hb hr hlocks hP hD hS (congrArg (fun q9 => q9.1) (so_ob hf)) (congrArg (fun (q9 : Int32 × (OS)) => wM cI cB cZ q q9.2) (so_ob hf)) dX9_find_22

def fX9_isGiven (fu : Nat) (z : OS) (p1 : Int32) : Option (Int32 × (OS)) :=
  nm (sI z 0 (0 : Int32)) (fun (z_1 : OS) => bd (fX9_noClause fu z_1 p1) (fun (w_4 : Int32 × OS) => nm w_4.1 (fun (r_2 : Int32) => nm w_4.2 (fun (z_3 : OS) => (if ¬ r_2 = (0 : Int32) then gd (isZ (0 : Int32)) (some ((0 : Int32), z_3)) else gd (inB ((856 : Int32) + p1) 917) ((if ¬ (z_3.2 1 (((856 : Int32) + p1)).toNatClampNeg) = (-1 : Int32) then gd (isZ (0 : Int32)) (some ((0 : Int32), z_3)) else gd (isZ (1 : Int32)) (some ((1 : Int32), z_3)))))))))
set_option maxRecDepth 100000 in
set_option maxHeartbeats 4000000 in
theorem mX9_isGiven (l : Launch) (D : va_G) (cI cB cZ cO : ClassId) (q : Nat → Nat) (sz : Nat) (fu : Nat) (z : OS) (p1 : Int32) {r : Int32} {y1 : OS} (hf : fX9_isGiven fu z p1 = some (r, y1)) : Met l yX9_isGiven wsX9_isGiven ({ frames := 2, cells := 0, slots := 0, locals := 46 }) (va_Pc [.ref (q 0), .int p1] (Pw D (gT cI cB cZ cO) (wM cI cB cZ q z) sz)) (Qw D (va_A (wM cI cB cZ q z) sz) (some (.int r)) (wM cI cB cZ q y1)) 0 0 (va_A (wM cI cB cZ q z) sz) := by
  unfold fX9_isGiven at hf
  refine metW (ret := (some .boolean)) (own := RX9) rfl (by decide) rfl (Nat.le_of_ble_eq_true rfl) (fun p e s m args below meth c ls A hx hb hr hml hown hlocks hts hK hA hP hD hS hl => ?_)
  have k46 := (hts (.fieldLink RX9 46 "ResolutionProverModel" "thrown" "I") (List.mem_of_getElem? (i := 1) rfl))
  have k9 := (hts (.fieldLink RX9 9 "ResolutionProverModel" "now" "[I") (List.mem_of_getElem? (i := 2) rfl))
  have hiX9 : ∀ w ∈ wsX90, w ∈ wsX9_isGiven := (memIn_p [19, 20, 21, 22, 23, 24, 25, 26, 27, 28, 29, 30, 31, 32, 33, 34, 35, 36, 37, 38, 39, 40, 41, 42, 43, 44, 45] rfl)
  have hl : lv_has ls 2 [(0, .ref (q 0)), (1, .int p1)] := hl
  refine lv_aload_n hx hb dX9_isGiven_0 rfl (lv_at hl 0 rfl) ?_
  refine lv_iconst (v := 0) hx hb dX9_isGiven_1 (by decide) ?_
  refine va_put (D := D) (ci := 8) (v := .int (0 : Int32)) (ty := .int) (C := RX9) (T := TX9) (N := 27) hx hb hts hiX9 tyX9 tyX9_ok nmX9 hown hK hP hD hS 0 rfl rfl 0 (by decide) k46 (fun _ h9 => h9) rfl (by decide +kernel) rfl rfl (Nat.le_of_ble_eq_true rfl) dX9_isGiven_2 (fun H locs hP hD hS => ?_)
  obtain ⟨z_1, ez_1, hf⟩ := nm_ob hf
  have hP : va_P D vwCl (wM cI cB cZ q z_1) H := by rw [ez_1]; exact hP
  have hD : va_D A (wM cI cB cZ q z_1) := by rw [ez_1]; exact hD
  refine lv_aload_n hx hb dX9_isGiven_5 rfl (lv_at hl 0 rfl) ?_
  refine lv_iload_n hx hb dX9_isGiven_6 rfl (lv_at hl 1 rfl) ?_
  obtain ⟨⟨r_2, z_3⟩, hc_5, hf⟩ := bd_ob hf
  have hf := nm_st hf
  have hf := nm_st hf
  refine weV (As := [.int p1]) (rest := []) ⟨hx, hb, hml, hown, hts⟩ (mX9_noClause l D cI cB cZ cO q _ fu z_1 p1 hc_5) (cwV 1 hts gX9_isGiven_X9_noClause rfl rfl rfl (by decide +kernel) ⟨Nat.le_of_ble_eq_true rfl, Nat.le_of_ble_eq_true rfl⟩) hK hP hD hS hA (va_recv hK hP (ci := 8) (q0 := 0) rfl rfl) rfl hl.1 rfl (Nat.le_of_ble_eq_true rfl) dX9_isGiven_7 ⟨Nat.zero_le _, Nat.zero_le _⟩ (fun H locs hP hD hS => ?_)
  refine lv_if_ne (tgt := 31) hx hb dX9_isGiven_10 (by decide) (fun c_10 => ?_) (fun c_10 => ?_)
  · have hf := ip c_10 hf
    refine lv_iconst (v := 0) hx hb dX9_isGiven_31 (by decide) ?_
    obtain ⟨hz, hf⟩ := gd_ob hf
    exact rW_z hx hb hr hlocks hP hD hS hz (congrArg (fun q9 => q9.1) (so_ob hf)) (congrArg (fun (q9 : Int32 × (OS)) => wM cI cB cZ q q9.2) (so_ob hf)) dX9_isGiven_32
  · have hf := iqn c_10 hf
    refine lv_aload_n hx hb dX9_isGiven_13 rfl (lv_at hl 0 rfl) ?_
    refine va_get (D := D) (ci := 8) (v := .ref (q 1)) (C := RX9) (T := TX9) (N := 27) hx hb hts hiX9 hown hK hP 0 rfl rfl 1 (by decide) k9 (fun _ h9 => h9) rfl dX9_isGiven_14 ?_
    refine lv_sipush (v := 856) hx hb dX9_isGiven_17 (by decide) ?_
    refine lv_iload_n hx hb dX9_isGiven_20 rfl (lv_at hl 1 rfl) ?_
    refine lv_iadd hx hb dX9_isGiven_21 ?_
    obtain ⟨hi_, hf⟩ := gd_ob hf
    refine va_iald hx hb hK hP 1 0 rfl rfl (inB_in hi_) dX9_isGiven_22 ?_
    refine lv_iconst (v := (-1)) hx hb dX9_isGiven_23 (by decide) ?_
    refine lv_icmp_ne (tgt := 31) hx hb dX9_isGiven_24 (by decide) (fun c_24 => ?_) (fun c_24 => ?_)
    · have hf := ip c_24 hf
      refine lv_iconst (v := 0) hx hb dX9_isGiven_31 (by decide) ?_
      obtain ⟨hz, hf⟩ := gd_ob hf
      exact rW_z hx hb hr hlocks hP hD hS hz (congrArg (fun q9 => q9.1) (so_ob hf)) (congrArg (fun (q9 : Int32 × (OS)) => wM cI cB cZ q q9.2) (so_ob hf)) dX9_isGiven_32
    · have hf := iqn c_24 hf
      refine lv_iconst (v := 1) hx hb dX9_isGiven_27 (by decide) ?_
      refine lv_goto (tgt := 32) hx hb dX9_isGiven_28 (by decide) ?_
      obtain ⟨hz, hf⟩ := gd_ob hf
      exact rW_z hx hb hr hlocks hP hD hS hz (congrArg (fun q9 => q9.1) (so_ob hf)) (congrArg (fun (q9 : Int32 × (OS)) => wM cI cB cZ q q9.2) (so_ob hf)) dX9_isGiven_32

def fX9_positiveParent (fu : Nat) (z : OS) (p1 : Int32) : Option (Int32 × (OS)) :=
  nm (sI z 0 (0 : Int32)) (fun (z_1 : OS) => bd (fX9_noClause fu z_1 p1) (fun (w_4 : Int32 × OS) => nm w_4.1 (fun (r_2 : Int32) => nm w_4.2 (fun (z_3 : OS) => (if r_2 = (0 : Int32) then gd (inB ((734 : Int32) + p1) 917) (some ((z_3.2 1 (((734 : Int32) + p1)).toNatClampNeg), z_3)) else some ((0 : Int32), z_3))))))
set_option maxRecDepth 100000 in
set_option maxHeartbeats 4000000 in
theorem mX9_positiveParent (l : Launch) (D : va_G) (cI cB cZ cO : ClassId) (q : Nat → Nat) (sz : Nat) (fu : Nat) (z : OS) (p1 : Int32) {r : Int32} {y1 : OS} (hf : fX9_positiveParent fu z p1 = some (r, y1)) : Met l yX9_positiveParent wsX9_positiveParent ({ frames := 2, cells := 0, slots := 0, locals := 46 }) (va_Pc [.ref (q 0), .int p1] (Pw D (gT cI cB cZ cO) (wM cI cB cZ q z) sz)) (Qw D (va_A (wM cI cB cZ q z) sz) (some (.int r)) (wM cI cB cZ q y1)) 0 0 (va_A (wM cI cB cZ q z) sz) := by
  unfold fX9_positiveParent at hf
  refine metW (ret := (some .int)) (own := RX9) rfl (by decide) rfl (Nat.le_of_ble_eq_true rfl) (fun p e s m args below meth c ls A hx hb hr hml hown hlocks hts hK hA hP hD hS hl => ?_)
  have k46 := (hts (.fieldLink RX9 46 "ResolutionProverModel" "thrown" "I") (List.mem_of_getElem? (i := 1) rfl))
  have k9 := (hts (.fieldLink RX9 9 "ResolutionProverModel" "now" "[I") (List.mem_of_getElem? (i := 2) rfl))
  have hiX9 : ∀ w ∈ wsX90, w ∈ wsX9_positiveParent := (memIn_p [19, 20, 21, 22, 23, 24, 25, 26, 27, 28, 29, 30, 31, 32, 33, 34, 35, 36, 37, 38, 39, 40, 41, 42, 43, 44, 45] rfl)
  have hl : lv_has ls 2 [(0, .ref (q 0)), (1, .int p1)] := hl
  refine lv_aload_n hx hb dX9_positiveParent_0 rfl (lv_at hl 0 rfl) ?_
  refine lv_iconst (v := 0) hx hb dX9_positiveParent_1 (by decide) ?_
  refine va_put (D := D) (ci := 8) (v := .int (0 : Int32)) (ty := .int) (C := RX9) (T := TX9) (N := 27) hx hb hts hiX9 tyX9 tyX9_ok nmX9 hown hK hP hD hS 0 rfl rfl 0 (by decide) k46 (fun _ h9 => h9) rfl (by decide +kernel) rfl rfl (Nat.le_of_ble_eq_true rfl) dX9_positiveParent_2 (fun H locs hP hD hS => ?_)
  obtain ⟨z_1, ez_1, hf⟩ := nm_ob hf
  have hP : va_P D vwCl (wM cI cB cZ q z_1) H := by rw [ez_1]; exact hP
  have hD : va_D A (wM cI cB cZ q z_1) := by rw [ez_1]; exact hD
  refine lv_aload_n hx hb dX9_positiveParent_5 rfl (lv_at hl 0 rfl) ?_
  refine lv_iload_n hx hb dX9_positiveParent_6 rfl (lv_at hl 1 rfl) ?_
  obtain ⟨⟨r_2, z_3⟩, hc_5, hf⟩ := bd_ob hf
  have hf := nm_st hf
  have hf := nm_st hf
  refine weV (As := [.int p1]) (rest := []) ⟨hx, hb, hml, hown, hts⟩ (mX9_noClause l D cI cB cZ cO q _ fu z_1 p1 hc_5) (cwV 1 hts gX9_positiveParent_X9_noClause rfl rfl rfl (by decide +kernel) ⟨Nat.le_of_ble_eq_true rfl, Nat.le_of_ble_eq_true rfl⟩) hK hP hD hS hA (va_recv hK hP (ci := 8) (q0 := 0) rfl rfl) rfl hl.1 rfl (Nat.le_of_ble_eq_true rfl) dX9_positiveParent_7 ⟨Nat.zero_le _, Nat.zero_le _⟩ (fun H locs hP hD hS => ?_)
  refine lv_if_eq (tgt := 17) hx hb dX9_positiveParent_10 (by decide) (fun c_10 => ?_) (fun c_10 => ?_)
  · have hf := ip c_10 hf
    refine lv_aload_n hx hb dX9_positiveParent_17 rfl (lv_at hl 0 rfl) ?_
    refine va_get (D := D) (ci := 8) (v := .ref (q 1)) (C := RX9) (T := TX9) (N := 27) hx hb hts hiX9 hown hK hP 0 rfl rfl 1 (by decide) k9 (fun _ h9 => h9) rfl dX9_positiveParent_18 ?_
    refine lv_sipush (v := 734) hx hb dX9_positiveParent_21 (by decide) ?_
    refine lv_iload_n hx hb dX9_positiveParent_24 rfl (lv_at hl 1 rfl) ?_
    refine lv_iadd hx hb dX9_positiveParent_25 ?_
    obtain ⟨hi_, hf⟩ := gd_ob hf
    refine va_iald hx hb hK hP 1 0 rfl rfl (inB_in hi_) dX9_positiveParent_26 ?_
    exact rW_i hx hb hr hlocks hP hD hS (congrArg (fun q9 => q9.1) (so_ob hf)) (congrArg (fun (q9 : Int32 × (OS)) => wM cI cB cZ q q9.2) (so_ob hf)) dX9_positiveParent_27
  · have hf := iq c_10 hf
    refine lv_iconst (v := 0) hx hb dX9_positiveParent_13 (by decide) ?_
    refine lv_goto (tgt := 27) hx hb dX9_positiveParent_14 (by decide) ?_
    exact rW_i hx hb hr hlocks hP hD hS (congrArg (fun q9 => q9.1) (so_ob hf)) (congrArg (fun (q9 : Int32 × (OS)) => wM cI cB cZ q q9.2) (so_ob hf)) dX9_positiveParent_27

def fX9_negativeParent (fu : Nat) (z : OS) (p1 : Int32) : Option (Int32 × (OS)) :=
  nm (sI z 0 (0 : Int32)) (fun (z_1 : OS) => bd (fX9_noClause fu z_1 p1) (fun (w_4 : Int32 × OS) => nm w_4.1 (fun (r_2 : Int32) => nm w_4.2 (fun (z_3 : OS) => (if r_2 = (0 : Int32) then gd (inB ((795 : Int32) + p1) 917) (some ((z_3.2 1 (((795 : Int32) + p1)).toNatClampNeg), z_3)) else some ((0 : Int32), z_3))))))
set_option maxRecDepth 100000 in
set_option maxHeartbeats 4000000 in
theorem mX9_negativeParent (l : Launch) (D : va_G) (cI cB cZ cO : ClassId) (q : Nat → Nat) (sz : Nat) (fu : Nat) (z : OS) (p1 : Int32) {r : Int32} {y1 : OS} (hf : fX9_negativeParent fu z p1 = some (r, y1)) : Met l yX9_negativeParent wsX9_negativeParent ({ frames := 2, cells := 0, slots := 0, locals := 46 }) (va_Pc [.ref (q 0), .int p1] (Pw D (gT cI cB cZ cO) (wM cI cB cZ q z) sz)) (Qw D (va_A (wM cI cB cZ q z) sz) (some (.int r)) (wM cI cB cZ q y1)) 0 0 (va_A (wM cI cB cZ q z) sz) := by
  unfold fX9_negativeParent at hf
  refine metW (ret := (some .int)) (own := RX9) rfl (by decide) rfl (Nat.le_of_ble_eq_true rfl) (fun p e s m args below meth c ls A hx hb hr hml hown hlocks hts hK hA hP hD hS hl => ?_)
  have k46 := (hts (.fieldLink RX9 46 "ResolutionProverModel" "thrown" "I") (List.mem_of_getElem? (i := 1) rfl))
  have k9 := (hts (.fieldLink RX9 9 "ResolutionProverModel" "now" "[I") (List.mem_of_getElem? (i := 2) rfl))
  have hiX9 : ∀ w ∈ wsX90, w ∈ wsX9_negativeParent := (memIn_p [19, 20, 21, 22, 23, 24, 25, 26, 27, 28, 29, 30, 31, 32, 33, 34, 35, 36, 37, 38, 39, 40, 41, 42, 43, 44, 45] rfl)
  have hl : lv_has ls 2 [(0, .ref (q 0)), (1, .int p1)] := hl
  refine lv_aload_n hx hb dX9_negativeParent_0 rfl (lv_at hl 0 rfl) ?_
  refine lv_iconst (v := 0) hx hb dX9_negativeParent_1 (by decide) ?_
  refine va_put (D := D) (ci := 8) (v := .int (0 : Int32)) (ty := .int) (C := RX9) (T := TX9) (N := 27) hx hb hts hiX9 tyX9 tyX9_ok nmX9 hown hK hP hD hS 0 rfl rfl 0 (by decide) k46 (fun _ h9 => h9) rfl (by decide +kernel) rfl rfl (Nat.le_of_ble_eq_true rfl) dX9_negativeParent_2 (fun H locs hP hD hS => ?_)
  obtain ⟨z_1, ez_1, hf⟩ := nm_ob hf
  have hP : va_P D vwCl (wM cI cB cZ q z_1) H := by rw [ez_1]; exact hP
  have hD : va_D A (wM cI cB cZ q z_1) := by rw [ez_1]; exact hD
  refine lv_aload_n hx hb dX9_negativeParent_5 rfl (lv_at hl 0 rfl) ?_
  refine lv_iload_n hx hb dX9_negativeParent_6 rfl (lv_at hl 1 rfl) ?_
  obtain ⟨⟨r_2, z_3⟩, hc_5, hf⟩ := bd_ob hf
  have hf := nm_st hf
  have hf := nm_st hf
  refine weV (As := [.int p1]) (rest := []) ⟨hx, hb, hml, hown, hts⟩ (mX9_noClause l D cI cB cZ cO q _ fu z_1 p1 hc_5) (cwV 1 hts gX9_negativeParent_X9_noClause rfl rfl rfl (by decide +kernel) ⟨Nat.le_of_ble_eq_true rfl, Nat.le_of_ble_eq_true rfl⟩) hK hP hD hS hA (va_recv hK hP (ci := 8) (q0 := 0) rfl rfl) rfl hl.1 rfl (Nat.le_of_ble_eq_true rfl) dX9_negativeParent_7 ⟨Nat.zero_le _, Nat.zero_le _⟩ (fun H locs hP hD hS => ?_)
  refine lv_if_eq (tgt := 17) hx hb dX9_negativeParent_10 (by decide) (fun c_10 => ?_) (fun c_10 => ?_)
  · have hf := ip c_10 hf
    refine lv_aload_n hx hb dX9_negativeParent_17 rfl (lv_at hl 0 rfl) ?_
    refine va_get (D := D) (ci := 8) (v := .ref (q 1)) (C := RX9) (T := TX9) (N := 27) hx hb hts hiX9 hown hK hP 0 rfl rfl 1 (by decide) k9 (fun _ h9 => h9) rfl dX9_negativeParent_18 ?_
    refine lv_sipush (v := 795) hx hb dX9_negativeParent_21 (by decide) ?_
    refine lv_iload_n hx hb dX9_negativeParent_24 rfl (lv_at hl 1 rfl) ?_
    refine lv_iadd hx hb dX9_negativeParent_25 ?_
    obtain ⟨hi_, hf⟩ := gd_ob hf
    refine va_iald hx hb hK hP 1 0 rfl rfl (inB_in hi_) dX9_negativeParent_26 ?_
    exact rW_i hx hb hr hlocks hP hD hS (congrArg (fun q9 => q9.1) (so_ob hf)) (congrArg (fun (q9 : Int32 × (OS)) => wM cI cB cZ q q9.2) (so_ob hf)) dX9_negativeParent_27
  · have hf := iq c_10 hf
    refine lv_iconst (v := 0) hx hb dX9_negativeParent_13 (by decide) ?_
    refine lv_goto (tgt := 27) hx hb dX9_negativeParent_14 (by decide) ?_
    exact rW_i hx hb hr hlocks hP hD hS (congrArg (fun q9 => q9.1) (so_ob hf)) (congrArg (fun (q9 : Int32 × (OS)) => wM cI cB cZ q q9.2) (so_ob hf)) dX9_negativeParent_27

def fX9_variableOf (fu : Nat) (z : OS) (p1 : Int32) : Option (Int32 × (OS)) :=
  nm (sI z 0 (0 : Int32)) (fun (z_1 : OS) => bd (fX9_noClause fu z_1 p1) (fun (w_4 : Int32 × OS) => nm w_4.1 (fun (r_2 : Int32) => nm w_4.2 (fun (z_3 : OS) => (if r_2 = (0 : Int32) then gd (inB ((856 : Int32) + p1) 917) (some ((z_3.2 1 (((856 : Int32) + p1)).toNatClampNeg), z_3)) else some ((0 : Int32), z_3))))))
set_option maxRecDepth 100000 in
set_option maxHeartbeats 4000000 in
theorem mX9_variableOf (l : Launch) (D : va_G) (cI cB cZ cO : ClassId) (q : Nat → Nat) (sz : Nat) (fu : Nat) (z : OS) (p1 : Int32) {r : Int32} {y1 : OS} (hf : fX9_variableOf fu z p1 = some (r, y1)) : Met l yX9_variableOf wsX9_variableOf ({ frames := 2, cells := 0, slots := 0, locals := 46 }) (va_Pc [.ref (q 0), .int p1] (Pw D (gT cI cB cZ cO) (wM cI cB cZ q z) sz)) (Qw D (va_A (wM cI cB cZ q z) sz) (some (.int r)) (wM cI cB cZ q y1)) 0 0 (va_A (wM cI cB cZ q z) sz) := by
  unfold fX9_variableOf at hf
  refine metW (ret := (some .int)) (own := RX9) rfl (by decide) rfl (Nat.le_of_ble_eq_true rfl) (fun p e s m args below meth c ls A hx hb hr hml hown hlocks hts hK hA hP hD hS hl => ?_)
  have k46 := (hts (.fieldLink RX9 46 "ResolutionProverModel" "thrown" "I") (List.mem_of_getElem? (i := 1) rfl))
  have k9 := (hts (.fieldLink RX9 9 "ResolutionProverModel" "now" "[I") (List.mem_of_getElem? (i := 2) rfl))
  have hiX9 : ∀ w ∈ wsX90, w ∈ wsX9_variableOf := (memIn_p [19, 20, 21, 22, 23, 24, 25, 26, 27, 28, 29, 30, 31, 32, 33, 34, 35, 36, 37, 38, 39, 40, 41, 42, 43, 44, 45] rfl)
  have hl : lv_has ls 2 [(0, .ref (q 0)), (1, .int p1)] := hl
  refine lv_aload_n hx hb dX9_variableOf_0 rfl (lv_at hl 0 rfl) ?_
  refine lv_iconst (v := 0) hx hb dX9_variableOf_1 (by decide) ?_
  refine va_put (D := D) (ci := 8) (v := .int (0 : Int32)) (ty := .int) (C := RX9) (T := TX9) (N := 27) hx hb hts hiX9 tyX9 tyX9_ok nmX9 hown hK hP hD hS 0 rfl rfl 0 (by decide) k46 (fun _ h9 => h9) rfl (by decide +kernel) rfl rfl (Nat.le_of_ble_eq_true rfl) dX9_variableOf_2 (fun H locs hP hD hS => ?_)
  obtain ⟨z_1, ez_1, hf⟩ := nm_ob hf
  have hP : va_P D vwCl (wM cI cB cZ q z_1) H := by rw [ez_1]; exact hP
  have hD : va_D A (wM cI cB cZ q z_1) := by rw [ez_1]; exact hD
  refine lv_aload_n hx hb dX9_variableOf_5 rfl (lv_at hl 0 rfl) ?_
  refine lv_iload_n hx hb dX9_variableOf_6 rfl (lv_at hl 1 rfl) ?_
  obtain ⟨⟨r_2, z_3⟩, hc_5, hf⟩ := bd_ob hf
  have hf := nm_st hf
  have hf := nm_st hf
  refine weV (As := [.int p1]) (rest := []) ⟨hx, hb, hml, hown, hts⟩ (mX9_noClause l D cI cB cZ cO q _ fu z_1 p1 hc_5) (cwV 1 hts gX9_variableOf_X9_noClause rfl rfl rfl (by decide +kernel) ⟨Nat.le_of_ble_eq_true rfl, Nat.le_of_ble_eq_true rfl⟩) hK hP hD hS hA (va_recv hK hP (ci := 8) (q0 := 0) rfl rfl) rfl hl.1 rfl (Nat.le_of_ble_eq_true rfl) dX9_variableOf_7 ⟨Nat.zero_le _, Nat.zero_le _⟩ (fun H locs hP hD hS => ?_)
  refine lv_if_eq (tgt := 17) hx hb dX9_variableOf_10 (by decide) (fun c_10 => ?_) (fun c_10 => ?_)
  · have hf := ip c_10 hf
    refine lv_aload_n hx hb dX9_variableOf_17 rfl (lv_at hl 0 rfl) ?_
    refine va_get (D := D) (ci := 8) (v := .ref (q 1)) (C := RX9) (T := TX9) (N := 27) hx hb hts hiX9 hown hK hP 0 rfl rfl 1 (by decide) k9 (fun _ h9 => h9) rfl dX9_variableOf_18 ?_
    refine lv_sipush (v := 856) hx hb dX9_variableOf_21 (by decide) ?_
    refine lv_iload_n hx hb dX9_variableOf_24 rfl (lv_at hl 1 rfl) ?_
    refine lv_iadd hx hb dX9_variableOf_25 ?_
    obtain ⟨hi_, hf⟩ := gd_ob hf
    refine va_iald hx hb hK hP 1 0 rfl rfl (inB_in hi_) dX9_variableOf_26 ?_
    exact rW_i hx hb hr hlocks hP hD hS (congrArg (fun q9 => q9.1) (so_ob hf)) (congrArg (fun (q9 : Int32 × (OS)) => wM cI cB cZ q q9.2) (so_ob hf)) dX9_variableOf_27
  · have hf := iq c_10 hf
    refine lv_iconst (v := 0) hx hb dX9_variableOf_13 (by decide) ?_
    refine lv_goto (tgt := 27) hx hb dX9_variableOf_14 (by decide) ?_
    exact rW_i hx hb hr hlocks hP hD hS (congrArg (fun q9 => q9.1) (so_ob hf)) (congrArg (fun (q9 : Int32 × (OS)) => wM cI cB cZ q q9.2) (so_ob hf)) dX9_variableOf_27

def fX9_depthOf (fu : Nat) (z : OS) (p1 : Int32) : Option (Int32 × (OS)) :=
  nm (sI z 0 (0 : Int32)) (fun (z_1 : OS) => bd (fX9_noClause fu z_1 p1) (fun (w_4 : Int32 × OS) => nm w_4.1 (fun (r_2 : Int32) => nm w_4.2 (fun (z_3 : OS) => (if r_2 = (0 : Int32) then bd (fX9_depthAt fu z_3 p1) (fun (w_8 : Int32 × OS) => nm w_8.1 (fun (r_6 : Int32) => nm w_8.2 (fun (z_7 : OS) => some (r_6, z_7)))) else some ((0 : Int32), z_3))))))
set_option maxRecDepth 100000 in
set_option maxHeartbeats 4000000 in
theorem mX9_depthOf (l : Launch) (D : va_G) (cI cB cZ cO : ClassId) (q : Nat → Nat) (sz : Nat) (fu : Nat) (z : OS) (p1 : Int32) {r : Int32} {y1 : OS} (hf : fX9_depthOf fu z p1 = some (r, y1)) : Met l yX9_depthOf wsX9_depthOf ({ frames := 3, cells := 0, slots := 0, locals := 67 }) (va_Pc [.ref (q 0), .int p1] (Pw D (gT cI cB cZ cO) (wM cI cB cZ q z) sz)) (Qw D (va_A (wM cI cB cZ q z) sz) (some (.int r)) (wM cI cB cZ q y1)) 0 0 (va_A (wM cI cB cZ q z) sz) := by
  unfold fX9_depthOf at hf
  refine metW (ret := (some .int)) (own := RX9) rfl (by decide) rfl (Nat.le_of_ble_eq_true rfl) (fun p e s m args below meth c ls A hx hb hr hml hown hlocks hts hK hA hP hD hS hl => ?_)
  have k46 := (hts (.fieldLink RX9 46 "ResolutionProverModel" "thrown" "I") (List.mem_of_getElem? (i := 1) rfl))
  have hiX9 : ∀ w ∈ wsX90, w ∈ wsX9_depthOf := (memIn_p [32, 33, 34, 35, 36, 37, 38, 39, 40, 41, 42, 43, 44, 45, 46, 47, 48, 49, 50, 51, 52, 53, 54, 55, 56, 57, 58] rfl)
  have hl : lv_has ls 2 [(0, .ref (q 0)), (1, .int p1)] := hl
  refine lv_aload_n hx hb dX9_depthOf_0 rfl (lv_at hl 0 rfl) ?_
  refine lv_iconst (v := 0) hx hb dX9_depthOf_1 (by decide) ?_
  refine va_put (D := D) (ci := 8) (v := .int (0 : Int32)) (ty := .int) (C := RX9) (T := TX9) (N := 27) hx hb hts hiX9 tyX9 tyX9_ok nmX9 hown hK hP hD hS 0 rfl rfl 0 (by decide) k46 (fun _ h9 => h9) rfl (by decide +kernel) rfl rfl (Nat.le_of_ble_eq_true rfl) dX9_depthOf_2 (fun H locs hP hD hS => ?_)
  obtain ⟨z_1, ez_1, hf⟩ := nm_ob hf
  have hP : va_P D vwCl (wM cI cB cZ q z_1) H := by rw [ez_1]; exact hP
  have hD : va_D A (wM cI cB cZ q z_1) := by rw [ez_1]; exact hD
  refine lv_aload_n hx hb dX9_depthOf_5 rfl (lv_at hl 0 rfl) ?_
  refine lv_iload_n hx hb dX9_depthOf_6 rfl (lv_at hl 1 rfl) ?_
  obtain ⟨⟨r_2, z_3⟩, hc_5, hf⟩ := bd_ob hf
  have hf := nm_st hf
  have hf := nm_st hf
  refine weV (As := [.int p1]) (rest := []) ⟨hx, hb, hml, hown, hts⟩ (mX9_noClause l D cI cB cZ cO q _ fu z_1 p1 hc_5) (cwV 1 hts gX9_depthOf_X9_noClause rfl rfl rfl (by decide +kernel) ⟨Nat.le_of_ble_eq_true rfl, Nat.le_of_ble_eq_true rfl⟩) hK hP hD hS hA (va_recv hK hP (ci := 8) (q0 := 0) rfl rfl) rfl hl.1 rfl (Nat.le_of_ble_eq_true rfl) dX9_depthOf_7 ⟨Nat.zero_le _, Nat.zero_le _⟩ (fun H locs hP hD hS => ?_)
  refine lv_if_eq (tgt := 17) hx hb dX9_depthOf_10 (by decide) (fun c_10 => ?_) (fun c_10 => ?_)
  · have hf := ip c_10 hf
    refine lv_aload_n hx hb dX9_depthOf_17 rfl (lv_at hl 0 rfl) ?_
    refine lv_iload_n hx hb dX9_depthOf_18 rfl (lv_at hl 1 rfl) ?_
    obtain ⟨⟨r_6, z_7⟩, hc_9, hf⟩ := bd_ob hf
    have hf := nm_st hf
    have hf := nm_st hf
    refine weV (As := [.int p1]) (rest := []) ⟨hx, hb, hml, hown, hts⟩ (mX9_depthAt l D cI cB cZ cO q _ fu z_3 p1 hc_9) (cwV 1 hts gX9_depthOf_X9_depthAt rfl rfl rfl (by decide +kernel) ⟨Nat.le_of_ble_eq_true rfl, Nat.le_of_ble_eq_true rfl⟩) hK hP hD hS hA (va_recv hK hP (ci := 8) (q0 := 0) rfl rfl) rfl hl.1 rfl (Nat.le_of_ble_eq_true rfl) dX9_depthOf_19 ⟨Nat.zero_le _, Nat.zero_le _⟩ (fun H locs hP hD hS => ?_)
    exact rW_i hx hb hr hlocks hP hD hS (congrArg (fun q9 => q9.1) (so_ob hf)) (congrArg (fun (q9 : Int32 × (OS)) => wM cI cB cZ q q9.2) (so_ob hf)) dX9_depthOf_22
  · have hf := iq c_10 hf
    refine lv_iconst (v := 0) hx hb dX9_depthOf_13 (by decide) ?_
    refine lv_goto (tgt := 22) hx hb dX9_depthOf_14 (by decide) ?_
    exact rW_i hx hb hr hlocks hP hD hS (congrArg (fun q9 => q9.1) (so_ob hf)) (congrArg (fun (q9 : Int32 × (OS)) => wM cI cB cZ q q9.2) (so_ob hf)) dX9_depthOf_22

def lX9_deepestClause_11 (fu : Nat) (j42 : Int32 → OS → Option (Int32 × (OS))) : Nat → Int32 → Int32 → Int32 → OS → Option (Int32 × (OS))
  | 0, _, _, _, _ => none
  | n_11 + 1, v1_11, v2_11, v3_11, z1_11 => bd (fX9_many fu z1_11) (fun (r_2 : Int32) => (if r_2 ≤ v3_11 then j42 v1_11 z1_11 else bd (fX9_depthAt fu z1_11 v3_11) (fun (w_6 : Int32 × OS) => nm w_6.1 (fun (r_4 : Int32) => nm w_6.2 (fun (z_5 : OS) => jn (κ := Int32 → Int32 → OS → Option (Int32 × (OS))) (fun (v1_36 : Int32) (v2_36 : Int32) (z1_36 : OS) => nm (v3_11 + (1 : Int32)) (fun (v3_8 : Int32) => lX9_deepestClause_11 fu j42 n_11 v1_36 v2_36 v3_8 z1_36)) (fun j36 => (if r_4 ≤ v2_11 then j36 v1_11 v2_11 z_5 else bd (fX9_depthAt fu z_5 v3_11) (fun (w_11 : Int32 × OS) => nm w_11.1 (fun (r_9 : Int32) => nm w_11.2 (fun (z_10 : OS) => j36 v3_11 r_9 z_10))))))))))
def fX9_deepestClause (fu : Nat) (z : OS) : Option (Int32 × (OS)) :=
  nm (sI z 0 (0 : Int32)) (fun (z_1 : OS) => jn (κ := Int32 → OS → Option (Int32 × (OS))) (fun (v1_42 : Int32) (z1_42 : OS) => some (v1_42, z1_42)) (fun j42 => lX9_deepestClause_11 fu j42 fu (-1 : Int32) (-1 : Int32) (0 : Int32) z_1))
set_option maxRecDepth 100000 in
set_option maxHeartbeats 4000000 in
theorem mX9_deepestClause (l : Launch) (D : va_G) (cI cB cZ cO : ClassId) (q : Nat → Nat) (sz : Nat) (fu : Nat) (z : OS) {r : Int32} {y1 : OS} (hf : fX9_deepestClause fu z = some (r, y1)) : Met l yX9_deepestClause wsX9_deepestClause ({ frames := 3, cells := 0, slots := 0, locals := 67 }) (va_Pc [.ref (q 0)] (Pw D (gT cI cB cZ cO) (wM cI cB cZ q z) sz)) (Qw D (va_A (wM cI cB cZ q z) sz) (some (.int r)) (wM cI cB cZ q y1)) 0 0 (va_A (wM cI cB cZ q z) sz) := by
  unfold fX9_deepestClause at hf
  refine metW (ret := (some .int)) (own := RX9) rfl (by decide) rfl (Nat.le_of_ble_eq_true rfl) (fun p e s m args below meth c ls A hx hb hr hml hown hlocks hts hK hA hP hD hS hl => ?_)
  have k46 := (hts (.fieldLink RX9 46 "ResolutionProverModel" "thrown" "I") (List.mem_of_getElem? (i := 1) rfl))
  have hiX9 : ∀ w ∈ wsX90, w ∈ wsX9_deepestClause := (memIn_p [21, 22, 23, 24, 25, 26, 27, 28, 29, 30, 31, 32, 33, 34, 35, 36, 37, 38, 39, 40, 41, 42, 43, 44, 45, 46, 47] rfl)
  have hl : lv_has ls 4 [(0, .ref (q 0))] := hl
  refine lv_aload_n hx hb dX9_deepestClause_0 rfl (lv_at hl 0 rfl) ?_
  refine lv_iconst (v := 0) hx hb dX9_deepestClause_1 (by decide) ?_
  refine va_put (D := D) (ci := 8) (v := .int (0 : Int32)) (ty := .int) (C := RX9) (T := TX9) (N := 27) hx hb hts hiX9 tyX9 tyX9_ok nmX9 hown hK hP hD hS 0 rfl rfl 0 (by decide) k46 (fun _ h9 => h9) rfl (by decide +kernel) rfl rfl (Nat.le_of_ble_eq_true rfl) dX9_deepestClause_2 (fun H locs hP hD hS => ?_)
  obtain ⟨z_1, ez_1, hf⟩ := nm_ob hf
  have hP : va_P D vwCl (wM cI cB cZ q z_1) H := by rw [ez_1]; exact hP
  have hD : va_D A (wM cI cB cZ q z_1) := by rw [ez_1]; exact hD
  refine lv_iconst (v := (-1)) hx hb dX9_deepestClause_5 (by decide) ?_
  refine lv_istore_n (lv' := [(1, .int (-1 : Int32)), (0, .ref (q 0))]) hx hb dX9_deepestClause_6 rfl hl (by decide) rfl (fun ls hl => ?_)
  refine lv_iconst (v := (-1)) hx hb dX9_deepestClause_7 (by decide) ?_
  refine lv_istore_n (lv' := [(2, .int (-1 : Int32)), (1, .int (-1 : Int32)), (0, .ref (q 0))]) hx hb dX9_deepestClause_8 rfl hl (by decide) rfl (fun ls hl => ?_)
  refine lv_iconst (v := 0) hx hb dX9_deepestClause_9 (by decide) ?_
  refine lv_istore_n (lv' := [(3, .int (0 : Int32)), (2, .int (-1 : Int32)), (1, .int (-1 : Int32)), (0, .ref (q 0))]) hx hb dX9_deepestClause_10 rfl hl (by decide) rfl (fun ls hl => ?_)
  obtain ⟨j42, ej42, hf⟩ := jn_ob hf
  have hp42 : ∀ (v1_42 : Int32) (z1_42 : OS) (H : Heap) (locs : List Loc) (ls : Array Slot), j42 v1_42 z1_42 = some (r, y1) → va_P D vwCl (wM cI cB cZ q z1_42) H → va_D A (wM cI cB cZ q z1_42) → va_S A s.heap H locs → lv_has ls 4 [(1, .int v1_42)] → W p l e (headSpec wsX9_deepestClause { frames := 3, cells := 0, slots := 0, locals := 67 }).room s m args below meth c H locs 0 0 (MQ below (Qw D A (some (.int r)) (wM cI cB cZ q y1)) args s 0 0 A) (F0 m 42 ls []) := by
    intro v1_42 z1_42 H locs ls hf hP hD hS hl
    rw [ej42] at hf
    refine lv_iload_n hx hb dX9_deepestClause_42 rfl (lv_at hl 0 rfl) ?_
    exact rW_i hx hb hr hlocks hP hD hS (congrArg (fun q9 => q9.1) (so_ob hf)) (congrArg (fun (q9 : Int32 × (OS)) => wM cI cB cZ q q9.2) (so_ob hf)) dX9_deepestClause_43
  have hL11 : ∀ (n_11 : Nat) (v1_11 : Int32) (v2_11 : Int32) (v3_11 : Int32) (z1_11 : OS) (H : Heap) (locs : List Loc) (ls : Array Slot), lX9_deepestClause_11 fu j42 n_11 v1_11 v2_11 v3_11 z1_11 = some (r, y1) → va_P D vwCl (wM cI cB cZ q z1_11) H → va_D A (wM cI cB cZ q z1_11) → va_S A s.heap H locs → lv_has ls 4 [(0, .ref (q 0)), (1, .int v1_11), (2, .int v2_11), (3, .int v3_11)] → W p l e (headSpec wsX9_deepestClause { frames := 3, cells := 0, slots := 0, locals := 67 }).room s m args below meth c H locs 0 0 (MQ below (Qw D A (some (.int r)) (wM cI cB cZ q y1)) args s 0 0 A) (F0 m 11 ls []) := by
    intro n_11
    induction n_11 with
    | zero =>
      intro v1_11 v2_11 v3_11 z1_11 H locs ls hf
      exact no_ob hf
    | succ n_11 ih11 =>
      intro v1_11 v2_11 v3_11 z1_11 H locs ls hf hP hD hS hl
      rw [lX9_deepestClause_11] at hf
      refine lv_iload_n hx hb dX9_deepestClause_11 rfl (lv_at hl 3 rfl) ?_
      refine lv_aload_n hx hb dX9_deepestClause_12 rfl (lv_at hl 0 rfl) ?_
      obtain ⟨r_2, hc_3, hf⟩ := bd_ob hf
      refine rdV (As := []) (rest := [.int v3_11]) ⟨hx, hb, hml, hown, hts⟩ (mX9_many l D cI cB cZ cO q fu z1_11 hc_3) (cwV 0 hts gX9_deepestClause_X9_many rfl rfl rfl (by decide +kernel) ⟨Nat.le_of_ble_eq_true rfl, Nat.le_of_ble_eq_true rfl⟩) hK hP (va_recv hK hP (ci := 8) (q0 := 0) rfl rfl) rfl hl.1 rfl (Nat.le_of_ble_eq_true rfl) dX9_deepestClause_13 ⟨Nat.zero_le _, Nat.zero_le _⟩ ?_
      refine lv_icmp_ge (tgt := 42) hx hb dX9_deepestClause_16 (by decide) (fun c_16 => ?_) (fun c_16 => ?_)
      · have hf := ip c_16 hf
        exact hp42 v1_11 z1_11 _ _ _ hf hP hD hS (lv_sub hl [1] rfl)
      · have hf := iq c_16 hf
        refine lv_aload_n hx hb dX9_deepestClause_19 rfl (lv_at hl 0 rfl) ?_
        refine lv_iload_n hx hb dX9_deepestClause_20 rfl (lv_at hl 3 rfl) ?_
        obtain ⟨⟨r_4, z_5⟩, hc_7, hf⟩ := bd_ob hf
        have hf := nm_st hf
        have hf := nm_st hf
        refine weV (As := [.int v3_11]) (rest := []) ⟨hx, hb, hml, hown, hts⟩ (mX9_depthAt l D cI cB cZ cO q _ fu z1_11 v3_11 hc_7) (cwV 1 hts gX9_deepestClause_X9_depthAt rfl rfl rfl (by decide +kernel) ⟨Nat.le_of_ble_eq_true rfl, Nat.le_of_ble_eq_true rfl⟩) hK hP hD hS hA (va_recv hK hP (ci := 8) (q0 := 0) rfl rfl) rfl hl.1 rfl (Nat.le_of_ble_eq_true rfl) dX9_deepestClause_21 ⟨Nat.zero_le _, Nat.zero_le _⟩ (fun H locs hP hD hS => ?_)
        refine lv_iload_n hx hb dX9_deepestClause_24 rfl (lv_at hl 2 rfl) ?_
        obtain ⟨j36, ej36, hf⟩ := jn_ob hf
        have hp36 : ∀ (v1_36 : Int32) (v2_36 : Int32) (z1_36 : OS) (H : Heap) (locs : List Loc) (ls : Array Slot), j36 v1_36 v2_36 z1_36 = some (r, y1) → va_P D vwCl (wM cI cB cZ q z1_36) H → va_D A (wM cI cB cZ q z1_36) → va_S A s.heap H locs → lv_has ls 4 [(0, .ref (q 0)), (1, .int v1_36), (2, .int v2_36), (3, .int v3_11)] → W p l e (headSpec wsX9_deepestClause { frames := 3, cells := 0, slots := 0, locals := 67 }).room s m args below meth c H locs 0 0 (MQ below (Qw D A (some (.int r)) (wM cI cB cZ q y1)) args s 0 0 A) (F0 m 36 ls []) := by
          intro v1_36 v2_36 z1_36 H locs ls hf hP hD hS hl
          rw [ej36] at hf
          obtain ⟨v3_8, ev3_8, hf⟩ := nm_ob hf
          refine lv_iinc (v := v3_8) (lv' := [(3, .int v3_8), (0, .ref (q 0)), (1, .int v1_36), (2, .int v2_36)]) hx hb dX9_deepestClause_36 hl (k := 3) rfl (by rw [ev3_8]; rfl) (by decide) rfl (fun ls hl => ?_)
          refine lv_goto (tgt := 11) hx hb dX9_deepestClause_39 (by decide) ?_
          exact ih11 v1_36 v2_36 v3_8 z1_36 _ _ _ hf hP hD hS (lv_sub hl [1, 2, 3, 0] rfl)
        refine lv_icmp_le (tgt := 36) hx hb dX9_deepestClause_25 (by decide) (fun c_25 => ?_) (fun c_25 => ?_)
        · have hf := ip c_25 hf
          exact hp36 v1_11 v2_11 z_5 _ _ _ hf hP hD hS hl
        · have hf := iq c_25 hf
          refine lv_iload_n hx hb dX9_deepestClause_28 rfl (lv_at hl 3 rfl) ?_
          refine lv_istore_n (lv' := [(1, .int v3_11), (0, .ref (q 0)), (2, .int v2_11), (3, .int v3_11)]) hx hb dX9_deepestClause_29 rfl hl (by decide) rfl (fun ls hl => ?_)
          refine lv_aload_n hx hb dX9_deepestClause_30 rfl (lv_at hl 1 rfl) ?_
          refine lv_iload_n hx hb dX9_deepestClause_31 rfl (lv_at hl 3 rfl) ?_
          obtain ⟨⟨r_9, z_10⟩, hc_12, hf⟩ := bd_ob hf
          have hf := nm_st hf
          have hf := nm_st hf
          refine weV (As := [.int v3_11]) (rest := []) ⟨hx, hb, hml, hown, hts⟩ (mX9_depthAt l D cI cB cZ cO q _ fu z_5 v3_11 hc_12) (cwV 1 hts gX9_deepestClause_X9_depthAt rfl rfl rfl (by decide +kernel) ⟨Nat.le_of_ble_eq_true rfl, Nat.le_of_ble_eq_true rfl⟩) hK hP hD hS hA (va_recv hK hP (ci := 8) (q0 := 0) rfl rfl) rfl hl.1 rfl (Nat.le_of_ble_eq_true rfl) dX9_deepestClause_32 ⟨Nat.zero_le _, Nat.zero_le _⟩ (fun H locs hP hD hS => ?_)
          refine lv_istore_n (lv' := [(2, .int r_9), (1, .int v3_11), (0, .ref (q 0)), (3, .int v3_11)]) hx hb dX9_deepestClause_35 rfl hl (by decide) rfl (fun ls hl => ?_)
          exact hp36 v3_11 r_9 z_10 _ _ _ hf hP hD hS (lv_sub hl [2, 1, 0, 3] rfl)
  exact hL11 fu (-1 : Int32) (-1 : Int32) (0 : Int32) z_1 _ _ _ hf hP hD hS (lv_sub hl [3, 2, 1, 0] rfl)

def lX9_derivationSize_24 (z_6 : OS) (j53 : Int32 → Option (Int32 × (OS))) : Nat → Int32 → Int32 → Option (Int32 × (OS))
  | 0, _, _ => none
  | n_24 + 1, v2_24, v3_24 => (if (60 : Int32) ≤ v3_24 then j53 v2_24 else gd (inB v3_24 60) (jn (κ := Int32 → Int32 → Option (Int32 × (OS))) (fun (t0_45 : Int32) (t1_45 : Int32) => nm (t0_45 + t1_45) (fun (v2_8 : Int32) => nm (v3_24 + (1 : Int32)) (fun (v3_9 : Int32) => lX9_derivationSize_24 z_6 j53 n_24 v2_8 v3_9))) (fun j45 => (if (z_6.2 11 (v3_24).toNatClampNeg) = (0 : Int32) then j45 v2_24 (0 : Int32) else j45 v2_24 (1 : Int32)))))
def fX9_derivationSize (fu : Nat) (z : OS) (p1 : Int32) : Option (Int32 × (OS)) :=
  nm (sI z 0 (0 : Int32)) (fun (z_1 : OS) => bd (fX9_noClause fu z_1 p1) (fun (w_4 : Int32 × OS) => nm w_4.1 (fun (r_2 : Int32) => nm w_4.2 (fun (z_3 : OS) => (if r_2 = (0 : Int32) then bd (fX9_derives fu z_3 p1) (fun (z_6 : OS) => jn (κ := Int32 → Option (Int32 × (OS))) (fun (v2_53 : Int32) => some (v2_53, z_6)) (fun j53 => lX9_derivationSize_24 z_6 j53 fu (0 : Int32) (0 : Int32))) else some ((0 : Int32), z_3))))))
set_option maxRecDepth 100000 in
set_option maxHeartbeats 4000000 in
theorem mX9_derivationSize (l : Launch) (D : va_G) (cI cB cZ cO : ClassId) (q : Nat → Nat) (sz : Nat) (fu : Nat) (z : OS) (p1 : Int32) {r : Int32} {y1 : OS} (hf : fX9_derivationSize fu z p1 = some (r, y1)) : Met l yX9_derivationSize wsX9_derivationSize ({ frames := 2, cells := 0, slots := 0, locals := 46 }) (va_Pc [.ref (q 0), .int p1] (Pw D (gT cI cB cZ cO) (wM cI cB cZ q z) sz)) (Qw D (va_A (wM cI cB cZ q z) sz) (some (.int r)) (wM cI cB cZ q y1)) 0 0 (va_A (wM cI cB cZ q z) sz) := by
  unfold fX9_derivationSize at hf
  refine metW (ret := (some .int)) (own := RX9) rfl (by decide) rfl (Nat.le_of_ble_eq_true rfl) (fun p e s m args below meth c ls A hx hb hr hml hown hlocks hts hK hA hP hD hS hl => ?_)
  have k46 := (hts (.fieldLink RX9 46 "ResolutionProverModel" "thrown" "I") (List.mem_of_getElem? (i := 1) rfl))
  have k32 := (hts (.fieldLink RX9 32 "ResolutionProverModel" "isIn" "[Z") (List.mem_of_getElem? (i := 2) rfl))
  have hiX9 : ∀ w ∈ wsX90, w ∈ wsX9_derivationSize := (memIn_p [24, 25, 26, 27, 28, 29, 30, 31, 32, 33, 34, 35, 36, 37, 38, 39, 40, 41, 42, 43, 44, 45, 46, 47, 48, 49, 50] rfl)
  have hl : lv_has ls 4 [(0, .ref (q 0)), (1, .int p1)] := hl
  refine lv_aload_n hx hb dX9_derivationSize_0 rfl (lv_at hl 0 rfl) ?_
  refine lv_iconst (v := 0) hx hb dX9_derivationSize_1 (by decide) ?_
  refine va_put (D := D) (ci := 8) (v := .int (0 : Int32)) (ty := .int) (C := RX9) (T := TX9) (N := 27) hx hb hts hiX9 tyX9 tyX9_ok nmX9 hown hK hP hD hS 0 rfl rfl 0 (by decide) k46 (fun _ h9 => h9) rfl (by decide +kernel) rfl rfl (Nat.le_of_ble_eq_true rfl) dX9_derivationSize_2 (fun H locs hP hD hS => ?_)
  obtain ⟨z_1, ez_1, hf⟩ := nm_ob hf
  have hP : va_P D vwCl (wM cI cB cZ q z_1) H := by rw [ez_1]; exact hP
  have hD : va_D A (wM cI cB cZ q z_1) := by rw [ez_1]; exact hD
  refine lv_aload_n hx hb dX9_derivationSize_5 rfl (lv_at hl 0 rfl) ?_
  refine lv_iload_n hx hb dX9_derivationSize_6 rfl (lv_at hl 1 rfl) ?_
  obtain ⟨⟨r_2, z_3⟩, hc_5, hf⟩ := bd_ob hf
  have hf := nm_st hf
  have hf := nm_st hf
  refine weV (As := [.int p1]) (rest := []) ⟨hx, hb, hml, hown, hts⟩ (mX9_noClause l D cI cB cZ cO q _ fu z_1 p1 hc_5) (cwV 1 hts gX9_derivationSize_X9_noClause rfl rfl rfl (by decide +kernel) ⟨Nat.le_of_ble_eq_true rfl, Nat.le_of_ble_eq_true rfl⟩) hK hP hD hS hA (va_recv hK hP (ci := 8) (q0 := 0) rfl rfl) rfl hl.1 rfl (Nat.le_of_ble_eq_true rfl) dX9_derivationSize_7 ⟨Nat.zero_le _, Nat.zero_le _⟩ (fun H locs hP hD hS => ?_)
  refine lv_if_eq (tgt := 15) hx hb dX9_derivationSize_10 (by decide) (fun c_10 => ?_) (fun c_10 => ?_)
  · have hf := ip c_10 hf
    refine lv_aload_n hx hb dX9_derivationSize_15 rfl (lv_at hl 0 rfl) ?_
    refine lv_iload_n hx hb dX9_derivationSize_16 rfl (lv_at hl 1 rfl) ?_
    obtain ⟨z_6, hc_7, hf⟩ := bd_ob hf
    refine weV (As := [.int p1]) (rest := []) ⟨hx, hb, hml, hown, hts⟩ (mX9_derives l D cI cB cZ cO q _ fu z_3 p1 hc_7) (cwV 1 hts gX9_derivationSize_X9_derives rfl rfl rfl (by decide +kernel) ⟨Nat.le_of_ble_eq_true rfl, Nat.le_of_ble_eq_true rfl⟩) hK hP hD hS hA (va_recv hK hP (ci := 8) (q0 := 0) rfl rfl) rfl hl.1 rfl (Nat.le_of_ble_eq_true rfl) dX9_derivationSize_17 ⟨Nat.zero_le _, Nat.zero_le _⟩ (fun H locs hP hD hS => ?_)
    refine lv_iconst (v := 0) hx hb dX9_derivationSize_20 (by decide) ?_
    refine lv_istore_n (lv' := [(2, .int (0 : Int32)), (0, .ref (q 0)), (1, .int p1)]) hx hb dX9_derivationSize_21 rfl hl (by decide) rfl (fun ls hl => ?_)
    refine lv_iconst (v := 0) hx hb dX9_derivationSize_22 (by decide) ?_
    refine lv_istore_n (lv' := [(3, .int (0 : Int32)), (2, .int (0 : Int32)), (0, .ref (q 0)), (1, .int p1)]) hx hb dX9_derivationSize_23 rfl hl (by decide) rfl (fun ls hl => ?_)
    obtain ⟨j53, ej53, hf⟩ := jn_ob hf
    have hp53 : ∀ (v2_53 : Int32) (H : Heap) (locs : List Loc) (ls : Array Slot), j53 v2_53 = some (r, y1) → va_P D vwCl (wM cI cB cZ q z_6) H → va_D A (wM cI cB cZ q z_6) → va_S A s.heap H locs → lv_has ls 4 [(2, .int v2_53)] → W p l e (headSpec wsX9_derivationSize { frames := 2, cells := 0, slots := 0, locals := 46 }).room s m args below meth c H locs 0 0 (MQ below (Qw D A (some (.int r)) (wM cI cB cZ q y1)) args s 0 0 A) (F0 m 53 ls []) := by
      intro v2_53 H locs ls hf hP hD hS hl
      rw [ej53] at hf
      refine lv_iload_n hx hb dX9_derivationSize_53 rfl (lv_at hl 0 rfl) ?_
      exact rW_i hx hb hr hlocks hP hD hS (congrArg (fun q9 => q9.1) (so_ob hf)) (congrArg (fun (q9 : Int32 × (OS)) => wM cI cB cZ q q9.2) (so_ob hf)) dX9_derivationSize_54
    have hL24 : ∀ (n_24 : Nat) (v2_24 : Int32) (v3_24 : Int32) (H : Heap) (locs : List Loc) (ls : Array Slot), lX9_derivationSize_24 z_6 j53 n_24 v2_24 v3_24 = some (r, y1) → va_P D vwCl (wM cI cB cZ q z_6) H → va_D A (wM cI cB cZ q z_6) → va_S A s.heap H locs → lv_has ls 4 [(0, .ref (q 0)), (2, .int v2_24), (3, .int v3_24)] → W p l e (headSpec wsX9_derivationSize { frames := 2, cells := 0, slots := 0, locals := 46 }).room s m args below meth c H locs 0 0 (MQ below (Qw D A (some (.int r)) (wM cI cB cZ q y1)) args s 0 0 A) (F0 m 24 ls []) := by
      intro n_24
      induction n_24 with
      | zero =>
        intro v2_24 v3_24 H locs ls hf
        exact no_ob hf
      | succ n_24 ih24 =>
        intro v2_24 v3_24 H locs ls hf hP hD hS hl
        rw [lX9_derivationSize_24] at hf
        refine lv_iload_n hx hb dX9_derivationSize_24 rfl (lv_at hl 2 rfl) ?_
        refine lv_bipush (v := 60) hx hb dX9_derivationSize_25 (by decide) ?_
        refine lv_icmp_ge (tgt := 53) hx hb dX9_derivationSize_27 (by decide) (fun c_27 => ?_) (fun c_27 => ?_)
        · have hf := ip c_27 hf
          exact hp53 v2_24 _ _ _ hf hP hD hS (lv_sub hl [1] rfl)
        · have hf := iq c_27 hf
          refine lv_iload_n hx hb dX9_derivationSize_30 rfl (lv_at hl 1 rfl) ?_
          refine lv_aload_n hx hb dX9_derivationSize_31 rfl (lv_at hl 0 rfl) ?_
          refine va_get (D := D) (ci := 8) (v := .ref (q 8)) (C := RX9) (T := TX9) (N := 27) hx hb hts hiX9 hown hK hP 0 rfl rfl 11 (by decide) k32 (fun _ h9 => h9) rfl dX9_derivationSize_32 ?_
          refine lv_iload_n hx hb dX9_derivationSize_35 rfl (lv_at hl 2 rfl) ?_
          obtain ⟨hi_, hf⟩ := gd_ob hf
          refine va_zald hx hb hK hP 8 2 rfl rfl (inB_in hi_) dX9_derivationSize_36 ?_
          obtain ⟨j45, ej45, hf⟩ := jn_ob hf
          have hp45 : ∀ (t0_45 : Int32) (t1_45 : Int32) (H : Heap) (locs : List Loc) (ls : Array Slot), j45 t0_45 t1_45 = some (r, y1) → va_P D vwCl (wM cI cB cZ q z_6) H → va_D A (wM cI cB cZ q z_6) → va_S A s.heap H locs → lv_has ls 4 [(0, .ref (q 0)), (3, .int v3_24)] → W p l e (headSpec wsX9_derivationSize { frames := 2, cells := 0, slots := 0, locals := 46 }).room s m args below meth c H locs 0 0 (MQ below (Qw D A (some (.int r)) (wM cI cB cZ q y1)) args s 0 0 A) (F0 m 45 ls [.int t1_45, .int t0_45]) := by
            intro t0_45 t1_45 H locs ls hf hP hD hS hl
            rw [ej45] at hf
            refine lv_iadd hx hb dX9_derivationSize_45 ?_
            obtain ⟨v2_8, ev2_8, hf⟩ := nm_ob hf
            refine lv_nmi ev2_8 ?_
            refine lv_istore_n (lv' := [(2, .int v2_8), (0, .ref (q 0)), (3, .int v3_24)]) hx hb dX9_derivationSize_46 rfl hl (by decide) rfl (fun ls hl => ?_)
            obtain ⟨v3_9, ev3_9, hf⟩ := nm_ob hf
            refine lv_iinc (v := v3_9) (lv' := [(3, .int v3_9), (2, .int v2_8), (0, .ref (q 0))]) hx hb dX9_derivationSize_47 hl (k := 2) rfl (by rw [ev3_9]; rfl) (by decide) rfl (fun ls hl => ?_)
            refine lv_goto (tgt := 24) hx hb dX9_derivationSize_50 (by decide) ?_
            exact ih24 v2_8 v3_9 _ _ _ hf hP hD hS (lv_sub hl [2, 1, 0] rfl)
          refine lv_if_eq (tgt := 44) hx hb dX9_derivationSize_37 (by decide) (fun c_37 => ?_) (fun c_37 => ?_)
          · have hf := ip c_37 hf
            refine lv_iconst (v := 0) hx hb dX9_derivationSize_44 (by decide) ?_
            exact hp45 v2_24 (0 : Int32) _ _ _ hf hP hD hS (lv_sub hl [0, 2] rfl)
          · have hf := iq c_37 hf
            refine lv_iconst (v := 1) hx hb dX9_derivationSize_40 (by decide) ?_
            refine lv_goto (tgt := 45) hx hb dX9_derivationSize_41 (by decide) ?_
            exact hp45 v2_24 (1 : Int32) _ _ _ hf hP hD hS (lv_sub hl [0, 2] rfl)
    exact hL24 fu (0 : Int32) (0 : Int32) _ _ _ hf hP hD hS (lv_sub hl [2, 1, 0] rfl)
  · have hf := iq c_10 hf
    refine lv_iconst (v := 0) hx hb dX9_derivationSize_13 (by decide) ?_
    exact rW_i hx hb hr hlocks hP hD hS (congrArg (fun q9 => q9.1) (so_ob hf)) (congrArg (fun (q9 : Int32 × (OS)) => wM cI cB cZ q q9.2) (so_ob hf)) dX9_derivationSize_14

def lX9_premises_25 (fu : Nat) (z_6 : OS) (j76 : Int64 → Option (Int64 × (OS))) : Nat → Int64 → Int32 → Option (Int64 × (OS))
  | 0, _, _ => none
  | n_25 + 1, v2_25, v4_25 => bd (fX9_many fu z_6) (fun (r_8 : Int32) => (if r_8 ≤ v4_25 then j76 v2_25 else gd (inB v4_25 60) (jn (κ := Int64 → Int64 → Option (Int64 × (OS))) (fun (t0_68 : Int64) (t1_68 : Int64) => nm (t0_68 ||| t1_68) (fun (v2_10 : Int64) => nm (v4_25 + (1 : Int32)) (fun (v4_11 : Int32) => lX9_premises_25 fu z_6 j76 n_25 v2_10 v4_11))) (fun j68 => jn (κ := Int64 → Option (Int64 × (OS))) (fun (t0_67 : Int64) => j68 t0_67 (0 : Int64)) (fun j67 => (if (z_6.2 11 (v4_25).toNatClampNeg) = (0 : Int32) then j67 v2_25 else gd (inB ((856 : Int32) + v4_25) 917) ((if ¬ (z_6.2 1 (((856 : Int32) + v4_25)).toNatClampNeg) = (-1 : Int32) then j67 v2_25 else j68 v2_25 ((1 : Int64) <<< ((v4_25).toInt64 &&& (63 : Int64)))))))))))
def fX9_premises (fu : Nat) (z : OS) (p1 : Int32) : Option (Int64 × (OS)) :=
  nm (sI z 0 (0 : Int32)) (fun (z_1 : OS) => bd (fX9_noClause fu z_1 p1) (fun (w_4 : Int32 × OS) => nm w_4.1 (fun (r_2 : Int32) => nm w_4.2 (fun (z_3 : OS) => (if r_2 = (0 : Int32) then bd (fX9_derives fu z_3 p1) (fun (z_6 : OS) => jn (κ := Int64 → Option (Int64 × (OS))) (fun (v2_76 : Int64) => some (v2_76, z_6)) (fun j76 => lX9_premises_25 fu z_6 j76 fu (0 : Int64) (0 : Int32))) else some ((0 : Int64), z_3))))))
set_option maxRecDepth 100000 in
set_option maxHeartbeats 4000000 in
theorem mX9_premises (l : Launch) (D : va_G) (cI cB cZ cO : ClassId) (q : Nat → Nat) (sz : Nat) (fu : Nat) (z : OS) (p1 : Int32) {r : Int64} {y1 : OS} (hf : fX9_premises fu z p1 = some (r, y1)) : Met l yX9_premises wsX9_premises ({ frames := 2, cells := 0, slots := 0, locals := 46 }) (va_Pc [.ref (q 0), .int p1] (Pw D (gT cI cB cZ cO) (wM cI cB cZ q z) sz)) (Qw D (va_A (wM cI cB cZ q z) sz) (some (.long r)) (wM cI cB cZ q y1)) 0 0 (va_A (wM cI cB cZ q z) sz) := by
  unfold fX9_premises at hf
  refine metW (ret := (some .long)) (own := RX9) rfl (by decide) rfl (Nat.le_of_ble_eq_true rfl) (fun p e s m args below meth c ls A hx hb hr hml hown hlocks hts hK hA hP hD hS hl => ?_)
  have k46 := (hts (.fieldLink RX9 46 "ResolutionProverModel" "thrown" "I") (List.mem_of_getElem? (i := 1) rfl))
  have k32 := (hts (.fieldLink RX9 32 "ResolutionProverModel" "isIn" "[Z") (List.mem_of_getElem? (i := 2) rfl))
  have k9 := (hts (.fieldLink RX9 9 "ResolutionProverModel" "now" "[I") (List.mem_of_getElem? (i := 3) rfl))
  have hiX9 : ∀ w ∈ wsX90, w ∈ wsX9_premises := (memIn_p [24, 25, 26, 27, 28, 29, 30, 31, 32, 33, 34, 35, 36, 37, 38, 39, 40, 41, 42, 43, 44, 45, 46, 47, 48, 49, 50] rfl)
  have hl : lv_has ls 5 [(0, .ref (q 0)), (1, .int p1)] := hl
  refine lv_aload_n hx hb dX9_premises_0 rfl (lv_at hl 0 rfl) ?_
  refine lv_iconst (v := 0) hx hb dX9_premises_1 (by decide) ?_
  refine va_put (D := D) (ci := 8) (v := .int (0 : Int32)) (ty := .int) (C := RX9) (T := TX9) (N := 27) hx hb hts hiX9 tyX9 tyX9_ok nmX9 hown hK hP hD hS 0 rfl rfl 0 (by decide) k46 (fun _ h9 => h9) rfl (by decide +kernel) rfl rfl (Nat.le_of_ble_eq_true rfl) dX9_premises_2 (fun H locs hP hD hS => ?_)
  obtain ⟨z_1, ez_1, hf⟩ := nm_ob hf
  have hP : va_P D vwCl (wM cI cB cZ q z_1) H := by rw [ez_1]; exact hP
  have hD : va_D A (wM cI cB cZ q z_1) := by rw [ez_1]; exact hD
  refine lv_aload_n hx hb dX9_premises_5 rfl (lv_at hl 0 rfl) ?_
  refine lv_iload_n hx hb dX9_premises_6 rfl (lv_at hl 1 rfl) ?_
  obtain ⟨⟨r_2, z_3⟩, hc_5, hf⟩ := bd_ob hf
  have hf := nm_st hf
  have hf := nm_st hf
  refine weV (As := [.int p1]) (rest := []) ⟨hx, hb, hml, hown, hts⟩ (mX9_noClause l D cI cB cZ cO q _ fu z_1 p1 hc_5) (cwV 1 hts gX9_premises_X9_noClause rfl rfl rfl (by decide +kernel) ⟨Nat.le_of_ble_eq_true rfl, Nat.le_of_ble_eq_true rfl⟩) hK hP hD hS hA (va_recv hK hP (ci := 8) (q0 := 0) rfl rfl) rfl hl.1 rfl (Nat.le_of_ble_eq_true rfl) dX9_premises_7 ⟨Nat.zero_le _, Nat.zero_le _⟩ (fun H locs hP hD hS => ?_)
  refine lv_if_eq (tgt := 15) hx hb dX9_premises_10 (by decide) (fun c_10 => ?_) (fun c_10 => ?_)
  · have hf := ip c_10 hf
    refine lv_aload_n hx hb dX9_premises_15 rfl (lv_at hl 0 rfl) ?_
    refine lv_iload_n hx hb dX9_premises_16 rfl (lv_at hl 1 rfl) ?_
    obtain ⟨z_6, hc_7, hf⟩ := bd_ob hf
    refine weV (As := [.int p1]) (rest := []) ⟨hx, hb, hml, hown, hts⟩ (mX9_derives l D cI cB cZ cO q _ fu z_3 p1 hc_7) (cwV 1 hts gX9_premises_X9_derives rfl rfl rfl (by decide +kernel) ⟨Nat.le_of_ble_eq_true rfl, Nat.le_of_ble_eq_true rfl⟩) hK hP hD hS hA (va_recv hK hP (ci := 8) (q0 := 0) rfl rfl) rfl hl.1 rfl (Nat.le_of_ble_eq_true rfl) dX9_premises_17 ⟨Nat.zero_le _, Nat.zero_le _⟩ (fun H locs hP hD hS => ?_)
    refine lv_lconst (v := 0) hx hb dX9_premises_20 (by decide) ?_
    refine lv_lstore_n (lv' := [(2, .long (0 : Int64)), (0, .ref (q 0)), (1, .int p1)]) hx hb dX9_premises_21 rfl hl (by decide) rfl (fun ls hl => ?_)
    refine lv_iconst (v := 0) hx hb dX9_premises_22 (by decide) ?_
    refine lv_istore (lv' := [(4, .int (0 : Int32)), (2, .long (0 : Int64)), (0, .ref (q 0)), (1, .int p1)]) hx hb dX9_premises_23 hl (by decide) rfl (fun ls hl => ?_)
    obtain ⟨j76, ej76, hf⟩ := jn_ob hf
    have hp76 : ∀ (v2_76 : Int64) (H : Heap) (locs : List Loc) (ls : Array Slot), j76 v2_76 = some (r, y1) → va_P D vwCl (wM cI cB cZ q z_6) H → va_D A (wM cI cB cZ q z_6) → va_S A s.heap H locs → lv_has ls 5 [(2, .long v2_76)] → W p l e (headSpec wsX9_premises { frames := 2, cells := 0, slots := 0, locals := 46 }).room s m args below meth c H locs 0 0 (MQ below (Qw D A (some (.long r)) (wM cI cB cZ q y1)) args s 0 0 A) (F0 m 76 ls []) := by
      intro v2_76 H locs ls hf hP hD hS hl
      rw [ej76] at hf
      refine lv_lload_n hx hb dX9_premises_76 rfl (lv_at hl 0 rfl) ?_
      exact rW_l hx hb hr hlocks hP hD hS (congrArg (fun q9 => q9.1) (so_ob hf)) (congrArg (fun (q9 : Int64 × (OS)) => wM cI cB cZ q q9.2) (so_ob hf)) dX9_premises_77
    have hL25 : ∀ (n_25 : Nat) (v2_25 : Int64) (v4_25 : Int32) (H : Heap) (locs : List Loc) (ls : Array Slot), lX9_premises_25 fu z_6 j76 n_25 v2_25 v4_25 = some (r, y1) → va_P D vwCl (wM cI cB cZ q z_6) H → va_D A (wM cI cB cZ q z_6) → va_S A s.heap H locs → lv_has ls 5 [(0, .ref (q 0)), (2, .long v2_25), (4, .int v4_25)] → W p l e (headSpec wsX9_premises { frames := 2, cells := 0, slots := 0, locals := 46 }).room s m args below meth c H locs 0 0 (MQ below (Qw D A (some (.long r)) (wM cI cB cZ q y1)) args s 0 0 A) (F0 m 25 ls []) := by
      intro n_25
      induction n_25 with
      | zero =>
        intro v2_25 v4_25 H locs ls hf
        exact no_ob hf
      | succ n_25 ih25 =>
        intro v2_25 v4_25 H locs ls hf hP hD hS hl
        rw [lX9_premises_25] at hf
        refine lv_iload hx hb dX9_premises_25 (lv_at hl 2 rfl) ?_
        refine lv_aload_n hx hb dX9_premises_27 rfl (lv_at hl 0 rfl) ?_
        obtain ⟨r_8, hc_9, hf⟩ := bd_ob hf
        refine rdV (As := []) (rest := [.int v4_25]) ⟨hx, hb, hml, hown, hts⟩ (mX9_many l D cI cB cZ cO q fu z_6 hc_9) (cwV 0 hts gX9_premises_X9_many rfl rfl rfl (by decide +kernel) ⟨Nat.le_of_ble_eq_true rfl, Nat.le_of_ble_eq_true rfl⟩) hK hP (va_recv hK hP (ci := 8) (q0 := 0) rfl rfl) rfl hl.1 rfl (Nat.le_of_ble_eq_true rfl) dX9_premises_28 ⟨Nat.zero_le _, Nat.zero_le _⟩ ?_
        refine lv_icmp_ge (tgt := 76) hx hb dX9_premises_31 (by decide) (fun c_31 => ?_) (fun c_31 => ?_)
        · have hf := ip c_31 hf
          exact hp76 v2_25 _ _ _ hf hP hD hS (lv_sub hl [1] rfl)
        · have hf := iq c_31 hf
          refine lv_lload_n hx hb dX9_premises_34 rfl (lv_at hl 1 rfl) ?_
          refine lv_aload_n hx hb dX9_premises_35 rfl (lv_at hl 0 rfl) ?_
          refine va_get (D := D) (ci := 8) (v := .ref (q 8)) (C := RX9) (T := TX9) (N := 27) hx hb hts hiX9 hown hK hP 0 rfl rfl 11 (by decide) k32 (fun _ h9 => h9) rfl dX9_premises_36 ?_
          refine lv_iload hx hb dX9_premises_39 (lv_at hl 2 rfl) ?_
          obtain ⟨hi_, hf⟩ := gd_ob hf
          refine va_zald hx hb hK hP 8 2 rfl rfl (inB_in hi_) dX9_premises_41 ?_
          obtain ⟨j68, ej68, hf⟩ := jn_ob hf
          have hp68 : ∀ (t0_68 : Int64) (t1_68 : Int64) (H : Heap) (locs : List Loc) (ls : Array Slot), j68 t0_68 t1_68 = some (r, y1) → va_P D vwCl (wM cI cB cZ q z_6) H → va_D A (wM cI cB cZ q z_6) → va_S A s.heap H locs → lv_has ls 5 [(0, .ref (q 0)), (4, .int v4_25)] → W p l e (headSpec wsX9_premises { frames := 2, cells := 0, slots := 0, locals := 46 }).room s m args below meth c H locs 0 0 (MQ below (Qw D A (some (.long r)) (wM cI cB cZ q y1)) args s 0 0 A) (F0 m 68 ls [.long t1_68, .long t0_68]) := by
            intro t0_68 t1_68 H locs ls hf hP hD hS hl
            rw [ej68] at hf
            refine lv_lor hx hb dX9_premises_68 ?_
            obtain ⟨v2_10, ev2_10, hf⟩ := nm_ob hf
            refine lv_nml ev2_10 ?_
            refine lv_lstore_n (lv' := [(2, .long v2_10), (0, .ref (q 0)), (4, .int v4_25)]) hx hb dX9_premises_69 rfl hl (by decide) rfl (fun ls hl => ?_)
            obtain ⟨v4_11, ev4_11, hf⟩ := nm_ob hf
            refine lv_iinc (v := v4_11) (lv' := [(4, .int v4_11), (2, .long v2_10), (0, .ref (q 0))]) hx hb dX9_premises_70 hl (k := 2) rfl (by rw [ev4_11]; rfl) (by decide) rfl (fun ls hl => ?_)
            refine lv_goto (tgt := 25) hx hb dX9_premises_73 (by decide) ?_
            exact ih25 v2_10 v4_11 _ _ _ hf hP hD hS (lv_sub hl [2, 1, 0] rfl)
          obtain ⟨j67, ej67, hf⟩ := jn_ob hf
          have hp67 : ∀ (t0_67 : Int64) (H : Heap) (locs : List Loc) (ls : Array Slot), j67 t0_67 = some (r, y1) → va_P D vwCl (wM cI cB cZ q z_6) H → va_D A (wM cI cB cZ q z_6) → va_S A s.heap H locs → lv_has ls 5 [(0, .ref (q 0)), (4, .int v4_25)] → W p l e (headSpec wsX9_premises { frames := 2, cells := 0, slots := 0, locals := 46 }).room s m args below meth c H locs 0 0 (MQ below (Qw D A (some (.long r)) (wM cI cB cZ q y1)) args s 0 0 A) (F0 m 67 ls [.long t0_67]) := by
            intro t0_67 H locs ls hf hP hD hS hl
            rw [ej67] at hf
            refine lv_lconst (v := 0) hx hb dX9_premises_67 (by decide) ?_
            exact hp68 t0_67 (0 : Int64) _ _ _ hf hP hD hS hl
          refine lv_if_eq (tgt := 67) hx hb dX9_premises_42 (by decide) (fun c_42 => ?_) (fun c_42 => ?_)
          · have hf := ip c_42 hf
            exact hp67 v2_25 _ _ _ hf hP hD hS (lv_sub hl [0, 2] rfl)
          · have hf := iq c_42 hf
            refine lv_aload_n hx hb dX9_premises_45 rfl (lv_at hl 0 rfl) ?_
            refine va_get (D := D) (ci := 8) (v := .ref (q 1)) (C := RX9) (T := TX9) (N := 27) hx hb hts hiX9 hown hK hP 0 rfl rfl 1 (by decide) k9 (fun _ h9 => h9) rfl dX9_premises_46 ?_
            refine lv_sipush (v := 856) hx hb dX9_premises_49 (by decide) ?_
            refine lv_iload hx hb dX9_premises_52 (lv_at hl 2 rfl) ?_
            refine lv_iadd hx hb dX9_premises_54 ?_
            obtain ⟨hi_, hf⟩ := gd_ob hf
            refine va_iald hx hb hK hP 1 0 rfl rfl (inB_in hi_) dX9_premises_55 ?_
            refine lv_iconst (v := (-1)) hx hb dX9_premises_56 (by decide) ?_
            refine lv_icmp_ne (tgt := 67) hx hb dX9_premises_57 (by decide) (fun c_57 => ?_) (fun c_57 => ?_)
            · have hf := ip c_57 hf
              exact hp67 v2_25 _ _ _ hf hP hD hS (lv_sub hl [0, 2] rfl)
            · have hf := iqn c_57 hf
              refine lv_lconst (v := 1) hx hb dX9_premises_60 (by decide) ?_
              refine lv_iload hx hb dX9_premises_61 (lv_at hl 2 rfl) ?_
              refine lv_lshl hx hb dX9_premises_63 rfl ?_
              refine lv_goto (tgt := 68) hx hb dX9_premises_64 (by decide) ?_
              exact hp68 v2_25 ((1 : Int64) <<< ((v4_25).toInt64 &&& (63 : Int64))) _ _ _ hf hP hD hS (lv_sub hl [0, 2] rfl)
    exact hL25 fu (0 : Int64) (0 : Int32) _ _ _ hf hP hD hS (lv_sub hl [2, 1, 0] rfl)
  · have hf := iq c_10 hf
    refine lv_lconst (v := 0) hx hb dX9_premises_13 (by decide) ?_
    exact rW_l hx hb hr hlocks hP hD hS (congrArg (fun q9 => q9.1) (so_ob hf)) (congrArg (fun (q9 : Int64 × (OS)) => wM cI cB cZ q q9.2) (so_ob hf)) dX9_premises_14

def fX9_emptyClause (fu : Nat) (z : OS) : Option (Int32 × (OS)) :=
  nm (sI z 0 (0 : Int32)) (fun (z_1 : OS) => bd (fX9_empty fu z_1) (fun (r_2 : Int32) => some (r_2, z_1)))
set_option maxRecDepth 100000 in
set_option maxHeartbeats 4000000 in
theorem mX9_emptyClause (l : Launch) (D : va_G) (cI cB cZ cO : ClassId) (q : Nat → Nat) (sz : Nat) (fu : Nat) (z : OS) {r : Int32} {y1 : OS} (hf : fX9_emptyClause fu z = some (r, y1)) : Met l yX9_emptyClause wsX9_emptyClause ({ frames := 3, cells := 0, slots := 0, locals := 66 }) (va_Pc [.ref (q 0)] (Pw D (gT cI cB cZ cO) (wM cI cB cZ q z) sz)) (Qw D (va_A (wM cI cB cZ q z) sz) (some (.int r)) (wM cI cB cZ q y1)) 0 0 (va_A (wM cI cB cZ q z) sz) := by
  unfold fX9_emptyClause at hf
  refine metW (ret := (some .int)) (own := RX9) rfl (by decide) rfl (Nat.le_of_ble_eq_true rfl) (fun p e s m args below meth c ls A hx hb hr hml hown hlocks hts hK hA hP hD hS hl => ?_)
  have k46 := (hts (.fieldLink RX9 46 "ResolutionProverModel" "thrown" "I") (List.mem_of_getElem? (i := 1) rfl))
  have hiX9 : ∀ w ∈ wsX90, w ∈ wsX9_emptyClause := (memIn_p [24, 25, 26, 27, 28, 29, 30, 31, 32, 33, 34, 35, 36, 37, 38, 39, 40, 41, 42, 43, 44, 45, 46, 47, 48, 49, 50] rfl)
  have hl : lv_has ls 1 [(0, .ref (q 0))] := hl
  refine lv_aload_n hx hb dX9_emptyClause_0 rfl (lv_at hl 0 rfl) ?_
  refine lv_iconst (v := 0) hx hb dX9_emptyClause_1 (by decide) ?_
  refine va_put (D := D) (ci := 8) (v := .int (0 : Int32)) (ty := .int) (C := RX9) (T := TX9) (N := 27) hx hb hts hiX9 tyX9 tyX9_ok nmX9 hown hK hP hD hS 0 rfl rfl 0 (by decide) k46 (fun _ h9 => h9) rfl (by decide +kernel) rfl rfl (Nat.le_of_ble_eq_true rfl) dX9_emptyClause_2 (fun H locs hP hD hS => ?_)
  obtain ⟨z_1, ez_1, hf⟩ := nm_ob hf
  have hP : va_P D vwCl (wM cI cB cZ q z_1) H := by rw [ez_1]; exact hP
  have hD : va_D A (wM cI cB cZ q z_1) := by rw [ez_1]; exact hD
  refine lv_aload_n hx hb dX9_emptyClause_5 rfl (lv_at hl 0 rfl) ?_
  obtain ⟨r_2, hc_3, hf⟩ := bd_ob hf
  refine rdV (As := []) (rest := []) ⟨hx, hb, hml, hown, hts⟩ (mX9_empty l D cI cB cZ cO q fu z_1 hc_3) (cwV 0 hts gX9_emptyClause_X9_empty rfl rfl rfl (by decide +kernel) ⟨Nat.le_of_ble_eq_true rfl, Nat.le_of_ble_eq_true rfl⟩) hK hP (va_recv hK hP (ci := 8) (q0 := 0) rfl rfl) rfl hl.1 rfl (Nat.le_of_ble_eq_true rfl) dX9_emptyClause_6 ⟨Nat.zero_le _, Nat.zero_le _⟩ ?_
  exact rW_i hx hb hr hlocks hP hD hS (congrArg (fun q9 => q9.1) (so_ob hf)) (congrArg (fun (q9 : Int32 × (OS)) => wM cI cB cZ q q9.2) (so_ob hf)) dX9_emptyClause_9

def lX9_clausesOfSize_9 (fu : Nat) (p1 : Int32) (z_1 : OS) (j40 : Int32 → Option (Int32 × (OS))) : Nat → Int32 → Int32 → Option (Int32 × (OS))
  | 0, _, _ => none
  | n_9 + 1, v2_9, v3_9 => bd (fX9_many fu z_1) (fun (r_2 : Int32) => (if r_2 ≤ v3_9 then j40 v2_9 else bd (fX9_literals fu z_1 v3_9) (fun (r_4 : Int32) => jn (κ := Int32 → Int32 → Option (Int32 × (OS))) (fun (t0_32 : Int32) (t1_32 : Int32) => nm (t0_32 + t1_32) (fun (v2_6 : Int32) => nm (v3_9 + (1 : Int32)) (fun (v3_7 : Int32) => lX9_clausesOfSize_9 fu p1 z_1 j40 n_9 v2_6 v3_7))) (fun j32 => (if ¬ r_4 = p1 then j32 v2_9 (0 : Int32) else j32 v2_9 (1 : Int32))))))
def fX9_clausesOfSize (fu : Nat) (z : OS) (p1 : Int32) : Option (Int32 × (OS)) :=
  nm (sI z 0 (0 : Int32)) (fun (z_1 : OS) => jn (κ := Int32 → Option (Int32 × (OS))) (fun (v2_40 : Int32) => some (v2_40, z_1)) (fun j40 => lX9_clausesOfSize_9 fu p1 z_1 j40 fu (0 : Int32) (0 : Int32)))
set_option maxRecDepth 100000 in
set_option maxHeartbeats 4000000 in
theorem mX9_clausesOfSize (l : Launch) (D : va_G) (cI cB cZ cO : ClassId) (q : Nat → Nat) (sz : Nat) (fu : Nat) (z : OS) (p1 : Int32) {r : Int32} {y1 : OS} (hf : fX9_clausesOfSize fu z p1 = some (r, y1)) : Met l yX9_clausesOfSize wsX9_clausesOfSize ({ frames := 2, cells := 0, slots := 0, locals := 45 }) (va_Pc [.ref (q 0), .int p1] (Pw D (gT cI cB cZ cO) (wM cI cB cZ q z) sz)) (Qw D (va_A (wM cI cB cZ q z) sz) (some (.int r)) (wM cI cB cZ q y1)) 0 0 (va_A (wM cI cB cZ q z) sz) := by
  unfold fX9_clausesOfSize at hf
  refine metW (ret := (some .int)) (own := RX9) rfl (by decide) rfl (Nat.le_of_ble_eq_true rfl) (fun p e s m args below meth c ls A hx hb hr hml hown hlocks hts hK hA hP hD hS hl => ?_)
  have k46 := (hts (.fieldLink RX9 46 "ResolutionProverModel" "thrown" "I") (List.mem_of_getElem? (i := 1) rfl))
  have hiX9 : ∀ w ∈ wsX90, w ∈ wsX9_clausesOfSize := (memIn_p [20, 21, 22, 23, 24, 25, 26, 27, 28, 29, 30, 31, 32, 33, 34, 35, 36, 37, 38, 39, 40, 41, 42, 43, 44, 45, 46] rfl)
  have hl : lv_has ls 4 [(0, .ref (q 0)), (1, .int p1)] := hl
  refine lv_aload_n hx hb dX9_clausesOfSize_0 rfl (lv_at hl 0 rfl) ?_
  refine lv_iconst (v := 0) hx hb dX9_clausesOfSize_1 (by decide) ?_
  refine va_put (D := D) (ci := 8) (v := .int (0 : Int32)) (ty := .int) (C := RX9) (T := TX9) (N := 27) hx hb hts hiX9 tyX9 tyX9_ok nmX9 hown hK hP hD hS 0 rfl rfl 0 (by decide) k46 (fun _ h9 => h9) rfl (by decide +kernel) rfl rfl (Nat.le_of_ble_eq_true rfl) dX9_clausesOfSize_2 (fun H locs hP hD hS => ?_)
  obtain ⟨z_1, ez_1, hf⟩ := nm_ob hf
  have hP : va_P D vwCl (wM cI cB cZ q z_1) H := by rw [ez_1]; exact hP
  have hD : va_D A (wM cI cB cZ q z_1) := by rw [ez_1]; exact hD
  refine lv_iconst (v := 0) hx hb dX9_clausesOfSize_5 (by decide) ?_
  refine lv_istore_n (lv' := [(2, .int (0 : Int32)), (0, .ref (q 0)), (1, .int p1)]) hx hb dX9_clausesOfSize_6 rfl hl (by decide) rfl (fun ls hl => ?_)
  refine lv_iconst (v := 0) hx hb dX9_clausesOfSize_7 (by decide) ?_
  refine lv_istore_n (lv' := [(3, .int (0 : Int32)), (2, .int (0 : Int32)), (0, .ref (q 0)), (1, .int p1)]) hx hb dX9_clausesOfSize_8 rfl hl (by decide) rfl (fun ls hl => ?_)
  obtain ⟨j40, ej40, hf⟩ := jn_ob hf
  have hp40 : ∀ (v2_40 : Int32) (H : Heap) (locs : List Loc) (ls : Array Slot), j40 v2_40 = some (r, y1) → va_P D vwCl (wM cI cB cZ q z_1) H → va_D A (wM cI cB cZ q z_1) → va_S A s.heap H locs → lv_has ls 4 [(2, .int v2_40)] → W p l e (headSpec wsX9_clausesOfSize { frames := 2, cells := 0, slots := 0, locals := 45 }).room s m args below meth c H locs 0 0 (MQ below (Qw D A (some (.int r)) (wM cI cB cZ q y1)) args s 0 0 A) (F0 m 40 ls []) := by
    intro v2_40 H locs ls hf hP hD hS hl
    rw [ej40] at hf
    refine lv_iload_n hx hb dX9_clausesOfSize_40 rfl (lv_at hl 0 rfl) ?_
    exact rW_i hx hb hr hlocks hP hD hS (congrArg (fun q9 => q9.1) (so_ob hf)) (congrArg (fun (q9 : Int32 × (OS)) => wM cI cB cZ q q9.2) (so_ob hf)) dX9_clausesOfSize_41
  have hL9 : ∀ (n_9 : Nat) (v2_9 : Int32) (v3_9 : Int32) (H : Heap) (locs : List Loc) (ls : Array Slot), lX9_clausesOfSize_9 fu p1 z_1 j40 n_9 v2_9 v3_9 = some (r, y1) → va_P D vwCl (wM cI cB cZ q z_1) H → va_D A (wM cI cB cZ q z_1) → va_S A s.heap H locs → lv_has ls 4 [(0, .ref (q 0)), (1, .int p1), (2, .int v2_9), (3, .int v3_9)] → W p l e (headSpec wsX9_clausesOfSize { frames := 2, cells := 0, slots := 0, locals := 45 }).room s m args below meth c H locs 0 0 (MQ below (Qw D A (some (.int r)) (wM cI cB cZ q y1)) args s 0 0 A) (F0 m 9 ls []) := by
    intro n_9
    induction n_9 with
    | zero =>
      intro v2_9 v3_9 H locs ls hf
      exact no_ob hf
    | succ n_9 ih9 =>
      intro v2_9 v3_9 H locs ls hf hP hD hS hl
      rw [lX9_clausesOfSize_9] at hf
      refine lv_iload_n hx hb dX9_clausesOfSize_9 rfl (lv_at hl 3 rfl) ?_
      refine lv_aload_n hx hb dX9_clausesOfSize_10 rfl (lv_at hl 0 rfl) ?_
      obtain ⟨r_2, hc_3, hf⟩ := bd_ob hf
      refine rdV (As := []) (rest := [.int v3_9]) ⟨hx, hb, hml, hown, hts⟩ (mX9_many l D cI cB cZ cO q fu z_1 hc_3) (cwV 0 hts gX9_clausesOfSize_X9_many rfl rfl rfl (by decide +kernel) ⟨Nat.le_of_ble_eq_true rfl, Nat.le_of_ble_eq_true rfl⟩) hK hP (va_recv hK hP (ci := 8) (q0 := 0) rfl rfl) rfl hl.1 rfl (Nat.le_of_ble_eq_true rfl) dX9_clausesOfSize_11 ⟨Nat.zero_le _, Nat.zero_le _⟩ ?_
      refine lv_icmp_ge (tgt := 40) hx hb dX9_clausesOfSize_14 (by decide) (fun c_14 => ?_) (fun c_14 => ?_)
      · have hf := ip c_14 hf
        exact hp40 v2_9 _ _ _ hf hP hD hS (lv_sub hl [2] rfl)
      · have hf := iq c_14 hf
        refine lv_iload_n hx hb dX9_clausesOfSize_17 rfl (lv_at hl 2 rfl) ?_
        refine lv_aload_n hx hb dX9_clausesOfSize_18 rfl (lv_at hl 0 rfl) ?_
        refine lv_iload_n hx hb dX9_clausesOfSize_19 rfl (lv_at hl 3 rfl) ?_
        obtain ⟨r_4, hc_5, hf⟩ := bd_ob hf
        refine rdV (As := [.int v3_9]) (rest := [.int v2_9]) ⟨hx, hb, hml, hown, hts⟩ (mX9_literals l D cI cB cZ cO q fu z_1 v3_9 hc_5) (cwV 1 hts gX9_clausesOfSize_X9_literals rfl rfl rfl (by decide +kernel) ⟨Nat.le_of_ble_eq_true rfl, Nat.le_of_ble_eq_true rfl⟩) hK hP (va_recv hK hP (ci := 8) (q0 := 0) rfl rfl) rfl hl.1 rfl (Nat.le_of_ble_eq_true rfl) dX9_clausesOfSize_20 ⟨Nat.zero_le _, Nat.zero_le _⟩ ?_
        refine lv_iload_n hx hb dX9_clausesOfSize_23 rfl (lv_at hl 1 rfl) ?_
        obtain ⟨j32, ej32, hf⟩ := jn_ob hf
        have hp32 : ∀ (t0_32 : Int32) (t1_32 : Int32) (H : Heap) (locs : List Loc) (ls : Array Slot), j32 t0_32 t1_32 = some (r, y1) → va_P D vwCl (wM cI cB cZ q z_1) H → va_D A (wM cI cB cZ q z_1) → va_S A s.heap H locs → lv_has ls 4 [(0, .ref (q 0)), (1, .int p1), (3, .int v3_9)] → W p l e (headSpec wsX9_clausesOfSize { frames := 2, cells := 0, slots := 0, locals := 45 }).room s m args below meth c H locs 0 0 (MQ below (Qw D A (some (.int r)) (wM cI cB cZ q y1)) args s 0 0 A) (F0 m 32 ls [.int t1_32, .int t0_32]) := by
          intro t0_32 t1_32 H locs ls hf hP hD hS hl
          rw [ej32] at hf
          refine lv_iadd hx hb dX9_clausesOfSize_32 ?_
          obtain ⟨v2_6, ev2_6, hf⟩ := nm_ob hf
          refine lv_nmi ev2_6 ?_
          refine lv_istore_n (lv' := [(2, .int v2_6), (0, .ref (q 0)), (1, .int p1), (3, .int v3_9)]) hx hb dX9_clausesOfSize_33 rfl hl (by decide) rfl (fun ls hl => ?_)
          obtain ⟨v3_7, ev3_7, hf⟩ := nm_ob hf
          refine lv_iinc (v := v3_7) (lv' := [(3, .int v3_7), (2, .int v2_6), (0, .ref (q 0)), (1, .int p1)]) hx hb dX9_clausesOfSize_34 hl (k := 3) rfl (by rw [ev3_7]; rfl) (by decide) rfl (fun ls hl => ?_)
          refine lv_goto (tgt := 9) hx hb dX9_clausesOfSize_37 (by decide) ?_
          exact ih9 v2_6 v3_7 _ _ _ hf hP hD hS (lv_sub hl [2, 3, 1, 0] rfl)
        refine lv_icmp_ne (tgt := 31) hx hb dX9_clausesOfSize_24 (by decide) (fun c_24 => ?_) (fun c_24 => ?_)
        · have hf := ip c_24 hf
          refine lv_iconst (v := 0) hx hb dX9_clausesOfSize_31 (by decide) ?_
          exact hp32 v2_9 (0 : Int32) _ _ _ hf hP hD hS (lv_sub hl [0, 1, 3] rfl)
        · have hf := iqn c_24 hf
          refine lv_iconst (v := 1) hx hb dX9_clausesOfSize_27 (by decide) ?_
          refine lv_goto (tgt := 32) hx hb dX9_clausesOfSize_28 (by decide) ?_
          exact hp32 v2_9 (1 : Int32) _ _ _ hf hP hD hS (lv_sub hl [0, 1, 3] rfl)
  exact hL9 fu (0 : Int32) (0 : Int32) _ _ _ hf hP hD hS (lv_sub hl [2, 3, 1, 0] rfl)

def lX9_hornClauses_9 (fu : Nat) (z_1 : OS) (j44 : Int32 → Option (Int32 × (OS))) : Nat → Int32 → Int32 → Option (Int32 × (OS))
  | 0, _, _ => none
  | n_9 + 1, v1_9, v2_9 => bd (fX9_many fu z_1) (fun (r_2 : Int32) => (if r_2 ≤ v2_9 then j44 v1_9 else bd (fX9_mask fu z_1 v2_9 (1 : Int32)) (fun (r_4 : Int32) => bd (fJ6_bitCount_0f7a4 fu r_4) (fun (r_6 : Int32) => jn (κ := Int32 → Int32 → Option (Int32 × (OS))) (fun (t0_36 : Int32) (t1_36 : Int32) => nm (t0_36 + t1_36) (fun (v1_8 : Int32) => nm (v2_9 + (1 : Int32)) (fun (v2_9 : Int32) => lX9_hornClauses_9 fu z_1 j44 n_9 v1_8 v2_9))) (fun j36 => (if (1 : Int32) < r_6 then j36 v1_9 (0 : Int32) else j36 v1_9 (1 : Int32)))))))
def fX9_hornClauses (fu : Nat) (z : OS) : Option (Int32 × (OS)) :=
  nm (sI z 0 (0 : Int32)) (fun (z_1 : OS) => jn (κ := Int32 → Option (Int32 × (OS))) (fun (v1_44 : Int32) => some (v1_44, z_1)) (fun j44 => lX9_hornClauses_9 fu z_1 j44 fu (0 : Int32) (0 : Int32)))
set_option maxRecDepth 100000 in
set_option maxHeartbeats 4000000 in
theorem mX9_hornClauses (l : Launch) (D : va_G) (cI cB cZ cO : ClassId) (q : Nat → Nat) (sz : Nat) (fu : Nat) (z : OS) {r : Int32} {y1 : OS} (hf : fX9_hornClauses fu z = some (r, y1)) : Met l yX9_hornClauses wsX9_hornClauses ({ frames := 2, cells := 0, slots := 0, locals := 46 }) (va_Pc [.ref (q 0)] (Pw D (gT cI cB cZ cO) (wM cI cB cZ q z) sz)) (Qw D (va_A (wM cI cB cZ q z) sz) (some (.int r)) (wM cI cB cZ q y1)) 0 0 (va_A (wM cI cB cZ q z) sz) := by
  unfold fX9_hornClauses at hf
  refine metW (ret := (some .int)) (own := RX9) rfl (by decide) rfl (Nat.le_of_ble_eq_true rfl) (fun p e s m args below meth c ls A hx hb hr hml hown hlocks hts hK hA hP hD hS hl => ?_)
  have k46 := (hts (.fieldLink RX9 46 "ResolutionProverModel" "thrown" "I") (List.mem_of_getElem? (i := 1) rfl))
  have hiX9 : ∀ w ∈ wsX90, w ∈ wsX9_hornClauses := (memIn_p [27, 28, 29, 30, 31, 32, 33, 34, 35, 36, 37, 38, 39, 40, 41, 42, 43, 44, 45, 46, 47, 48, 49, 50, 51, 52, 53] rfl)
  have hl : lv_has ls 3 [(0, .ref (q 0))] := hl
  refine lv_aload_n hx hb dX9_hornClauses_0 rfl (lv_at hl 0 rfl) ?_
  refine lv_iconst (v := 0) hx hb dX9_hornClauses_1 (by decide) ?_
  refine va_put (D := D) (ci := 8) (v := .int (0 : Int32)) (ty := .int) (C := RX9) (T := TX9) (N := 27) hx hb hts hiX9 tyX9 tyX9_ok nmX9 hown hK hP hD hS 0 rfl rfl 0 (by decide) k46 (fun _ h9 => h9) rfl (by decide +kernel) rfl rfl (Nat.le_of_ble_eq_true rfl) dX9_hornClauses_2 (fun H locs hP hD hS => ?_)
  obtain ⟨z_1, ez_1, hf⟩ := nm_ob hf
  have hP : va_P D vwCl (wM cI cB cZ q z_1) H := by rw [ez_1]; exact hP
  have hD : va_D A (wM cI cB cZ q z_1) := by rw [ez_1]; exact hD
  refine lv_iconst (v := 0) hx hb dX9_hornClauses_5 (by decide) ?_
  refine lv_istore_n (lv' := [(1, .int (0 : Int32)), (0, .ref (q 0))]) hx hb dX9_hornClauses_6 rfl hl (by decide) rfl (fun ls hl => ?_)
  refine lv_iconst (v := 0) hx hb dX9_hornClauses_7 (by decide) ?_
  refine lv_istore_n (lv' := [(2, .int (0 : Int32)), (1, .int (0 : Int32)), (0, .ref (q 0))]) hx hb dX9_hornClauses_8 rfl hl (by decide) rfl (fun ls hl => ?_)
  obtain ⟨j44, ej44, hf⟩ := jn_ob hf
  have hp44 : ∀ (v1_44 : Int32) (H : Heap) (locs : List Loc) (ls : Array Slot), j44 v1_44 = some (r, y1) → va_P D vwCl (wM cI cB cZ q z_1) H → va_D A (wM cI cB cZ q z_1) → va_S A s.heap H locs → lv_has ls 3 [(1, .int v1_44)] → W p l e (headSpec wsX9_hornClauses { frames := 2, cells := 0, slots := 0, locals := 46 }).room s m args below meth c H locs 0 0 (MQ below (Qw D A (some (.int r)) (wM cI cB cZ q y1)) args s 0 0 A) (F0 m 44 ls []) := by
    intro v1_44 H locs ls hf hP hD hS hl
    rw [ej44] at hf
    refine lv_iload_n hx hb dX9_hornClauses_44 rfl (lv_at hl 0 rfl) ?_
    exact rW_i hx hb hr hlocks hP hD hS (congrArg (fun q9 => q9.1) (so_ob hf)) (congrArg (fun (q9 : Int32 × (OS)) => wM cI cB cZ q q9.2) (so_ob hf)) dX9_hornClauses_45
  have hL9 : ∀ (n_9 : Nat) (v1_9 : Int32) (v2_9 : Int32) (H : Heap) (locs : List Loc) (ls : Array Slot), lX9_hornClauses_9 fu z_1 j44 n_9 v1_9 v2_9 = some (r, y1) → va_P D vwCl (wM cI cB cZ q z_1) H → va_D A (wM cI cB cZ q z_1) → va_S A s.heap H locs → lv_has ls 3 [(0, .ref (q 0)), (1, .int v1_9), (2, .int v2_9)] → W p l e (headSpec wsX9_hornClauses { frames := 2, cells := 0, slots := 0, locals := 46 }).room s m args below meth c H locs 0 0 (MQ below (Qw D A (some (.int r)) (wM cI cB cZ q y1)) args s 0 0 A) (F0 m 9 ls []) := by
    intro n_9
    induction n_9 with
    | zero =>
      intro v1_9 v2_9 H locs ls hf
      exact no_ob hf
    | succ n_9 ih9 =>
      intro v1_9 v2_9 H locs ls hf hP hD hS hl
      rw [lX9_hornClauses_9] at hf
      refine lv_iload_n hx hb dX9_hornClauses_9 rfl (lv_at hl 2 rfl) ?_
      refine lv_aload_n hx hb dX9_hornClauses_10 rfl (lv_at hl 0 rfl) ?_
      obtain ⟨r_2, hc_3, hf⟩ := bd_ob hf
      refine rdV (As := []) (rest := [.int v2_9]) ⟨hx, hb, hml, hown, hts⟩ (mX9_many l D cI cB cZ cO q fu z_1 hc_3) (cwV 0 hts gX9_hornClauses_X9_many rfl rfl rfl (by decide +kernel) ⟨Nat.le_of_ble_eq_true rfl, Nat.le_of_ble_eq_true rfl⟩) hK hP (va_recv hK hP (ci := 8) (q0 := 0) rfl rfl) rfl hl.1 rfl (Nat.le_of_ble_eq_true rfl) dX9_hornClauses_11 ⟨Nat.zero_le _, Nat.zero_le _⟩ ?_
      refine lv_icmp_ge (tgt := 44) hx hb dX9_hornClauses_14 (by decide) (fun c_14 => ?_) (fun c_14 => ?_)
      · have hf := ip c_14 hf
        exact hp44 v1_9 _ _ _ hf hP hD hS (lv_sub hl [1] rfl)
      · have hf := iq c_14 hf
        refine lv_iload_n hx hb dX9_hornClauses_17 rfl (lv_at hl 1 rfl) ?_
        refine lv_aload_n hx hb dX9_hornClauses_18 rfl (lv_at hl 0 rfl) ?_
        refine lv_iload_n hx hb dX9_hornClauses_19 rfl (lv_at hl 2 rfl) ?_
        refine lv_iconst (v := 1) hx hb dX9_hornClauses_20 (by decide) ?_
        obtain ⟨r_4, hc_5, hf⟩ := bd_ob hf
        refine rdV (As := [.int v2_9, .int (1 : Int32)]) (rest := [.int v1_9]) ⟨hx, hb, hml, hown, hts⟩ (mX9_mask l D cI cB cZ cO q fu z_1 v2_9 (1 : Int32) hc_5) (cwV 2 hts gX9_hornClauses_X9_mask rfl rfl rfl (by decide +kernel) ⟨Nat.le_of_ble_eq_true rfl, Nat.le_of_ble_eq_true rfl⟩) hK hP (va_recv hK hP (ci := 8) (q0 := 0) rfl rfl) rfl hl.1 rfl (Nat.le_of_ble_eq_true rfl) dX9_hornClauses_21 ⟨Nat.zero_le _, Nat.zero_le _⟩ ?_
        obtain ⟨r_6, hc_7, hf⟩ := bd_ob hf
        refine rdN (As := [.int r_4]) (rest := [.int v1_9]) ⟨hx, hb, hml, hown, hts⟩ (mJ6_bitCount_0f7a4 l D cI cB cZ cO fu r_4 hc_7) (va_cwS 1 hts gX9_hornClauses_J6_bitCount_0f7a4 rfl rfl rfl (by decide +kernel) ⟨Nat.le_of_ble_eq_true rfl, Nat.le_of_ble_eq_true rfl⟩) rfl hl.1 rfl (Nat.le_of_ble_eq_true rfl) dX9_hornClauses_24 ⟨Nat.zero_le _, Nat.zero_le _⟩ ?_
        refine lv_iconst (v := 1) hx hb dX9_hornClauses_27 (by decide) ?_
        obtain ⟨j36, ej36, hf⟩ := jn_ob hf
        have hp36 : ∀ (t0_36 : Int32) (t1_36 : Int32) (H : Heap) (locs : List Loc) (ls : Array Slot), j36 t0_36 t1_36 = some (r, y1) → va_P D vwCl (wM cI cB cZ q z_1) H → va_D A (wM cI cB cZ q z_1) → va_S A s.heap H locs → lv_has ls 3 [(0, .ref (q 0)), (2, .int v2_9)] → W p l e (headSpec wsX9_hornClauses { frames := 2, cells := 0, slots := 0, locals := 46 }).room s m args below meth c H locs 0 0 (MQ below (Qw D A (some (.int r)) (wM cI cB cZ q y1)) args s 0 0 A) (F0 m 36 ls [.int t1_36, .int t0_36]) := by
          intro t0_36 t1_36 H locs ls hf hP hD hS hl
          rw [ej36] at hf
          refine lv_iadd hx hb dX9_hornClauses_36 ?_
          obtain ⟨v1_8, ev1_8, hf⟩ := nm_ob hf
          refine lv_nmi ev1_8 ?_
          refine lv_istore_n (lv' := [(1, .int v1_8), (0, .ref (q 0)), (2, .int v2_9)]) hx hb dX9_hornClauses_37 rfl hl (by decide) rfl (fun ls hl => ?_)
          obtain ⟨v2_9, ev2_9, hf⟩ := nm_ob hf
          refine lv_iinc (v := v2_9) (lv' := [(2, .int v2_9), (1, .int v1_8), (0, .ref (q 0))]) hx hb dX9_hornClauses_38 hl (k := 2) rfl (by rw [ev2_9]; rfl) (by decide) rfl (fun ls hl => ?_)
          refine lv_goto (tgt := 9) hx hb dX9_hornClauses_41 (by decide) ?_
          exact ih9 v1_8 v2_9 _ _ _ hf hP hD hS (lv_sub hl [2, 1, 0] rfl)
        refine lv_icmp_gt (tgt := 35) hx hb dX9_hornClauses_28 (by decide) (fun c_28 => ?_) (fun c_28 => ?_)
        · have hf := ip c_28 hf
          refine lv_iconst (v := 0) hx hb dX9_hornClauses_35 (by decide) ?_
          exact hp36 v1_9 (0 : Int32) _ _ _ hf hP hD hS (lv_sub hl [0, 2] rfl)
        · have hf := iq c_28 hf
          refine lv_iconst (v := 1) hx hb dX9_hornClauses_31 (by decide) ?_
          refine lv_goto (tgt := 36) hx hb dX9_hornClauses_32 (by decide) ?_
          exact hp36 v1_9 (1 : Int32) _ _ _ hf hP hD hS (lv_sub hl [0, 2] rfl)
  exact hL9 fu (0 : Int32) (0 : Int32) _ _ _ hf hP hD hS (lv_sub hl [2, 1, 0] rfl)

def lX9_often_5 (fu : Nat) (z : OS) (p1 : Int32) (p2 : Int32) (j39 : Int32 → Option (Int32)) : Nat → Int32 → Int32 → Option (Int32)
  | 0, _, _ => none
  | n_5 + 1, v3_5, v4_5 => bd (fX9_many fu z) (fun (r_1 : Int32) => (if r_1 ≤ v4_5 then j39 v3_5 else bd (fX9_sign fu z v4_5 p1) (fun (r_3 : Int32) => jn (κ := Int32 → Int32 → Option (Int32)) (fun (t0_31 : Int32) (t1_31 : Int32) => nm (t0_31 + t1_31) (fun (v3_5 : Int32) => nm (v4_5 + (1 : Int32)) (fun (v4_6 : Int32) => lX9_often_5 fu z p1 p2 j39 n_5 v3_5 v4_6))) (fun j31 => (if ¬ r_3 = p2 then j31 v3_5 (0 : Int32) else j31 v3_5 (1 : Int32))))))
def fX9_often (fu : Nat) (z : OS) (p1 : Int32) (p2 : Int32) : Option (Int32) :=
  jn (κ := Int32 → Option (Int32)) (fun (v3_39 : Int32) => some v3_39) (fun j39 => lX9_often_5 fu z p1 p2 j39 fu (0 : Int32) (0 : Int32))
set_option maxRecDepth 100000 in
set_option maxHeartbeats 4000000 in
theorem mX9_often (l : Launch) (D : va_G) (cI cB cZ cO : ClassId) (q : Nat → Nat) (fu : Nat) (z : OS) (p1 : Int32) (p2 : Int32) {r : Int32} (hf : fX9_often fu z p1 p2 = some r) : Met l yX9_often wsX9_often ({ frames := 1, cells := 0, slots := 0, locals := 22 }) (va_Pc [.ref (q 0), .int p1, .int p2] (Pr D (gT cI cB cZ cO) (wM cI cB cZ q z))) (Qr (some (.int r))) 0 0 (fun _ => False) := by
  unfold fX9_often at hf
  refine metR (ret := (some .int)) (own := RX9) rfl (by decide) rfl (Nat.le_of_ble_eq_true rfl) (fun p e s m args below meth c ls hx hb hr hml hown hlocks hts hP hK hl => ?_)
  have hl : lv_has ls 5 [(0, .ref (q 0)), (1, .int p1), (2, .int p2)] := hl
  refine lv_iconst (v := 0) hx hb dX9_often_0 (by decide) ?_
  refine lv_istore_n (lv' := [(3, .int (0 : Int32)), (0, .ref (q 0)), (1, .int p1), (2, .int p2)]) hx hb dX9_often_1 rfl hl (by decide) rfl (fun ls hl => ?_)
  refine lv_iconst (v := 0) hx hb dX9_often_2 (by decide) ?_
  refine lv_istore (lv' := [(4, .int (0 : Int32)), (3, .int (0 : Int32)), (0, .ref (q 0)), (1, .int p1), (2, .int p2)]) hx hb dX9_often_3 hl (by decide) rfl (fun ls hl => ?_)
  obtain ⟨j39, ej39, hf⟩ := jn_ob hf
  have hp39 : ∀ (v3_39 : Int32) (ls : Array Slot), j39 v3_39 = some r → lv_has ls 5 [(3, .int v3_39)] → W p l e (headSpec wsX9_often { frames := 1, cells := 0, slots := 0, locals := 22 }).room s m args below meth c s.heap [] 0 0 (MQ below (Qr (some (.int r))) args s 0 0 (fun _ => False)) (F0 m 39 ls []) := by
    intro v3_39 ls hf hl
    rw [ej39] at hf
    refine lv_iload_n hx hb dX9_often_39 rfl (lv_at hl 0 rfl) ?_
    exact rR_i hx hb hr hlocks (so_ob hf) dX9_often_40
  have hL5 : ∀ (n_5 : Nat) (v3_5 : Int32) (v4_5 : Int32) (ls : Array Slot), lX9_often_5 fu z p1 p2 j39 n_5 v3_5 v4_5 = some r → lv_has ls 5 [(0, .ref (q 0)), (1, .int p1), (2, .int p2), (3, .int v3_5), (4, .int v4_5)] → W p l e (headSpec wsX9_often { frames := 1, cells := 0, slots := 0, locals := 22 }).room s m args below meth c s.heap [] 0 0 (MQ below (Qr (some (.int r))) args s 0 0 (fun _ => False)) (F0 m 5 ls []) := by
    intro n_5
    induction n_5 with
    | zero =>
      intro v3_5 v4_5 ls hf
      exact no_ob hf
    | succ n_5 ih5 =>
      intro v3_5 v4_5 ls hf hl
      rw [lX9_often_5] at hf
      refine lv_iload hx hb dX9_often_5 (lv_at hl 4 rfl) ?_
      refine lv_aload_n hx hb dX9_often_7 rfl (lv_at hl 0 rfl) ?_
      obtain ⟨r_1, hc_2, hf⟩ := bd_ob hf
      refine rdV (As := []) (rest := [.int v4_5]) ⟨hx, hb, hml, hown, hts⟩ (mX9_many l D cI cB cZ cO q fu z hc_2) (cwV 0 hts gX9_often_X9_many rfl rfl rfl (by decide +kernel) ⟨Nat.le_of_ble_eq_true rfl, Nat.le_of_ble_eq_true rfl⟩) hK hP (va_recv hK hP (ci := 8) (q0 := 0) rfl rfl) rfl hl.1 rfl (Nat.le_of_ble_eq_true rfl) dX9_often_8 ⟨Nat.zero_le _, Nat.zero_le _⟩ ?_
      refine lv_icmp_ge (tgt := 39) hx hb dX9_often_11 (by decide) (fun c_11 => ?_) (fun c_11 => ?_)
      · have hf := ip c_11 hf
        exact hp39 v3_5 _ hf (lv_sub hl [3] rfl)
      · have hf := iq c_11 hf
        refine lv_iload_n hx hb dX9_often_14 rfl (lv_at hl 3 rfl) ?_
        refine lv_aload_n hx hb dX9_often_15 rfl (lv_at hl 0 rfl) ?_
        refine lv_iload hx hb dX9_often_16 (lv_at hl 4 rfl) ?_
        refine lv_iload_n hx hb dX9_often_18 rfl (lv_at hl 1 rfl) ?_
        obtain ⟨r_3, hc_4, hf⟩ := bd_ob hf
        refine rdV (As := [.int v4_5, .int p1]) (rest := [.int v3_5]) ⟨hx, hb, hml, hown, hts⟩ (mX9_sign l D cI cB cZ cO q fu z v4_5 p1 hc_4) (cwV 2 hts gX9_often_X9_sign rfl rfl rfl (by decide +kernel) ⟨Nat.le_of_ble_eq_true rfl, Nat.le_of_ble_eq_true rfl⟩) hK hP (va_recv hK hP (ci := 8) (q0 := 0) rfl rfl) rfl hl.1 rfl (Nat.le_of_ble_eq_true rfl) dX9_often_19 ⟨Nat.zero_le _, Nat.zero_le _⟩ ?_
        refine lv_iload_n hx hb dX9_often_22 rfl (lv_at hl 2 rfl) ?_
        obtain ⟨j31, ej31, hf⟩ := jn_ob hf
        have hp31 : ∀ (t0_31 : Int32) (t1_31 : Int32) (ls : Array Slot), j31 t0_31 t1_31 = some r → lv_has ls 5 [(0, .ref (q 0)), (1, .int p1), (2, .int p2), (4, .int v4_5)] → W p l e (headSpec wsX9_often { frames := 1, cells := 0, slots := 0, locals := 22 }).room s m args below meth c s.heap [] 0 0 (MQ below (Qr (some (.int r))) args s 0 0 (fun _ => False)) (F0 m 31 ls [.int t1_31, .int t0_31]) := by
          intro t0_31 t1_31 ls hf hl
          rw [ej31] at hf
          refine lv_iadd hx hb dX9_often_31 ?_
          obtain ⟨v3_5, ev3_5, hf⟩ := nm_ob hf
          refine lv_nmi ev3_5 ?_
          refine lv_istore_n (lv' := [(3, .int v3_5), (0, .ref (q 0)), (1, .int p1), (2, .int p2), (4, .int v4_5)]) hx hb dX9_often_32 rfl hl (by decide) rfl (fun ls hl => ?_)
          obtain ⟨v4_6, ev4_6, hf⟩ := nm_ob hf
          refine lv_iinc (v := v4_6) (lv' := [(4, .int v4_6), (3, .int v3_5), (0, .ref (q 0)), (1, .int p1), (2, .int p2)]) hx hb dX9_often_33 hl (k := 4) rfl (by rw [ev4_6]; rfl) (by decide) rfl (fun ls hl => ?_)
          refine lv_goto (tgt := 5) hx hb dX9_often_36 (by decide) ?_
          exact ih5 v3_5 v4_6 _ hf (lv_sub hl [2, 3, 4, 1, 0] rfl)
        refine lv_icmp_ne (tgt := 30) hx hb dX9_often_23 (by decide) (fun c_23 => ?_) (fun c_23 => ?_)
        · have hf := ip c_23 hf
          refine lv_iconst (v := 0) hx hb dX9_often_30 (by decide) ?_
          exact hp31 v3_5 (0 : Int32) _ hf (lv_sub hl [0, 1, 2, 4] rfl)
        · have hf := iqn c_23 hf
          refine lv_iconst (v := 1) hx hb dX9_often_26 (by decide) ?_
          refine lv_goto (tgt := 31) hx hb dX9_often_27 (by decide) ?_
          exact hp31 v3_5 (1 : Int32) _ hf (lv_sub hl [0, 1, 2, 4] rfl)
  exact hL5 fu (0 : Int32) (0 : Int32) _ hf (lv_sub hl [2, 3, 4, 1, 0] rfl)

def fX9_occurrences (fu : Nat) (z : OS) (p1 : Int32) (p2 : Int32) : Option (Int32 × (OS)) :=
  nm (sI z 0 (0 : Int32)) (fun (z_1 : OS) => bd (fX9_noVariable fu z_1 p1) (fun (w_4 : Int32 × OS) => nm w_4.1 (fun (r_2 : Int32) => nm w_4.2 (fun (z_3 : OS) => (if r_2 = (0 : Int32) then jn (κ := Int32 → Int32 → Option (Int32 × (OS))) (fun (t1_28 : Int32) (t2_28 : Int32) => bd (fX9_often fu z_3 t1_28 t2_28) (fun (r_6 : Int32) => some (r_6, z_3))) (fun j28 => (if p2 = (0 : Int32) then j28 p1 (2 : Int32) else j28 p1 (1 : Int32))) else some ((0 : Int32), z_3))))))
set_option maxRecDepth 100000 in
set_option maxHeartbeats 4000000 in
theorem mX9_occurrences (l : Launch) (D : va_G) (cI cB cZ cO : ClassId) (q : Nat → Nat) (sz : Nat) (fu : Nat) (z : OS) (p1 : Int32) (p2 : Int32) {r : Int32} {y1 : OS} (hf : fX9_occurrences fu z p1 p2 = some (r, y1)) : Met l yX9_occurrences wsX9_occurrences ({ frames := 2, cells := 0, slots := 0, locals := 46 }) (va_Pc [.ref (q 0), .int p1, .int p2] (Pw D (gT cI cB cZ cO) (wM cI cB cZ q z) sz)) (Qw D (va_A (wM cI cB cZ q z) sz) (some (.int r)) (wM cI cB cZ q y1)) 0 0 (va_A (wM cI cB cZ q z) sz) := by
  unfold fX9_occurrences at hf
  refine metW (ret := (some .int)) (own := RX9) rfl (by decide) rfl (Nat.le_of_ble_eq_true rfl) (fun p e s m args below meth c ls A hx hb hr hml hown hlocks hts hK hA hP hD hS hl => ?_)
  have k46 := (hts (.fieldLink RX9 46 "ResolutionProverModel" "thrown" "I") (List.mem_of_getElem? (i := 1) rfl))
  have hiX9 : ∀ w ∈ wsX90, w ∈ wsX9_occurrences := (memIn_p [31, 32, 33, 34, 35, 36, 37, 38, 39, 40, 41, 42, 43, 44, 45, 46, 47, 48, 49, 50, 51, 52, 53, 54, 55, 56, 57] rfl)
  have hl : lv_has ls 3 [(0, .ref (q 0)), (1, .int p1), (2, .int p2)] := hl
  refine lv_aload_n hx hb dX9_occurrences_0 rfl (lv_at hl 0 rfl) ?_
  refine lv_iconst (v := 0) hx hb dX9_occurrences_1 (by decide) ?_
  refine va_put (D := D) (ci := 8) (v := .int (0 : Int32)) (ty := .int) (C := RX9) (T := TX9) (N := 27) hx hb hts hiX9 tyX9 tyX9_ok nmX9 hown hK hP hD hS 0 rfl rfl 0 (by decide) k46 (fun _ h9 => h9) rfl (by decide +kernel) rfl rfl (Nat.le_of_ble_eq_true rfl) dX9_occurrences_2 (fun H locs hP hD hS => ?_)
  obtain ⟨z_1, ez_1, hf⟩ := nm_ob hf
  have hP : va_P D vwCl (wM cI cB cZ q z_1) H := by rw [ez_1]; exact hP
  have hD : va_D A (wM cI cB cZ q z_1) := by rw [ez_1]; exact hD
  refine lv_aload_n hx hb dX9_occurrences_5 rfl (lv_at hl 0 rfl) ?_
  refine lv_iload_n hx hb dX9_occurrences_6 rfl (lv_at hl 1 rfl) ?_
  obtain ⟨⟨r_2, z_3⟩, hc_5, hf⟩ := bd_ob hf
  have hf := nm_st hf
  have hf := nm_st hf
  refine weV (As := [.int p1]) (rest := []) ⟨hx, hb, hml, hown, hts⟩ (mX9_noVariable l D cI cB cZ cO q _ fu z_1 p1 hc_5) (cwV 1 hts gX9_occurrences_X9_noVariable rfl rfl rfl (by decide +kernel) ⟨Nat.le_of_ble_eq_true rfl, Nat.le_of_ble_eq_true rfl⟩) hK hP hD hS hA (va_recv hK hP (ci := 8) (q0 := 0) rfl rfl) rfl hl.1 rfl (Nat.le_of_ble_eq_true rfl) dX9_occurrences_7 ⟨Nat.zero_le _, Nat.zero_le _⟩ (fun H locs hP hD hS => ?_)
  refine lv_if_eq (tgt := 17) hx hb dX9_occurrences_10 (by decide) (fun c_10 => ?_) (fun c_10 => ?_)
  · have hf := ip c_10 hf
    refine lv_aload_n hx hb dX9_occurrences_17 rfl (lv_at hl 0 rfl) ?_
    refine lv_iload_n hx hb dX9_occurrences_18 rfl (lv_at hl 1 rfl) ?_
    refine lv_iload_n hx hb dX9_occurrences_19 rfl (lv_at hl 2 rfl) ?_
    obtain ⟨j28, ej28, hf⟩ := jn_ob hf
    have hp28 : ∀ (t1_28 : Int32) (t2_28 : Int32) (H : Heap) (locs : List Loc) (ls : Array Slot), j28 t1_28 t2_28 = some (r, y1) → va_P D vwCl (wM cI cB cZ q z_3) H → va_D A (wM cI cB cZ q z_3) → va_S A s.heap H locs → lv_has ls 3 [] → W p l e (headSpec wsX9_occurrences { frames := 2, cells := 0, slots := 0, locals := 46 }).room s m args below meth c H locs 0 0 (MQ below (Qw D A (some (.int r)) (wM cI cB cZ q y1)) args s 0 0 A) (F0 m 28 ls [.int t2_28, .int t1_28, .ref (q 0)]) := by
      intro t1_28 t2_28 H locs ls hf hP hD hS hl
      rw [ej28] at hf
      obtain ⟨r_6, hc_7, hf⟩ := bd_ob hf
      refine rdV (As := [.int t1_28, .int t2_28]) (rest := []) ⟨hx, hb, hml, hown, hts⟩ (mX9_often l D cI cB cZ cO q fu z_3 t1_28 t2_28 hc_7) (cwV 2 hts gX9_occurrences_X9_often rfl rfl rfl (by decide +kernel) ⟨Nat.le_of_ble_eq_true rfl, Nat.le_of_ble_eq_true rfl⟩) hK hP (va_recv hK hP (ci := 8) (q0 := 0) rfl rfl) rfl hl.1 rfl (Nat.le_of_ble_eq_true rfl) dX9_occurrences_28 ⟨Nat.zero_le _, Nat.zero_le _⟩ ?_
      exact rW_i hx hb hr hlocks hP hD hS (congrArg (fun q9 => q9.1) (so_ob hf)) (congrArg (fun (q9 : Int32 × (OS)) => wM cI cB cZ q q9.2) (so_ob hf)) dX9_occurrences_31
    refine lv_if_eq (tgt := 27) hx hb dX9_occurrences_20 (by decide) (fun c_20 => ?_) (fun c_20 => ?_)
    · have hf := ip c_20 hf
      refine lv_iconst (v := 2) hx hb dX9_occurrences_27 (by decide) ?_
      exact hp28 p1 (2 : Int32) _ _ _ hf hP hD hS (lv_sub hl [] rfl)
    · have hf := iq c_20 hf
      refine lv_iconst (v := 1) hx hb dX9_occurrences_23 (by decide) ?_
      refine lv_goto (tgt := 28) hx hb dX9_occurrences_24 (by decide) ?_
      exact hp28 p1 (1 : Int32) _ _ _ hf hP hD hS (lv_sub hl [] rfl)
  · have hf := iq c_10 hf
    refine lv_iconst (v := 0) hx hb dX9_occurrences_13 (by decide) ?_
    refine lv_goto (tgt := 31) hx hb dX9_occurrences_14 (by decide) ?_
    exact rW_i hx hb hr hlocks hP hD hS (congrArg (fun q9 => q9.1) (so_ob hf)) (congrArg (fun (q9 : Int32 × (OS)) => wM cI cB cZ q q9.2) (so_ob hf)) dX9_occurrences_31

def lX9_mostFrequentVariable_11 (fu : Nat) (z_1 : OS) (j51 : Int32 → Option (Int32 × (OS))) : Nat → Int32 → Int32 → Int32 → Option (Int32 × (OS))
  | 0, _, _, _ => none
  | n_11 + 1, v1_11, v2_11, v3_11 => bd (fX9_wide fu z_1) (fun (r_2 : Int32) => (if r_2 ≤ v3_11 then j51 v1_11 else bd (fX9_often fu z_1 v3_11 (1 : Int32)) (fun (r_4 : Int32) => bd (fX9_often fu z_1 v3_11 (2 : Int32)) (fun (r_6 : Int32) => nm (r_4 + r_6) (fun (v4_8 : Int32) => jn (κ := Int32 → Int32 → Option (Int32 × (OS))) (fun (v1_45 : Int32) (v2_45 : Int32) => nm (v3_11 + (1 : Int32)) (fun (v3_9 : Int32) => lX9_mostFrequentVariable_11 fu z_1 j51 n_11 v1_45 v2_45 v3_9)) (fun j45 => (if v4_8 ≤ v2_11 then j45 v1_11 v2_11 else j45 v3_11 v4_8)))))))
def fX9_mostFrequentVariable (fu : Nat) (z : OS) : Option (Int32 × (OS)) :=
  nm (sI z 0 (0 : Int32)) (fun (z_1 : OS) => jn (κ := Int32 → Option (Int32 × (OS))) (fun (v1_51 : Int32) => some (v1_51, z_1)) (fun j51 => lX9_mostFrequentVariable_11 fu z_1 j51 fu (0 : Int32) (0 : Int32) (0 : Int32)))
set_option maxRecDepth 100000 in
set_option maxHeartbeats 4000000 in
theorem mX9_mostFrequentVariable (l : Launch) (D : va_G) (cI cB cZ cO : ClassId) (q : Nat → Nat) (sz : Nat) (fu : Nat) (z : OS) {r : Int32} {y1 : OS} (hf : fX9_mostFrequentVariable fu z = some (r, y1)) : Met l yX9_mostFrequentVariable wsX9_mostFrequentVariable ({ frames := 2, cells := 0, slots := 0, locals := 46 }) (va_Pc [.ref (q 0)] (Pw D (gT cI cB cZ cO) (wM cI cB cZ q z) sz)) (Qw D (va_A (wM cI cB cZ q z) sz) (some (.int r)) (wM cI cB cZ q y1)) 0 0 (va_A (wM cI cB cZ q z) sz) := by
  unfold fX9_mostFrequentVariable at hf
  refine metW (ret := (some .int)) (own := RX9) rfl (by decide) rfl (Nat.le_of_ble_eq_true rfl) (fun p e s m args below meth c ls A hx hb hr hml hown hlocks hts hK hA hP hD hS hl => ?_)
  have k46 := (hts (.fieldLink RX9 46 "ResolutionProverModel" "thrown" "I") (List.mem_of_getElem? (i := 1) rfl))
  have hiX9 : ∀ w ∈ wsX90, w ∈ wsX9_mostFrequentVariable := (memIn_p [20, 21, 22, 23, 24, 25, 26, 27, 28, 29, 30, 31, 32, 33, 34, 35, 36, 37, 38, 39, 40, 41, 42, 43, 44, 45, 46] rfl)
  have hl : lv_has ls 5 [(0, .ref (q 0))] := hl
  refine lv_aload_n hx hb dX9_mostFrequentVariable_0 rfl (lv_at hl 0 rfl) ?_
  refine lv_iconst (v := 0) hx hb dX9_mostFrequentVariable_1 (by decide) ?_
  refine va_put (D := D) (ci := 8) (v := .int (0 : Int32)) (ty := .int) (C := RX9) (T := TX9) (N := 27) hx hb hts hiX9 tyX9 tyX9_ok nmX9 hown hK hP hD hS 0 rfl rfl 0 (by decide) k46 (fun _ h9 => h9) rfl (by decide +kernel) rfl rfl (Nat.le_of_ble_eq_true rfl) dX9_mostFrequentVariable_2 (fun H locs hP hD hS => ?_)
  obtain ⟨z_1, ez_1, hf⟩ := nm_ob hf
  have hP : va_P D vwCl (wM cI cB cZ q z_1) H := by rw [ez_1]; exact hP
  have hD : va_D A (wM cI cB cZ q z_1) := by rw [ez_1]; exact hD
  refine lv_iconst (v := 0) hx hb dX9_mostFrequentVariable_5 (by decide) ?_
  refine lv_istore_n (lv' := [(1, .int (0 : Int32)), (0, .ref (q 0))]) hx hb dX9_mostFrequentVariable_6 rfl hl (by decide) rfl (fun ls hl => ?_)
  refine lv_iconst (v := 0) hx hb dX9_mostFrequentVariable_7 (by decide) ?_
  refine lv_istore_n (lv' := [(2, .int (0 : Int32)), (1, .int (0 : Int32)), (0, .ref (q 0))]) hx hb dX9_mostFrequentVariable_8 rfl hl (by decide) rfl (fun ls hl => ?_)
  refine lv_iconst (v := 0) hx hb dX9_mostFrequentVariable_9 (by decide) ?_
  refine lv_istore_n (lv' := [(3, .int (0 : Int32)), (2, .int (0 : Int32)), (1, .int (0 : Int32)), (0, .ref (q 0))]) hx hb dX9_mostFrequentVariable_10 rfl hl (by decide) rfl (fun ls hl => ?_)
  obtain ⟨j51, ej51, hf⟩ := jn_ob hf
  have hp51 : ∀ (v1_51 : Int32) (H : Heap) (locs : List Loc) (ls : Array Slot), j51 v1_51 = some (r, y1) → va_P D vwCl (wM cI cB cZ q z_1) H → va_D A (wM cI cB cZ q z_1) → va_S A s.heap H locs → lv_has ls 5 [(1, .int v1_51)] → W p l e (headSpec wsX9_mostFrequentVariable { frames := 2, cells := 0, slots := 0, locals := 46 }).room s m args below meth c H locs 0 0 (MQ below (Qw D A (some (.int r)) (wM cI cB cZ q y1)) args s 0 0 A) (F0 m 51 ls []) := by
    intro v1_51 H locs ls hf hP hD hS hl
    rw [ej51] at hf
    refine lv_iload_n hx hb dX9_mostFrequentVariable_51 rfl (lv_at hl 0 rfl) ?_
    exact rW_i hx hb hr hlocks hP hD hS (congrArg (fun q9 => q9.1) (so_ob hf)) (congrArg (fun (q9 : Int32 × (OS)) => wM cI cB cZ q q9.2) (so_ob hf)) dX9_mostFrequentVariable_52
  have hL11 : ∀ (n_11 : Nat) (v1_11 : Int32) (v2_11 : Int32) (v3_11 : Int32) (H : Heap) (locs : List Loc) (ls : Array Slot), lX9_mostFrequentVariable_11 fu z_1 j51 n_11 v1_11 v2_11 v3_11 = some (r, y1) → va_P D vwCl (wM cI cB cZ q z_1) H → va_D A (wM cI cB cZ q z_1) → va_S A s.heap H locs → lv_has ls 5 [(0, .ref (q 0)), (1, .int v1_11), (2, .int v2_11), (3, .int v3_11)] → W p l e (headSpec wsX9_mostFrequentVariable { frames := 2, cells := 0, slots := 0, locals := 46 }).room s m args below meth c H locs 0 0 (MQ below (Qw D A (some (.int r)) (wM cI cB cZ q y1)) args s 0 0 A) (F0 m 11 ls []) := by
    intro n_11
    induction n_11 with
    | zero =>
      intro v1_11 v2_11 v3_11 H locs ls hf
      exact no_ob hf
    | succ n_11 ih11 =>
      intro v1_11 v2_11 v3_11 H locs ls hf hP hD hS hl
      rw [lX9_mostFrequentVariable_11] at hf
      refine lv_iload_n hx hb dX9_mostFrequentVariable_11 rfl (lv_at hl 3 rfl) ?_
      refine lv_aload_n hx hb dX9_mostFrequentVariable_12 rfl (lv_at hl 0 rfl) ?_
      obtain ⟨r_2, hc_3, hf⟩ := bd_ob hf
      refine rdV (As := []) (rest := [.int v3_11]) ⟨hx, hb, hml, hown, hts⟩ (mX9_wide l D cI cB cZ cO q fu z_1 hc_3) (cwV 0 hts gX9_mostFrequentVariable_X9_wide rfl rfl rfl (by decide +kernel) ⟨Nat.le_of_ble_eq_true rfl, Nat.le_of_ble_eq_true rfl⟩) hK hP (va_recv hK hP (ci := 8) (q0 := 0) rfl rfl) rfl hl.1 rfl (Nat.le_of_ble_eq_true rfl) dX9_mostFrequentVariable_13 ⟨Nat.zero_le _, Nat.zero_le _⟩ ?_
      refine lv_icmp_ge (tgt := 51) hx hb dX9_mostFrequentVariable_16 (by decide) (fun c_16 => ?_) (fun c_16 => ?_)
      · have hf := ip c_16 hf
        exact hp51 v1_11 _ _ _ hf hP hD hS (lv_sub hl [1] rfl)
      · have hf := iq c_16 hf
        refine lv_aload_n hx hb dX9_mostFrequentVariable_19 rfl (lv_at hl 0 rfl) ?_
        refine lv_iload_n hx hb dX9_mostFrequentVariable_20 rfl (lv_at hl 3 rfl) ?_
        refine lv_iconst (v := 1) hx hb dX9_mostFrequentVariable_21 (by decide) ?_
        obtain ⟨r_4, hc_5, hf⟩ := bd_ob hf
        refine rdV (As := [.int v3_11, .int (1 : Int32)]) (rest := []) ⟨hx, hb, hml, hown, hts⟩ (mX9_often l D cI cB cZ cO q fu z_1 v3_11 (1 : Int32) hc_5) (cwV 2 hts gX9_mostFrequentVariable_X9_often rfl rfl rfl (by decide +kernel) ⟨Nat.le_of_ble_eq_true rfl, Nat.le_of_ble_eq_true rfl⟩) hK hP (va_recv hK hP (ci := 8) (q0 := 0) rfl rfl) rfl hl.1 rfl (Nat.le_of_ble_eq_true rfl) dX9_mostFrequentVariable_22 ⟨Nat.zero_le _, Nat.zero_le _⟩ ?_
        refine lv_aload_n hx hb dX9_mostFrequentVariable_25 rfl (lv_at hl 0 rfl) ?_
        refine lv_iload_n hx hb dX9_mostFrequentVariable_26 rfl (lv_at hl 3 rfl) ?_
        refine lv_iconst (v := 2) hx hb dX9_mostFrequentVariable_27 (by decide) ?_
        obtain ⟨r_6, hc_7, hf⟩ := bd_ob hf
        refine rdV (As := [.int v3_11, .int (2 : Int32)]) (rest := [.int r_4]) ⟨hx, hb, hml, hown, hts⟩ (mX9_often l D cI cB cZ cO q fu z_1 v3_11 (2 : Int32) hc_7) (cwV 2 hts gX9_mostFrequentVariable_X9_often rfl rfl rfl (by decide +kernel) ⟨Nat.le_of_ble_eq_true rfl, Nat.le_of_ble_eq_true rfl⟩) hK hP (va_recv hK hP (ci := 8) (q0 := 0) rfl rfl) rfl hl.1 rfl (Nat.le_of_ble_eq_true rfl) dX9_mostFrequentVariable_28 ⟨Nat.zero_le _, Nat.zero_le _⟩ ?_
        refine lv_iadd hx hb dX9_mostFrequentVariable_31 ?_
        obtain ⟨v4_8, ev4_8, hf⟩ := nm_ob hf
        refine lv_nmi ev4_8 ?_
        refine lv_istore (lv' := [(4, .int v4_8), (0, .ref (q 0)), (1, .int v1_11), (2, .int v2_11), (3, .int v3_11)]) hx hb dX9_mostFrequentVariable_32 hl (by decide) rfl (fun ls hl => ?_)
        refine lv_iload hx hb dX9_mostFrequentVariable_34 (lv_at hl 0 rfl) ?_
        refine lv_iload_n hx hb dX9_mostFrequentVariable_36 rfl (lv_at hl 3 rfl) ?_
        obtain ⟨j45, ej45, hf⟩ := jn_ob hf
        have hp45 : ∀ (v1_45 : Int32) (v2_45 : Int32) (H : Heap) (locs : List Loc) (ls : Array Slot), j45 v1_45 v2_45 = some (r, y1) → va_P D vwCl (wM cI cB cZ q z_1) H → va_D A (wM cI cB cZ q z_1) → va_S A s.heap H locs → lv_has ls 5 [(0, .ref (q 0)), (1, .int v1_45), (2, .int v2_45), (3, .int v3_11)] → W p l e (headSpec wsX9_mostFrequentVariable { frames := 2, cells := 0, slots := 0, locals := 46 }).room s m args below meth c H locs 0 0 (MQ below (Qw D A (some (.int r)) (wM cI cB cZ q y1)) args s 0 0 A) (F0 m 45 ls []) := by
          intro v1_45 v2_45 H locs ls hf hP hD hS hl
          rw [ej45] at hf
          obtain ⟨v3_9, ev3_9, hf⟩ := nm_ob hf
          refine lv_iinc (v := v3_9) (lv' := [(3, .int v3_9), (0, .ref (q 0)), (1, .int v1_45), (2, .int v2_45)]) hx hb dX9_mostFrequentVariable_45 hl (k := 3) rfl (by rw [ev3_9]; rfl) (by decide) rfl (fun ls hl => ?_)
          refine lv_goto (tgt := 11) hx hb dX9_mostFrequentVariable_48 (by decide) ?_
          exact ih11 v1_45 v2_45 v3_9 _ _ _ hf hP hD hS (lv_sub hl [1, 2, 3, 0] rfl)
        refine lv_icmp_le (tgt := 45) hx hb dX9_mostFrequentVariable_37 (by decide) (fun c_37 => ?_) (fun c_37 => ?_)
        · have hf := ip c_37 hf
          exact hp45 v1_11 v2_11 _ _ _ hf hP hD hS (lv_sub hl [1, 2, 3, 4] rfl)
        · have hf := iq c_37 hf
          refine lv_iload_n hx hb dX9_mostFrequentVariable_40 rfl (lv_at hl 4 rfl) ?_
          refine lv_istore_n (lv' := [(1, .int v3_11), (4, .int v4_8), (0, .ref (q 0)), (2, .int v2_11), (3, .int v3_11)]) hx hb dX9_mostFrequentVariable_41 rfl hl (by decide) rfl (fun ls hl => ?_)
          refine lv_iload hx hb dX9_mostFrequentVariable_42 (lv_at hl 1 rfl) ?_
          refine lv_istore_n (lv' := [(2, .int v4_8), (1, .int v3_11), (4, .int v4_8), (0, .ref (q 0)), (3, .int v3_11)]) hx hb dX9_mostFrequentVariable_44 rfl hl (by decide) rfl (fun ls hl => ?_)
          exact hp45 v3_11 v4_8 _ _ _ hf hP hD hS (lv_sub hl [3, 1, 0, 4] rfl)
  exact hL11 fu (0 : Int32) (0 : Int32) (0 : Int32) _ _ _ hf hP hD hS (lv_sub hl [3, 2, 1, 0] rfl)

def lX9_pure_4 (fu : Nat) (z : OS) (p1 : Int32) (j48 : Int32 → Option (Int32)) : Nat → Int32 → Int32 → Option (Int32)
  | 0, _, _ => none
  | n_4 + 1, v2_4, v3_4 => bd (fX9_wide fu z) (fun (r_1 : Int32) => (if r_1 ≤ v3_4 then j48 v2_4 else bd (fX9_often fu z v3_4 p1) (fun (r_3 : Int32) => jn (κ := Int32 → Int32 → Option (Int32)) (fun (t0_40 : Int32) (t1_40 : Int32) => nm (t0_40 ||| t1_40) (fun (v2_5 : Int32) => nm (v3_4 + (1 : Int32)) (fun (v3_6 : Int32) => lX9_pure_4 fu z p1 j48 n_4 v2_5 v3_6))) (fun j40 => jn (κ := Int32 → Option (Int32)) (fun (t0_39 : Int32) => j40 t0_39 (0 : Int32)) (fun j39 => (if r_3 ≤ (0 : Int32) then j39 v2_4 else bd (fX9_often fu z v3_4 ((3 : Int32) - p1)) (fun (r_7 : Int32) => (if ¬ r_7 = (0 : Int32) then j39 v2_4 else j40 v2_4 ((1 : Int32) <<< (v3_4 &&& (31 : Int32)))))))))))
def fX9_pure (fu : Nat) (z : OS) (p1 : Int32) : Option (Int32) :=
  jn (κ := Int32 → Option (Int32)) (fun (v2_48 : Int32) => some v2_48) (fun j48 => lX9_pure_4 fu z p1 j48 fu (0 : Int32) (0 : Int32))
set_option maxRecDepth 100000 in
set_option maxHeartbeats 4000000 in
theorem mX9_pure (l : Launch) (D : va_G) (cI cB cZ cO : ClassId) (q : Nat → Nat) (fu : Nat) (z : OS) (p1 : Int32) {r : Int32} (hf : fX9_pure fu z p1 = some r) : Met l yX9_pure wsX9_pure ({ frames := 2, cells := 0, slots := 0, locals := 46 }) (va_Pc [.ref (q 0), .int p1] (Pr D (gT cI cB cZ cO) (wM cI cB cZ q z))) (Qr (some (.int r))) 0 0 (fun _ => False) := by
  unfold fX9_pure at hf
  refine metR (ret := (some .int)) (own := RX9) rfl (by decide) rfl (Nat.le_of_ble_eq_true rfl) (fun p e s m args below meth c ls hx hb hr hml hown hlocks hts hP hK hl => ?_)
  have hl : lv_has ls 4 [(0, .ref (q 0)), (1, .int p1)] := hl
  refine lv_iconst (v := 0) hx hb dX9_pure_0 (by decide) ?_
  refine lv_istore_n (lv' := [(2, .int (0 : Int32)), (0, .ref (q 0)), (1, .int p1)]) hx hb dX9_pure_1 rfl hl (by decide) rfl (fun ls hl => ?_)
  refine lv_iconst (v := 0) hx hb dX9_pure_2 (by decide) ?_
  refine lv_istore_n (lv' := [(3, .int (0 : Int32)), (2, .int (0 : Int32)), (0, .ref (q 0)), (1, .int p1)]) hx hb dX9_pure_3 rfl hl (by decide) rfl (fun ls hl => ?_)
  obtain ⟨j48, ej48, hf⟩ := jn_ob hf
  have hp48 : ∀ (v2_48 : Int32) (ls : Array Slot), j48 v2_48 = some r → lv_has ls 4 [(2, .int v2_48)] → W p l e (headSpec wsX9_pure { frames := 2, cells := 0, slots := 0, locals := 46 }).room s m args below meth c s.heap [] 0 0 (MQ below (Qr (some (.int r))) args s 0 0 (fun _ => False)) (F0 m 48 ls []) := by
    intro v2_48 ls hf hl
    rw [ej48] at hf
    refine lv_iload_n hx hb dX9_pure_48 rfl (lv_at hl 0 rfl) ?_
    exact rR_i hx hb hr hlocks (so_ob hf) dX9_pure_49
  have hL4 : ∀ (n_4 : Nat) (v2_4 : Int32) (v3_4 : Int32) (ls : Array Slot), lX9_pure_4 fu z p1 j48 n_4 v2_4 v3_4 = some r → lv_has ls 4 [(0, .ref (q 0)), (1, .int p1), (2, .int v2_4), (3, .int v3_4)] → W p l e (headSpec wsX9_pure { frames := 2, cells := 0, slots := 0, locals := 46 }).room s m args below meth c s.heap [] 0 0 (MQ below (Qr (some (.int r))) args s 0 0 (fun _ => False)) (F0 m 4 ls []) := by
    intro n_4
    induction n_4 with
    | zero =>
      intro v2_4 v3_4 ls hf
      exact no_ob hf
    | succ n_4 ih4 =>
      intro v2_4 v3_4 ls hf hl
      rw [lX9_pure_4] at hf
      refine lv_iload_n hx hb dX9_pure_4 rfl (lv_at hl 3 rfl) ?_
      refine lv_aload_n hx hb dX9_pure_5 rfl (lv_at hl 0 rfl) ?_
      obtain ⟨r_1, hc_2, hf⟩ := bd_ob hf
      refine rdV (As := []) (rest := [.int v3_4]) ⟨hx, hb, hml, hown, hts⟩ (mX9_wide l D cI cB cZ cO q fu z hc_2) (cwV 0 hts gX9_pure_X9_wide rfl rfl rfl (by decide +kernel) ⟨Nat.le_of_ble_eq_true rfl, Nat.le_of_ble_eq_true rfl⟩) hK hP (va_recv hK hP (ci := 8) (q0 := 0) rfl rfl) rfl hl.1 rfl (Nat.le_of_ble_eq_true rfl) dX9_pure_6 ⟨Nat.zero_le _, Nat.zero_le _⟩ ?_
      refine lv_icmp_ge (tgt := 48) hx hb dX9_pure_9 (by decide) (fun c_9 => ?_) (fun c_9 => ?_)
      · have hf := ip c_9 hf
        exact hp48 v2_4 _ hf (lv_sub hl [2] rfl)
      · have hf := iq c_9 hf
        refine lv_iload_n hx hb dX9_pure_12 rfl (lv_at hl 2 rfl) ?_
        refine lv_aload_n hx hb dX9_pure_13 rfl (lv_at hl 0 rfl) ?_
        refine lv_iload_n hx hb dX9_pure_14 rfl (lv_at hl 3 rfl) ?_
        refine lv_iload_n hx hb dX9_pure_15 rfl (lv_at hl 1 rfl) ?_
        obtain ⟨r_3, hc_4, hf⟩ := bd_ob hf
        refine rdV (As := [.int v3_4, .int p1]) (rest := [.int v2_4]) ⟨hx, hb, hml, hown, hts⟩ (mX9_often l D cI cB cZ cO q fu z v3_4 p1 hc_4) (cwV 2 hts gX9_pure_X9_often rfl rfl rfl (by decide +kernel) ⟨Nat.le_of_ble_eq_true rfl, Nat.le_of_ble_eq_true rfl⟩) hK hP (va_recv hK hP (ci := 8) (q0 := 0) rfl rfl) rfl hl.1 rfl (Nat.le_of_ble_eq_true rfl) dX9_pure_16 ⟨Nat.zero_le _, Nat.zero_le _⟩ ?_
        obtain ⟨j40, ej40, hf⟩ := jn_ob hf
        have hp40 : ∀ (t0_40 : Int32) (t1_40 : Int32) (ls : Array Slot), j40 t0_40 t1_40 = some r → lv_has ls 4 [(0, .ref (q 0)), (1, .int p1), (3, .int v3_4)] → W p l e (headSpec wsX9_pure { frames := 2, cells := 0, slots := 0, locals := 46 }).room s m args below meth c s.heap [] 0 0 (MQ below (Qr (some (.int r))) args s 0 0 (fun _ => False)) (F0 m 40 ls [.int t1_40, .int t0_40]) := by
          intro t0_40 t1_40 ls hf hl
          rw [ej40] at hf
          refine lv_ior hx hb dX9_pure_40 ?_
          obtain ⟨v2_5, ev2_5, hf⟩ := nm_ob hf
          refine lv_nmi ev2_5 ?_
          refine lv_istore_n (lv' := [(2, .int v2_5), (0, .ref (q 0)), (1, .int p1), (3, .int v3_4)]) hx hb dX9_pure_41 rfl hl (by decide) rfl (fun ls hl => ?_)
          obtain ⟨v3_6, ev3_6, hf⟩ := nm_ob hf
          refine lv_iinc (v := v3_6) (lv' := [(3, .int v3_6), (2, .int v2_5), (0, .ref (q 0)), (1, .int p1)]) hx hb dX9_pure_42 hl (k := 3) rfl (by rw [ev3_6]; rfl) (by decide) rfl (fun ls hl => ?_)
          refine lv_goto (tgt := 4) hx hb dX9_pure_45 (by decide) ?_
          exact ih4 v2_5 v3_6 _ hf (lv_sub hl [2, 3, 1, 0] rfl)
        obtain ⟨j39, ej39, hf⟩ := jn_ob hf
        have hp39 : ∀ (t0_39 : Int32) (ls : Array Slot), j39 t0_39 = some r → lv_has ls 4 [(0, .ref (q 0)), (1, .int p1), (3, .int v3_4)] → W p l e (headSpec wsX9_pure { frames := 2, cells := 0, slots := 0, locals := 46 }).room s m args below meth c s.heap [] 0 0 (MQ below (Qr (some (.int r))) args s 0 0 (fun _ => False)) (F0 m 39 ls [.int t0_39]) := by
          intro t0_39 ls hf hl
          rw [ej39] at hf
          refine lv_iconst (v := 0) hx hb dX9_pure_39 (by decide) ?_
          exact hp40 t0_39 (0 : Int32) _ hf hl
        refine lv_if_le (tgt := 39) hx hb dX9_pure_19 (by decide) (fun c_19 => ?_) (fun c_19 => ?_)
        · have hf := ip c_19 hf
          exact hp39 v2_4 _ hf (lv_sub hl [0, 1, 3] rfl)
        · have hf := iq c_19 hf
          refine lv_aload_n hx hb dX9_pure_22 rfl (lv_at hl 0 rfl) ?_
          refine lv_iload_n hx hb dX9_pure_23 rfl (lv_at hl 3 rfl) ?_
          refine lv_iconst (v := 3) hx hb dX9_pure_24 (by decide) ?_
          refine lv_iload_n hx hb dX9_pure_25 rfl (lv_at hl 1 rfl) ?_
          refine lv_isub hx hb dX9_pure_26 ?_
          obtain ⟨r_7, hc_8, hf⟩ := bd_ob hf
          refine rdV (As := [.int v3_4, .int ((3 : Int32) - p1)]) (rest := [.int v2_4]) ⟨hx, hb, hml, hown, hts⟩ (mX9_often l D cI cB cZ cO q fu z v3_4 ((3 : Int32) - p1) hc_8) (cwV 2 hts gX9_pure_X9_often rfl rfl rfl (by decide +kernel) ⟨Nat.le_of_ble_eq_true rfl, Nat.le_of_ble_eq_true rfl⟩) hK hP (va_recv hK hP (ci := 8) (q0 := 0) rfl rfl) rfl hl.1 rfl (Nat.le_of_ble_eq_true rfl) dX9_pure_27 ⟨Nat.zero_le _, Nat.zero_le _⟩ ?_
          refine lv_if_ne (tgt := 39) hx hb dX9_pure_30 (by decide) (fun c_30 => ?_) (fun c_30 => ?_)
          · have hf := ip c_30 hf
            exact hp39 v2_4 _ hf (lv_sub hl [0, 1, 3] rfl)
          · have hf := iqn c_30 hf
            refine lv_iconst (v := 1) hx hb dX9_pure_33 (by decide) ?_
            refine lv_iload_n hx hb dX9_pure_34 rfl (lv_at hl 3 rfl) ?_
            refine lv_ishl hx hb dX9_pure_35 ?_
            refine lv_goto (tgt := 40) hx hb dX9_pure_36 (by decide) ?_
            exact hp40 v2_4 ((1 : Int32) <<< (v3_4 &&& (31 : Int32))) _ hf (lv_sub hl [0, 1, 3] rfl)
  exact hL4 fu (0 : Int32) (0 : Int32) _ hf (lv_sub hl [2, 3, 1, 0] rfl)

def fX9_purePositive (fu : Nat) (z : OS) : Option (Int32 × (OS)) :=
  nm (sI z 0 (0 : Int32)) (fun (z_1 : OS) => bd (fX9_pure fu z_1 (1 : Int32)) (fun (r_2 : Int32) => some (r_2, z_1)))
set_option maxRecDepth 100000 in
set_option maxHeartbeats 4000000 in
theorem mX9_purePositive (l : Launch) (D : va_G) (cI cB cZ cO : ClassId) (q : Nat → Nat) (sz : Nat) (fu : Nat) (z : OS) {r : Int32} {y1 : OS} (hf : fX9_purePositive fu z = some (r, y1)) : Met l yX9_purePositive wsX9_purePositive ({ frames := 3, cells := 0, slots := 0, locals := 69 }) (va_Pc [.ref (q 0)] (Pw D (gT cI cB cZ cO) (wM cI cB cZ q z) sz)) (Qw D (va_A (wM cI cB cZ q z) sz) (some (.int r)) (wM cI cB cZ q y1)) 0 0 (va_A (wM cI cB cZ q z) sz) := by
  unfold fX9_purePositive at hf
  refine metW (ret := (some .int)) (own := RX9) rfl (by decide) rfl (Nat.le_of_ble_eq_true rfl) (fun p e s m args below meth c ls A hx hb hr hml hown hlocks hts hK hA hP hD hS hl => ?_)
  have k46 := (hts (.fieldLink RX9 46 "ResolutionProverModel" "thrown" "I") (List.mem_of_getElem? (i := 1) rfl))
  have hiX9 : ∀ w ∈ wsX90, w ∈ wsX9_purePositive := (memIn_p [24, 25, 26, 27, 28, 29, 30, 31, 32, 33, 34, 35, 36, 37, 38, 39, 40, 41, 42, 43, 44, 45, 46, 47, 48, 49, 50] rfl)
  have hl : lv_has ls 1 [(0, .ref (q 0))] := hl
  refine lv_aload_n hx hb dX9_purePositive_0 rfl (lv_at hl 0 rfl) ?_
  refine lv_iconst (v := 0) hx hb dX9_purePositive_1 (by decide) ?_
  refine va_put (D := D) (ci := 8) (v := .int (0 : Int32)) (ty := .int) (C := RX9) (T := TX9) (N := 27) hx hb hts hiX9 tyX9 tyX9_ok nmX9 hown hK hP hD hS 0 rfl rfl 0 (by decide) k46 (fun _ h9 => h9) rfl (by decide +kernel) rfl rfl (Nat.le_of_ble_eq_true rfl) dX9_purePositive_2 (fun H locs hP hD hS => ?_)
  obtain ⟨z_1, ez_1, hf⟩ := nm_ob hf
  have hP : va_P D vwCl (wM cI cB cZ q z_1) H := by rw [ez_1]; exact hP
  have hD : va_D A (wM cI cB cZ q z_1) := by rw [ez_1]; exact hD
  refine lv_aload_n hx hb dX9_purePositive_5 rfl (lv_at hl 0 rfl) ?_
  refine lv_iconst (v := 1) hx hb dX9_purePositive_6 (by decide) ?_
  obtain ⟨r_2, hc_3, hf⟩ := bd_ob hf
  refine rdV (As := [.int (1 : Int32)]) (rest := []) ⟨hx, hb, hml, hown, hts⟩ (mX9_pure l D cI cB cZ cO q fu z_1 (1 : Int32) hc_3) (cwV 1 hts gX9_purePositive_X9_pure rfl rfl rfl (by decide +kernel) ⟨Nat.le_of_ble_eq_true rfl, Nat.le_of_ble_eq_true rfl⟩) hK hP (va_recv hK hP (ci := 8) (q0 := 0) rfl rfl) rfl hl.1 rfl (Nat.le_of_ble_eq_true rfl) dX9_purePositive_7 ⟨Nat.zero_le _, Nat.zero_le _⟩ ?_
  exact rW_i hx hb hr hlocks hP hD hS (congrArg (fun q9 => q9.1) (so_ob hf)) (congrArg (fun (q9 : Int32 × (OS)) => wM cI cB cZ q q9.2) (so_ob hf)) dX9_purePositive_10

def fX9_pureNegative (fu : Nat) (z : OS) : Option (Int32 × (OS)) :=
  nm (sI z 0 (0 : Int32)) (fun (z_1 : OS) => bd (fX9_pure fu z_1 (2 : Int32)) (fun (r_2 : Int32) => some (r_2, z_1)))
set_option maxRecDepth 100000 in
set_option maxHeartbeats 4000000 in
theorem mX9_pureNegative (l : Launch) (D : va_G) (cI cB cZ cO : ClassId) (q : Nat → Nat) (sz : Nat) (fu : Nat) (z : OS) {r : Int32} {y1 : OS} (hf : fX9_pureNegative fu z = some (r, y1)) : Met l yX9_pureNegative wsX9_pureNegative ({ frames := 3, cells := 0, slots := 0, locals := 69 }) (va_Pc [.ref (q 0)] (Pw D (gT cI cB cZ cO) (wM cI cB cZ q z) sz)) (Qw D (va_A (wM cI cB cZ q z) sz) (some (.int r)) (wM cI cB cZ q y1)) 0 0 (va_A (wM cI cB cZ q z) sz) := by
  unfold fX9_pureNegative at hf
  refine metW (ret := (some .int)) (own := RX9) rfl (by decide) rfl (Nat.le_of_ble_eq_true rfl) (fun p e s m args below meth c ls A hx hb hr hml hown hlocks hts hK hA hP hD hS hl => ?_)
  have k46 := (hts (.fieldLink RX9 46 "ResolutionProverModel" "thrown" "I") (List.mem_of_getElem? (i := 1) rfl))
  have hiX9 : ∀ w ∈ wsX90, w ∈ wsX9_pureNegative := (memIn_p [24, 25, 26, 27, 28, 29, 30, 31, 32, 33, 34, 35, 36, 37, 38, 39, 40, 41, 42, 43, 44, 45, 46, 47, 48, 49, 50] rfl)
  have hl : lv_has ls 1 [(0, .ref (q 0))] := hl
  refine lv_aload_n hx hb dX9_pureNegative_0 rfl (lv_at hl 0 rfl) ?_
  refine lv_iconst (v := 0) hx hb dX9_pureNegative_1 (by decide) ?_
  refine va_put (D := D) (ci := 8) (v := .int (0 : Int32)) (ty := .int) (C := RX9) (T := TX9) (N := 27) hx hb hts hiX9 tyX9 tyX9_ok nmX9 hown hK hP hD hS 0 rfl rfl 0 (by decide) k46 (fun _ h9 => h9) rfl (by decide +kernel) rfl rfl (Nat.le_of_ble_eq_true rfl) dX9_pureNegative_2 (fun H locs hP hD hS => ?_)
  obtain ⟨z_1, ez_1, hf⟩ := nm_ob hf
  have hP : va_P D vwCl (wM cI cB cZ q z_1) H := by rw [ez_1]; exact hP
  have hD : va_D A (wM cI cB cZ q z_1) := by rw [ez_1]; exact hD
  refine lv_aload_n hx hb dX9_pureNegative_5 rfl (lv_at hl 0 rfl) ?_
  refine lv_iconst (v := 2) hx hb dX9_pureNegative_6 (by decide) ?_
  obtain ⟨r_2, hc_3, hf⟩ := bd_ob hf
  refine rdV (As := [.int (2 : Int32)]) (rest := []) ⟨hx, hb, hml, hown, hts⟩ (mX9_pure l D cI cB cZ cO q fu z_1 (2 : Int32) hc_3) (cwV 1 hts gX9_pureNegative_X9_pure rfl rfl rfl (by decide +kernel) ⟨Nat.le_of_ble_eq_true rfl, Nat.le_of_ble_eq_true rfl⟩) hK hP (va_recv hK hP (ci := 8) (q0 := 0) rfl rfl) rfl hl.1 rfl (Nat.le_of_ble_eq_true rfl) dX9_pureNegative_7 ⟨Nat.zero_le _, Nat.zero_le _⟩ ?_
  exact rW_i hx hb hr hlocks hP hD hS (congrArg (fun q9 => q9.1) (so_ob hf)) (congrArg (fun (q9 : Int32 × (OS)) => wM cI cB cZ q q9.2) (so_ob hf)) dX9_pureNegative_10

def fX9_clashes (fu : Nat) (z : OS) (p1 : Int32) (p2 : Int32) : Option (Int32 × (OS)) :=
  nm (sI z 0 (0 : Int32)) (fun (z_1 : OS) => bd (fX9_noPair fu z_1 p1 p2) (fun (w_4 : Int32 × OS) => nm w_4.1 (fun (r_2 : Int32) => nm w_4.2 (fun (z_3 : OS) => (if r_2 = (0 : Int32) then bd (fX9_clashing fu z_3 p1 p2) (fun (r_6 : Int32) => some (r_6, z_3)) else some ((0 : Int32), z_3))))))
set_option maxRecDepth 100000 in
set_option maxHeartbeats 4000000 in
theorem mX9_clashes (l : Launch) (D : va_G) (cI cB cZ cO : ClassId) (q : Nat → Nat) (sz : Nat) (fu : Nat) (z : OS) (p1 : Int32) (p2 : Int32) {r : Int32} {y1 : OS} (hf : fX9_clashes fu z p1 p2 = some (r, y1)) : Met l yX9_clashes wsX9_clashes ({ frames := 3, cells := 0, slots := 0, locals := 68 }) (va_Pc [.ref (q 0), .int p1, .int p2] (Pw D (gT cI cB cZ cO) (wM cI cB cZ q z) sz)) (Qw D (va_A (wM cI cB cZ q z) sz) (some (.int r)) (wM cI cB cZ q y1)) 0 0 (va_A (wM cI cB cZ q z) sz) := by
  unfold fX9_clashes at hf
  refine metW (ret := (some .int)) (own := RX9) rfl (by decide) rfl (Nat.le_of_ble_eq_true rfl) (fun p e s m args below meth c ls A hx hb hr hml hown hlocks hts hK hA hP hD hS hl => ?_)
  have k46 := (hts (.fieldLink RX9 46 "ResolutionProverModel" "thrown" "I") (List.mem_of_getElem? (i := 1) rfl))
  have hiX9 : ∀ w ∈ wsX90, w ∈ wsX9_clashes := (memIn_p [35, 36, 37, 38, 39, 40, 41, 42, 43, 44, 45, 46, 47, 48, 49, 50, 51, 52, 53, 54, 55, 56, 57, 58, 59, 60, 61] rfl)
  have hl : lv_has ls 3 [(0, .ref (q 0)), (1, .int p1), (2, .int p2)] := hl
  refine lv_aload_n hx hb dX9_clashes_0 rfl (lv_at hl 0 rfl) ?_
  refine lv_iconst (v := 0) hx hb dX9_clashes_1 (by decide) ?_
  refine va_put (D := D) (ci := 8) (v := .int (0 : Int32)) (ty := .int) (C := RX9) (T := TX9) (N := 27) hx hb hts hiX9 tyX9 tyX9_ok nmX9 hown hK hP hD hS 0 rfl rfl 0 (by decide) k46 (fun _ h9 => h9) rfl (by decide +kernel) rfl rfl (Nat.le_of_ble_eq_true rfl) dX9_clashes_2 (fun H locs hP hD hS => ?_)
  obtain ⟨z_1, ez_1, hf⟩ := nm_ob hf
  have hP : va_P D vwCl (wM cI cB cZ q z_1) H := by rw [ez_1]; exact hP
  have hD : va_D A (wM cI cB cZ q z_1) := by rw [ez_1]; exact hD
  refine lv_aload_n hx hb dX9_clashes_5 rfl (lv_at hl 0 rfl) ?_
  refine lv_iload_n hx hb dX9_clashes_6 rfl (lv_at hl 1 rfl) ?_
  refine lv_iload_n hx hb dX9_clashes_7 rfl (lv_at hl 2 rfl) ?_
  obtain ⟨⟨r_2, z_3⟩, hc_5, hf⟩ := bd_ob hf
  have hf := nm_st hf
  have hf := nm_st hf
  refine weV (As := [.int p1, .int p2]) (rest := []) ⟨hx, hb, hml, hown, hts⟩ (mX9_noPair l D cI cB cZ cO q _ fu z_1 p1 p2 hc_5) (cwV 2 hts gX9_clashes_X9_noPair rfl rfl rfl (by decide +kernel) ⟨Nat.le_of_ble_eq_true rfl, Nat.le_of_ble_eq_true rfl⟩) hK hP hD hS hA (va_recv hK hP (ci := 8) (q0 := 0) rfl rfl) rfl hl.1 rfl (Nat.le_of_ble_eq_true rfl) dX9_clashes_8 ⟨Nat.zero_le _, Nat.zero_le _⟩ (fun H locs hP hD hS => ?_)
  refine lv_if_eq (tgt := 18) hx hb dX9_clashes_11 (by decide) (fun c_11 => ?_) (fun c_11 => ?_)
  · have hf := ip c_11 hf
    refine lv_aload_n hx hb dX9_clashes_18 rfl (lv_at hl 0 rfl) ?_
    refine lv_iload_n hx hb dX9_clashes_19 rfl (lv_at hl 1 rfl) ?_
    refine lv_iload_n hx hb dX9_clashes_20 rfl (lv_at hl 2 rfl) ?_
    obtain ⟨r_6, hc_7, hf⟩ := bd_ob hf
    refine rdV (As := [.int p1, .int p2]) (rest := []) ⟨hx, hb, hml, hown, hts⟩ (mX9_clashing l D cI cB cZ cO q fu z_3 p1 p2 hc_7) (cwV 2 hts gX9_clashes_X9_clashing rfl rfl rfl (by decide +kernel) ⟨Nat.le_of_ble_eq_true rfl, Nat.le_of_ble_eq_true rfl⟩) hK hP (va_recv hK hP (ci := 8) (q0 := 0) rfl rfl) rfl hl.1 rfl (Nat.le_of_ble_eq_true rfl) dX9_clashes_21 ⟨Nat.zero_le _, Nat.zero_le _⟩ ?_
    exact rW_i hx hb hr hlocks hP hD hS (congrArg (fun q9 => q9.1) (so_ob hf)) (congrArg (fun (q9 : Int32 × (OS)) => wM cI cB cZ q q9.2) (so_ob hf)) dX9_clashes_24
  · have hf := iq c_11 hf
    refine lv_iconst (v := 0) hx hb dX9_clashes_14 (by decide) ?_
    refine lv_goto (tgt := 24) hx hb dX9_clashes_15 (by decide) ?_
    exact rW_i hx hb hr hlocks hP hD hS (congrArg (fun q9 => q9.1) (so_ob hf)) (congrArg (fun (q9 : Int32 × (OS)) => wM cI cB cZ q q9.2) (so_ob hf)) dX9_clashes_24

def fX9_areResolvable (fu : Nat) (z : OS) (p1 : Int32) (p2 : Int32) : Option (Int32 × (OS)) :=
  nm (sI z 0 (0 : Int32)) (fun (z_1 : OS) => bd (fX9_noPair fu z_1 p1 p2) (fun (w_4 : Int32 × OS) => nm w_4.1 (fun (r_2 : Int32) => nm w_4.2 (fun (z_3 : OS) => (if ¬ r_2 = (0 : Int32) then gd (isZ (0 : Int32)) (some ((0 : Int32), z_3)) else bd (fX9_clashing fu z_3 p1 p2) (fun (r_6 : Int32) => (if ¬ r_6 = (1 : Int32) then gd (isZ (0 : Int32)) (some ((0 : Int32), z_3)) else gd (isZ (1 : Int32)) (some ((1 : Int32), z_3)))))))))
set_option maxRecDepth 100000 in
set_option maxHeartbeats 4000000 in
theorem mX9_areResolvable (l : Launch) (D : va_G) (cI cB cZ cO : ClassId) (q : Nat → Nat) (sz : Nat) (fu : Nat) (z : OS) (p1 : Int32) (p2 : Int32) {r : Int32} {y1 : OS} (hf : fX9_areResolvable fu z p1 p2 = some (r, y1)) : Met l yX9_areResolvable wsX9_areResolvable ({ frames := 3, cells := 0, slots := 0, locals := 68 }) (va_Pc [.ref (q 0), .int p1, .int p2] (Pw D (gT cI cB cZ cO) (wM cI cB cZ q z) sz)) (Qw D (va_A (wM cI cB cZ q z) sz) (some (.int r)) (wM cI cB cZ q y1)) 0 0 (va_A (wM cI cB cZ q z) sz) := by
  unfold fX9_areResolvable at hf
  refine metW (ret := (some .boolean)) (own := RX9) rfl (by decide) rfl (Nat.le_of_ble_eq_true rfl) (fun p e s m args below meth c ls A hx hb hr hml hown hlocks hts hK hA hP hD hS hl => ?_)
  have k46 := (hts (.fieldLink RX9 46 "ResolutionProverModel" "thrown" "I") (List.mem_of_getElem? (i := 1) rfl))
  have hiX9 : ∀ w ∈ wsX90, w ∈ wsX9_areResolvable := (memIn_p [35, 36, 37, 38, 39, 40, 41, 42, 43, 44, 45, 46, 47, 48, 49, 50, 51, 52, 53, 54, 55, 56, 57, 58, 59, 60, 61] rfl)
  have hl : lv_has ls 3 [(0, .ref (q 0)), (1, .int p1), (2, .int p2)] := hl
  refine lv_aload_n hx hb dX9_areResolvable_0 rfl (lv_at hl 0 rfl) ?_
  refine lv_iconst (v := 0) hx hb dX9_areResolvable_1 (by decide) ?_
  refine va_put (D := D) (ci := 8) (v := .int (0 : Int32)) (ty := .int) (C := RX9) (T := TX9) (N := 27) hx hb hts hiX9 tyX9 tyX9_ok nmX9 hown hK hP hD hS 0 rfl rfl 0 (by decide) k46 (fun _ h9 => h9) rfl (by decide +kernel) rfl rfl (Nat.le_of_ble_eq_true rfl) dX9_areResolvable_2 (fun H locs hP hD hS => ?_)
  obtain ⟨z_1, ez_1, hf⟩ := nm_ob hf
  have hP : va_P D vwCl (wM cI cB cZ q z_1) H := by rw [ez_1]; exact hP
  have hD : va_D A (wM cI cB cZ q z_1) := by rw [ez_1]; exact hD
  refine lv_aload_n hx hb dX9_areResolvable_5 rfl (lv_at hl 0 rfl) ?_
  refine lv_iload_n hx hb dX9_areResolvable_6 rfl (lv_at hl 1 rfl) ?_
  refine lv_iload_n hx hb dX9_areResolvable_7 rfl (lv_at hl 2 rfl) ?_
  obtain ⟨⟨r_2, z_3⟩, hc_5, hf⟩ := bd_ob hf
  have hf := nm_st hf
  have hf := nm_st hf
  refine weV (As := [.int p1, .int p2]) (rest := []) ⟨hx, hb, hml, hown, hts⟩ (mX9_noPair l D cI cB cZ cO q _ fu z_1 p1 p2 hc_5) (cwV 2 hts gX9_areResolvable_X9_noPair rfl rfl rfl (by decide +kernel) ⟨Nat.le_of_ble_eq_true rfl, Nat.le_of_ble_eq_true rfl⟩) hK hP hD hS hA (va_recv hK hP (ci := 8) (q0 := 0) rfl rfl) rfl hl.1 rfl (Nat.le_of_ble_eq_true rfl) dX9_areResolvable_8 ⟨Nat.zero_le _, Nat.zero_le _⟩ (fun H locs hP hD hS => ?_)
  refine lv_if_ne (tgt := 28) hx hb dX9_areResolvable_11 (by decide) (fun c_11 => ?_) (fun c_11 => ?_)
  · have hf := ip c_11 hf
    refine lv_iconst (v := 0) hx hb dX9_areResolvable_28 (by decide) ?_
    obtain ⟨hz, hf⟩ := gd_ob hf
    exact rW_z hx hb hr hlocks hP hD hS hz (congrArg (fun q9 => q9.1) (so_ob hf)) (congrArg (fun (q9 : Int32 × (OS)) => wM cI cB cZ q q9.2) (so_ob hf)) dX9_areResolvable_29
  · have hf := iqn c_11 hf
    refine lv_aload_n hx hb dX9_areResolvable_14 rfl (lv_at hl 0 rfl) ?_
    refine lv_iload_n hx hb dX9_areResolvable_15 rfl (lv_at hl 1 rfl) ?_
    refine lv_iload_n hx hb dX9_areResolvable_16 rfl (lv_at hl 2 rfl) ?_
    obtain ⟨r_6, hc_7, hf⟩ := bd_ob hf
    refine rdV (As := [.int p1, .int p2]) (rest := []) ⟨hx, hb, hml, hown, hts⟩ (mX9_clashing l D cI cB cZ cO q fu z_3 p1 p2 hc_7) (cwV 2 hts gX9_areResolvable_X9_clashing rfl rfl rfl (by decide +kernel) ⟨Nat.le_of_ble_eq_true rfl, Nat.le_of_ble_eq_true rfl⟩) hK hP (va_recv hK hP (ci := 8) (q0 := 0) rfl rfl) rfl hl.1 rfl (Nat.le_of_ble_eq_true rfl) dX9_areResolvable_17 ⟨Nat.zero_le _, Nat.zero_le _⟩ ?_
    refine lv_iconst (v := 1) hx hb dX9_areResolvable_20 (by decide) ?_
    refine lv_icmp_ne (tgt := 28) hx hb dX9_areResolvable_21 (by decide) (fun c_21 => ?_) (fun c_21 => ?_)
    · have hf := ip c_21 hf
      refine lv_iconst (v := 0) hx hb dX9_areResolvable_28 (by decide) ?_
      obtain ⟨hz, hf⟩ := gd_ob hf
      exact rW_z hx hb hr hlocks hP hD hS hz (congrArg (fun q9 => q9.1) (so_ob hf)) (congrArg (fun (q9 : Int32 × (OS)) => wM cI cB cZ q q9.2) (so_ob hf)) dX9_areResolvable_29
    · have hf := iqn c_21 hf
      refine lv_iconst (v := 1) hx hb dX9_areResolvable_24 (by decide) ?_
      refine lv_goto (tgt := 29) hx hb dX9_areResolvable_25 (by decide) ?_
      obtain ⟨hz, hf⟩ := gd_ob hf
      exact rW_z hx hb hr hlocks hP hD hS hz (congrArg (fun q9 => q9.1) (so_ob hf)) (congrArg (fun (q9 : Int32 × (OS)) => wM cI cB cZ q q9.2) (so_ob hf)) dX9_areResolvable_29

def fX9_resolventOf (fu : Nat) (z : OS) (p1 : Int32) (p2 : Int32) (p3 : Int32) : Option (Int32 × (OS)) :=
  nm (sI z 0 (0 : Int32)) (fun (z_1 : OS) => bd (fX9_noPair fu z_1 p1 p2) (fun (w_4 : Int32 × OS) => nm w_4.1 (fun (r_2 : Int32) => nm w_4.2 (fun (z_3 : OS) => (if r_2 = (0 : Int32) then bd (fX9_clashing fu z_3 p1 p2) (fun (r_6 : Int32) => (if r_6 = (1 : Int32) then bd (fX9_resolves fu z_3 p1 p2) (fun (z_8 : OS) => bd (fX9_many fu z_8) (fun (r_10 : Int32) => bd (fX9_mask fu z_8 r_10 p3) (fun (r_12 : Int32) => some (r_12, z_8)))) else some ((-1 : Int32), z_3))) else some ((0 : Int32), z_3))))))
set_option maxRecDepth 100000 in
set_option maxHeartbeats 4000000 in
theorem mX9_resolventOf (l : Launch) (D : va_G) (cI cB cZ cO : ClassId) (q : Nat → Nat) (sz : Nat) (fu : Nat) (z : OS) (p1 : Int32) (p2 : Int32) (p3 : Int32) {r : Int32} {y1 : OS} (hf : fX9_resolventOf fu z p1 p2 p3 = some (r, y1)) : Met l yX9_resolventOf wsX9_resolventOf ({ frames := 3, cells := 0, slots := 0, locals := 70 }) (va_Pc [.ref (q 0), .int p1, .int p2, .int p3] (Pw D (gT cI cB cZ cO) (wM cI cB cZ q z) sz)) (Qw D (va_A (wM cI cB cZ q z) sz) (some (.int r)) (wM cI cB cZ q y1)) 0 0 (va_A (wM cI cB cZ q z) sz) := by
  unfold fX9_resolventOf at hf
  refine metW (ret := (some .int)) (own := RX9) rfl (by decide) rfl (Nat.le_of_ble_eq_true rfl) (fun p e s m args below meth c ls A hx hb hr hml hown hlocks hts hK hA hP hD hS hl => ?_)
  have k46 := (hts (.fieldLink RX9 46 "ResolutionProverModel" "thrown" "I") (List.mem_of_getElem? (i := 1) rfl))
  have hiX9 : ∀ w ∈ wsX90, w ∈ wsX9_resolventOf := (memIn_p [51, 52, 53, 54, 55, 56, 57, 58, 59, 60, 61, 62, 63, 64, 65, 66, 67, 68, 69, 70, 71, 72, 73, 74, 75, 76, 77] rfl)
  have hl : lv_has ls 4 [(0, .ref (q 0)), (1, .int p1), (2, .int p2), (3, .int p3)] := hl
  refine lv_aload_n hx hb dX9_resolventOf_0 rfl (lv_at hl 0 rfl) ?_
  refine lv_iconst (v := 0) hx hb dX9_resolventOf_1 (by decide) ?_
  refine va_put (D := D) (ci := 8) (v := .int (0 : Int32)) (ty := .int) (C := RX9) (T := TX9) (N := 27) hx hb hts hiX9 tyX9 tyX9_ok nmX9 hown hK hP hD hS 0 rfl rfl 0 (by decide) k46 (fun _ h9 => h9) rfl (by decide +kernel) rfl rfl (Nat.le_of_ble_eq_true rfl) dX9_resolventOf_2 (fun H locs hP hD hS => ?_)
  obtain ⟨z_1, ez_1, hf⟩ := nm_ob hf
  have hP : va_P D vwCl (wM cI cB cZ q z_1) H := by rw [ez_1]; exact hP
  have hD : va_D A (wM cI cB cZ q z_1) := by rw [ez_1]; exact hD
  refine lv_aload_n hx hb dX9_resolventOf_5 rfl (lv_at hl 0 rfl) ?_
  refine lv_iload_n hx hb dX9_resolventOf_6 rfl (lv_at hl 1 rfl) ?_
  refine lv_iload_n hx hb dX9_resolventOf_7 rfl (lv_at hl 2 rfl) ?_
  obtain ⟨⟨r_2, z_3⟩, hc_5, hf⟩ := bd_ob hf
  have hf := nm_st hf
  have hf := nm_st hf
  refine weV (As := [.int p1, .int p2]) (rest := []) ⟨hx, hb, hml, hown, hts⟩ (mX9_noPair l D cI cB cZ cO q _ fu z_1 p1 p2 hc_5) (cwV 2 hts gX9_resolventOf_X9_noPair rfl rfl rfl (by decide +kernel) ⟨Nat.le_of_ble_eq_true rfl, Nat.le_of_ble_eq_true rfl⟩) hK hP hD hS hA (va_recv hK hP (ci := 8) (q0 := 0) rfl rfl) rfl hl.1 rfl (Nat.le_of_ble_eq_true rfl) dX9_resolventOf_8 ⟨Nat.zero_le _, Nat.zero_le _⟩ (fun H locs hP hD hS => ?_)
  refine lv_if_eq (tgt := 16) hx hb dX9_resolventOf_11 (by decide) (fun c_11 => ?_) (fun c_11 => ?_)
  · have hf := ip c_11 hf
    refine lv_aload_n hx hb dX9_resolventOf_16 rfl (lv_at hl 0 rfl) ?_
    refine lv_iload_n hx hb dX9_resolventOf_17 rfl (lv_at hl 1 rfl) ?_
    refine lv_iload_n hx hb dX9_resolventOf_18 rfl (lv_at hl 2 rfl) ?_
    obtain ⟨r_6, hc_7, hf⟩ := bd_ob hf
    refine rdV (As := [.int p1, .int p2]) (rest := []) ⟨hx, hb, hml, hown, hts⟩ (mX9_clashing l D cI cB cZ cO q fu z_3 p1 p2 hc_7) (cwV 2 hts gX9_resolventOf_X9_clashing rfl rfl rfl (by decide +kernel) ⟨Nat.le_of_ble_eq_true rfl, Nat.le_of_ble_eq_true rfl⟩) hK hP (va_recv hK hP (ci := 8) (q0 := 0) rfl rfl) rfl hl.1 rfl (Nat.le_of_ble_eq_true rfl) dX9_resolventOf_19 ⟨Nat.zero_le _, Nat.zero_le _⟩ ?_
    refine lv_iconst (v := 1) hx hb dX9_resolventOf_22 (by decide) ?_
    refine lv_icmp_eq (tgt := 28) hx hb dX9_resolventOf_23 (by decide) (fun c_23 => ?_) (fun c_23 => ?_)
    · have hf := ip c_23 hf
      refine lv_aload_n hx hb dX9_resolventOf_28 rfl (lv_at hl 0 rfl) ?_
      refine lv_iload_n hx hb dX9_resolventOf_29 rfl (lv_at hl 1 rfl) ?_
      refine lv_iload_n hx hb dX9_resolventOf_30 rfl (lv_at hl 2 rfl) ?_
      obtain ⟨z_8, hc_9, hf⟩ := bd_ob hf
      refine weV (As := [.int p1, .int p2]) (rest := []) ⟨hx, hb, hml, hown, hts⟩ (mX9_resolves l D cI cB cZ cO q _ fu z_3 p1 p2 hc_9) (cwV 2 hts gX9_resolventOf_X9_resolves rfl rfl rfl (by decide +kernel) ⟨Nat.le_of_ble_eq_true rfl, Nat.le_of_ble_eq_true rfl⟩) hK hP hD hS hA (va_recv hK hP (ci := 8) (q0 := 0) rfl rfl) rfl hl.1 rfl (Nat.le_of_ble_eq_true rfl) dX9_resolventOf_31 ⟨Nat.zero_le _, Nat.zero_le _⟩ (fun H locs hP hD hS => ?_)
      refine lv_aload_n hx hb dX9_resolventOf_34 rfl (lv_at hl 0 rfl) ?_
      refine lv_aload_n hx hb dX9_resolventOf_35 rfl (lv_at hl 0 rfl) ?_
      obtain ⟨r_10, hc_11, hf⟩ := bd_ob hf
      refine rdV (As := []) (rest := [.ref (q 0)]) ⟨hx, hb, hml, hown, hts⟩ (mX9_many l D cI cB cZ cO q fu z_8 hc_11) (cwV 0 hts gX9_resolventOf_X9_many rfl rfl rfl (by decide +kernel) ⟨Nat.le_of_ble_eq_true rfl, Nat.le_of_ble_eq_true rfl⟩) hK hP (va_recv hK hP (ci := 8) (q0 := 0) rfl rfl) rfl hl.1 rfl (Nat.le_of_ble_eq_true rfl) dX9_resolventOf_36 ⟨Nat.zero_le _, Nat.zero_le _⟩ ?_
      refine lv_iload_n hx hb dX9_resolventOf_39 rfl (lv_at hl 3 rfl) ?_
      obtain ⟨r_12, hc_13, hf⟩ := bd_ob hf
      refine rdV (As := [.int r_10, .int p3]) (rest := []) ⟨hx, hb, hml, hown, hts⟩ (mX9_mask l D cI cB cZ cO q fu z_8 r_10 p3 hc_13) (cwV 2 hts gX9_resolventOf_X9_mask rfl rfl rfl (by decide +kernel) ⟨Nat.le_of_ble_eq_true rfl, Nat.le_of_ble_eq_true rfl⟩) hK hP (va_recv hK hP (ci := 8) (q0 := 0) rfl rfl) rfl hl.1 rfl (Nat.le_of_ble_eq_true rfl) dX9_resolventOf_40 ⟨Nat.zero_le _, Nat.zero_le _⟩ ?_
      exact rW_i hx hb hr hlocks hP hD hS (congrArg (fun q9 => q9.1) (so_ob hf)) (congrArg (fun (q9 : Int32 × (OS)) => wM cI cB cZ q q9.2) (so_ob hf)) dX9_resolventOf_43
    · have hf := iq c_23 hf
      refine lv_iconst (v := (-1)) hx hb dX9_resolventOf_26 (by decide) ?_
      exact rW_i hx hb hr hlocks hP hD hS (congrArg (fun q9 => q9.1) (so_ob hf)) (congrArg (fun (q9 : Int32 × (OS)) => wM cI cB cZ q q9.2) (so_ob hf)) dX9_resolventOf_27
  · have hf := iq c_11 hf
    refine lv_iconst (v := 0) hx hb dX9_resolventOf_14 (by decide) ?_
    exact rW_i hx hb hr hlocks hP hD hS (congrArg (fun q9 => q9.1) (so_ob hf)) (congrArg (fun (q9 : Int32 × (OS)) => wM cI cB cZ q q9.2) (so_ob hf)) dX9_resolventOf_15

def fX9_resolventPositive (fu : Nat) (z : OS) (p1 : Int32) (p2 : Int32) : Option (Int32 × (OS)) :=
  bd (fX9_resolventOf fu z p1 p2 (1 : Int32)) (fun (w_3 : Int32 × OS) => nm w_3.1 (fun (r_1 : Int32) => nm w_3.2 (fun (z_2 : OS) => some (r_1, z_2))))
set_option maxRecDepth 100000 in
set_option maxHeartbeats 4000000 in
theorem mX9_resolventPositive (l : Launch) (D : va_G) (cI cB cZ cO : ClassId) (q : Nat → Nat) (sz : Nat) (fu : Nat) (z : OS) (p1 : Int32) (p2 : Int32) {r : Int32} {y1 : OS} (hf : fX9_resolventPositive fu z p1 p2 = some (r, y1)) : Met l yX9_resolventPositive wsX9_resolventPositive ({ frames := 4, cells := 0, slots := 0, locals := 93 }) (va_Pc [.ref (q 0), .int p1, .int p2] (Pw D (gT cI cB cZ cO) (wM cI cB cZ q z) sz)) (Qw D (va_A (wM cI cB cZ q z) sz) (some (.int r)) (wM cI cB cZ q y1)) 0 0 (va_A (wM cI cB cZ q z) sz) := by
  unfold fX9_resolventPositive at hf
  refine metW (ret := (some .int)) (own := RX9) rfl (by decide) rfl (Nat.le_of_ble_eq_true rfl) (fun p e s m args below meth c ls A hx hb hr hml hown hlocks hts hK hA hP hD hS hl => ?_)
  have hl : lv_has ls 3 [(0, .ref (q 0)), (1, .int p1), (2, .int p2)] := hl
  refine lv_aload_n hx hb dX9_resolventPositive_0 rfl (lv_at hl 0 rfl) ?_
  refine lv_iload_n hx hb dX9_resolventPositive_1 rfl (lv_at hl 1 rfl) ?_
  refine lv_iload_n hx hb dX9_resolventPositive_2 rfl (lv_at hl 2 rfl) ?_
  refine lv_iconst (v := 1) hx hb dX9_resolventPositive_3 (by decide) ?_
  obtain ⟨⟨r_1, z_2⟩, hc_4, hf⟩ := bd_ob hf
  have hf := nm_st hf
  have hf := nm_st hf
  refine weV (As := [.int p1, .int p2, .int (1 : Int32)]) (rest := []) ⟨hx, hb, hml, hown, hts⟩ (mX9_resolventOf l D cI cB cZ cO q _ fu z p1 p2 (1 : Int32) hc_4) (cwV 3 hts gX9_resolventPositive_X9_resolventOf rfl rfl rfl (by decide +kernel) ⟨Nat.le_of_ble_eq_true rfl, Nat.le_of_ble_eq_true rfl⟩) hK hP hD hS hA (va_recv hK hP (ci := 8) (q0 := 0) rfl rfl) rfl hl.1 rfl (Nat.le_of_ble_eq_true rfl) dX9_resolventPositive_4 ⟨Nat.zero_le _, Nat.zero_le _⟩ (fun H locs hP hD hS => ?_)
  exact rW_i hx hb hr hlocks hP hD hS (congrArg (fun q9 => q9.1) (so_ob hf)) (congrArg (fun (q9 : Int32 × (OS)) => wM cI cB cZ q q9.2) (so_ob hf)) dX9_resolventPositive_7

def fX9_resolventNegative (fu : Nat) (z : OS) (p1 : Int32) (p2 : Int32) : Option (Int32 × (OS)) :=
  bd (fX9_resolventOf fu z p1 p2 (2 : Int32)) (fun (w_3 : Int32 × OS) => nm w_3.1 (fun (r_1 : Int32) => nm w_3.2 (fun (z_2 : OS) => some (r_1, z_2))))
set_option maxRecDepth 100000 in
set_option maxHeartbeats 4000000 in
theorem mX9_resolventNegative (l : Launch) (D : va_G) (cI cB cZ cO : ClassId) (q : Nat → Nat) (sz : Nat) (fu : Nat) (z : OS) (p1 : Int32) (p2 : Int32) {r : Int32} {y1 : OS} (hf : fX9_resolventNegative fu z p1 p2 = some (r, y1)) : Met l yX9_resolventNegative wsX9_resolventNegative ({ frames := 4, cells := 0, slots := 0, locals := 93 }) (va_Pc [.ref (q 0), .int p1, .int p2] (Pw D (gT cI cB cZ cO) (wM cI cB cZ q z) sz)) (Qw D (va_A (wM cI cB cZ q z) sz) (some (.int r)) (wM cI cB cZ q y1)) 0 0 (va_A (wM cI cB cZ q z) sz) := by
  unfold fX9_resolventNegative at hf
  refine metW (ret := (some .int)) (own := RX9) rfl (by decide) rfl (Nat.le_of_ble_eq_true rfl) (fun p e s m args below meth c ls A hx hb hr hml hown hlocks hts hK hA hP hD hS hl => ?_)
  have hl : lv_has ls 3 [(0, .ref (q 0)), (1, .int p1), (2, .int p2)] := hl
  refine lv_aload_n hx hb dX9_resolventNegative_0 rfl (lv_at hl 0 rfl) ?_
  refine lv_iload_n hx hb dX9_resolventNegative_1 rfl (lv_at hl 1 rfl) ?_
  refine lv_iload_n hx hb dX9_resolventNegative_2 rfl (lv_at hl 2 rfl) ?_
  refine lv_iconst (v := 2) hx hb dX9_resolventNegative_3 (by decide) ?_
  obtain ⟨⟨r_1, z_2⟩, hc_4, hf⟩ := bd_ob hf
  have hf := nm_st hf
  have hf := nm_st hf
  refine weV (As := [.int p1, .int p2, .int (2 : Int32)]) (rest := []) ⟨hx, hb, hml, hown, hts⟩ (mX9_resolventOf l D cI cB cZ cO q _ fu z p1 p2 (2 : Int32) hc_4) (cwV 3 hts gX9_resolventNegative_X9_resolventOf rfl rfl rfl (by decide +kernel) ⟨Nat.le_of_ble_eq_true rfl, Nat.le_of_ble_eq_true rfl⟩) hK hP hD hS hA (va_recv hK hP (ci := 8) (q0 := 0) rfl rfl) rfl hl.1 rfl (Nat.le_of_ble_eq_true rfl) dX9_resolventNegative_4 ⟨Nat.zero_le _, Nat.zero_le _⟩ (fun H locs hP hD hS => ?_)
  exact rW_i hx hb hr hlocks hP hD hS (congrArg (fun q9 => q9.1) (so_ob hf)) (congrArg (fun (q9 : Int32 × (OS)) => wM cI cB cZ q q9.2) (so_ob hf)) dX9_resolventNegative_7

def lX9_resolvablePairs_19 (fu : Nat) (z_1 : OS) (v2_9 : Int32) (j48 : Int32 → Option (Int32 × (OS))) : Nat → Int32 → Int32 → Option (Int32 × (OS))
  | 0, _, _ => none
  | n_19 + 1, v1_19, v3_19 => (if v2_9 ≤ v3_19 then j48 v1_19 else bd (fX9_clashing fu z_1 v3_19 v2_9) (fun (r_5 : Int32) => jn (κ := Int32 → Int32 → Option (Int32 × (OS))) (fun (t0_40 : Int32) (t1_40 : Int32) => nm (t0_40 + t1_40) (fun (v1_7 : Int32) => nm (v3_19 + (1 : Int32)) (fun (v3_8 : Int32) => lX9_resolvablePairs_19 fu z_1 v2_9 j48 n_19 v1_7 v3_8))) (fun j40 => (if ¬ r_5 = (1 : Int32) then j40 v1_19 (0 : Int32) else j40 v1_19 (1 : Int32)))))
def lX9_resolvablePairs_9 (fu : Nat) (z_1 : OS) (j54 : Int32 → Option (Int32 × (OS))) : Nat → Int32 → Int32 → Option (Int32 × (OS))
  | 0, _, _ => none
  | n_9 + 1, v1_9, v2_9 => bd (fX9_many fu z_1) (fun (r_2 : Int32) => (if r_2 ≤ v2_9 then j54 v1_9 else jn (κ := Int32 → Option (Int32 × (OS))) (fun (v1_48 : Int32) => nm (v2_9 + (1 : Int32)) (fun (v2_4 : Int32) => lX9_resolvablePairs_9 fu z_1 j54 n_9 v1_48 v2_4)) (fun j48 => lX9_resolvablePairs_19 fu z_1 v2_9 j48 fu v1_9 (0 : Int32))))
def fX9_resolvablePairs (fu : Nat) (z : OS) : Option (Int32 × (OS)) :=
  nm (sI z 0 (0 : Int32)) (fun (z_1 : OS) => jn (κ := Int32 → Option (Int32 × (OS))) (fun (v1_54 : Int32) => some (v1_54, z_1)) (fun j54 => lX9_resolvablePairs_9 fu z_1 j54 fu (0 : Int32) (0 : Int32)))
set_option maxRecDepth 100000 in
set_option maxHeartbeats 4000000 in
theorem mX9_resolvablePairs (l : Launch) (D : va_G) (cI cB cZ cO : ClassId) (q : Nat → Nat) (sz : Nat) (fu : Nat) (z : OS) {r : Int32} {y1 : OS} (hf : fX9_resolvablePairs fu z = some (r, y1)) : Met l yX9_resolvablePairs wsX9_resolvablePairs ({ frames := 2, cells := 0, slots := 0, locals := 46 }) (va_Pc [.ref (q 0)] (Pw D (gT cI cB cZ cO) (wM cI cB cZ q z) sz)) (Qw D (va_A (wM cI cB cZ q z) sz) (some (.int r)) (wM cI cB cZ q y1)) 0 0 (va_A (wM cI cB cZ q z) sz) := by
  unfold fX9_resolvablePairs at hf
  refine metW (ret := (some .int)) (own := RX9) rfl (by decide) rfl (Nat.le_of_ble_eq_true rfl) (fun p e s m args below meth c ls A hx hb hr hml hown hlocks hts hK hA hP hD hS hl => ?_)
  have k46 := (hts (.fieldLink RX9 46 "ResolutionProverModel" "thrown" "I") (List.mem_of_getElem? (i := 1) rfl))
  have hiX9 : ∀ w ∈ wsX90, w ∈ wsX9_resolvablePairs := (memIn_p [20, 21, 22, 23, 24, 25, 26, 27, 28, 29, 30, 31, 32, 33, 34, 35, 36, 37, 38, 39, 40, 41, 42, 43, 44, 45, 46] rfl)
  have hl : lv_has ls 4 [(0, .ref (q 0))] := hl
  refine lv_aload_n hx hb dX9_resolvablePairs_0 rfl (lv_at hl 0 rfl) ?_
  refine lv_iconst (v := 0) hx hb dX9_resolvablePairs_1 (by decide) ?_
  refine va_put (D := D) (ci := 8) (v := .int (0 : Int32)) (ty := .int) (C := RX9) (T := TX9) (N := 27) hx hb hts hiX9 tyX9 tyX9_ok nmX9 hown hK hP hD hS 0 rfl rfl 0 (by decide) k46 (fun _ h9 => h9) rfl (by decide +kernel) rfl rfl (Nat.le_of_ble_eq_true rfl) dX9_resolvablePairs_2 (fun H locs hP hD hS => ?_)
  obtain ⟨z_1, ez_1, hf⟩ := nm_ob hf
  have hP : va_P D vwCl (wM cI cB cZ q z_1) H := by rw [ez_1]; exact hP
  have hD : va_D A (wM cI cB cZ q z_1) := by rw [ez_1]; exact hD
  refine lv_iconst (v := 0) hx hb dX9_resolvablePairs_5 (by decide) ?_
  refine lv_istore_n (lv' := [(1, .int (0 : Int32)), (0, .ref (q 0))]) hx hb dX9_resolvablePairs_6 rfl hl (by decide) rfl (fun ls hl => ?_)
  refine lv_iconst (v := 0) hx hb dX9_resolvablePairs_7 (by decide) ?_
  refine lv_istore_n (lv' := [(2, .int (0 : Int32)), (1, .int (0 : Int32)), (0, .ref (q 0))]) hx hb dX9_resolvablePairs_8 rfl hl (by decide) rfl (fun ls hl => ?_)
  obtain ⟨j54, ej54, hf⟩ := jn_ob hf
  have hp54 : ∀ (v1_54 : Int32) (H : Heap) (locs : List Loc) (ls : Array Slot), j54 v1_54 = some (r, y1) → va_P D vwCl (wM cI cB cZ q z_1) H → va_D A (wM cI cB cZ q z_1) → va_S A s.heap H locs → lv_has ls 4 [(1, .int v1_54)] → W p l e (headSpec wsX9_resolvablePairs { frames := 2, cells := 0, slots := 0, locals := 46 }).room s m args below meth c H locs 0 0 (MQ below (Qw D A (some (.int r)) (wM cI cB cZ q y1)) args s 0 0 A) (F0 m 54 ls []) := by
    intro v1_54 H locs ls hf hP hD hS hl
    rw [ej54] at hf
    refine lv_iload_n hx hb dX9_resolvablePairs_54 rfl (lv_at hl 0 rfl) ?_
    exact rW_i hx hb hr hlocks hP hD hS (congrArg (fun q9 => q9.1) (so_ob hf)) (congrArg (fun (q9 : Int32 × (OS)) => wM cI cB cZ q q9.2) (so_ob hf)) dX9_resolvablePairs_55
  have hL9 : ∀ (n_9 : Nat) (v1_9 : Int32) (v2_9 : Int32) (H : Heap) (locs : List Loc) (ls : Array Slot), lX9_resolvablePairs_9 fu z_1 j54 n_9 v1_9 v2_9 = some (r, y1) → va_P D vwCl (wM cI cB cZ q z_1) H → va_D A (wM cI cB cZ q z_1) → va_S A s.heap H locs → lv_has ls 4 [(0, .ref (q 0)), (1, .int v1_9), (2, .int v2_9)] → W p l e (headSpec wsX9_resolvablePairs { frames := 2, cells := 0, slots := 0, locals := 46 }).room s m args below meth c H locs 0 0 (MQ below (Qw D A (some (.int r)) (wM cI cB cZ q y1)) args s 0 0 A) (F0 m 9 ls []) := by
    intro n_9
    induction n_9 with
    | zero =>
      intro v1_9 v2_9 H locs ls hf
      exact no_ob hf
    | succ n_9 ih9 =>
      intro v1_9 v2_9 H locs ls hf hP hD hS hl
      rw [lX9_resolvablePairs_9] at hf
      refine lv_iload_n hx hb dX9_resolvablePairs_9 rfl (lv_at hl 2 rfl) ?_
      refine lv_aload_n hx hb dX9_resolvablePairs_10 rfl (lv_at hl 0 rfl) ?_
      obtain ⟨r_2, hc_3, hf⟩ := bd_ob hf
      refine rdV (As := []) (rest := [.int v2_9]) ⟨hx, hb, hml, hown, hts⟩ (mX9_many l D cI cB cZ cO q fu z_1 hc_3) (cwV 0 hts gX9_resolvablePairs_X9_many rfl rfl rfl (by decide +kernel) ⟨Nat.le_of_ble_eq_true rfl, Nat.le_of_ble_eq_true rfl⟩) hK hP (va_recv hK hP (ci := 8) (q0 := 0) rfl rfl) rfl hl.1 rfl (Nat.le_of_ble_eq_true rfl) dX9_resolvablePairs_11 ⟨Nat.zero_le _, Nat.zero_le _⟩ ?_
      refine lv_icmp_ge (tgt := 54) hx hb dX9_resolvablePairs_14 (by decide) (fun c_14 => ?_) (fun c_14 => ?_)
      · have hf := ip c_14 hf
        exact hp54 v1_9 _ _ _ hf hP hD hS (lv_sub hl [1] rfl)
      · have hf := iq c_14 hf
        refine lv_iconst (v := 0) hx hb dX9_resolvablePairs_17 (by decide) ?_
        refine lv_istore_n (lv' := [(3, .int (0 : Int32)), (0, .ref (q 0)), (1, .int v1_9), (2, .int v2_9)]) hx hb dX9_resolvablePairs_18 rfl hl (by decide) rfl (fun ls hl => ?_)
        obtain ⟨j48, ej48, hf⟩ := jn_ob hf
        have hp48 : ∀ (v1_48 : Int32) (H : Heap) (locs : List Loc) (ls : Array Slot), j48 v1_48 = some (r, y1) → va_P D vwCl (wM cI cB cZ q z_1) H → va_D A (wM cI cB cZ q z_1) → va_S A s.heap H locs → lv_has ls 4 [(0, .ref (q 0)), (1, .int v1_48), (2, .int v2_9)] → W p l e (headSpec wsX9_resolvablePairs { frames := 2, cells := 0, slots := 0, locals := 46 }).room s m args below meth c H locs 0 0 (MQ below (Qw D A (some (.int r)) (wM cI cB cZ q y1)) args s 0 0 A) (F0 m 48 ls []) := by
          intro v1_48 H locs ls hf hP hD hS hl
          rw [ej48] at hf
          obtain ⟨v2_4, ev2_4, hf⟩ := nm_ob hf
          refine lv_iinc (v := v2_4) (lv' := [(2, .int v2_4), (0, .ref (q 0)), (1, .int v1_48)]) hx hb dX9_resolvablePairs_48 hl (k := 2) rfl (by rw [ev2_4]; rfl) (by decide) rfl (fun ls hl => ?_)
          refine lv_goto (tgt := 9) hx hb dX9_resolvablePairs_51 (by decide) ?_
          exact ih9 v1_48 v2_4 _ _ _ hf hP hD hS (lv_sub hl [1, 2, 0] rfl)
        have hL19 : ∀ (n_19 : Nat) (v1_19 : Int32) (v3_19 : Int32) (H : Heap) (locs : List Loc) (ls : Array Slot), lX9_resolvablePairs_19 fu z_1 v2_9 j48 n_19 v1_19 v3_19 = some (r, y1) → va_P D vwCl (wM cI cB cZ q z_1) H → va_D A (wM cI cB cZ q z_1) → va_S A s.heap H locs → lv_has ls 4 [(0, .ref (q 0)), (1, .int v1_19), (2, .int v2_9), (3, .int v3_19)] → W p l e (headSpec wsX9_resolvablePairs { frames := 2, cells := 0, slots := 0, locals := 46 }).room s m args below meth c H locs 0 0 (MQ below (Qw D A (some (.int r)) (wM cI cB cZ q y1)) args s 0 0 A) (F0 m 19 ls []) := by
          intro n_19
          induction n_19 with
          | zero =>
            intro v1_19 v3_19 H locs ls hf
            exact no_ob hf
          | succ n_19 ih19 =>
            intro v1_19 v3_19 H locs ls hf hP hD hS hl
            rw [lX9_resolvablePairs_19] at hf
            refine lv_iload_n hx hb dX9_resolvablePairs_19 rfl (lv_at hl 3 rfl) ?_
            refine lv_iload_n hx hb dX9_resolvablePairs_20 rfl (lv_at hl 2 rfl) ?_
            refine lv_icmp_ge (tgt := 48) hx hb dX9_resolvablePairs_21 (by decide) (fun c_21 => ?_) (fun c_21 => ?_)
            · have hf := ip c_21 hf
              exact hp48 v1_19 _ _ _ hf hP hD hS (lv_sub hl [0, 1, 2] rfl)
            · have hf := iq c_21 hf
              refine lv_iload_n hx hb dX9_resolvablePairs_24 rfl (lv_at hl 1 rfl) ?_
              refine lv_aload_n hx hb dX9_resolvablePairs_25 rfl (lv_at hl 0 rfl) ?_
              refine lv_iload_n hx hb dX9_resolvablePairs_26 rfl (lv_at hl 3 rfl) ?_
              refine lv_iload_n hx hb dX9_resolvablePairs_27 rfl (lv_at hl 2 rfl) ?_
              obtain ⟨r_5, hc_6, hf⟩ := bd_ob hf
              refine rdV (As := [.int v3_19, .int v2_9]) (rest := [.int v1_19]) ⟨hx, hb, hml, hown, hts⟩ (mX9_clashing l D cI cB cZ cO q fu z_1 v3_19 v2_9 hc_6) (cwV 2 hts gX9_resolvablePairs_X9_clashing rfl rfl rfl (by decide +kernel) ⟨Nat.le_of_ble_eq_true rfl, Nat.le_of_ble_eq_true rfl⟩) hK hP (va_recv hK hP (ci := 8) (q0 := 0) rfl rfl) rfl hl.1 rfl (Nat.le_of_ble_eq_true rfl) dX9_resolvablePairs_28 ⟨Nat.zero_le _, Nat.zero_le _⟩ ?_
              refine lv_iconst (v := 1) hx hb dX9_resolvablePairs_31 (by decide) ?_
              obtain ⟨j40, ej40, hf⟩ := jn_ob hf
              have hp40 : ∀ (t0_40 : Int32) (t1_40 : Int32) (H : Heap) (locs : List Loc) (ls : Array Slot), j40 t0_40 t1_40 = some (r, y1) → va_P D vwCl (wM cI cB cZ q z_1) H → va_D A (wM cI cB cZ q z_1) → va_S A s.heap H locs → lv_has ls 4 [(0, .ref (q 0)), (2, .int v2_9), (3, .int v3_19)] → W p l e (headSpec wsX9_resolvablePairs { frames := 2, cells := 0, slots := 0, locals := 46 }).room s m args below meth c H locs 0 0 (MQ below (Qw D A (some (.int r)) (wM cI cB cZ q y1)) args s 0 0 A) (F0 m 40 ls [.int t1_40, .int t0_40]) := by
                intro t0_40 t1_40 H locs ls hf hP hD hS hl
                rw [ej40] at hf
                refine lv_iadd hx hb dX9_resolvablePairs_40 ?_
                obtain ⟨v1_7, ev1_7, hf⟩ := nm_ob hf
                refine lv_nmi ev1_7 ?_
                refine lv_istore_n (lv' := [(1, .int v1_7), (0, .ref (q 0)), (2, .int v2_9), (3, .int v3_19)]) hx hb dX9_resolvablePairs_41 rfl hl (by decide) rfl (fun ls hl => ?_)
                obtain ⟨v3_8, ev3_8, hf⟩ := nm_ob hf
                refine lv_iinc (v := v3_8) (lv' := [(3, .int v3_8), (1, .int v1_7), (0, .ref (q 0)), (2, .int v2_9)]) hx hb dX9_resolvablePairs_42 hl (k := 3) rfl (by rw [ev3_8]; rfl) (by decide) rfl (fun ls hl => ?_)
                refine lv_goto (tgt := 19) hx hb dX9_resolvablePairs_45 (by decide) ?_
                exact ih19 v1_7 v3_8 _ _ _ hf hP hD hS (lv_sub hl [2, 1, 3, 0] rfl)
              refine lv_icmp_ne (tgt := 39) hx hb dX9_resolvablePairs_32 (by decide) (fun c_32 => ?_) (fun c_32 => ?_)
              · have hf := ip c_32 hf
                refine lv_iconst (v := 0) hx hb dX9_resolvablePairs_39 (by decide) ?_
                exact hp40 v1_19 (0 : Int32) _ _ _ hf hP hD hS (lv_sub hl [0, 2, 3] rfl)
              · have hf := iqn c_32 hf
                refine lv_iconst (v := 1) hx hb dX9_resolvablePairs_35 (by decide) ?_
                refine lv_goto (tgt := 40) hx hb dX9_resolvablePairs_36 (by decide) ?_
                exact hp40 v1_19 (1 : Int32) _ _ _ hf hP hD hS (lv_sub hl [0, 2, 3] rfl)
        exact hL19 fu v1_9 (0 : Int32) _ _ _ hf hP hD hS (lv_sub hl [1, 2, 3, 0] rfl)
  exact hL9 fu (0 : Int32) (0 : Int32) _ _ _ hf hP hD hS (lv_sub hl [2, 1, 0] rfl)

def fX9_subsumes (fu : Nat) (z : OS) (p1 : Int32) (p2 : Int32) : Option (Int32 × (OS)) :=
  nm (sI z 0 (0 : Int32)) (fun (z_1 : OS) => bd (fX9_noPair fu z_1 p1 p2) (fun (w_4 : Int32 × OS) => nm w_4.1 (fun (r_2 : Int32) => nm w_4.2 (fun (z_3 : OS) => (if ¬ r_2 = (0 : Int32) then gd (isZ (0 : Int32)) (some ((0 : Int32), z_3)) else bd (fX9_isWithin fu z_3 p1 p2) (fun (r_6 : Int32) => (if r_6 = (0 : Int32) then gd (isZ (0 : Int32)) (some ((0 : Int32), z_3)) else gd (isZ (1 : Int32)) (some ((1 : Int32), z_3)))))))))
set_option maxRecDepth 100000 in
set_option maxHeartbeats 4000000 in
theorem mX9_subsumes (l : Launch) (D : va_G) (cI cB cZ cO : ClassId) (q : Nat → Nat) (sz : Nat) (fu : Nat) (z : OS) (p1 : Int32) (p2 : Int32) {r : Int32} {y1 : OS} (hf : fX9_subsumes fu z p1 p2 = some (r, y1)) : Met l yX9_subsumes wsX9_subsumes ({ frames := 3, cells := 0, slots := 0, locals := 68 }) (va_Pc [.ref (q 0), .int p1, .int p2] (Pw D (gT cI cB cZ cO) (wM cI cB cZ q z) sz)) (Qw D (va_A (wM cI cB cZ q z) sz) (some (.int r)) (wM cI cB cZ q y1)) 0 0 (va_A (wM cI cB cZ q z) sz) := by
  unfold fX9_subsumes at hf
  refine metW (ret := (some .boolean)) (own := RX9) rfl (by decide) rfl (Nat.le_of_ble_eq_true rfl) (fun p e s m args below meth c ls A hx hb hr hml hown hlocks hts hK hA hP hD hS hl => ?_)
  have k46 := (hts (.fieldLink RX9 46 "ResolutionProverModel" "thrown" "I") (List.mem_of_getElem? (i := 1) rfl))
  have hiX9 : ∀ w ∈ wsX90, w ∈ wsX9_subsumes := (memIn_p [35, 36, 37, 38, 39, 40, 41, 42, 43, 44, 45, 46, 47, 48, 49, 50, 51, 52, 53, 54, 55, 56, 57, 58, 59, 60, 61] rfl)
  have hl : lv_has ls 3 [(0, .ref (q 0)), (1, .int p1), (2, .int p2)] := hl
  refine lv_aload_n hx hb dX9_subsumes_0 rfl (lv_at hl 0 rfl) ?_
  refine lv_iconst (v := 0) hx hb dX9_subsumes_1 (by decide) ?_
  refine va_put (D := D) (ci := 8) (v := .int (0 : Int32)) (ty := .int) (C := RX9) (T := TX9) (N := 27) hx hb hts hiX9 tyX9 tyX9_ok nmX9 hown hK hP hD hS 0 rfl rfl 0 (by decide) k46 (fun _ h9 => h9) rfl (by decide +kernel) rfl rfl (Nat.le_of_ble_eq_true rfl) dX9_subsumes_2 (fun H locs hP hD hS => ?_)
  obtain ⟨z_1, ez_1, hf⟩ := nm_ob hf
  have hP : va_P D vwCl (wM cI cB cZ q z_1) H := by rw [ez_1]; exact hP
  have hD : va_D A (wM cI cB cZ q z_1) := by rw [ez_1]; exact hD
  refine lv_aload_n hx hb dX9_subsumes_5 rfl (lv_at hl 0 rfl) ?_
  refine lv_iload_n hx hb dX9_subsumes_6 rfl (lv_at hl 1 rfl) ?_
  refine lv_iload_n hx hb dX9_subsumes_7 rfl (lv_at hl 2 rfl) ?_
  obtain ⟨⟨r_2, z_3⟩, hc_5, hf⟩ := bd_ob hf
  have hf := nm_st hf
  have hf := nm_st hf
  refine weV (As := [.int p1, .int p2]) (rest := []) ⟨hx, hb, hml, hown, hts⟩ (mX9_noPair l D cI cB cZ cO q _ fu z_1 p1 p2 hc_5) (cwV 2 hts gX9_subsumes_X9_noPair rfl rfl rfl (by decide +kernel) ⟨Nat.le_of_ble_eq_true rfl, Nat.le_of_ble_eq_true rfl⟩) hK hP hD hS hA (va_recv hK hP (ci := 8) (q0 := 0) rfl rfl) rfl hl.1 rfl (Nat.le_of_ble_eq_true rfl) dX9_subsumes_8 ⟨Nat.zero_le _, Nat.zero_le _⟩ (fun H locs hP hD hS => ?_)
  refine lv_if_ne (tgt := 27) hx hb dX9_subsumes_11 (by decide) (fun c_11 => ?_) (fun c_11 => ?_)
  · have hf := ip c_11 hf
    refine lv_iconst (v := 0) hx hb dX9_subsumes_27 (by decide) ?_
    obtain ⟨hz, hf⟩ := gd_ob hf
    exact rW_z hx hb hr hlocks hP hD hS hz (congrArg (fun q9 => q9.1) (so_ob hf)) (congrArg (fun (q9 : Int32 × (OS)) => wM cI cB cZ q q9.2) (so_ob hf)) dX9_subsumes_28
  · have hf := iqn c_11 hf
    refine lv_aload_n hx hb dX9_subsumes_14 rfl (lv_at hl 0 rfl) ?_
    refine lv_iload_n hx hb dX9_subsumes_15 rfl (lv_at hl 1 rfl) ?_
    refine lv_iload_n hx hb dX9_subsumes_16 rfl (lv_at hl 2 rfl) ?_
    obtain ⟨r_6, hc_7, hf⟩ := bd_ob hf
    refine rdV (As := [.int p1, .int p2]) (rest := []) ⟨hx, hb, hml, hown, hts⟩ (mX9_isWithin l D cI cB cZ cO q fu z_3 p1 p2 hc_7) (cwV 2 hts gX9_subsumes_X9_isWithin rfl rfl rfl (by decide +kernel) ⟨Nat.le_of_ble_eq_true rfl, Nat.le_of_ble_eq_true rfl⟩) hK hP (va_recv hK hP (ci := 8) (q0 := 0) rfl rfl) rfl hl.1 rfl (Nat.le_of_ble_eq_true rfl) dX9_subsumes_17 ⟨Nat.zero_le _, Nat.zero_le _⟩ ?_
    refine lv_if_eq (tgt := 27) hx hb dX9_subsumes_20 (by decide) (fun c_20 => ?_) (fun c_20 => ?_)
    · have hf := ip c_20 hf
      refine lv_iconst (v := 0) hx hb dX9_subsumes_27 (by decide) ?_
      obtain ⟨hz, hf⟩ := gd_ob hf
      exact rW_z hx hb hr hlocks hP hD hS hz (congrArg (fun q9 => q9.1) (so_ob hf)) (congrArg (fun (q9 : Int32 × (OS)) => wM cI cB cZ q q9.2) (so_ob hf)) dX9_subsumes_28
    · have hf := iq c_20 hf
      refine lv_iconst (v := 1) hx hb dX9_subsumes_23 (by decide) ?_
      refine lv_goto (tgt := 28) hx hb dX9_subsumes_24 (by decide) ?_
      obtain ⟨hz, hf⟩ := gd_ob hf
      exact rW_z hx hb hr hlocks hP hD hS hz (congrArg (fun q9 => q9.1) (so_ob hf)) (congrArg (fun (q9 : Int32 × (OS)) => wM cI cB cZ q q9.2) (so_ob hf)) dX9_subsumes_28

def fX9_subsumerOf (fu : Nat) (z : OS) (p1 : Int32) : Option (Int32 × (OS)) :=
  nm (sI z 0 (0 : Int32)) (fun (z_1 : OS) => bd (fX9_noClause fu z_1 p1) (fun (w_4 : Int32 × OS) => nm w_4.1 (fun (r_2 : Int32) => nm w_4.2 (fun (z_3 : OS) => (if r_2 = (0 : Int32) then bd (fX9_subsumer fu z_3 p1) (fun (r_6 : Int32) => some (r_6, z_3)) else some ((0 : Int32), z_3))))))
set_option maxRecDepth 100000 in
set_option maxHeartbeats 4000000 in
theorem mX9_subsumerOf (l : Launch) (D : va_G) (cI cB cZ cO : ClassId) (q : Nat → Nat) (sz : Nat) (fu : Nat) (z : OS) (p1 : Int32) {r : Int32} {y1 : OS} (hf : fX9_subsumerOf fu z p1 = some (r, y1)) : Met l yX9_subsumerOf wsX9_subsumerOf ({ frames := 3, cells := 0, slots := 0, locals := 67 }) (va_Pc [.ref (q 0), .int p1] (Pw D (gT cI cB cZ cO) (wM cI cB cZ q z) sz)) (Qw D (va_A (wM cI cB cZ q z) sz) (some (.int r)) (wM cI cB cZ q y1)) 0 0 (va_A (wM cI cB cZ q z) sz) := by
  unfold fX9_subsumerOf at hf
  refine metW (ret := (some .int)) (own := RX9) rfl (by decide) rfl (Nat.le_of_ble_eq_true rfl) (fun p e s m args below meth c ls A hx hb hr hml hown hlocks hts hK hA hP hD hS hl => ?_)
  have k46 := (hts (.fieldLink RX9 46 "ResolutionProverModel" "thrown" "I") (List.mem_of_getElem? (i := 1) rfl))
  have hiX9 : ∀ w ∈ wsX90, w ∈ wsX9_subsumerOf := (memIn_p [35, 36, 37, 38, 39, 40, 41, 42, 43, 44, 45, 46, 47, 48, 49, 50, 51, 52, 53, 54, 55, 56, 57, 58, 59, 60, 61] rfl)
  have hl : lv_has ls 2 [(0, .ref (q 0)), (1, .int p1)] := hl
  refine lv_aload_n hx hb dX9_subsumerOf_0 rfl (lv_at hl 0 rfl) ?_
  refine lv_iconst (v := 0) hx hb dX9_subsumerOf_1 (by decide) ?_
  refine va_put (D := D) (ci := 8) (v := .int (0 : Int32)) (ty := .int) (C := RX9) (T := TX9) (N := 27) hx hb hts hiX9 tyX9 tyX9_ok nmX9 hown hK hP hD hS 0 rfl rfl 0 (by decide) k46 (fun _ h9 => h9) rfl (by decide +kernel) rfl rfl (Nat.le_of_ble_eq_true rfl) dX9_subsumerOf_2 (fun H locs hP hD hS => ?_)
  obtain ⟨z_1, ez_1, hf⟩ := nm_ob hf
  have hP : va_P D vwCl (wM cI cB cZ q z_1) H := by rw [ez_1]; exact hP
  have hD : va_D A (wM cI cB cZ q z_1) := by rw [ez_1]; exact hD
  refine lv_aload_n hx hb dX9_subsumerOf_5 rfl (lv_at hl 0 rfl) ?_
  refine lv_iload_n hx hb dX9_subsumerOf_6 rfl (lv_at hl 1 rfl) ?_
  obtain ⟨⟨r_2, z_3⟩, hc_5, hf⟩ := bd_ob hf
  have hf := nm_st hf
  have hf := nm_st hf
  refine weV (As := [.int p1]) (rest := []) ⟨hx, hb, hml, hown, hts⟩ (mX9_noClause l D cI cB cZ cO q _ fu z_1 p1 hc_5) (cwV 1 hts gX9_subsumerOf_X9_noClause rfl rfl rfl (by decide +kernel) ⟨Nat.le_of_ble_eq_true rfl, Nat.le_of_ble_eq_true rfl⟩) hK hP hD hS hA (va_recv hK hP (ci := 8) (q0 := 0) rfl rfl) rfl hl.1 rfl (Nat.le_of_ble_eq_true rfl) dX9_subsumerOf_7 ⟨Nat.zero_le _, Nat.zero_le _⟩ (fun H locs hP hD hS => ?_)
  refine lv_if_eq (tgt := 17) hx hb dX9_subsumerOf_10 (by decide) (fun c_10 => ?_) (fun c_10 => ?_)
  · have hf := ip c_10 hf
    refine lv_aload_n hx hb dX9_subsumerOf_17 rfl (lv_at hl 0 rfl) ?_
    refine lv_iload_n hx hb dX9_subsumerOf_18 rfl (lv_at hl 1 rfl) ?_
    obtain ⟨r_6, hc_7, hf⟩ := bd_ob hf
    refine rdV (As := [.int p1]) (rest := []) ⟨hx, hb, hml, hown, hts⟩ (mX9_subsumer l D cI cB cZ cO q fu z_3 p1 hc_7) (cwV 1 hts gX9_subsumerOf_X9_subsumer rfl rfl rfl (by decide +kernel) ⟨Nat.le_of_ble_eq_true rfl, Nat.le_of_ble_eq_true rfl⟩) hK hP (va_recv hK hP (ci := 8) (q0 := 0) rfl rfl) rfl hl.1 rfl (Nat.le_of_ble_eq_true rfl) dX9_subsumerOf_19 ⟨Nat.zero_le _, Nat.zero_le _⟩ ?_
    exact rW_i hx hb hr hlocks hP hD hS (congrArg (fun q9 => q9.1) (so_ob hf)) (congrArg (fun (q9 : Int32 × (OS)) => wM cI cB cZ q q9.2) (so_ob hf)) dX9_subsumerOf_22
  · have hf := iq c_10 hf
    refine lv_iconst (v := 0) hx hb dX9_subsumerOf_13 (by decide) ?_
    refine lv_goto (tgt := 22) hx hb dX9_subsumerOf_14 (by decide) ?_
    exact rW_i hx hb hr hlocks hP hD hS (congrArg (fun q9 => q9.1) (so_ob hf)) (congrArg (fun (q9 : Int32 × (OS)) => wM cI cB cZ q q9.2) (so_ob hf)) dX9_subsumerOf_22

def fX9_subsumedClauses (fu : Nat) (z : OS) : Option (Int32 × (OS)) :=
  nm (sI z 0 (0 : Int32)) (fun (z_1 : OS) => bd (fX9_subsumed fu z_1) (fun (r_2 : Int32) => some (r_2, z_1)))
set_option maxRecDepth 100000 in
set_option maxHeartbeats 4000000 in
theorem mX9_subsumedClauses (l : Launch) (D : va_G) (cI cB cZ cO : ClassId) (q : Nat → Nat) (sz : Nat) (fu : Nat) (z : OS) {r : Int32} {y1 : OS} (hf : fX9_subsumedClauses fu z = some (r, y1)) : Met l yX9_subsumedClauses wsX9_subsumedClauses ({ frames := 5, cells := 0, slots := 0, locals := 110 }) (va_Pc [.ref (q 0)] (Pw D (gT cI cB cZ cO) (wM cI cB cZ q z) sz)) (Qw D (va_A (wM cI cB cZ q z) sz) (some (.int r)) (wM cI cB cZ q y1)) 0 0 (va_A (wM cI cB cZ q z) sz) := by
  unfold fX9_subsumedClauses at hf
  refine metW (ret := (some .int)) (own := RX9) rfl (by decide) rfl (Nat.le_of_ble_eq_true rfl) (fun p e s m args below meth c ls A hx hb hr hml hown hlocks hts hK hA hP hD hS hl => ?_)
  have k46 := (hts (.fieldLink RX9 46 "ResolutionProverModel" "thrown" "I") (List.mem_of_getElem? (i := 1) rfl))
  have hiX9 : ∀ w ∈ wsX90, w ∈ wsX9_subsumedClauses := (memIn_p [32, 33, 34, 35, 36, 37, 38, 39, 40, 41, 42, 43, 44, 45, 46, 47, 48, 49, 50, 51, 52, 53, 54, 55, 56, 57, 58] rfl)
  have hl : lv_has ls 1 [(0, .ref (q 0))] := hl
  refine lv_aload_n hx hb dX9_subsumedClauses_0 rfl (lv_at hl 0 rfl) ?_
  refine lv_iconst (v := 0) hx hb dX9_subsumedClauses_1 (by decide) ?_
  refine va_put (D := D) (ci := 8) (v := .int (0 : Int32)) (ty := .int) (C := RX9) (T := TX9) (N := 27) hx hb hts hiX9 tyX9 tyX9_ok nmX9 hown hK hP hD hS 0 rfl rfl 0 (by decide) k46 (fun _ h9 => h9) rfl (by decide +kernel) rfl rfl (Nat.le_of_ble_eq_true rfl) dX9_subsumedClauses_2 (fun H locs hP hD hS => ?_)
  obtain ⟨z_1, ez_1, hf⟩ := nm_ob hf
  have hP : va_P D vwCl (wM cI cB cZ q z_1) H := by rw [ez_1]; exact hP
  have hD : va_D A (wM cI cB cZ q z_1) := by rw [ez_1]; exact hD
  refine lv_aload_n hx hb dX9_subsumedClauses_5 rfl (lv_at hl 0 rfl) ?_
  obtain ⟨r_2, hc_3, hf⟩ := bd_ob hf
  refine rdV (As := []) (rest := []) ⟨hx, hb, hml, hown, hts⟩ (mX9_subsumed l D cI cB cZ cO q fu z_1 hc_3) (cwV 0 hts gX9_subsumedClauses_X9_subsumed rfl rfl rfl (by decide +kernel) ⟨Nat.le_of_ble_eq_true rfl, Nat.le_of_ble_eq_true rfl⟩) hK hP (va_recv hK hP (ci := 8) (q0 := 0) rfl rfl) rfl hl.1 rfl (Nat.le_of_ble_eq_true rfl) dX9_subsumedClauses_6 ⟨Nat.zero_le _, Nat.zero_le _⟩ ?_
  exact rW_i hx hb hr hlocks hP hD hS (congrArg (fun q9 => q9.1) (so_ob hf)) (congrArg (fun (q9 : Int32 × (OS)) => wM cI cB cZ q q9.2) (so_ob hf)) dX9_subsumedClauses_9

def fX9_nextFirst (fu : Nat) (z : OS) : Option (Int32 × (OS)) :=
  nm (sI z 0 (0 : Int32)) (fun (z_1 : OS) => bd (fX9_hasStep fu z_1) (fun (w_4 : Int32 × OS) => nm w_4.1 (fun (r_2 : Int32) => nm w_4.2 (fun (z_3 : OS) => some ((z_3.1 8), z_3)))))
set_option maxRecDepth 100000 in
set_option maxHeartbeats 4000000 in
theorem mX9_nextFirst (l : Launch) (D : va_G) (cI cB cZ cO : ClassId) (q : Nat → Nat) (sz : Nat) (fu : Nat) (z : OS) {r : Int32} {y1 : OS} (hf : fX9_nextFirst fu z = some (r, y1)) : Met l yX9_nextFirst wsX9_nextFirst ({ frames := 4, cells := 0, slots := 0, locals := 92 }) (va_Pc [.ref (q 0)] (Pw D (gT cI cB cZ cO) (wM cI cB cZ q z) sz)) (Qw D (va_A (wM cI cB cZ q z) sz) (some (.int r)) (wM cI cB cZ q y1)) 0 0 (va_A (wM cI cB cZ q z) sz) := by
  unfold fX9_nextFirst at hf
  refine metW (ret := (some .int)) (own := RX9) rfl (by decide) rfl (Nat.le_of_ble_eq_true rfl) (fun p e s m args below meth c ls A hx hb hr hml hown hlocks hts hK hA hP hD hS hl => ?_)
  have k46 := (hts (.fieldLink RX9 46 "ResolutionProverModel" "thrown" "I") (List.mem_of_getElem? (i := 1) rfl))
  have k90 := (hts (.fieldLink RX9 90 "ResolutionProverModel" "stepFirst" "I") (List.mem_of_getElem? (i := 2) rfl))
  have hiX9 : ∀ w ∈ wsX90, w ∈ wsX9_nextFirst := (memIn_p [54, 55, 56, 57, 58, 59, 60, 61, 62, 63, 64, 65, 66, 67, 68, 69, 70, 71, 72, 73, 74, 75, 76, 77, 78, 79, 80] rfl)
  have hl : lv_has ls 2 [(0, .ref (q 0))] := hl
  refine lv_aload_n hx hb dX9_nextFirst_0 rfl (lv_at hl 0 rfl) ?_
  refine lv_iconst (v := 0) hx hb dX9_nextFirst_1 (by decide) ?_
  refine va_put (D := D) (ci := 8) (v := .int (0 : Int32)) (ty := .int) (C := RX9) (T := TX9) (N := 27) hx hb hts hiX9 tyX9 tyX9_ok nmX9 hown hK hP hD hS 0 rfl rfl 0 (by decide) k46 (fun _ h9 => h9) rfl (by decide +kernel) rfl rfl (Nat.le_of_ble_eq_true rfl) dX9_nextFirst_2 (fun H locs hP hD hS => ?_)
  obtain ⟨z_1, ez_1, hf⟩ := nm_ob hf
  have hP : va_P D vwCl (wM cI cB cZ q z_1) H := by rw [ez_1]; exact hP
  have hD : va_D A (wM cI cB cZ q z_1) := by rw [ez_1]; exact hD
  refine lv_aload_n hx hb dX9_nextFirst_5 rfl (lv_at hl 0 rfl) ?_
  obtain ⟨⟨r_2, z_3⟩, hc_5, hf⟩ := bd_ob hf
  have hf := nm_st hf
  have hf := nm_st hf
  refine weV (As := []) (rest := []) ⟨hx, hb, hml, hown, hts⟩ (mX9_hasStep l D cI cB cZ cO q _ fu z_1 hc_5) (cwV 0 hts gX9_nextFirst_X9_hasStep rfl rfl rfl (by decide +kernel) ⟨Nat.le_of_ble_eq_true rfl, Nat.le_of_ble_eq_true rfl⟩) hK hP hD hS hA (va_recv hK hP (ci := 8) (q0 := 0) rfl rfl) rfl hl.1 rfl (Nat.le_of_ble_eq_true rfl) dX9_nextFirst_6 ⟨Nat.zero_le _, Nat.zero_le _⟩ (fun H locs hP hD hS => ?_)
  refine lv_istore_n (lv' := [(1, .int r_2), (0, .ref (q 0))]) hx hb dX9_nextFirst_9 rfl hl (by decide) rfl (fun ls hl => ?_)
  refine lv_aload_n hx hb dX9_nextFirst_10 rfl (lv_at hl 1 rfl) ?_
  refine va_get (D := D) (ci := 8) (v := .int (z_3.1 8)) (C := RX9) (T := TX9) (N := 27) hx hb hts hiX9 hown hK hP 0 rfl rfl 8 (by decide) k90 (fun _ h9 => h9) rfl dX9_nextFirst_11 ?_
  exact rW_i hx hb hr hlocks hP hD hS (congrArg (fun q9 => q9.1) (so_ob hf)) (congrArg (fun (q9 : Int32 × (OS)) => wM cI cB cZ q q9.2) (so_ob hf)) dX9_nextFirst_14

def fX9_nextSecond (fu : Nat) (z : OS) : Option (Int32 × (OS)) :=
  nm (sI z 0 (0 : Int32)) (fun (z_1 : OS) => bd (fX9_hasStep fu z_1) (fun (w_4 : Int32 × OS) => nm w_4.1 (fun (r_2 : Int32) => nm w_4.2 (fun (z_3 : OS) => some ((z_3.1 9), z_3)))))
set_option maxRecDepth 100000 in
set_option maxHeartbeats 4000000 in
theorem mX9_nextSecond (l : Launch) (D : va_G) (cI cB cZ cO : ClassId) (q : Nat → Nat) (sz : Nat) (fu : Nat) (z : OS) {r : Int32} {y1 : OS} (hf : fX9_nextSecond fu z = some (r, y1)) : Met l yX9_nextSecond wsX9_nextSecond ({ frames := 4, cells := 0, slots := 0, locals := 92 }) (va_Pc [.ref (q 0)] (Pw D (gT cI cB cZ cO) (wM cI cB cZ q z) sz)) (Qw D (va_A (wM cI cB cZ q z) sz) (some (.int r)) (wM cI cB cZ q y1)) 0 0 (va_A (wM cI cB cZ q z) sz) := by
  unfold fX9_nextSecond at hf
  refine metW (ret := (some .int)) (own := RX9) rfl (by decide) rfl (Nat.le_of_ble_eq_true rfl) (fun p e s m args below meth c ls A hx hb hr hml hown hlocks hts hK hA hP hD hS hl => ?_)
  have k46 := (hts (.fieldLink RX9 46 "ResolutionProverModel" "thrown" "I") (List.mem_of_getElem? (i := 1) rfl))
  have k93 := (hts (.fieldLink RX9 93 "ResolutionProverModel" "stepSecond" "I") (List.mem_of_getElem? (i := 2) rfl))
  have hiX9 : ∀ w ∈ wsX90, w ∈ wsX9_nextSecond := (memIn_p [54, 55, 56, 57, 58, 59, 60, 61, 62, 63, 64, 65, 66, 67, 68, 69, 70, 71, 72, 73, 74, 75, 76, 77, 78, 79, 80] rfl)
  have hl : lv_has ls 2 [(0, .ref (q 0))] := hl
  refine lv_aload_n hx hb dX9_nextSecond_0 rfl (lv_at hl 0 rfl) ?_
  refine lv_iconst (v := 0) hx hb dX9_nextSecond_1 (by decide) ?_
  refine va_put (D := D) (ci := 8) (v := .int (0 : Int32)) (ty := .int) (C := RX9) (T := TX9) (N := 27) hx hb hts hiX9 tyX9 tyX9_ok nmX9 hown hK hP hD hS 0 rfl rfl 0 (by decide) k46 (fun _ h9 => h9) rfl (by decide +kernel) rfl rfl (Nat.le_of_ble_eq_true rfl) dX9_nextSecond_2 (fun H locs hP hD hS => ?_)
  obtain ⟨z_1, ez_1, hf⟩ := nm_ob hf
  have hP : va_P D vwCl (wM cI cB cZ q z_1) H := by rw [ez_1]; exact hP
  have hD : va_D A (wM cI cB cZ q z_1) := by rw [ez_1]; exact hD
  refine lv_aload_n hx hb dX9_nextSecond_5 rfl (lv_at hl 0 rfl) ?_
  obtain ⟨⟨r_2, z_3⟩, hc_5, hf⟩ := bd_ob hf
  have hf := nm_st hf
  have hf := nm_st hf
  refine weV (As := []) (rest := []) ⟨hx, hb, hml, hown, hts⟩ (mX9_hasStep l D cI cB cZ cO q _ fu z_1 hc_5) (cwV 0 hts gX9_nextSecond_X9_hasStep rfl rfl rfl (by decide +kernel) ⟨Nat.le_of_ble_eq_true rfl, Nat.le_of_ble_eq_true rfl⟩) hK hP hD hS hA (va_recv hK hP (ci := 8) (q0 := 0) rfl rfl) rfl hl.1 rfl (Nat.le_of_ble_eq_true rfl) dX9_nextSecond_6 ⟨Nat.zero_le _, Nat.zero_le _⟩ (fun H locs hP hD hS => ?_)
  refine lv_istore_n (lv' := [(1, .int r_2), (0, .ref (q 0))]) hx hb dX9_nextSecond_9 rfl hl (by decide) rfl (fun ls hl => ?_)
  refine lv_aload_n hx hb dX9_nextSecond_10 rfl (lv_at hl 1 rfl) ?_
  refine va_get (D := D) (ci := 8) (v := .int (z_3.1 9)) (C := RX9) (T := TX9) (N := 27) hx hb hts hiX9 hown hK hP 0 rfl rfl 9 (by decide) k93 (fun _ h9 => h9) rfl dX9_nextSecond_11 ?_
  exact rW_i hx hb hr hlocks hP hD hS (congrArg (fun q9 => q9.1) (so_ob hf)) (congrArg (fun (q9 : Int32 × (OS)) => wM cI cB cZ q q9.2) (so_ob hf)) dX9_nextSecond_14

def fX9_stepsToEmpty (fu : Nat) (z : OS) : Option (Int32 × (OS)) :=
  nm (sI z 0 (0 : Int32)) (fun (z_1 : OS) => bd (fX9_copies_two fu 917 (z_1.2 1) 917 (z_1.2 3) (0 : Int32) (0 : Int32)) (fun (x_2 : (Nat → Int32)) => nm (sA z_1 3 x_2) (fun (z_4 : OS) => bd (fX9_steps fu z_4 (60 : Int32)) (fun (w_7 : Int32 × OS) => nm w_7.1 (fun (r_5 : Int32) => nm w_7.2 (fun (z_6 : OS) => bd (fX9_empty fu z_6) (fun (r_9 : Int32) => jn (κ := Int32 → Option (Int32 × (OS))) (fun (t0_38 : Int32) => bd (fX9_copies_two fu 917 (z_6.2 3) 917 (z_6.2 1) (0 : Int32) (0 : Int32)) (fun (x_11 : (Nat → Int32)) => nm (sA z_6 1 x_11) (fun (z_13 : OS) => (if t0_38 = (0 : Int32) then some ((-1 : Int32), z_13) else some (r_5, z_13))))) (fun j38 => (if r_9 = (-1 : Int32) then j38 (0 : Int32) else j38 (1 : Int32))))))))))
set_option maxRecDepth 100000 in
set_option maxHeartbeats 4000000 in
theorem mX9_stepsToEmpty (l : Launch) (D : va_G) (cI cB cZ cO : ClassId) (q : Nat → Nat) (sz : Nat) (fu : Nat) (z : OS) {r : Int32} {y1 : OS} (hf : fX9_stepsToEmpty fu z = some (r, y1)) : Met l yX9_stepsToEmpty wsX9_stepsToEmpty ({ frames := 5, cells := 0, slots := 0, locals := 117 }) (va_Pc [.ref (q 0)] (Pw D (gT cI cB cZ cO) (wM cI cB cZ q z) sz)) (Qw D (va_A (wM cI cB cZ q z) sz) (some (.int r)) (wM cI cB cZ q y1)) 0 0 (va_A (wM cI cB cZ q z) sz) := by
  unfold fX9_stepsToEmpty at hf
  refine metW (ret := (some .int)) (own := RX9) rfl (by decide) rfl (Nat.le_of_ble_eq_true rfl) (fun p e s m args below meth c ls A hx hb hr hml hown hlocks hts hK hA hP hD hS hl => ?_)
  have k46 := (hts (.fieldLink RX9 46 "ResolutionProverModel" "thrown" "I") (List.mem_of_getElem? (i := 1) rfl))
  have k9 := (hts (.fieldLink RX9 9 "ResolutionProverModel" "now" "[I") (List.mem_of_getElem? (i := 2) rfl))
  have k16 := (hts (.fieldLink RX9 16 "ResolutionProverModel" "tried" "[I") (List.mem_of_getElem? (i := 3) rfl))
  have hiX9 : ∀ w ∈ wsX90, w ∈ wsX9_stepsToEmpty := (memIn_p [70, 71, 72, 73, 74, 75, 76, 77, 78, 79, 80, 81, 82, 83, 84, 85, 86, 87, 88, 89, 90, 91, 92, 93, 94, 95, 96] rfl)
  have hl : lv_has ls 3 [(0, .ref (q 0))] := hl
  refine lv_aload_n hx hb dX9_stepsToEmpty_0 rfl (lv_at hl 0 rfl) ?_
  refine lv_iconst (v := 0) hx hb dX9_stepsToEmpty_1 (by decide) ?_
  refine va_put (D := D) (ci := 8) (v := .int (0 : Int32)) (ty := .int) (C := RX9) (T := TX9) (N := 27) hx hb hts hiX9 tyX9 tyX9_ok nmX9 hown hK hP hD hS 0 rfl rfl 0 (by decide) k46 (fun _ h9 => h9) rfl (by decide +kernel) rfl rfl (Nat.le_of_ble_eq_true rfl) dX9_stepsToEmpty_2 (fun H locs hP hD hS => ?_)
  obtain ⟨z_1, ez_1, hf⟩ := nm_ob hf
  have hP : va_P D vwCl (wM cI cB cZ q z_1) H := by rw [ez_1]; exact hP
  have hD : va_D A (wM cI cB cZ q z_1) := by rw [ez_1]; exact hD
  refine lv_aload_n hx hb dX9_stepsToEmpty_5 rfl (lv_at hl 0 rfl) ?_
  refine va_get (D := D) (ci := 8) (v := .ref (q 1)) (C := RX9) (T := TX9) (N := 27) hx hb hts hiX9 hown hK hP 0 rfl rfl 1 (by decide) k9 (fun _ h9 => h9) rfl dX9_stepsToEmpty_6 ?_
  refine lv_iconst (v := 0) hx hb dX9_stepsToEmpty_9 (by decide) ?_
  refine lv_aload_n hx hb dX9_stepsToEmpty_10 rfl (lv_at hl 0 rfl) ?_
  refine va_get (D := D) (ci := 8) (v := .ref (q 3)) (C := RX9) (T := TX9) (N := 27) hx hb hts hiX9 hown hK hP 0 rfl rfl 3 (by decide) k16 (fun _ h9 => h9) rfl dX9_stepsToEmpty_11 ?_
  refine lv_iconst (v := 0) hx hb dX9_stepsToEmpty_14 (by decide) ?_
  obtain ⟨x_2, hc_3, hf⟩ := bd_ob hf
  refine wrS (As := [.ref (q 1), .int (0 : Int32), .ref (q 3), .int (0 : Int32)]) (rest := []) (ws2 := wM cI cB cZ q (sA z_1 3 x_2)) ⟨hx, hb, hml, hown, hts⟩ (mX9_copies_two l D cI cB cZ cO (q 1) (q 3) _ fu 917 (z_1.2 1) 917 (z_1.2 3) (0 : Int32) (0 : Int32) hc_3) (va_cwS 4 hts gX9_stepsToEmpty_X9_copies rfl rfl rfl (by decide +kernel) ⟨Nat.le_of_ble_eq_true rfl, Nat.le_of_ble_eq_true rfl⟩) hK hP hD hS hA [1, 3] [0, 2, 4, 5, 6, 7, 8, 9, 10] [0, 9, 1, 10, 2, 3, 4, 5, 6, 7, 8] rfl (hP.sub [1, 3] rfl) (by decide) rfl (by decide) (by decide) (by decide) rfl  rfl hl.1 rfl (Nat.le_of_ble_eq_true rfl) dX9_stepsToEmpty_15 ⟨Nat.zero_le _, Nat.zero_le _⟩ (fun H locs hP hD hS => ?_)
  obtain ⟨z_4, ez_4, hf⟩ := nm_ob hf
  have hP : va_P D vwCl (wM cI cB cZ q z_4) H := by rw [ez_4]; exact hP
  have hD : va_D A (wM cI cB cZ q z_4) := by rw [ez_4]; exact hD
  refine lv_aload_n hx hb dX9_stepsToEmpty_18 rfl (lv_at hl 0 rfl) ?_
  refine lv_bipush (v := 60) hx hb dX9_stepsToEmpty_19 (by decide) ?_
  obtain ⟨⟨r_5, z_6⟩, hc_8, hf⟩ := bd_ob hf
  have hf := nm_st hf
  have hf := nm_st hf
  refine weV (As := [.int (60 : Int32)]) (rest := []) ⟨hx, hb, hml, hown, hts⟩ (mX9_steps l D cI cB cZ cO q _ fu z_4 (60 : Int32) hc_8) (cwV 1 hts gX9_stepsToEmpty_X9_steps rfl rfl rfl (by decide +kernel) ⟨Nat.le_of_ble_eq_true rfl, Nat.le_of_ble_eq_true rfl⟩) hK hP hD hS hA (va_recv hK hP (ci := 8) (q0 := 0) rfl rfl) rfl hl.1 rfl (Nat.le_of_ble_eq_true rfl) dX9_stepsToEmpty_21 ⟨Nat.zero_le _, Nat.zero_le _⟩ (fun H locs hP hD hS => ?_)
  refine lv_istore_n (lv' := [(1, .int r_5), (0, .ref (q 0))]) hx hb dX9_stepsToEmpty_24 rfl hl (by decide) rfl (fun ls hl => ?_)
  refine lv_aload_n hx hb dX9_stepsToEmpty_25 rfl (lv_at hl 1 rfl) ?_
  obtain ⟨r_9, hc_10, hf⟩ := bd_ob hf
  refine rdV (As := []) (rest := []) ⟨hx, hb, hml, hown, hts⟩ (mX9_empty l D cI cB cZ cO q fu z_6 hc_10) (cwV 0 hts gX9_stepsToEmpty_X9_empty rfl rfl rfl (by decide +kernel) ⟨Nat.le_of_ble_eq_true rfl, Nat.le_of_ble_eq_true rfl⟩) hK hP (va_recv hK hP (ci := 8) (q0 := 0) rfl rfl) rfl hl.1 rfl (Nat.le_of_ble_eq_true rfl) dX9_stepsToEmpty_26 ⟨Nat.zero_le _, Nat.zero_le _⟩ ?_
  refine lv_iconst (v := (-1)) hx hb dX9_stepsToEmpty_29 (by decide) ?_
  obtain ⟨j38, ej38, hf⟩ := jn_ob hf
  have hp38 : ∀ (t0_38 : Int32) (H : Heap) (locs : List Loc) (ls : Array Slot), j38 t0_38 = some (r, y1) → va_P D vwCl (wM cI cB cZ q z_6) H → va_D A (wM cI cB cZ q z_6) → va_S A s.heap H locs → lv_has ls 3 [(0, .ref (q 0)), (1, .int r_5)] → W p l e (headSpec wsX9_stepsToEmpty { frames := 5, cells := 0, slots := 0, locals := 117 }).room s m args below meth c H locs 0 0 (MQ below (Qw D A (some (.int r)) (wM cI cB cZ q y1)) args s 0 0 A) (F0 m 38 ls [.int t0_38]) := by
    intro t0_38 H locs ls hf hP hD hS hl
    rw [ej38] at hf
    refine lv_istore_n (lv' := [(2, .int t0_38), (0, .ref (q 0)), (1, .int r_5)]) hx hb dX9_stepsToEmpty_38 rfl hl (by decide) rfl (fun ls hl => ?_)
    refine lv_aload_n hx hb dX9_stepsToEmpty_39 rfl (lv_at hl 1 rfl) ?_
    refine va_get (D := D) (ci := 8) (v := .ref (q 3)) (C := RX9) (T := TX9) (N := 27) hx hb hts hiX9 hown hK hP 0 rfl rfl 3 (by decide) k16 (fun _ h9 => h9) rfl dX9_stepsToEmpty_40 ?_
    refine lv_iconst (v := 0) hx hb dX9_stepsToEmpty_43 (by decide) ?_
    refine lv_aload_n hx hb dX9_stepsToEmpty_44 rfl (lv_at hl 1 rfl) ?_
    refine va_get (D := D) (ci := 8) (v := .ref (q 1)) (C := RX9) (T := TX9) (N := 27) hx hb hts hiX9 hown hK hP 0 rfl rfl 1 (by decide) k9 (fun _ h9 => h9) rfl dX9_stepsToEmpty_45 ?_
    refine lv_iconst (v := 0) hx hb dX9_stepsToEmpty_48 (by decide) ?_
    obtain ⟨x_11, hc_12, hf⟩ := bd_ob hf
    refine wrS (As := [.ref (q 3), .int (0 : Int32), .ref (q 1), .int (0 : Int32)]) (rest := []) (ws2 := wM cI cB cZ q (sA z_6 1 x_11)) ⟨hx, hb, hml, hown, hts⟩ (mX9_copies_two l D cI cB cZ cO (q 3) (q 1) _ fu 917 (z_6.2 3) 917 (z_6.2 1) (0 : Int32) (0 : Int32) hc_12) (va_cwS 4 hts gX9_stepsToEmpty_X9_copies rfl rfl rfl (by decide +kernel) ⟨Nat.le_of_ble_eq_true rfl, Nat.le_of_ble_eq_true rfl⟩) hK hP hD hS hA [3, 1] [0, 2, 4, 5, 6, 7, 8, 9, 10] [0, 10, 1, 9, 2, 3, 4, 5, 6, 7, 8] rfl (hP.sub [3, 1] rfl) (by decide) rfl (by decide) (by decide) (by decide) rfl  rfl hl.1 rfl (Nat.le_of_ble_eq_true rfl) dX9_stepsToEmpty_49 ⟨Nat.zero_le _, Nat.zero_le _⟩ (fun H locs hP hD hS => ?_)
    obtain ⟨z_13, ez_13, hf⟩ := nm_ob hf
    have hP : va_P D vwCl (wM cI cB cZ q z_13) H := by rw [ez_13]; exact hP
    have hD : va_D A (wM cI cB cZ q z_13) := by rw [ez_13]; exact hD
    refine lv_iload_n hx hb dX9_stepsToEmpty_52 rfl (lv_at hl 0 rfl) ?_
    refine lv_if_eq (tgt := 60) hx hb dX9_stepsToEmpty_53 (by decide) (fun c_53 => ?_) (fun c_53 => ?_)
    · have hf := ip c_53 hf
      refine lv_iconst (v := (-1)) hx hb dX9_stepsToEmpty_60 (by decide) ?_
      exact rW_i hx hb hr hlocks hP hD hS (congrArg (fun q9 => q9.1) (so_ob hf)) (congrArg (fun (q9 : Int32 × (OS)) => wM cI cB cZ q q9.2) (so_ob hf)) dX9_stepsToEmpty_61
    · have hf := iq c_53 hf
      refine lv_iload_n hx hb dX9_stepsToEmpty_56 rfl (lv_at hl 2 rfl) ?_
      refine lv_goto (tgt := 61) hx hb dX9_stepsToEmpty_57 (by decide) ?_
      exact rW_i hx hb hr hlocks hP hD hS (congrArg (fun q9 => q9.1) (so_ob hf)) (congrArg (fun (q9 : Int32 × (OS)) => wM cI cB cZ q q9.2) (so_ob hf)) dX9_stepsToEmpty_61
  refine lv_icmp_eq (tgt := 37) hx hb dX9_stepsToEmpty_30 (by decide) (fun c_30 => ?_) (fun c_30 => ?_)
  · have hf := ip c_30 hf
    refine lv_iconst (v := 0) hx hb dX9_stepsToEmpty_37 (by decide) ?_
    exact hp38 (0 : Int32) _ _ _ hf hP hD hS (lv_sub hl [1, 0] rfl)
  · have hf := iq c_30 hf
    refine lv_iconst (v := 1) hx hb dX9_stepsToEmpty_33 (by decide) ?_
    refine lv_goto (tgt := 38) hx hb dX9_stepsToEmpty_34 (by decide) ?_
    exact hp38 (1 : Int32) _ _ _ hf hP hD hS (lv_sub hl [1, 0] rfl)

def fX9_modelCount (fu : Nat) (z : OS) : Option (Int32 × (OS)) :=
  nm (sI z 0 (0 : Int32)) (fun (z_1 : OS) => bd (fX9_models fu z_1) (fun (r_2 : Int32) => some (r_2, z_1)))
set_option maxRecDepth 100000 in
set_option maxHeartbeats 4000000 in
theorem mX9_modelCount (l : Launch) (D : va_G) (cI cB cZ cO : ClassId) (q : Nat → Nat) (sz : Nat) (fu : Nat) (z : OS) {r : Int32} {y1 : OS} (hf : fX9_modelCount fu z = some (r, y1)) : Met l yX9_modelCount wsX9_modelCount ({ frames := 4, cells := 0, slots := 0, locals := 91 }) (va_Pc [.ref (q 0)] (Pw D (gT cI cB cZ cO) (wM cI cB cZ q z) sz)) (Qw D (va_A (wM cI cB cZ q z) sz) (some (.int r)) (wM cI cB cZ q y1)) 0 0 (va_A (wM cI cB cZ q z) sz) := by
  unfold fX9_modelCount at hf
  refine metW (ret := (some .int)) (own := RX9) rfl (by decide) rfl (Nat.le_of_ble_eq_true rfl) (fun p e s m args below meth c ls A hx hb hr hml hown hlocks hts hK hA hP hD hS hl => ?_)
  have k46 := (hts (.fieldLink RX9 46 "ResolutionProverModel" "thrown" "I") (List.mem_of_getElem? (i := 1) rfl))
  have hiX9 : ∀ w ∈ wsX90, w ∈ wsX9_modelCount := (memIn_p [32, 33, 34, 35, 36, 37, 38, 39, 40, 41, 42, 43, 44, 45, 46, 47, 48, 49, 50, 51, 52, 53, 54, 55, 56, 57, 58] rfl)
  have hl : lv_has ls 1 [(0, .ref (q 0))] := hl
  refine lv_aload_n hx hb dX9_modelCount_0 rfl (lv_at hl 0 rfl) ?_
  refine lv_iconst (v := 0) hx hb dX9_modelCount_1 (by decide) ?_
  refine va_put (D := D) (ci := 8) (v := .int (0 : Int32)) (ty := .int) (C := RX9) (T := TX9) (N := 27) hx hb hts hiX9 tyX9 tyX9_ok nmX9 hown hK hP hD hS 0 rfl rfl 0 (by decide) k46 (fun _ h9 => h9) rfl (by decide +kernel) rfl rfl (Nat.le_of_ble_eq_true rfl) dX9_modelCount_2 (fun H locs hP hD hS => ?_)
  obtain ⟨z_1, ez_1, hf⟩ := nm_ob hf
  have hP : va_P D vwCl (wM cI cB cZ q z_1) H := by rw [ez_1]; exact hP
  have hD : va_D A (wM cI cB cZ q z_1) := by rw [ez_1]; exact hD
  refine lv_aload_n hx hb dX9_modelCount_5 rfl (lv_at hl 0 rfl) ?_
  obtain ⟨r_2, hc_3, hf⟩ := bd_ob hf
  refine rdV (As := []) (rest := []) ⟨hx, hb, hml, hown, hts⟩ (mX9_models l D cI cB cZ cO q fu z_1 hc_3) (cwV 0 hts gX9_modelCount_X9_models rfl rfl rfl (by decide +kernel) ⟨Nat.le_of_ble_eq_true rfl, Nat.le_of_ble_eq_true rfl⟩) hK hP (va_recv hK hP (ci := 8) (q0 := 0) rfl rfl) rfl hl.1 rfl (Nat.le_of_ble_eq_true rfl) dX9_modelCount_6 ⟨Nat.zero_le _, Nat.zero_le _⟩ ?_
  exact rW_i hx hb hr hlocks hP hD hS (congrArg (fun q9 => q9.1) (so_ob hf)) (congrArg (fun (q9 : Int32 × (OS)) => wM cI cB cZ q q9.2) (so_ob hf)) dX9_modelCount_9

def lX9_firstModel_7 (fu : Nat) (z_1 : OS) (j32 : Option (Int32 × (OS))) : Nat → Int32 → Option (Int32 × (OS))
  | 0, _ => none
  | n_7 + 1, v1_7 => bd (fX9_assignments fu z_1) (fun (r_2 : Int32) => (if r_2 ≤ v1_7 then j32 else bd (fX9_isModel fu z_1 v1_7 (-1 : Int32)) (fun (r_4 : Int32) => (if r_4 = (0 : Int32) then nm (v1_7 + (1 : Int32)) (fun (v1_6 : Int32) => lX9_firstModel_7 fu z_1 j32 n_7 v1_6) else some (v1_7, z_1)))))
def fX9_firstModel (fu : Nat) (z : OS) : Option (Int32 × (OS)) :=
  nm (sI z 0 (0 : Int32)) (fun (z_1 : OS) => jn (κ := Option (Int32 × (OS))) (some ((-1 : Int32), z_1)) (fun j32 => lX9_firstModel_7 fu z_1 j32 fu (0 : Int32)))
set_option maxRecDepth 100000 in
set_option maxHeartbeats 4000000 in
theorem mX9_firstModel (l : Launch) (D : va_G) (cI cB cZ cO : ClassId) (q : Nat → Nat) (sz : Nat) (fu : Nat) (z : OS) {r : Int32} {y1 : OS} (hf : fX9_firstModel fu z = some (r, y1)) : Met l yX9_firstModel wsX9_firstModel ({ frames := 3, cells := 0, slots := 0, locals := 69 }) (va_Pc [.ref (q 0)] (Pw D (gT cI cB cZ cO) (wM cI cB cZ q z) sz)) (Qw D (va_A (wM cI cB cZ q z) sz) (some (.int r)) (wM cI cB cZ q y1)) 0 0 (va_A (wM cI cB cZ q z) sz) := by
  unfold fX9_firstModel at hf
  refine metW (ret := (some .int)) (own := RX9) rfl (by decide) rfl (Nat.le_of_ble_eq_true rfl) (fun p e s m args below meth c ls A hx hb hr hml hown hlocks hts hK hA hP hD hS hl => ?_)
  have k46 := (hts (.fieldLink RX9 46 "ResolutionProverModel" "thrown" "I") (List.mem_of_getElem? (i := 1) rfl))
  have hiX9 : ∀ w ∈ wsX90, w ∈ wsX9_firstModel := (memIn_p [28, 29, 30, 31, 32, 33, 34, 35, 36, 37, 38, 39, 40, 41, 42, 43, 44, 45, 46, 47, 48, 49, 50, 51, 52, 53, 54] rfl)
  have hl : lv_has ls 2 [(0, .ref (q 0))] := hl
  refine lv_aload_n hx hb dX9_firstModel_0 rfl (lv_at hl 0 rfl) ?_
  refine lv_iconst (v := 0) hx hb dX9_firstModel_1 (by decide) ?_
  refine va_put (D := D) (ci := 8) (v := .int (0 : Int32)) (ty := .int) (C := RX9) (T := TX9) (N := 27) hx hb hts hiX9 tyX9 tyX9_ok nmX9 hown hK hP hD hS 0 rfl rfl 0 (by decide) k46 (fun _ h9 => h9) rfl (by decide +kernel) rfl rfl (Nat.le_of_ble_eq_true rfl) dX9_firstModel_2 (fun H locs hP hD hS => ?_)
  obtain ⟨z_1, ez_1, hf⟩ := nm_ob hf
  have hP : va_P D vwCl (wM cI cB cZ q z_1) H := by rw [ez_1]; exact hP
  have hD : va_D A (wM cI cB cZ q z_1) := by rw [ez_1]; exact hD
  refine lv_iconst (v := 0) hx hb dX9_firstModel_5 (by decide) ?_
  refine lv_istore_n (lv' := [(1, .int (0 : Int32)), (0, .ref (q 0))]) hx hb dX9_firstModel_6 rfl hl (by decide) rfl (fun ls hl => ?_)
  obtain ⟨j32, ej32, hf⟩ := jn_ob hf
  have hp32 : ∀  (H : Heap) (locs : List Loc) (ls : Array Slot), j32 = some (r, y1) → va_P D vwCl (wM cI cB cZ q z_1) H → va_D A (wM cI cB cZ q z_1) → va_S A s.heap H locs → lv_has ls 2 [] → W p l e (headSpec wsX9_firstModel { frames := 3, cells := 0, slots := 0, locals := 69 }).room s m args below meth c H locs 0 0 (MQ below (Qw D A (some (.int r)) (wM cI cB cZ q y1)) args s 0 0 A) (F0 m 32 ls []) := by
    intro H locs ls hf hP hD hS hl
    rw [ej32] at hf
    refine lv_iconst (v := (-1)) hx hb dX9_firstModel_32 (by decide) ?_
    exact rW_i hx hb hr hlocks hP hD hS (congrArg (fun q9 => q9.1) (so_ob hf)) (congrArg (fun (q9 : Int32 × (OS)) => wM cI cB cZ q q9.2) (so_ob hf)) dX9_firstModel_33
  have hL7 : ∀ (n_7 : Nat) (v1_7 : Int32) (H : Heap) (locs : List Loc) (ls : Array Slot), lX9_firstModel_7 fu z_1 j32 n_7 v1_7 = some (r, y1) → va_P D vwCl (wM cI cB cZ q z_1) H → va_D A (wM cI cB cZ q z_1) → va_S A s.heap H locs → lv_has ls 2 [(0, .ref (q 0)), (1, .int v1_7)] → W p l e (headSpec wsX9_firstModel { frames := 3, cells := 0, slots := 0, locals := 69 }).room s m args below meth c H locs 0 0 (MQ below (Qw D A (some (.int r)) (wM cI cB cZ q y1)) args s 0 0 A) (F0 m 7 ls []) := by
    intro n_7
    induction n_7 with
    | zero =>
      intro v1_7 H locs ls hf
      exact no_ob hf
    | succ n_7 ih7 =>
      intro v1_7 H locs ls hf hP hD hS hl
      rw [lX9_firstModel_7] at hf
      refine lv_iload_n hx hb dX9_firstModel_7 rfl (lv_at hl 1 rfl) ?_
      refine lv_aload_n hx hb dX9_firstModel_8 rfl (lv_at hl 0 rfl) ?_
      obtain ⟨r_2, hc_3, hf⟩ := bd_ob hf
      refine rdV (As := []) (rest := [.int v1_7]) ⟨hx, hb, hml, hown, hts⟩ (mX9_assignments l D cI cB cZ cO q fu z_1 hc_3) (cwV 0 hts gX9_firstModel_X9_assignments rfl rfl rfl (by decide +kernel) ⟨Nat.le_of_ble_eq_true rfl, Nat.le_of_ble_eq_true rfl⟩) hK hP (va_recv hK hP (ci := 8) (q0 := 0) rfl rfl) rfl hl.1 rfl (Nat.le_of_ble_eq_true rfl) dX9_firstModel_9 ⟨Nat.zero_le _, Nat.zero_le _⟩ ?_
      refine lv_icmp_ge (tgt := 32) hx hb dX9_firstModel_12 (by decide) (fun c_12 => ?_) (fun c_12 => ?_)
      · have hf := ip c_12 hf
        exact hp32 _ _ _ hf hP hD hS (lv_sub hl [] rfl)
      · have hf := iq c_12 hf
        refine lv_aload_n hx hb dX9_firstModel_15 rfl (lv_at hl 0 rfl) ?_
        refine lv_iload_n hx hb dX9_firstModel_16 rfl (lv_at hl 1 rfl) ?_
        refine lv_iconst (v := (-1)) hx hb dX9_firstModel_17 (by decide) ?_
        obtain ⟨r_4, hc_5, hf⟩ := bd_ob hf
        refine rdV (As := [.int v1_7, .int (-1 : Int32)]) (rest := []) ⟨hx, hb, hml, hown, hts⟩ (mX9_isModel l D cI cB cZ cO q fu z_1 v1_7 (-1 : Int32) hc_5) (cwV 2 hts gX9_firstModel_X9_isModel rfl rfl rfl (by decide +kernel) ⟨Nat.le_of_ble_eq_true rfl, Nat.le_of_ble_eq_true rfl⟩) hK hP (va_recv hK hP (ci := 8) (q0 := 0) rfl rfl) rfl hl.1 rfl (Nat.le_of_ble_eq_true rfl) dX9_firstModel_18 ⟨Nat.zero_le _, Nat.zero_le _⟩ ?_
        refine lv_if_eq (tgt := 26) hx hb dX9_firstModel_21 (by decide) (fun c_21 => ?_) (fun c_21 => ?_)
        · have hf := ip c_21 hf
          obtain ⟨v1_6, ev1_6, hf⟩ := nm_ob hf
          refine lv_iinc (v := v1_6) (lv' := [(1, .int v1_6), (0, .ref (q 0))]) hx hb dX9_firstModel_26 hl (k := 1) rfl (by rw [ev1_6]; rfl) (by decide) rfl (fun ls hl => ?_)
          refine lv_goto (tgt := 7) hx hb dX9_firstModel_29 (by decide) ?_
          exact ih7 v1_6 _ _ _ hf hP hD hS (lv_sub hl [1, 0] rfl)
        · have hf := iq c_21 hf
          refine lv_iload_n hx hb dX9_firstModel_24 rfl (lv_at hl 1 rfl) ?_
          exact rW_i hx hb hr hlocks hP hD hS (congrArg (fun q9 => q9.1) (so_ob hf)) (congrArg (fun (q9 : Int32 × (OS)) => wM cI cB cZ q q9.2) (so_ob hf)) dX9_firstModel_25
  exact hL7 fu (0 : Int32) _ _ _ hf hP hD hS (lv_sub hl [1, 0] rfl)

def lX9_modelAt_9 (fu : Nat) (p1 : Int32) (z_1 : OS) (j45 : Option (Int32 × (OS))) : Nat → Int32 → Int32 → Option (Int32 × (OS))
  | 0, _, _ => none
  | n_9 + 1, v2_9, v3_9 => bd (fX9_assignments fu z_1) (fun (r_2 : Int32) => (if r_2 ≤ v3_9 then j45 else bd (fX9_isModel fu z_1 v3_9 (-1 : Int32)) (fun (r_4 : Int32) => jn (κ := Int32 → Option (Int32 × (OS))) (fun (v2_39 : Int32) => nm (v3_9 + (1 : Int32)) (fun (v3_6 : Int32) => lX9_modelAt_9 fu p1 z_1 j45 n_9 v2_39 v3_6)) (fun j39 => (if ¬ r_4 = (0 : Int32) then (if ¬ v2_9 = p1 then nm (v2_9 + (1 : Int32)) (fun (v2_7 : Int32) => j39 v2_7) else some (v3_9, z_1)) else j39 v2_9)))))
def fX9_modelAt (fu : Nat) (z : OS) (p1 : Int32) : Option (Int32 × (OS)) :=
  nm (sI z 0 (0 : Int32)) (fun (z_1 : OS) => jn (κ := Option (Int32 × (OS))) (some ((-1 : Int32), z_1)) (fun j45 => lX9_modelAt_9 fu p1 z_1 j45 fu (0 : Int32) (0 : Int32)))
set_option maxRecDepth 100000 in
set_option maxHeartbeats 4000000 in
theorem mX9_modelAt (l : Launch) (D : va_G) (cI cB cZ cO : ClassId) (q : Nat → Nat) (sz : Nat) (fu : Nat) (z : OS) (p1 : Int32) {r : Int32} {y1 : OS} (hf : fX9_modelAt fu z p1 = some (r, y1)) : Met l yX9_modelAt wsX9_modelAt ({ frames := 3, cells := 0, slots := 0, locals := 69 }) (va_Pc [.ref (q 0), .int p1] (Pw D (gT cI cB cZ cO) (wM cI cB cZ q z) sz)) (Qw D (va_A (wM cI cB cZ q z) sz) (some (.int r)) (wM cI cB cZ q y1)) 0 0 (va_A (wM cI cB cZ q z) sz) := by
  unfold fX9_modelAt at hf
  refine metW (ret := (some .int)) (own := RX9) rfl (by decide) rfl (Nat.le_of_ble_eq_true rfl) (fun p e s m args below meth c ls A hx hb hr hml hown hlocks hts hK hA hP hD hS hl => ?_)
  have k46 := (hts (.fieldLink RX9 46 "ResolutionProverModel" "thrown" "I") (List.mem_of_getElem? (i := 1) rfl))
  have hiX9 : ∀ w ∈ wsX90, w ∈ wsX9_modelAt := (memIn_p [28, 29, 30, 31, 32, 33, 34, 35, 36, 37, 38, 39, 40, 41, 42, 43, 44, 45, 46, 47, 48, 49, 50, 51, 52, 53, 54] rfl)
  have hl : lv_has ls 4 [(0, .ref (q 0)), (1, .int p1)] := hl
  refine lv_aload_n hx hb dX9_modelAt_0 rfl (lv_at hl 0 rfl) ?_
  refine lv_iconst (v := 0) hx hb dX9_modelAt_1 (by decide) ?_
  refine va_put (D := D) (ci := 8) (v := .int (0 : Int32)) (ty := .int) (C := RX9) (T := TX9) (N := 27) hx hb hts hiX9 tyX9 tyX9_ok nmX9 hown hK hP hD hS 0 rfl rfl 0 (by decide) k46 (fun _ h9 => h9) rfl (by decide +kernel) rfl rfl (Nat.le_of_ble_eq_true rfl) dX9_modelAt_2 (fun H locs hP hD hS => ?_)
  obtain ⟨z_1, ez_1, hf⟩ := nm_ob hf
  have hP : va_P D vwCl (wM cI cB cZ q z_1) H := by rw [ez_1]; exact hP
  have hD : va_D A (wM cI cB cZ q z_1) := by rw [ez_1]; exact hD
  refine lv_iconst (v := 0) hx hb dX9_modelAt_5 (by decide) ?_
  refine lv_istore_n (lv' := [(2, .int (0 : Int32)), (0, .ref (q 0)), (1, .int p1)]) hx hb dX9_modelAt_6 rfl hl (by decide) rfl (fun ls hl => ?_)
  refine lv_iconst (v := 0) hx hb dX9_modelAt_7 (by decide) ?_
  refine lv_istore_n (lv' := [(3, .int (0 : Int32)), (2, .int (0 : Int32)), (0, .ref (q 0)), (1, .int p1)]) hx hb dX9_modelAt_8 rfl hl (by decide) rfl (fun ls hl => ?_)
  obtain ⟨j45, ej45, hf⟩ := jn_ob hf
  have hp45 : ∀  (H : Heap) (locs : List Loc) (ls : Array Slot), j45 = some (r, y1) → va_P D vwCl (wM cI cB cZ q z_1) H → va_D A (wM cI cB cZ q z_1) → va_S A s.heap H locs → lv_has ls 4 [] → W p l e (headSpec wsX9_modelAt { frames := 3, cells := 0, slots := 0, locals := 69 }).room s m args below meth c H locs 0 0 (MQ below (Qw D A (some (.int r)) (wM cI cB cZ q y1)) args s 0 0 A) (F0 m 45 ls []) := by
    intro H locs ls hf hP hD hS hl
    rw [ej45] at hf
    refine lv_iconst (v := (-1)) hx hb dX9_modelAt_45 (by decide) ?_
    exact rW_i hx hb hr hlocks hP hD hS (congrArg (fun q9 => q9.1) (so_ob hf)) (congrArg (fun (q9 : Int32 × (OS)) => wM cI cB cZ q q9.2) (so_ob hf)) dX9_modelAt_46
  have hL9 : ∀ (n_9 : Nat) (v2_9 : Int32) (v3_9 : Int32) (H : Heap) (locs : List Loc) (ls : Array Slot), lX9_modelAt_9 fu p1 z_1 j45 n_9 v2_9 v3_9 = some (r, y1) → va_P D vwCl (wM cI cB cZ q z_1) H → va_D A (wM cI cB cZ q z_1) → va_S A s.heap H locs → lv_has ls 4 [(0, .ref (q 0)), (1, .int p1), (2, .int v2_9), (3, .int v3_9)] → W p l e (headSpec wsX9_modelAt { frames := 3, cells := 0, slots := 0, locals := 69 }).room s m args below meth c H locs 0 0 (MQ below (Qw D A (some (.int r)) (wM cI cB cZ q y1)) args s 0 0 A) (F0 m 9 ls []) := by
    intro n_9
    induction n_9 with
    | zero =>
      intro v2_9 v3_9 H locs ls hf
      exact no_ob hf
    | succ n_9 ih9 =>
      intro v2_9 v3_9 H locs ls hf hP hD hS hl
      rw [lX9_modelAt_9] at hf
      refine lv_iload_n hx hb dX9_modelAt_9 rfl (lv_at hl 3 rfl) ?_
      refine lv_aload_n hx hb dX9_modelAt_10 rfl (lv_at hl 0 rfl) ?_
      obtain ⟨r_2, hc_3, hf⟩ := bd_ob hf
      refine rdV (As := []) (rest := [.int v3_9]) ⟨hx, hb, hml, hown, hts⟩ (mX9_assignments l D cI cB cZ cO q fu z_1 hc_3) (cwV 0 hts gX9_modelAt_X9_assignments rfl rfl rfl (by decide +kernel) ⟨Nat.le_of_ble_eq_true rfl, Nat.le_of_ble_eq_true rfl⟩) hK hP (va_recv hK hP (ci := 8) (q0 := 0) rfl rfl) rfl hl.1 rfl (Nat.le_of_ble_eq_true rfl) dX9_modelAt_11 ⟨Nat.zero_le _, Nat.zero_le _⟩ ?_
      refine lv_icmp_ge (tgt := 45) hx hb dX9_modelAt_14 (by decide) (fun c_14 => ?_) (fun c_14 => ?_)
      · have hf := ip c_14 hf
        exact hp45 _ _ _ hf hP hD hS (lv_sub hl [] rfl)
      · have hf := iq c_14 hf
        refine lv_aload_n hx hb dX9_modelAt_17 rfl (lv_at hl 0 rfl) ?_
        refine lv_iload_n hx hb dX9_modelAt_18 rfl (lv_at hl 3 rfl) ?_
        refine lv_iconst (v := (-1)) hx hb dX9_modelAt_19 (by decide) ?_
        obtain ⟨r_4, hc_5, hf⟩ := bd_ob hf
        refine rdV (As := [.int v3_9, .int (-1 : Int32)]) (rest := []) ⟨hx, hb, hml, hown, hts⟩ (mX9_isModel l D cI cB cZ cO q fu z_1 v3_9 (-1 : Int32) hc_5) (cwV 2 hts gX9_modelAt_X9_isModel rfl rfl rfl (by decide +kernel) ⟨Nat.le_of_ble_eq_true rfl, Nat.le_of_ble_eq_true rfl⟩) hK hP (va_recv hK hP (ci := 8) (q0 := 0) rfl rfl) rfl hl.1 rfl (Nat.le_of_ble_eq_true rfl) dX9_modelAt_20 ⟨Nat.zero_le _, Nat.zero_le _⟩ ?_
        obtain ⟨j39, ej39, hf⟩ := jn_ob hf
        have hp39 : ∀ (v2_39 : Int32) (H : Heap) (locs : List Loc) (ls : Array Slot), j39 v2_39 = some (r, y1) → va_P D vwCl (wM cI cB cZ q z_1) H → va_D A (wM cI cB cZ q z_1) → va_S A s.heap H locs → lv_has ls 4 [(0, .ref (q 0)), (1, .int p1), (2, .int v2_39), (3, .int v3_9)] → W p l e (headSpec wsX9_modelAt { frames := 3, cells := 0, slots := 0, locals := 69 }).room s m args below meth c H locs 0 0 (MQ below (Qw D A (some (.int r)) (wM cI cB cZ q y1)) args s 0 0 A) (F0 m 39 ls []) := by
          intro v2_39 H locs ls hf hP hD hS hl
          rw [ej39] at hf
          obtain ⟨v3_6, ev3_6, hf⟩ := nm_ob hf
          refine lv_iinc (v := v3_6) (lv' := [(3, .int v3_6), (0, .ref (q 0)), (1, .int p1), (2, .int v2_39)]) hx hb dX9_modelAt_39 hl (k := 3) rfl (by rw [ev3_6]; rfl) (by decide) rfl (fun ls hl => ?_)
          refine lv_goto (tgt := 9) hx hb dX9_modelAt_42 (by decide) ?_
          exact ih9 v2_39 v3_6 _ _ _ hf hP hD hS (lv_sub hl [1, 2, 3, 0] rfl)
        refine lv_if_ne (tgt := 29) hx hb dX9_modelAt_23 (by decide) (fun c_23 => ?_) (fun c_23 => ?_)
        · have hf := ip c_23 hf
          refine lv_iload_n hx hb dX9_modelAt_29 rfl (lv_at hl 2 rfl) ?_
          refine lv_iload_n hx hb dX9_modelAt_30 rfl (lv_at hl 1 rfl) ?_
          refine lv_icmp_ne (tgt := 36) hx hb dX9_modelAt_31 (by decide) (fun c_31 => ?_) (fun c_31 => ?_)
          · have hf := ip c_31 hf
            obtain ⟨v2_7, ev2_7, hf⟩ := nm_ob hf
            refine lv_iinc (v := v2_7) (lv' := [(2, .int v2_7), (0, .ref (q 0)), (1, .int p1), (3, .int v3_9)]) hx hb dX9_modelAt_36 hl (k := 2) rfl (by rw [ev2_7]; rfl) (by decide) rfl (fun ls hl => ?_)
            exact hp39 v2_7 _ _ _ hf hP hD hS (lv_sub hl [1, 2, 0, 3] rfl)
          · have hf := iqn c_31 hf
            refine lv_iload_n hx hb dX9_modelAt_34 rfl (lv_at hl 3 rfl) ?_
            exact rW_i hx hb hr hlocks hP hD hS (congrArg (fun q9 => q9.1) (so_ob hf)) (congrArg (fun (q9 : Int32 × (OS)) => wM cI cB cZ q q9.2) (so_ob hf)) dX9_modelAt_35
        · have hf := iqn c_23 hf
          refine lv_goto (tgt := 39) hx hb dX9_modelAt_26 (by decide) ?_
          exact hp39 v2_9 _ _ _ hf hP hD hS hl
  exact hL9 fu (0 : Int32) (0 : Int32) _ _ _ hf hP hD hS (lv_sub hl [2, 3, 1, 0] rfl)

def fX9_isTrue (fu : Nat) (z : OS) (p1 : Int32) (p2 : Int32) : Option (Int32 × (OS)) :=
  nm (sI z 0 (0 : Int32)) (fun (z_1 : OS) => bd (fX9_noClause fu z_1 p1) (fun (w_4 : Int32 × OS) => nm w_4.1 (fun (r_2 : Int32) => nm w_4.2 (fun (z_3 : OS) => (if ¬ r_2 = (0 : Int32) then gd (isZ (0 : Int32)) (some ((0 : Int32), z_3)) else bd (fX9_isMask fu z_3 p2) (fun (r_6 : Int32) => jn (κ := Int32 → Option (Int32 × (OS))) (fun (t1_27 : Int32) => bd (fX9_throwsIf fu z_3 t1_27 (2 : Int32)) (fun (w_10 : Int32 × OS) => nm w_10.1 (fun (r_8 : Int32) => nm w_10.2 (fun (z_9 : OS) => (if ¬ r_8 = (0 : Int32) then gd (isZ (0 : Int32)) (some ((0 : Int32), z_9)) else bd (fX9_holds fu z_9 p1 p2) (fun (r_12 : Int32) => (if r_12 = (0 : Int32) then gd (isZ (0 : Int32)) (some ((0 : Int32), z_9)) else gd (isZ (1 : Int32)) (some ((1 : Int32), z_9))))))))) (fun j27 => (if ¬ r_6 = (0 : Int32) then j27 (0 : Int32) else j27 (1 : Int32)))))))))
set_option maxRecDepth 100000 in
set_option maxHeartbeats 4000000 in
theorem mX9_isTrue (l : Launch) (D : va_G) (cI cB cZ cO : ClassId) (q : Nat → Nat) (sz : Nat) (fu : Nat) (z : OS) (p1 : Int32) (p2 : Int32) {r : Int32} {y1 : OS} (hf : fX9_isTrue fu z p1 p2 = some (r, y1)) : Met l yX9_isTrue wsX9_isTrue ({ frames := 3, cells := 0, slots := 0, locals := 61 }) (va_Pc [.ref (q 0), .int p1, .int p2] (Pw D (gT cI cB cZ cO) (wM cI cB cZ q z) sz)) (Qw D (va_A (wM cI cB cZ q z) sz) (some (.int r)) (wM cI cB cZ q y1)) 0 0 (va_A (wM cI cB cZ q z) sz) := by
  unfold fX9_isTrue at hf
  refine metW (ret := (some .boolean)) (own := RX9) rfl (by decide) rfl (Nat.le_of_ble_eq_true rfl) (fun p e s m args below meth c ls A hx hb hr hml hown hlocks hts hK hA hP hD hS hl => ?_)
  have k46 := (hts (.fieldLink RX9 46 "ResolutionProverModel" "thrown" "I") (List.mem_of_getElem? (i := 1) rfl))
  have hiX9 : ∀ w ∈ wsX90, w ∈ wsX9_isTrue := (memIn_p [39, 40, 41, 42, 43, 44, 45, 46, 47, 48, 49, 50, 51, 52, 53, 54, 55, 56, 57, 58, 59, 60, 61, 62, 63, 64, 65] rfl)
  have hl : lv_has ls 3 [(0, .ref (q 0)), (1, .int p1), (2, .int p2)] := hl
  refine lv_aload_n hx hb dX9_isTrue_0 rfl (lv_at hl 0 rfl) ?_
  refine lv_iconst (v := 0) hx hb dX9_isTrue_1 (by decide) ?_
  refine va_put (D := D) (ci := 8) (v := .int (0 : Int32)) (ty := .int) (C := RX9) (T := TX9) (N := 27) hx hb hts hiX9 tyX9 tyX9_ok nmX9 hown hK hP hD hS 0 rfl rfl 0 (by decide) k46 (fun _ h9 => h9) rfl (by decide +kernel) rfl rfl (Nat.le_of_ble_eq_true rfl) dX9_isTrue_2 (fun H locs hP hD hS => ?_)
  obtain ⟨z_1, ez_1, hf⟩ := nm_ob hf
  have hP : va_P D vwCl (wM cI cB cZ q z_1) H := by rw [ez_1]; exact hP
  have hD : va_D A (wM cI cB cZ q z_1) := by rw [ez_1]; exact hD
  refine lv_aload_n hx hb dX9_isTrue_5 rfl (lv_at hl 0 rfl) ?_
  refine lv_iload_n hx hb dX9_isTrue_6 rfl (lv_at hl 1 rfl) ?_
  obtain ⟨⟨r_2, z_3⟩, hc_5, hf⟩ := bd_ob hf
  have hf := nm_st hf
  have hf := nm_st hf
  refine weV (As := [.int p1]) (rest := []) ⟨hx, hb, hml, hown, hts⟩ (mX9_noClause l D cI cB cZ cO q _ fu z_1 p1 hc_5) (cwV 1 hts gX9_isTrue_X9_noClause rfl rfl rfl (by decide +kernel) ⟨Nat.le_of_ble_eq_true rfl, Nat.le_of_ble_eq_true rfl⟩) hK hP hD hS hA (va_recv hK hP (ci := 8) (q0 := 0) rfl rfl) rfl hl.1 rfl (Nat.le_of_ble_eq_true rfl) dX9_isTrue_7 ⟨Nat.zero_le _, Nat.zero_le _⟩ (fun H locs hP hD hS => ?_)
  refine lv_if_ne (tgt := 47) hx hb dX9_isTrue_10 (by decide) (fun c_10 => ?_) (fun c_10 => ?_)
  · have hf := ip c_10 hf
    refine lv_iconst (v := 0) hx hb dX9_isTrue_47 (by decide) ?_
    obtain ⟨hz, hf⟩ := gd_ob hf
    exact rW_z hx hb hr hlocks hP hD hS hz (congrArg (fun q9 => q9.1) (so_ob hf)) (congrArg (fun (q9 : Int32 × (OS)) => wM cI cB cZ q q9.2) (so_ob hf)) dX9_isTrue_48
  · have hf := iqn c_10 hf
    refine lv_aload_n hx hb dX9_isTrue_13 rfl (lv_at hl 0 rfl) ?_
    refine lv_aload_n hx hb dX9_isTrue_14 rfl (lv_at hl 0 rfl) ?_
    refine lv_iload_n hx hb dX9_isTrue_15 rfl (lv_at hl 2 rfl) ?_
    obtain ⟨r_6, hc_7, hf⟩ := bd_ob hf
    refine rdV (As := [.int p2]) (rest := [.ref (q 0)]) ⟨hx, hb, hml, hown, hts⟩ (mX9_isMask l D cI cB cZ cO q fu z_3 p2 hc_7) (cwV 1 hts gX9_isTrue_X9_isMask rfl rfl rfl (by decide +kernel) ⟨Nat.le_of_ble_eq_true rfl, Nat.le_of_ble_eq_true rfl⟩) hK hP (va_recv hK hP (ci := 8) (q0 := 0) rfl rfl) rfl hl.1 rfl (Nat.le_of_ble_eq_true rfl) dX9_isTrue_16 ⟨Nat.zero_le _, Nat.zero_le _⟩ ?_
    obtain ⟨j27, ej27, hf⟩ := jn_ob hf
    have hp27 : ∀ (t1_27 : Int32) (H : Heap) (locs : List Loc) (ls : Array Slot), j27 t1_27 = some (r, y1) → va_P D vwCl (wM cI cB cZ q z_3) H → va_D A (wM cI cB cZ q z_3) → va_S A s.heap H locs → lv_has ls 3 [(0, .ref (q 0)), (1, .int p1), (2, .int p2)] → W p l e (headSpec wsX9_isTrue { frames := 3, cells := 0, slots := 0, locals := 61 }).room s m args below meth c H locs 0 0 (MQ below (Qw D A (some (.int r)) (wM cI cB cZ q y1)) args s 0 0 A) (F0 m 27 ls [.int t1_27, .ref (q 0)]) := by
      intro t1_27 H locs ls hf hP hD hS hl
      rw [ej27] at hf
      refine lv_iconst (v := 2) hx hb dX9_isTrue_27 (by decide) ?_
      obtain ⟨⟨r_8, z_9⟩, hc_11, hf⟩ := bd_ob hf
      have hf := nm_st hf
      have hf := nm_st hf
      refine weV (As := [.int t1_27, .int (2 : Int32)]) (rest := []) ⟨hx, hb, hml, hown, hts⟩ (mX9_throwsIf l D cI cB cZ cO q _ fu z_3 t1_27 (2 : Int32) hc_11) (cwV 2 hts gX9_isTrue_X9_throwsIf rfl rfl rfl (by decide +kernel) ⟨Nat.le_of_ble_eq_true rfl, Nat.le_of_ble_eq_true rfl⟩) hK hP hD hS hA (va_recv hK hP (ci := 8) (q0 := 0) rfl rfl) rfl hl.1 rfl (Nat.le_of_ble_eq_true rfl) dX9_isTrue_28 ⟨Nat.zero_le _, Nat.zero_le _⟩ (fun H locs hP hD hS => ?_)
      refine lv_if_ne (tgt := 47) hx hb dX9_isTrue_31 (by decide) (fun c_31 => ?_) (fun c_31 => ?_)
      · have hf := ip c_31 hf
        refine lv_iconst (v := 0) hx hb dX9_isTrue_47 (by decide) ?_
        obtain ⟨hz, hf⟩ := gd_ob hf
        exact rW_z hx hb hr hlocks hP hD hS hz (congrArg (fun q9 => q9.1) (so_ob hf)) (congrArg (fun (q9 : Int32 × (OS)) => wM cI cB cZ q q9.2) (so_ob hf)) dX9_isTrue_48
      · have hf := iqn c_31 hf
        refine lv_aload_n hx hb dX9_isTrue_34 rfl (lv_at hl 0 rfl) ?_
        refine lv_iload_n hx hb dX9_isTrue_35 rfl (lv_at hl 1 rfl) ?_
        refine lv_iload_n hx hb dX9_isTrue_36 rfl (lv_at hl 2 rfl) ?_
        obtain ⟨r_12, hc_13, hf⟩ := bd_ob hf
        refine rdV (As := [.int p1, .int p2]) (rest := []) ⟨hx, hb, hml, hown, hts⟩ (mX9_holds l D cI cB cZ cO q fu z_9 p1 p2 hc_13) (cwV 2 hts gX9_isTrue_X9_holds rfl rfl rfl (by decide +kernel) ⟨Nat.le_of_ble_eq_true rfl, Nat.le_of_ble_eq_true rfl⟩) hK hP (va_recv hK hP (ci := 8) (q0 := 0) rfl rfl) rfl hl.1 rfl (Nat.le_of_ble_eq_true rfl) dX9_isTrue_37 ⟨Nat.zero_le _, Nat.zero_le _⟩ ?_
        refine lv_if_eq (tgt := 47) hx hb dX9_isTrue_40 (by decide) (fun c_40 => ?_) (fun c_40 => ?_)
        · have hf := ip c_40 hf
          refine lv_iconst (v := 0) hx hb dX9_isTrue_47 (by decide) ?_
          obtain ⟨hz, hf⟩ := gd_ob hf
          exact rW_z hx hb hr hlocks hP hD hS hz (congrArg (fun q9 => q9.1) (so_ob hf)) (congrArg (fun (q9 : Int32 × (OS)) => wM cI cB cZ q q9.2) (so_ob hf)) dX9_isTrue_48
        · have hf := iq c_40 hf
          refine lv_iconst (v := 1) hx hb dX9_isTrue_43 (by decide) ?_
          refine lv_goto (tgt := 48) hx hb dX9_isTrue_44 (by decide) ?_
          obtain ⟨hz, hf⟩ := gd_ob hf
          exact rW_z hx hb hr hlocks hP hD hS hz (congrArg (fun q9 => q9.1) (so_ob hf)) (congrArg (fun (q9 : Int32 × (OS)) => wM cI cB cZ q q9.2) (so_ob hf)) dX9_isTrue_48
    refine lv_if_ne (tgt := 26) hx hb dX9_isTrue_19 (by decide) (fun c_19 => ?_) (fun c_19 => ?_)
    · have hf := ip c_19 hf
      refine lv_iconst (v := 0) hx hb dX9_isTrue_26 (by decide) ?_
      exact hp27 (0 : Int32) _ _ _ hf hP hD hS hl
    · have hf := iqn c_19 hf
      refine lv_iconst (v := 1) hx hb dX9_isTrue_22 (by decide) ?_
      refine lv_goto (tgt := 27) hx hb dX9_isTrue_23 (by decide) ?_
      exact hp27 (1 : Int32) _ _ _ hf hP hD hS hl

def fX9_falseClauses (fu : Nat) (z : OS) (p1 : Int32) : Option (Int32 × (OS)) :=
  nm (sI z 0 (0 : Int32)) (fun (z_1 : OS) => bd (fX9_isMask fu z_1 p1) (fun (r_2 : Int32) => jn (κ := Int32 → Option (Int32 × (OS))) (fun (t1_19 : Int32) => bd (fX9_throwsIf fu z_1 t1_19 (1 : Int32)) (fun (w_6 : Int32 × OS) => nm w_6.1 (fun (r_4 : Int32) => nm w_6.2 (fun (z_5 : OS) => (if r_4 = (0 : Int32) then bd (fX9_falseUnder fu z_5 p1) (fun (r_8 : Int32) => some (r_8, z_5)) else some ((0 : Int32), z_5)))))) (fun j19 => (if ¬ r_2 = (0 : Int32) then j19 (0 : Int32) else j19 (1 : Int32)))))
set_option maxRecDepth 100000 in
set_option maxHeartbeats 4000000 in
theorem mX9_falseClauses (l : Launch) (D : va_G) (cI cB cZ cO : ClassId) (q : Nat → Nat) (sz : Nat) (fu : Nat) (z : OS) (p1 : Int32) {r : Int32} {y1 : OS} (hf : fX9_falseClauses fu z p1 = some (r, y1)) : Met l yX9_falseClauses wsX9_falseClauses ({ frames := 3, cells := 0, slots := 0, locals := 69 }) (va_Pc [.ref (q 0), .int p1] (Pw D (gT cI cB cZ cO) (wM cI cB cZ q z) sz)) (Qw D (va_A (wM cI cB cZ q z) sz) (some (.int r)) (wM cI cB cZ q y1)) 0 0 (va_A (wM cI cB cZ q z) sz) := by
  unfold fX9_falseClauses at hf
  refine metW (ret := (some .int)) (own := RX9) rfl (by decide) rfl (Nat.le_of_ble_eq_true rfl) (fun p e s m args below meth c ls A hx hb hr hml hown hlocks hts hK hA hP hD hS hl => ?_)
  have k46 := (hts (.fieldLink RX9 46 "ResolutionProverModel" "thrown" "I") (List.mem_of_getElem? (i := 1) rfl))
  have hiX9 : ∀ w ∈ wsX90, w ∈ wsX9_falseClauses := (memIn_p [39, 40, 41, 42, 43, 44, 45, 46, 47, 48, 49, 50, 51, 52, 53, 54, 55, 56, 57, 58, 59, 60, 61, 62, 63, 64, 65] rfl)
  have hl : lv_has ls 2 [(0, .ref (q 0)), (1, .int p1)] := hl
  refine lv_aload_n hx hb dX9_falseClauses_0 rfl (lv_at hl 0 rfl) ?_
  refine lv_iconst (v := 0) hx hb dX9_falseClauses_1 (by decide) ?_
  refine va_put (D := D) (ci := 8) (v := .int (0 : Int32)) (ty := .int) (C := RX9) (T := TX9) (N := 27) hx hb hts hiX9 tyX9 tyX9_ok nmX9 hown hK hP hD hS 0 rfl rfl 0 (by decide) k46 (fun _ h9 => h9) rfl (by decide +kernel) rfl rfl (Nat.le_of_ble_eq_true rfl) dX9_falseClauses_2 (fun H locs hP hD hS => ?_)
  obtain ⟨z_1, ez_1, hf⟩ := nm_ob hf
  have hP : va_P D vwCl (wM cI cB cZ q z_1) H := by rw [ez_1]; exact hP
  have hD : va_D A (wM cI cB cZ q z_1) := by rw [ez_1]; exact hD
  refine lv_aload_n hx hb dX9_falseClauses_5 rfl (lv_at hl 0 rfl) ?_
  refine lv_aload_n hx hb dX9_falseClauses_6 rfl (lv_at hl 0 rfl) ?_
  refine lv_iload_n hx hb dX9_falseClauses_7 rfl (lv_at hl 1 rfl) ?_
  obtain ⟨r_2, hc_3, hf⟩ := bd_ob hf
  refine rdV (As := [.int p1]) (rest := [.ref (q 0)]) ⟨hx, hb, hml, hown, hts⟩ (mX9_isMask l D cI cB cZ cO q fu z_1 p1 hc_3) (cwV 1 hts gX9_falseClauses_X9_isMask rfl rfl rfl (by decide +kernel) ⟨Nat.le_of_ble_eq_true rfl, Nat.le_of_ble_eq_true rfl⟩) hK hP (va_recv hK hP (ci := 8) (q0 := 0) rfl rfl) rfl hl.1 rfl (Nat.le_of_ble_eq_true rfl) dX9_falseClauses_8 ⟨Nat.zero_le _, Nat.zero_le _⟩ ?_
  obtain ⟨j19, ej19, hf⟩ := jn_ob hf
  have hp19 : ∀ (t1_19 : Int32) (H : Heap) (locs : List Loc) (ls : Array Slot), j19 t1_19 = some (r, y1) → va_P D vwCl (wM cI cB cZ q z_1) H → va_D A (wM cI cB cZ q z_1) → va_S A s.heap H locs → lv_has ls 2 [(0, .ref (q 0)), (1, .int p1)] → W p l e (headSpec wsX9_falseClauses { frames := 3, cells := 0, slots := 0, locals := 69 }).room s m args below meth c H locs 0 0 (MQ below (Qw D A (some (.int r)) (wM cI cB cZ q y1)) args s 0 0 A) (F0 m 19 ls [.int t1_19, .ref (q 0)]) := by
    intro t1_19 H locs ls hf hP hD hS hl
    rw [ej19] at hf
    refine lv_iconst (v := 1) hx hb dX9_falseClauses_19 (by decide) ?_
    obtain ⟨⟨r_4, z_5⟩, hc_7, hf⟩ := bd_ob hf
    have hf := nm_st hf
    have hf := nm_st hf
    refine weV (As := [.int t1_19, .int (1 : Int32)]) (rest := []) ⟨hx, hb, hml, hown, hts⟩ (mX9_throwsIf l D cI cB cZ cO q _ fu z_1 t1_19 (1 : Int32) hc_7) (cwV 2 hts gX9_falseClauses_X9_throwsIf rfl rfl rfl (by decide +kernel) ⟨Nat.le_of_ble_eq_true rfl, Nat.le_of_ble_eq_true rfl⟩) hK hP hD hS hA (va_recv hK hP (ci := 8) (q0 := 0) rfl rfl) rfl hl.1 rfl (Nat.le_of_ble_eq_true rfl) dX9_falseClauses_20 ⟨Nat.zero_le _, Nat.zero_le _⟩ (fun H locs hP hD hS => ?_)
    refine lv_if_eq (tgt := 30) hx hb dX9_falseClauses_23 (by decide) (fun c_23 => ?_) (fun c_23 => ?_)
    · have hf := ip c_23 hf
      refine lv_aload_n hx hb dX9_falseClauses_30 rfl (lv_at hl 0 rfl) ?_
      refine lv_iload_n hx hb dX9_falseClauses_31 rfl (lv_at hl 1 rfl) ?_
      obtain ⟨r_8, hc_9, hf⟩ := bd_ob hf
      refine rdV (As := [.int p1]) (rest := []) ⟨hx, hb, hml, hown, hts⟩ (mX9_falseUnder l D cI cB cZ cO q fu z_5 p1 hc_9) (cwV 1 hts gX9_falseClauses_X9_falseUnder rfl rfl rfl (by decide +kernel) ⟨Nat.le_of_ble_eq_true rfl, Nat.le_of_ble_eq_true rfl⟩) hK hP (va_recv hK hP (ci := 8) (q0 := 0) rfl rfl) rfl hl.1 rfl (Nat.le_of_ble_eq_true rfl) dX9_falseClauses_32 ⟨Nat.zero_le _, Nat.zero_le _⟩ ?_
      exact rW_i hx hb hr hlocks hP hD hS (congrArg (fun q9 => q9.1) (so_ob hf)) (congrArg (fun (q9 : Int32 × (OS)) => wM cI cB cZ q q9.2) (so_ob hf)) dX9_falseClauses_35
    · have hf := iq c_23 hf
      refine lv_iconst (v := 0) hx hb dX9_falseClauses_26 (by decide) ?_
      refine lv_goto (tgt := 35) hx hb dX9_falseClauses_27 (by decide) ?_
      exact rW_i hx hb hr hlocks hP hD hS (congrArg (fun q9 => q9.1) (so_ob hf)) (congrArg (fun (q9 : Int32 × (OS)) => wM cI cB cZ q q9.2) (so_ob hf)) dX9_falseClauses_35
  refine lv_if_ne (tgt := 18) hx hb dX9_falseClauses_11 (by decide) (fun c_11 => ?_) (fun c_11 => ?_)
  · have hf := ip c_11 hf
    refine lv_iconst (v := 0) hx hb dX9_falseClauses_18 (by decide) ?_
    exact hp19 (0 : Int32) _ _ _ hf hP hD hS hl
  · have hf := iqn c_11 hf
    refine lv_iconst (v := 1) hx hb dX9_falseClauses_14 (by decide) ?_
    refine lv_goto (tgt := 19) hx hb dX9_falseClauses_15 (by decide) ?_
    exact hp19 (1 : Int32) _ _ _ hf hP hD hS hl

def lX9_bestFlip_32 (fu : Nat) (p1 : Int32) (z_5 : OS) (j69 : Int32 → Option (Int32 × (OS))) : Nat → Int32 → Int32 → Option (Int32 × (OS))
  | 0, _, _ => none
  | n_32 + 1, v2_32, v3_32 => bd (fX9_wide fu z_5) (fun (r_8 : Int32) => (if r_8 ≤ v3_32 then j69 v2_32 else bd (fX9_falseUnder fu z_5 (p1 ^^^ ((1 : Int32) <<< (v3_32 &&& (31 : Int32))))) (fun (r_10 : Int32) => bd (fX9_falseUnder fu z_5 (p1 ^^^ ((1 : Int32) <<< (v2_32 &&& (31 : Int32))))) (fun (r_12 : Int32) => jn (κ := Int32 → Option (Int32 × (OS))) (fun (v2_63 : Int32) => nm (v3_32 + (1 : Int32)) (fun (v3_14 : Int32) => lX9_bestFlip_32 fu p1 z_5 j69 n_32 v2_63 v3_14)) (fun j63 => (if r_12 ≤ r_10 then j63 v2_32 else j63 v3_32))))))
def fX9_bestFlip (fu : Nat) (z : OS) (p1 : Int32) : Option (Int32 × (OS)) :=
  nm (sI z 0 (0 : Int32)) (fun (z_1 : OS) => bd (fX9_isMask fu z_1 p1) (fun (r_2 : Int32) => jn (κ := Int32 → Option (Int32 × (OS))) (fun (t1_19 : Int32) => bd (fX9_throwsIf fu z_1 t1_19 (1 : Int32)) (fun (w_6 : Int32 × OS) => nm w_6.1 (fun (r_4 : Int32) => nm w_6.2 (fun (z_5 : OS) => (if r_4 = (0 : Int32) then jn (κ := Int32 → Option (Int32 × (OS))) (fun (v2_69 : Int32) => some (v2_69, z_5)) (fun j69 => lX9_bestFlip_32 fu p1 z_5 j69 fu (0 : Int32) (1 : Int32)) else some ((0 : Int32), z_5)))))) (fun j19 => (if ¬ r_2 = (0 : Int32) then j19 (0 : Int32) else j19 (1 : Int32)))))
set_option maxRecDepth 100000 in
set_option maxHeartbeats 4000000 in
theorem mX9_bestFlip (l : Launch) (D : va_G) (cI cB cZ cO : ClassId) (q : Nat → Nat) (sz : Nat) (fu : Nat) (z : OS) (p1 : Int32) {r : Int32} {y1 : OS} (hf : fX9_bestFlip fu z p1 = some (r, y1)) : Met l yX9_bestFlip wsX9_bestFlip ({ frames := 3, cells := 0, slots := 0, locals := 69 }) (va_Pc [.ref (q 0), .int p1] (Pw D (gT cI cB cZ cO) (wM cI cB cZ q z) sz)) (Qw D (va_A (wM cI cB cZ q z) sz) (some (.int r)) (wM cI cB cZ q y1)) 0 0 (va_A (wM cI cB cZ q z) sz) := by
  unfold fX9_bestFlip at hf
  refine metW (ret := (some .int)) (own := RX9) rfl (by decide) rfl (Nat.le_of_ble_eq_true rfl) (fun p e s m args below meth c ls A hx hb hr hml hown hlocks hts hK hA hP hD hS hl => ?_)
  have k46 := (hts (.fieldLink RX9 46 "ResolutionProverModel" "thrown" "I") (List.mem_of_getElem? (i := 1) rfl))
  have hiX9 : ∀ w ∈ wsX90, w ∈ wsX9_bestFlip := (memIn_p [39, 40, 41, 42, 43, 44, 45, 46, 47, 48, 49, 50, 51, 52, 53, 54, 55, 56, 57, 58, 59, 60, 61, 62, 63, 64, 65] rfl)
  have hl : lv_has ls 4 [(0, .ref (q 0)), (1, .int p1)] := hl
  refine lv_aload_n hx hb dX9_bestFlip_0 rfl (lv_at hl 0 rfl) ?_
  refine lv_iconst (v := 0) hx hb dX9_bestFlip_1 (by decide) ?_
  refine va_put (D := D) (ci := 8) (v := .int (0 : Int32)) (ty := .int) (C := RX9) (T := TX9) (N := 27) hx hb hts hiX9 tyX9 tyX9_ok nmX9 hown hK hP hD hS 0 rfl rfl 0 (by decide) k46 (fun _ h9 => h9) rfl (by decide +kernel) rfl rfl (Nat.le_of_ble_eq_true rfl) dX9_bestFlip_2 (fun H locs hP hD hS => ?_)
  obtain ⟨z_1, ez_1, hf⟩ := nm_ob hf
  have hP : va_P D vwCl (wM cI cB cZ q z_1) H := by rw [ez_1]; exact hP
  have hD : va_D A (wM cI cB cZ q z_1) := by rw [ez_1]; exact hD
  refine lv_aload_n hx hb dX9_bestFlip_5 rfl (lv_at hl 0 rfl) ?_
  refine lv_aload_n hx hb dX9_bestFlip_6 rfl (lv_at hl 0 rfl) ?_
  refine lv_iload_n hx hb dX9_bestFlip_7 rfl (lv_at hl 1 rfl) ?_
  obtain ⟨r_2, hc_3, hf⟩ := bd_ob hf
  refine rdV (As := [.int p1]) (rest := [.ref (q 0)]) ⟨hx, hb, hml, hown, hts⟩ (mX9_isMask l D cI cB cZ cO q fu z_1 p1 hc_3) (cwV 1 hts gX9_bestFlip_X9_isMask rfl rfl rfl (by decide +kernel) ⟨Nat.le_of_ble_eq_true rfl, Nat.le_of_ble_eq_true rfl⟩) hK hP (va_recv hK hP (ci := 8) (q0 := 0) rfl rfl) rfl hl.1 rfl (Nat.le_of_ble_eq_true rfl) dX9_bestFlip_8 ⟨Nat.zero_le _, Nat.zero_le _⟩ ?_
  obtain ⟨j19, ej19, hf⟩ := jn_ob hf
  have hp19 : ∀ (t1_19 : Int32) (H : Heap) (locs : List Loc) (ls : Array Slot), j19 t1_19 = some (r, y1) → va_P D vwCl (wM cI cB cZ q z_1) H → va_D A (wM cI cB cZ q z_1) → va_S A s.heap H locs → lv_has ls 4 [(0, .ref (q 0)), (1, .int p1)] → W p l e (headSpec wsX9_bestFlip { frames := 3, cells := 0, slots := 0, locals := 69 }).room s m args below meth c H locs 0 0 (MQ below (Qw D A (some (.int r)) (wM cI cB cZ q y1)) args s 0 0 A) (F0 m 19 ls [.int t1_19, .ref (q 0)]) := by
    intro t1_19 H locs ls hf hP hD hS hl
    rw [ej19] at hf
    refine lv_iconst (v := 1) hx hb dX9_bestFlip_19 (by decide) ?_
    obtain ⟨⟨r_4, z_5⟩, hc_7, hf⟩ := bd_ob hf
    have hf := nm_st hf
    have hf := nm_st hf
    refine weV (As := [.int t1_19, .int (1 : Int32)]) (rest := []) ⟨hx, hb, hml, hown, hts⟩ (mX9_throwsIf l D cI cB cZ cO q _ fu z_1 t1_19 (1 : Int32) hc_7) (cwV 2 hts gX9_bestFlip_X9_throwsIf rfl rfl rfl (by decide +kernel) ⟨Nat.le_of_ble_eq_true rfl, Nat.le_of_ble_eq_true rfl⟩) hK hP hD hS hA (va_recv hK hP (ci := 8) (q0 := 0) rfl rfl) rfl hl.1 rfl (Nat.le_of_ble_eq_true rfl) dX9_bestFlip_20 ⟨Nat.zero_le _, Nat.zero_le _⟩ (fun H locs hP hD hS => ?_)
    refine lv_if_eq (tgt := 28) hx hb dX9_bestFlip_23 (by decide) (fun c_23 => ?_) (fun c_23 => ?_)
    · have hf := ip c_23 hf
      refine lv_iconst (v := 0) hx hb dX9_bestFlip_28 (by decide) ?_
      refine lv_istore_n (lv' := [(2, .int (0 : Int32)), (0, .ref (q 0)), (1, .int p1)]) hx hb dX9_bestFlip_29 rfl hl (by decide) rfl (fun ls hl => ?_)
      refine lv_iconst (v := 1) hx hb dX9_bestFlip_30 (by decide) ?_
      refine lv_istore_n (lv' := [(3, .int (1 : Int32)), (2, .int (0 : Int32)), (0, .ref (q 0)), (1, .int p1)]) hx hb dX9_bestFlip_31 rfl hl (by decide) rfl (fun ls hl => ?_)
      obtain ⟨j69, ej69, hf⟩ := jn_ob hf
      have hp69 : ∀ (v2_69 : Int32) (H : Heap) (locs : List Loc) (ls : Array Slot), j69 v2_69 = some (r, y1) → va_P D vwCl (wM cI cB cZ q z_5) H → va_D A (wM cI cB cZ q z_5) → va_S A s.heap H locs → lv_has ls 4 [(2, .int v2_69)] → W p l e (headSpec wsX9_bestFlip { frames := 3, cells := 0, slots := 0, locals := 69 }).room s m args below meth c H locs 0 0 (MQ below (Qw D A (some (.int r)) (wM cI cB cZ q y1)) args s 0 0 A) (F0 m 69 ls []) := by
        intro v2_69 H locs ls hf hP hD hS hl
        rw [ej69] at hf
        refine lv_iload_n hx hb dX9_bestFlip_69 rfl (lv_at hl 0 rfl) ?_
        exact rW_i hx hb hr hlocks hP hD hS (congrArg (fun q9 => q9.1) (so_ob hf)) (congrArg (fun (q9 : Int32 × (OS)) => wM cI cB cZ q q9.2) (so_ob hf)) dX9_bestFlip_70
      have hL32 : ∀ (n_32 : Nat) (v2_32 : Int32) (v3_32 : Int32) (H : Heap) (locs : List Loc) (ls : Array Slot), lX9_bestFlip_32 fu p1 z_5 j69 n_32 v2_32 v3_32 = some (r, y1) → va_P D vwCl (wM cI cB cZ q z_5) H → va_D A (wM cI cB cZ q z_5) → va_S A s.heap H locs → lv_has ls 4 [(0, .ref (q 0)), (1, .int p1), (2, .int v2_32), (3, .int v3_32)] → W p l e (headSpec wsX9_bestFlip { frames := 3, cells := 0, slots := 0, locals := 69 }).room s m args below meth c H locs 0 0 (MQ below (Qw D A (some (.int r)) (wM cI cB cZ q y1)) args s 0 0 A) (F0 m 32 ls []) := by
        intro n_32
        induction n_32 with
        | zero =>
          intro v2_32 v3_32 H locs ls hf
          exact no_ob hf
        | succ n_32 ih32 =>
          intro v2_32 v3_32 H locs ls hf hP hD hS hl
          rw [lX9_bestFlip_32] at hf
          refine lv_iload_n hx hb dX9_bestFlip_32 rfl (lv_at hl 3 rfl) ?_
          refine lv_aload_n hx hb dX9_bestFlip_33 rfl (lv_at hl 0 rfl) ?_
          obtain ⟨r_8, hc_9, hf⟩ := bd_ob hf
          refine rdV (As := []) (rest := [.int v3_32]) ⟨hx, hb, hml, hown, hts⟩ (mX9_wide l D cI cB cZ cO q fu z_5 hc_9) (cwV 0 hts gX9_bestFlip_X9_wide rfl rfl rfl (by decide +kernel) ⟨Nat.le_of_ble_eq_true rfl, Nat.le_of_ble_eq_true rfl⟩) hK hP (va_recv hK hP (ci := 8) (q0 := 0) rfl rfl) rfl hl.1 rfl (Nat.le_of_ble_eq_true rfl) dX9_bestFlip_34 ⟨Nat.zero_le _, Nat.zero_le _⟩ ?_
          refine lv_icmp_ge (tgt := 69) hx hb dX9_bestFlip_37 (by decide) (fun c_37 => ?_) (fun c_37 => ?_)
          · have hf := ip c_37 hf
            exact hp69 v2_32 _ _ _ hf hP hD hS (lv_sub hl [2] rfl)
          · have hf := iq c_37 hf
            refine lv_aload_n hx hb dX9_bestFlip_40 rfl (lv_at hl 0 rfl) ?_
            refine lv_iload_n hx hb dX9_bestFlip_41 rfl (lv_at hl 1 rfl) ?_
            refine lv_iconst (v := 1) hx hb dX9_bestFlip_42 (by decide) ?_
            refine lv_iload_n hx hb dX9_bestFlip_43 rfl (lv_at hl 3 rfl) ?_
            refine lv_ishl hx hb dX9_bestFlip_44 ?_
            refine lv_ixor hx hb dX9_bestFlip_45 ?_
            obtain ⟨r_10, hc_11, hf⟩ := bd_ob hf
            refine rdV (As := [.int (p1 ^^^ ((1 : Int32) <<< (v3_32 &&& (31 : Int32))))]) (rest := []) ⟨hx, hb, hml, hown, hts⟩ (mX9_falseUnder l D cI cB cZ cO q fu z_5 (p1 ^^^ ((1 : Int32) <<< (v3_32 &&& (31 : Int32)))) hc_11) (cwV 1 hts gX9_bestFlip_X9_falseUnder rfl rfl rfl (by decide +kernel) ⟨Nat.le_of_ble_eq_true rfl, Nat.le_of_ble_eq_true rfl⟩) hK hP (va_recv hK hP (ci := 8) (q0 := 0) rfl rfl) rfl hl.1 rfl (Nat.le_of_ble_eq_true rfl) dX9_bestFlip_46 ⟨Nat.zero_le _, Nat.zero_le _⟩ ?_
            refine lv_aload_n hx hb dX9_bestFlip_49 rfl (lv_at hl 0 rfl) ?_
            refine lv_iload_n hx hb dX9_bestFlip_50 rfl (lv_at hl 1 rfl) ?_
            refine lv_iconst (v := 1) hx hb dX9_bestFlip_51 (by decide) ?_
            refine lv_iload_n hx hb dX9_bestFlip_52 rfl (lv_at hl 2 rfl) ?_
            refine lv_ishl hx hb dX9_bestFlip_53 ?_
            refine lv_ixor hx hb dX9_bestFlip_54 ?_
            obtain ⟨r_12, hc_13, hf⟩ := bd_ob hf
            refine rdV (As := [.int (p1 ^^^ ((1 : Int32) <<< (v2_32 &&& (31 : Int32))))]) (rest := [.int r_10]) ⟨hx, hb, hml, hown, hts⟩ (mX9_falseUnder l D cI cB cZ cO q fu z_5 (p1 ^^^ ((1 : Int32) <<< (v2_32 &&& (31 : Int32)))) hc_13) (cwV 1 hts gX9_bestFlip_X9_falseUnder rfl rfl rfl (by decide +kernel) ⟨Nat.le_of_ble_eq_true rfl, Nat.le_of_ble_eq_true rfl⟩) hK hP (va_recv hK hP (ci := 8) (q0 := 0) rfl rfl) rfl hl.1 rfl (Nat.le_of_ble_eq_true rfl) dX9_bestFlip_55 ⟨Nat.zero_le _, Nat.zero_le _⟩ ?_
            obtain ⟨j63, ej63, hf⟩ := jn_ob hf
            have hp63 : ∀ (v2_63 : Int32) (H : Heap) (locs : List Loc) (ls : Array Slot), j63 v2_63 = some (r, y1) → va_P D vwCl (wM cI cB cZ q z_5) H → va_D A (wM cI cB cZ q z_5) → va_S A s.heap H locs → lv_has ls 4 [(0, .ref (q 0)), (1, .int p1), (2, .int v2_63), (3, .int v3_32)] → W p l e (headSpec wsX9_bestFlip { frames := 3, cells := 0, slots := 0, locals := 69 }).room s m args below meth c H locs 0 0 (MQ below (Qw D A (some (.int r)) (wM cI cB cZ q y1)) args s 0 0 A) (F0 m 63 ls []) := by
              intro v2_63 H locs ls hf hP hD hS hl
              rw [ej63] at hf
              obtain ⟨v3_14, ev3_14, hf⟩ := nm_ob hf
              refine lv_iinc (v := v3_14) (lv' := [(3, .int v3_14), (0, .ref (q 0)), (1, .int p1), (2, .int v2_63)]) hx hb dX9_bestFlip_63 hl (k := 3) rfl (by rw [ev3_14]; rfl) (by decide) rfl (fun ls hl => ?_)
              refine lv_goto (tgt := 32) hx hb dX9_bestFlip_66 (by decide) ?_
              exact ih32 v2_63 v3_14 _ _ _ hf hP hD hS (lv_sub hl [1, 2, 3, 0] rfl)
            refine lv_icmp_ge (tgt := 63) hx hb dX9_bestFlip_58 (by decide) (fun c_58 => ?_) (fun c_58 => ?_)
            · have hf := ip c_58 hf
              exact hp63 v2_32 _ _ _ hf hP hD hS hl
            · have hf := iq c_58 hf
              refine lv_iload_n hx hb dX9_bestFlip_61 rfl (lv_at hl 3 rfl) ?_
              refine lv_istore_n (lv' := [(2, .int v3_32), (0, .ref (q 0)), (1, .int p1), (3, .int v3_32)]) hx hb dX9_bestFlip_62 rfl hl (by decide) rfl (fun ls hl => ?_)
              exact hp63 v3_32 _ _ _ hf hP hD hS (lv_sub hl [1, 2, 0, 3] rfl)
      exact hL32 fu (0 : Int32) (1 : Int32) _ _ _ hf hP hD hS (lv_sub hl [2, 3, 1, 0] rfl)
    · have hf := iq c_23 hf
      refine lv_iconst (v := 0) hx hb dX9_bestFlip_26 (by decide) ?_
      exact rW_i hx hb hr hlocks hP hD hS (congrArg (fun q9 => q9.1) (so_ob hf)) (congrArg (fun (q9 : Int32 × (OS)) => wM cI cB cZ q q9.2) (so_ob hf)) dX9_bestFlip_27
  refine lv_if_ne (tgt := 18) hx hb dX9_bestFlip_11 (by decide) (fun c_11 => ?_) (fun c_11 => ?_)
  · have hf := ip c_11 hf
    refine lv_iconst (v := 0) hx hb dX9_bestFlip_18 (by decide) ?_
    exact hp19 (0 : Int32) _ _ _ hf hP hD hS hl
  · have hf := iqn c_11 hf
    refine lv_iconst (v := 1) hx hb dX9_bestFlip_14 (by decide) ?_
    refine lv_goto (tgt := 19) hx hb dX9_bestFlip_15 (by decide) ?_
    exact hp19 (1 : Int32) _ _ _ hf hP hD hS hl

def fX9_alwaysTrue (fu : Nat) (z : OS) : Option (Int32 × (OS)) :=
  nm (sI z 0 (0 : Int32)) (fun (z_1 : OS) => bd (fX9_always fu z_1 (1 : Int32)) (fun (r_2 : Int32) => some (r_2, z_1)))
set_option maxRecDepth 100000 in
set_option maxHeartbeats 4000000 in
theorem mX9_alwaysTrue (l : Launch) (D : va_G) (cI cB cZ cO : ClassId) (q : Nat → Nat) (sz : Nat) (fu : Nat) (z : OS) {r : Int32} {y1 : OS} (hf : fX9_alwaysTrue fu z = some (r, y1)) : Met l yX9_alwaysTrue wsX9_alwaysTrue ({ frames := 4, cells := 0, slots := 0, locals := 92 }) (va_Pc [.ref (q 0)] (Pw D (gT cI cB cZ cO) (wM cI cB cZ q z) sz)) (Qw D (va_A (wM cI cB cZ q z) sz) (some (.int r)) (wM cI cB cZ q y1)) 0 0 (va_A (wM cI cB cZ q z) sz) := by
  unfold fX9_alwaysTrue at hf
  refine metW (ret := (some .int)) (own := RX9) rfl (by decide) rfl (Nat.le_of_ble_eq_true rfl) (fun p e s m args below meth c ls A hx hb hr hml hown hlocks hts hK hA hP hD hS hl => ?_)
  have k46 := (hts (.fieldLink RX9 46 "ResolutionProverModel" "thrown" "I") (List.mem_of_getElem? (i := 1) rfl))
  have hiX9 : ∀ w ∈ wsX90, w ∈ wsX9_alwaysTrue := (memIn_p [32, 33, 34, 35, 36, 37, 38, 39, 40, 41, 42, 43, 44, 45, 46, 47, 48, 49, 50, 51, 52, 53, 54, 55, 56, 57, 58] rfl)
  have hl : lv_has ls 1 [(0, .ref (q 0))] := hl
  refine lv_aload_n hx hb dX9_alwaysTrue_0 rfl (lv_at hl 0 rfl) ?_
  refine lv_iconst (v := 0) hx hb dX9_alwaysTrue_1 (by decide) ?_
  refine va_put (D := D) (ci := 8) (v := .int (0 : Int32)) (ty := .int) (C := RX9) (T := TX9) (N := 27) hx hb hts hiX9 tyX9 tyX9_ok nmX9 hown hK hP hD hS 0 rfl rfl 0 (by decide) k46 (fun _ h9 => h9) rfl (by decide +kernel) rfl rfl (Nat.le_of_ble_eq_true rfl) dX9_alwaysTrue_2 (fun H locs hP hD hS => ?_)
  obtain ⟨z_1, ez_1, hf⟩ := nm_ob hf
  have hP : va_P D vwCl (wM cI cB cZ q z_1) H := by rw [ez_1]; exact hP
  have hD : va_D A (wM cI cB cZ q z_1) := by rw [ez_1]; exact hD
  refine lv_aload_n hx hb dX9_alwaysTrue_5 rfl (lv_at hl 0 rfl) ?_
  refine lv_iconst (v := 1) hx hb dX9_alwaysTrue_6 (by decide) ?_
  obtain ⟨r_2, hc_3, hf⟩ := bd_ob hf
  refine rdV (As := [.int (1 : Int32)]) (rest := []) ⟨hx, hb, hml, hown, hts⟩ (mX9_always l D cI cB cZ cO q fu z_1 (1 : Int32) hc_3) (cwV 1 hts gX9_alwaysTrue_X9_always rfl rfl rfl (by decide +kernel) ⟨Nat.le_of_ble_eq_true rfl, Nat.le_of_ble_eq_true rfl⟩) hK hP (va_recv hK hP (ci := 8) (q0 := 0) rfl rfl) rfl hl.1 rfl (Nat.le_of_ble_eq_true rfl) dX9_alwaysTrue_7 ⟨Nat.zero_le _, Nat.zero_le _⟩ ?_
  exact rW_i hx hb hr hlocks hP hD hS (congrArg (fun q9 => q9.1) (so_ob hf)) (congrArg (fun (q9 : Int32 × (OS)) => wM cI cB cZ q q9.2) (so_ob hf)) dX9_alwaysTrue_10

def fX9_alwaysFalse (fu : Nat) (z : OS) : Option (Int32 × (OS)) :=
  nm (sI z 0 (0 : Int32)) (fun (z_1 : OS) => bd (fX9_always fu z_1 (0 : Int32)) (fun (r_2 : Int32) => some (r_2, z_1)))
set_option maxRecDepth 100000 in
set_option maxHeartbeats 4000000 in
theorem mX9_alwaysFalse (l : Launch) (D : va_G) (cI cB cZ cO : ClassId) (q : Nat → Nat) (sz : Nat) (fu : Nat) (z : OS) {r : Int32} {y1 : OS} (hf : fX9_alwaysFalse fu z = some (r, y1)) : Met l yX9_alwaysFalse wsX9_alwaysFalse ({ frames := 4, cells := 0, slots := 0, locals := 92 }) (va_Pc [.ref (q 0)] (Pw D (gT cI cB cZ cO) (wM cI cB cZ q z) sz)) (Qw D (va_A (wM cI cB cZ q z) sz) (some (.int r)) (wM cI cB cZ q y1)) 0 0 (va_A (wM cI cB cZ q z) sz) := by
  unfold fX9_alwaysFalse at hf
  refine metW (ret := (some .int)) (own := RX9) rfl (by decide) rfl (Nat.le_of_ble_eq_true rfl) (fun p e s m args below meth c ls A hx hb hr hml hown hlocks hts hK hA hP hD hS hl => ?_)
  have k46 := (hts (.fieldLink RX9 46 "ResolutionProverModel" "thrown" "I") (List.mem_of_getElem? (i := 1) rfl))
  have hiX9 : ∀ w ∈ wsX90, w ∈ wsX9_alwaysFalse := (memIn_p [32, 33, 34, 35, 36, 37, 38, 39, 40, 41, 42, 43, 44, 45, 46, 47, 48, 49, 50, 51, 52, 53, 54, 55, 56, 57, 58] rfl)
  have hl : lv_has ls 1 [(0, .ref (q 0))] := hl
  refine lv_aload_n hx hb dX9_alwaysFalse_0 rfl (lv_at hl 0 rfl) ?_
  refine lv_iconst (v := 0) hx hb dX9_alwaysFalse_1 (by decide) ?_
  refine va_put (D := D) (ci := 8) (v := .int (0 : Int32)) (ty := .int) (C := RX9) (T := TX9) (N := 27) hx hb hts hiX9 tyX9 tyX9_ok nmX9 hown hK hP hD hS 0 rfl rfl 0 (by decide) k46 (fun _ h9 => h9) rfl (by decide +kernel) rfl rfl (Nat.le_of_ble_eq_true rfl) dX9_alwaysFalse_2 (fun H locs hP hD hS => ?_)
  obtain ⟨z_1, ez_1, hf⟩ := nm_ob hf
  have hP : va_P D vwCl (wM cI cB cZ q z_1) H := by rw [ez_1]; exact hP
  have hD : va_D A (wM cI cB cZ q z_1) := by rw [ez_1]; exact hD
  refine lv_aload_n hx hb dX9_alwaysFalse_5 rfl (lv_at hl 0 rfl) ?_
  refine lv_iconst (v := 0) hx hb dX9_alwaysFalse_6 (by decide) ?_
  obtain ⟨r_2, hc_3, hf⟩ := bd_ob hf
  refine rdV (As := [.int (0 : Int32)]) (rest := []) ⟨hx, hb, hml, hown, hts⟩ (mX9_always l D cI cB cZ cO q fu z_1 (0 : Int32) hc_3) (cwV 1 hts gX9_alwaysFalse_X9_always rfl rfl rfl (by decide +kernel) ⟨Nat.le_of_ble_eq_true rfl, Nat.le_of_ble_eq_true rfl⟩) hK hP (va_recv hK hP (ci := 8) (q0 := 0) rfl rfl) rfl hl.1 rfl (Nat.le_of_ble_eq_true rfl) dX9_alwaysFalse_7 ⟨Nat.zero_le _, Nat.zero_le _⟩ ?_
  exact rW_i hx hb hr hlocks hP hD hS (congrArg (fun q9 => q9.1) (so_ob hf)) (congrArg (fun (q9 : Int32 × (OS)) => wM cI cB cZ q q9.2) (so_ob hf)) dX9_alwaysFalse_10

def fX9_isImplied (fu : Nat) (z : OS) (p1 : Int32) (p2 : Int32) : Option (Int32 × (OS)) :=
  nm (sI z 0 (0 : Int32)) (fun (z_1 : OS) => bd (fX9_noMasks fu z_1 p1 p2) (fun (w_4 : Int32 × OS) => nm w_4.1 (fun (r_2 : Int32) => nm w_4.2 (fun (z_3 : OS) => (if ¬ r_2 = (0 : Int32) then gd (isZ (0 : Int32)) (some ((0 : Int32), z_3)) else bd (fX9_many fu z_3) (fun (r_6 : Int32) => bd (fX9_follows fu z_3 r_6 (-1 : Int32)) (fun (r_8 : Int32) => (if r_8 = (0 : Int32) then gd (isZ (0 : Int32)) (some ((0 : Int32), z_3)) else gd (isZ (1 : Int32)) (some ((1 : Int32), z_3))))))))))
set_option maxRecDepth 100000 in
set_option maxHeartbeats 4000000 in
theorem mX9_isImplied (l : Launch) (D : va_G) (cI cB cZ cO : ClassId) (q : Nat → Nat) (sz : Nat) (fu : Nat) (z : OS) (p1 : Int32) (p2 : Int32) {r : Int32} {y1 : OS} (hf : fX9_isImplied fu z p1 p2 = some (r, y1)) : Met l yX9_isImplied wsX9_isImplied ({ frames := 4, cells := 0, slots := 0, locals := 92 }) (va_Pc [.ref (q 0), .int p1, .int p2] (Pw D (gT cI cB cZ cO) (wM cI cB cZ q z) sz)) (Qw D (va_A (wM cI cB cZ q z) sz) (some (.int r)) (wM cI cB cZ q y1)) 0 0 (va_A (wM cI cB cZ q z) sz) := by
  unfold fX9_isImplied at hf
  refine metW (ret := (some .boolean)) (own := RX9) rfl (by decide) rfl (Nat.le_of_ble_eq_true rfl) (fun p e s m args below meth c ls A hx hb hr hml hown hlocks hts hK hA hP hD hS hl => ?_)
  have k46 := (hts (.fieldLink RX9 46 "ResolutionProverModel" "thrown" "I") (List.mem_of_getElem? (i := 1) rfl))
  have hiX9 : ∀ w ∈ wsX90, w ∈ wsX9_isImplied := (memIn_p [55, 56, 57, 58, 59, 60, 61, 62, 63, 64, 65, 66, 67, 68, 69, 70, 71, 72, 73, 74, 75, 76, 77, 78, 79, 80, 81] rfl)
  have hl : lv_has ls 3 [(0, .ref (q 0)), (1, .int p1), (2, .int p2)] := hl
  refine lv_aload_n hx hb dX9_isImplied_0 rfl (lv_at hl 0 rfl) ?_
  refine lv_iconst (v := 0) hx hb dX9_isImplied_1 (by decide) ?_
  refine va_put (D := D) (ci := 8) (v := .int (0 : Int32)) (ty := .int) (C := RX9) (T := TX9) (N := 27) hx hb hts hiX9 tyX9 tyX9_ok nmX9 hown hK hP hD hS 0 rfl rfl 0 (by decide) k46 (fun _ h9 => h9) rfl (by decide +kernel) rfl rfl (Nat.le_of_ble_eq_true rfl) dX9_isImplied_2 (fun H locs hP hD hS => ?_)
  obtain ⟨z_1, ez_1, hf⟩ := nm_ob hf
  have hP : va_P D vwCl (wM cI cB cZ q z_1) H := by rw [ez_1]; exact hP
  have hD : va_D A (wM cI cB cZ q z_1) := by rw [ez_1]; exact hD
  refine lv_aload_n hx hb dX9_isImplied_5 rfl (lv_at hl 0 rfl) ?_
  refine lv_iload_n hx hb dX9_isImplied_6 rfl (lv_at hl 1 rfl) ?_
  refine lv_iload_n hx hb dX9_isImplied_7 rfl (lv_at hl 2 rfl) ?_
  obtain ⟨⟨r_2, z_3⟩, hc_5, hf⟩ := bd_ob hf
  have hf := nm_st hf
  have hf := nm_st hf
  refine weV (As := [.int p1, .int p2]) (rest := []) ⟨hx, hb, hml, hown, hts⟩ (mX9_noMasks l D cI cB cZ cO q _ fu z_1 p1 p2 hc_5) (cwV 2 hts gX9_isImplied_X9_noMasks rfl rfl rfl (by decide +kernel) ⟨Nat.le_of_ble_eq_true rfl, Nat.le_of_ble_eq_true rfl⟩) hK hP hD hS hA (va_recv hK hP (ci := 8) (q0 := 0) rfl rfl) rfl hl.1 rfl (Nat.le_of_ble_eq_true rfl) dX9_isImplied_8 ⟨Nat.zero_le _, Nat.zero_le _⟩ (fun H locs hP hD hS => ?_)
  refine lv_if_ne (tgt := 30) hx hb dX9_isImplied_11 (by decide) (fun c_11 => ?_) (fun c_11 => ?_)
  · have hf := ip c_11 hf
    refine lv_iconst (v := 0) hx hb dX9_isImplied_30 (by decide) ?_
    obtain ⟨hz, hf⟩ := gd_ob hf
    exact rW_z hx hb hr hlocks hP hD hS hz (congrArg (fun q9 => q9.1) (so_ob hf)) (congrArg (fun (q9 : Int32 × (OS)) => wM cI cB cZ q q9.2) (so_ob hf)) dX9_isImplied_31
  · have hf := iqn c_11 hf
    refine lv_aload_n hx hb dX9_isImplied_14 rfl (lv_at hl 0 rfl) ?_
    refine lv_aload_n hx hb dX9_isImplied_15 rfl (lv_at hl 0 rfl) ?_
    obtain ⟨r_6, hc_7, hf⟩ := bd_ob hf
    refine rdV (As := []) (rest := [.ref (q 0)]) ⟨hx, hb, hml, hown, hts⟩ (mX9_many l D cI cB cZ cO q fu z_3 hc_7) (cwV 0 hts gX9_isImplied_X9_many rfl rfl rfl (by decide +kernel) ⟨Nat.le_of_ble_eq_true rfl, Nat.le_of_ble_eq_true rfl⟩) hK hP (va_recv hK hP (ci := 8) (q0 := 0) rfl rfl) rfl hl.1 rfl (Nat.le_of_ble_eq_true rfl) dX9_isImplied_16 ⟨Nat.zero_le _, Nat.zero_le _⟩ ?_
    refine lv_iconst (v := (-1)) hx hb dX9_isImplied_19 (by decide) ?_
    obtain ⟨r_8, hc_9, hf⟩ := bd_ob hf
    refine rdV (As := [.int r_6, .int (-1 : Int32)]) (rest := []) ⟨hx, hb, hml, hown, hts⟩ (mX9_follows l D cI cB cZ cO q fu z_3 r_6 (-1 : Int32) hc_9) (cwV 2 hts gX9_isImplied_X9_follows rfl rfl rfl (by decide +kernel) ⟨Nat.le_of_ble_eq_true rfl, Nat.le_of_ble_eq_true rfl⟩) hK hP (va_recv hK hP (ci := 8) (q0 := 0) rfl rfl) rfl hl.1 rfl (Nat.le_of_ble_eq_true rfl) dX9_isImplied_20 ⟨Nat.zero_le _, Nat.zero_le _⟩ ?_
    refine lv_if_eq (tgt := 30) hx hb dX9_isImplied_23 (by decide) (fun c_23 => ?_) (fun c_23 => ?_)
    · have hf := ip c_23 hf
      refine lv_iconst (v := 0) hx hb dX9_isImplied_30 (by decide) ?_
      obtain ⟨hz, hf⟩ := gd_ob hf
      exact rW_z hx hb hr hlocks hP hD hS hz (congrArg (fun q9 => q9.1) (so_ob hf)) (congrArg (fun (q9 : Int32 × (OS)) => wM cI cB cZ q q9.2) (so_ob hf)) dX9_isImplied_31
    · have hf := iq c_23 hf
      refine lv_iconst (v := 1) hx hb dX9_isImplied_26 (by decide) ?_
      refine lv_goto (tgt := 31) hx hb dX9_isImplied_27 (by decide) ?_
      obtain ⟨hz, hf⟩ := gd_ob hf
      exact rW_z hx hb hr hlocks hP hD hS hz (congrArg (fun q9 => q9.1) (so_ob hf)) (congrArg (fun (q9 : Int32 × (OS)) => wM cI cB cZ q q9.2) (so_ob hf)) dX9_isImplied_31

def fX9_isRedundant (fu : Nat) (z : OS) (p1 : Int32) : Option (Int32 × (OS)) :=
  nm (sI z 0 (0 : Int32)) (fun (z_1 : OS) => bd (fX9_noClause fu z_1 p1) (fun (w_4 : Int32 × OS) => nm w_4.1 (fun (r_2 : Int32) => nm w_4.2 (fun (z_3 : OS) => (if ¬ r_2 = (0 : Int32) then gd (isZ (0 : Int32)) (some ((0 : Int32), z_3)) else bd (fX9_follows fu z_3 p1 p1) (fun (r_6 : Int32) => (if r_6 = (0 : Int32) then gd (isZ (0 : Int32)) (some ((0 : Int32), z_3)) else gd (isZ (1 : Int32)) (some ((1 : Int32), z_3)))))))))
set_option maxRecDepth 100000 in
set_option maxHeartbeats 4000000 in
theorem mX9_isRedundant (l : Launch) (D : va_G) (cI cB cZ cO : ClassId) (q : Nat → Nat) (sz : Nat) (fu : Nat) (z : OS) (p1 : Int32) {r : Int32} {y1 : OS} (hf : fX9_isRedundant fu z p1 = some (r, y1)) : Met l yX9_isRedundant wsX9_isRedundant ({ frames := 4, cells := 0, slots := 0, locals := 92 }) (va_Pc [.ref (q 0), .int p1] (Pw D (gT cI cB cZ cO) (wM cI cB cZ q z) sz)) (Qw D (va_A (wM cI cB cZ q z) sz) (some (.int r)) (wM cI cB cZ q y1)) 0 0 (va_A (wM cI cB cZ q z) sz) := by
  unfold fX9_isRedundant at hf
  refine metW (ret := (some .boolean)) (own := RX9) rfl (by decide) rfl (Nat.le_of_ble_eq_true rfl) (fun p e s m args below meth c ls A hx hb hr hml hown hlocks hts hK hA hP hD hS hl => ?_)
  have k46 := (hts (.fieldLink RX9 46 "ResolutionProverModel" "thrown" "I") (List.mem_of_getElem? (i := 1) rfl))
  have hiX9 : ∀ w ∈ wsX90, w ∈ wsX9_isRedundant := (memIn_p [43, 44, 45, 46, 47, 48, 49, 50, 51, 52, 53, 54, 55, 56, 57, 58, 59, 60, 61, 62, 63, 64, 65, 66, 67, 68, 69] rfl)
  have hl : lv_has ls 2 [(0, .ref (q 0)), (1, .int p1)] := hl
  refine lv_aload_n hx hb dX9_isRedundant_0 rfl (lv_at hl 0 rfl) ?_
  refine lv_iconst (v := 0) hx hb dX9_isRedundant_1 (by decide) ?_
  refine va_put (D := D) (ci := 8) (v := .int (0 : Int32)) (ty := .int) (C := RX9) (T := TX9) (N := 27) hx hb hts hiX9 tyX9 tyX9_ok nmX9 hown hK hP hD hS 0 rfl rfl 0 (by decide) k46 (fun _ h9 => h9) rfl (by decide +kernel) rfl rfl (Nat.le_of_ble_eq_true rfl) dX9_isRedundant_2 (fun H locs hP hD hS => ?_)
  obtain ⟨z_1, ez_1, hf⟩ := nm_ob hf
  have hP : va_P D vwCl (wM cI cB cZ q z_1) H := by rw [ez_1]; exact hP
  have hD : va_D A (wM cI cB cZ q z_1) := by rw [ez_1]; exact hD
  refine lv_aload_n hx hb dX9_isRedundant_5 rfl (lv_at hl 0 rfl) ?_
  refine lv_iload_n hx hb dX9_isRedundant_6 rfl (lv_at hl 1 rfl) ?_
  obtain ⟨⟨r_2, z_3⟩, hc_5, hf⟩ := bd_ob hf
  have hf := nm_st hf
  have hf := nm_st hf
  refine weV (As := [.int p1]) (rest := []) ⟨hx, hb, hml, hown, hts⟩ (mX9_noClause l D cI cB cZ cO q _ fu z_1 p1 hc_5) (cwV 1 hts gX9_isRedundant_X9_noClause rfl rfl rfl (by decide +kernel) ⟨Nat.le_of_ble_eq_true rfl, Nat.le_of_ble_eq_true rfl⟩) hK hP hD hS hA (va_recv hK hP (ci := 8) (q0 := 0) rfl rfl) rfl hl.1 rfl (Nat.le_of_ble_eq_true rfl) dX9_isRedundant_7 ⟨Nat.zero_le _, Nat.zero_le _⟩ (fun H locs hP hD hS => ?_)
  refine lv_if_ne (tgt := 26) hx hb dX9_isRedundant_10 (by decide) (fun c_10 => ?_) (fun c_10 => ?_)
  · have hf := ip c_10 hf
    refine lv_iconst (v := 0) hx hb dX9_isRedundant_26 (by decide) ?_
    obtain ⟨hz, hf⟩ := gd_ob hf
    exact rW_z hx hb hr hlocks hP hD hS hz (congrArg (fun q9 => q9.1) (so_ob hf)) (congrArg (fun (q9 : Int32 × (OS)) => wM cI cB cZ q q9.2) (so_ob hf)) dX9_isRedundant_27
  · have hf := iqn c_10 hf
    refine lv_aload_n hx hb dX9_isRedundant_13 rfl (lv_at hl 0 rfl) ?_
    refine lv_iload_n hx hb dX9_isRedundant_14 rfl (lv_at hl 1 rfl) ?_
    refine lv_iload_n hx hb dX9_isRedundant_15 rfl (lv_at hl 1 rfl) ?_
    obtain ⟨r_6, hc_7, hf⟩ := bd_ob hf
    refine rdV (As := [.int p1, .int p1]) (rest := []) ⟨hx, hb, hml, hown, hts⟩ (mX9_follows l D cI cB cZ cO q fu z_3 p1 p1 hc_7) (cwV 2 hts gX9_isRedundant_X9_follows rfl rfl rfl (by decide +kernel) ⟨Nat.le_of_ble_eq_true rfl, Nat.le_of_ble_eq_true rfl⟩) hK hP (va_recv hK hP (ci := 8) (q0 := 0) rfl rfl) rfl hl.1 rfl (Nat.le_of_ble_eq_true rfl) dX9_isRedundant_16 ⟨Nat.zero_le _, Nat.zero_le _⟩ ?_
    refine lv_if_eq (tgt := 26) hx hb dX9_isRedundant_19 (by decide) (fun c_19 => ?_) (fun c_19 => ?_)
    · have hf := ip c_19 hf
      refine lv_iconst (v := 0) hx hb dX9_isRedundant_26 (by decide) ?_
      obtain ⟨hz, hf⟩ := gd_ob hf
      exact rW_z hx hb hr hlocks hP hD hS hz (congrArg (fun q9 => q9.1) (so_ob hf)) (congrArg (fun (q9 : Int32 × (OS)) => wM cI cB cZ q q9.2) (so_ob hf)) dX9_isRedundant_27
    · have hf := iq c_19 hf
      refine lv_iconst (v := 1) hx hb dX9_isRedundant_22 (by decide) ?_
      refine lv_goto (tgt := 27) hx hb dX9_isRedundant_23 (by decide) ?_
      obtain ⟨hz, hf⟩ := gd_ob hf
      exact rW_z hx hb hr hlocks hP hD hS hz (congrArg (fun q9 => q9.1) (so_ob hf)) (congrArg (fun (q9 : Int32 × (OS)) => wM cI cB cZ q q9.2) (so_ob hf)) dX9_isRedundant_27

def fX9_modelShare (fu : Nat) (z : OS) : Option (UInt64 × (OS)) :=
  nm (sI z 0 (0 : Int32)) (fun (z_1 : OS) => bd (fX9_models fu z_1) (fun (r_2 : Int32) => bd (fX9_assignments fu z_1) (fun (r_4 : Int32) => gd (ddOk (FP.i2d r_2) (FP.i2d r_4)) (some ((FP.ddiv (FP.i2d r_2) (FP.i2d r_4)), z_1)))))
set_option maxRecDepth 100000 in
set_option maxHeartbeats 4000000 in
theorem mX9_modelShare (l : Launch) (D : va_G) (cI cB cZ cO : ClassId) (q : Nat → Nat) (sz : Nat) (fu : Nat) (z : OS) {r : UInt64} {y1 : OS} (hf : fX9_modelShare fu z = some (r, y1)) : Met l yX9_modelShare wsX9_modelShare ({ frames := 4, cells := 0, slots := 0, locals := 91 }) (va_Pc [.ref (q 0)] (Pw D (gT cI cB cZ cO) (wM cI cB cZ q z) sz)) (Qw D (va_A (wM cI cB cZ q z) sz) (some (.double r)) (wM cI cB cZ q y1)) 0 0 (va_A (wM cI cB cZ q z) sz) := by
  unfold fX9_modelShare at hf
  refine metW (ret := (some .double)) (own := RX9) rfl (by decide) rfl (Nat.le_of_ble_eq_true rfl) (fun p e s m args below meth c ls A hx hb hr hml hown hlocks hts hK hA hP hD hS hl => ?_)
  have k46 := (hts (.fieldLink RX9 46 "ResolutionProverModel" "thrown" "I") (List.mem_of_getElem? (i := 1) rfl))
  have hiX9 : ∀ w ∈ wsX90, w ∈ wsX9_modelShare := (memIn_p [32, 33, 34, 35, 36, 37, 38, 39, 40, 41, 42, 43, 44, 45, 46, 47, 48, 49, 50, 51, 52, 53, 54, 55, 56, 57, 58] rfl)
  have hl : lv_has ls 1 [(0, .ref (q 0))] := hl
  refine lv_aload_n hx hb dX9_modelShare_0 rfl (lv_at hl 0 rfl) ?_
  refine lv_iconst (v := 0) hx hb dX9_modelShare_1 (by decide) ?_
  refine va_put (D := D) (ci := 8) (v := .int (0 : Int32)) (ty := .int) (C := RX9) (T := TX9) (N := 27) hx hb hts hiX9 tyX9 tyX9_ok nmX9 hown hK hP hD hS 0 rfl rfl 0 (by decide) k46 (fun _ h9 => h9) rfl (by decide +kernel) rfl rfl (Nat.le_of_ble_eq_true rfl) dX9_modelShare_2 (fun H locs hP hD hS => ?_)
  obtain ⟨z_1, ez_1, hf⟩ := nm_ob hf
  have hP : va_P D vwCl (wM cI cB cZ q z_1) H := by rw [ez_1]; exact hP
  have hD : va_D A (wM cI cB cZ q z_1) := by rw [ez_1]; exact hD
  refine lv_aload_n hx hb dX9_modelShare_5 rfl (lv_at hl 0 rfl) ?_
  obtain ⟨r_2, hc_3, hf⟩ := bd_ob hf
  refine rdV (As := []) (rest := []) ⟨hx, hb, hml, hown, hts⟩ (mX9_models l D cI cB cZ cO q fu z_1 hc_3) (cwV 0 hts gX9_modelShare_X9_models rfl rfl rfl (by decide +kernel) ⟨Nat.le_of_ble_eq_true rfl, Nat.le_of_ble_eq_true rfl⟩) hK hP (va_recv hK hP (ci := 8) (q0 := 0) rfl rfl) rfl hl.1 rfl (Nat.le_of_ble_eq_true rfl) dX9_modelShare_6 ⟨Nat.zero_le _, Nat.zero_le _⟩ ?_
  refine lv_i2d hx hb dX9_modelShare_9 ?_
  refine lv_aload_n hx hb dX9_modelShare_10 rfl (lv_at hl 0 rfl) ?_
  obtain ⟨r_4, hc_5, hf⟩ := bd_ob hf
  refine rdV (As := []) (rest := [.double (FP.i2d r_2)]) ⟨hx, hb, hml, hown, hts⟩ (mX9_assignments l D cI cB cZ cO q fu z_1 hc_5) (cwV 0 hts gX9_modelShare_X9_assignments rfl rfl rfl (by decide +kernel) ⟨Nat.le_of_ble_eq_true rfl, Nat.le_of_ble_eq_true rfl⟩) hK hP (va_recv hK hP (ci := 8) (q0 := 0) rfl rfl) rfl hl.1 rfl (Nat.le_of_ble_eq_true rfl) dX9_modelShare_11 ⟨Nat.zero_le _, Nat.zero_le _⟩ ?_
  refine lv_i2d hx hb dX9_modelShare_14 ?_
  obtain ⟨hd_, hf⟩ := gd_ob hf
  refine lv_ddiv hx hb dX9_modelShare_15 (ddOk_n hd_) ?_
  exact rW_d hx hb hr hlocks hP hD hS (congrArg (fun q9 => q9.1) (so_ob hf)) (congrArg (fun (q9 : UInt64 × (OS)) => wM cI cB cZ q q9.2) (so_ob hf)) dX9_modelShare_16

def fX9_fixedTrue (fu : Nat) (z : OS) : Option (Int32 × (OS)) :=
  nm (sI z 0 (0 : Int32)) (fun (z_1 : OS) => bd (fX9_propagates fu z_1) (fun (z_2 : OS) => some ((z_2.1 12), z_2)))
set_option maxRecDepth 100000 in
set_option maxHeartbeats 4000000 in
theorem mX9_fixedTrue (l : Launch) (D : va_G) (cI cB cZ cO : ClassId) (q : Nat → Nat) (sz : Nat) (fu : Nat) (z : OS) {r : Int32} {y1 : OS} (hf : fX9_fixedTrue fu z = some (r, y1)) : Met l yX9_fixedTrue wsX9_fixedTrue ({ frames := 4, cells := 0, slots := 0, locals := 92 }) (va_Pc [.ref (q 0)] (Pw D (gT cI cB cZ cO) (wM cI cB cZ q z) sz)) (Qw D (va_A (wM cI cB cZ q z) sz) (some (.int r)) (wM cI cB cZ q y1)) 0 0 (va_A (wM cI cB cZ q z) sz) := by
  unfold fX9_fixedTrue at hf
  refine metW (ret := (some .int)) (own := RX9) rfl (by decide) rfl (Nat.le_of_ble_eq_true rfl) (fun p e s m args below meth c ls A hx hb hr hml hown hlocks hts hK hA hP hD hS hl => ?_)
  have k46 := (hts (.fieldLink RX9 46 "ResolutionProverModel" "thrown" "I") (List.mem_of_getElem? (i := 1) rfl))
  have k143 := (hts (.fieldLink RX9 143 "ResolutionProverModel" "fixedOn" "I") (List.mem_of_getElem? (i := 2) rfl))
  have hiX9 : ∀ w ∈ wsX90, w ∈ wsX9_fixedTrue := (memIn_p [39, 40, 41, 42, 43, 44, 45, 46, 47, 48, 49, 50, 51, 52, 53, 54, 55, 56, 57, 58, 59, 60, 61, 62, 63, 64, 65] rfl)
  have hl : lv_has ls 1 [(0, .ref (q 0))] := hl
  refine lv_aload_n hx hb dX9_fixedTrue_0 rfl (lv_at hl 0 rfl) ?_
  refine lv_iconst (v := 0) hx hb dX9_fixedTrue_1 (by decide) ?_
  refine va_put (D := D) (ci := 8) (v := .int (0 : Int32)) (ty := .int) (C := RX9) (T := TX9) (N := 27) hx hb hts hiX9 tyX9 tyX9_ok nmX9 hown hK hP hD hS 0 rfl rfl 0 (by decide) k46 (fun _ h9 => h9) rfl (by decide +kernel) rfl rfl (Nat.le_of_ble_eq_true rfl) dX9_fixedTrue_2 (fun H locs hP hD hS => ?_)
  obtain ⟨z_1, ez_1, hf⟩ := nm_ob hf
  have hP : va_P D vwCl (wM cI cB cZ q z_1) H := by rw [ez_1]; exact hP
  have hD : va_D A (wM cI cB cZ q z_1) := by rw [ez_1]; exact hD
  refine lv_aload_n hx hb dX9_fixedTrue_5 rfl (lv_at hl 0 rfl) ?_
  obtain ⟨z_2, hc_3, hf⟩ := bd_ob hf
  refine weV (As := []) (rest := []) ⟨hx, hb, hml, hown, hts⟩ (mX9_propagates l D cI cB cZ cO q _ fu z_1 hc_3) (cwV 0 hts gX9_fixedTrue_X9_propagates rfl rfl rfl (by decide +kernel) ⟨Nat.le_of_ble_eq_true rfl, Nat.le_of_ble_eq_true rfl⟩) hK hP hD hS hA (va_recv hK hP (ci := 8) (q0 := 0) rfl rfl) rfl hl.1 rfl (Nat.le_of_ble_eq_true rfl) dX9_fixedTrue_6 ⟨Nat.zero_le _, Nat.zero_le _⟩ (fun H locs hP hD hS => ?_)
  refine lv_aload_n hx hb dX9_fixedTrue_9 rfl (lv_at hl 0 rfl) ?_
  refine va_get (D := D) (ci := 8) (v := .int (z_2.1 12)) (C := RX9) (T := TX9) (N := 27) hx hb hts hiX9 hown hK hP 0 rfl rfl 12 (by decide) k143 (fun _ h9 => h9) rfl dX9_fixedTrue_10 ?_
  exact rW_i hx hb hr hlocks hP hD hS (congrArg (fun q9 => q9.1) (so_ob hf)) (congrArg (fun (q9 : Int32 × (OS)) => wM cI cB cZ q q9.2) (so_ob hf)) dX9_fixedTrue_13

def fX9_fixedFalse (fu : Nat) (z : OS) : Option (Int32 × (OS)) :=
  nm (sI z 0 (0 : Int32)) (fun (z_1 : OS) => bd (fX9_propagates fu z_1) (fun (z_2 : OS) => some ((z_2.1 13), z_2)))
set_option maxRecDepth 100000 in
set_option maxHeartbeats 4000000 in
theorem mX9_fixedFalse (l : Launch) (D : va_G) (cI cB cZ cO : ClassId) (q : Nat → Nat) (sz : Nat) (fu : Nat) (z : OS) {r : Int32} {y1 : OS} (hf : fX9_fixedFalse fu z = some (r, y1)) : Met l yX9_fixedFalse wsX9_fixedFalse ({ frames := 4, cells := 0, slots := 0, locals := 92 }) (va_Pc [.ref (q 0)] (Pw D (gT cI cB cZ cO) (wM cI cB cZ q z) sz)) (Qw D (va_A (wM cI cB cZ q z) sz) (some (.int r)) (wM cI cB cZ q y1)) 0 0 (va_A (wM cI cB cZ q z) sz) := by
  unfold fX9_fixedFalse at hf
  refine metW (ret := (some .int)) (own := RX9) rfl (by decide) rfl (Nat.le_of_ble_eq_true rfl) (fun p e s m args below meth c ls A hx hb hr hml hown hlocks hts hK hA hP hD hS hl => ?_)
  have k46 := (hts (.fieldLink RX9 46 "ResolutionProverModel" "thrown" "I") (List.mem_of_getElem? (i := 1) rfl))
  have k146 := (hts (.fieldLink RX9 146 "ResolutionProverModel" "fixedOff" "I") (List.mem_of_getElem? (i := 2) rfl))
  have hiX9 : ∀ w ∈ wsX90, w ∈ wsX9_fixedFalse := (memIn_p [39, 40, 41, 42, 43, 44, 45, 46, 47, 48, 49, 50, 51, 52, 53, 54, 55, 56, 57, 58, 59, 60, 61, 62, 63, 64, 65] rfl)
  have hl : lv_has ls 1 [(0, .ref (q 0))] := hl
  refine lv_aload_n hx hb dX9_fixedFalse_0 rfl (lv_at hl 0 rfl) ?_
  refine lv_iconst (v := 0) hx hb dX9_fixedFalse_1 (by decide) ?_
  refine va_put (D := D) (ci := 8) (v := .int (0 : Int32)) (ty := .int) (C := RX9) (T := TX9) (N := 27) hx hb hts hiX9 tyX9 tyX9_ok nmX9 hown hK hP hD hS 0 rfl rfl 0 (by decide) k46 (fun _ h9 => h9) rfl (by decide +kernel) rfl rfl (Nat.le_of_ble_eq_true rfl) dX9_fixedFalse_2 (fun H locs hP hD hS => ?_)
  obtain ⟨z_1, ez_1, hf⟩ := nm_ob hf
  have hP : va_P D vwCl (wM cI cB cZ q z_1) H := by rw [ez_1]; exact hP
  have hD : va_D A (wM cI cB cZ q z_1) := by rw [ez_1]; exact hD
  refine lv_aload_n hx hb dX9_fixedFalse_5 rfl (lv_at hl 0 rfl) ?_
  obtain ⟨z_2, hc_3, hf⟩ := bd_ob hf
  refine weV (As := []) (rest := []) ⟨hx, hb, hml, hown, hts⟩ (mX9_propagates l D cI cB cZ cO q _ fu z_1 hc_3) (cwV 0 hts gX9_fixedFalse_X9_propagates rfl rfl rfl (by decide +kernel) ⟨Nat.le_of_ble_eq_true rfl, Nat.le_of_ble_eq_true rfl⟩) hK hP hD hS hA (va_recv hK hP (ci := 8) (q0 := 0) rfl rfl) rfl hl.1 rfl (Nat.le_of_ble_eq_true rfl) dX9_fixedFalse_6 ⟨Nat.zero_le _, Nat.zero_le _⟩ (fun H locs hP hD hS => ?_)
  refine lv_aload_n hx hb dX9_fixedFalse_9 rfl (lv_at hl 0 rfl) ?_
  refine va_get (D := D) (ci := 8) (v := .int (z_2.1 13)) (C := RX9) (T := TX9) (N := 27) hx hb hts hiX9 hown hK hP 0 rfl rfl 13 (by decide) k146 (fun _ h9 => h9) rfl dX9_fixedFalse_10 ?_
  exact rW_i hx hb hr hlocks hP hD hS (congrArg (fun q9 => q9.1) (so_ob hf)) (congrArg (fun (q9 : Int32 × (OS)) => wM cI cB cZ q q9.2) (so_ob hf)) dX9_fixedFalse_13

def fX9_hasConflict (fu : Nat) (z : OS) : Option (Int32 × (OS)) :=
  nm (sI z 0 (0 : Int32)) (fun (z_1 : OS) => bd (fX9_propagates fu z_1) (fun (z_2 : OS) => gd (isZ (z_2.1 14)) (some ((z_2.1 14), z_2))))
set_option maxRecDepth 100000 in
set_option maxHeartbeats 4000000 in
theorem mX9_hasConflict (l : Launch) (D : va_G) (cI cB cZ cO : ClassId) (q : Nat → Nat) (sz : Nat) (fu : Nat) (z : OS) {r : Int32} {y1 : OS} (hf : fX9_hasConflict fu z = some (r, y1)) : Met l yX9_hasConflict wsX9_hasConflict ({ frames := 4, cells := 0, slots := 0, locals := 92 }) (va_Pc [.ref (q 0)] (Pw D (gT cI cB cZ cO) (wM cI cB cZ q z) sz)) (Qw D (va_A (wM cI cB cZ q z) sz) (some (.int r)) (wM cI cB cZ q y1)) 0 0 (va_A (wM cI cB cZ q z) sz) := by
  unfold fX9_hasConflict at hf
  refine metW (ret := (some .boolean)) (own := RX9) rfl (by decide) rfl (Nat.le_of_ble_eq_true rfl) (fun p e s m args below meth c ls A hx hb hr hml hown hlocks hts hK hA hP hD hS hl => ?_)
  have k46 := (hts (.fieldLink RX9 46 "ResolutionProverModel" "thrown" "I") (List.mem_of_getElem? (i := 1) rfl))
  have k149 := (hts (.fieldLink RX9 149 "ResolutionProverModel" "isConflict" "Z") (List.mem_of_getElem? (i := 2) rfl))
  have hiX9 : ∀ w ∈ wsX90, w ∈ wsX9_hasConflict := (memIn_p [39, 40, 41, 42, 43, 44, 45, 46, 47, 48, 49, 50, 51, 52, 53, 54, 55, 56, 57, 58, 59, 60, 61, 62, 63, 64, 65] rfl)
  have hl : lv_has ls 1 [(0, .ref (q 0))] := hl
  refine lv_aload_n hx hb dX9_hasConflict_0 rfl (lv_at hl 0 rfl) ?_
  refine lv_iconst (v := 0) hx hb dX9_hasConflict_1 (by decide) ?_
  refine va_put (D := D) (ci := 8) (v := .int (0 : Int32)) (ty := .int) (C := RX9) (T := TX9) (N := 27) hx hb hts hiX9 tyX9 tyX9_ok nmX9 hown hK hP hD hS 0 rfl rfl 0 (by decide) k46 (fun _ h9 => h9) rfl (by decide +kernel) rfl rfl (Nat.le_of_ble_eq_true rfl) dX9_hasConflict_2 (fun H locs hP hD hS => ?_)
  obtain ⟨z_1, ez_1, hf⟩ := nm_ob hf
  have hP : va_P D vwCl (wM cI cB cZ q z_1) H := by rw [ez_1]; exact hP
  have hD : va_D A (wM cI cB cZ q z_1) := by rw [ez_1]; exact hD
  refine lv_aload_n hx hb dX9_hasConflict_5 rfl (lv_at hl 0 rfl) ?_
  obtain ⟨z_2, hc_3, hf⟩ := bd_ob hf
  refine weV (As := []) (rest := []) ⟨hx, hb, hml, hown, hts⟩ (mX9_propagates l D cI cB cZ cO q _ fu z_1 hc_3) (cwV 0 hts gX9_hasConflict_X9_propagates rfl rfl rfl (by decide +kernel) ⟨Nat.le_of_ble_eq_true rfl, Nat.le_of_ble_eq_true rfl⟩) hK hP hD hS hA (va_recv hK hP (ci := 8) (q0 := 0) rfl rfl) rfl hl.1 rfl (Nat.le_of_ble_eq_true rfl) dX9_hasConflict_6 ⟨Nat.zero_le _, Nat.zero_le _⟩ (fun H locs hP hD hS => ?_)
  refine lv_aload_n hx hb dX9_hasConflict_9 rfl (lv_at hl 0 rfl) ?_
  refine va_get (D := D) (ci := 8) (v := .int (z_2.1 14)) (C := RX9) (T := TX9) (N := 27) hx hb hts hiX9 hown hK hP 0 rfl rfl 14 (by decide) k149 (fun _ h9 => h9) rfl dX9_hasConflict_10 ?_
  obtain ⟨hz, hf⟩ := gd_ob hf
  exact rW_z hx hb hr hlocks hP hD hS hz (congrArg (fun q9 => q9.1) (so_ob hf)) (congrArg (fun (q9 : Int32 × (OS)) => wM cI cB cZ q q9.2) (so_ob hf)) dX9_hasConflict_13

def fX9_addClause (fu : Nat) (z : OS) (p1 : Int32) (p2 : Int32) : Option (Int32 × (OS)) :=
  nm (sI z 0 (0 : Int32)) (fun (z_1 : OS) => bd (fX9_noMasks fu z_1 p1 p2) (fun (w_4 : Int32 × OS) => nm w_4.1 (fun (r_2 : Int32) => nm w_4.2 (fun (z_3 : OS) => (if ¬ r_2 = (0 : Int32) then some ((0 : Int32), z_3) else bd (fX9_same fu z_3) (fun (r_6 : Int32) => jn (κ := Int32 → Option (Int32 × (OS))) (fun (t1_37 : Int32) => bd (fX9_throwsIf fu z_3 t1_37 (2 : Int32)) (fun (w_10 : Int32 × OS) => nm w_10.1 (fun (r_8 : Int32) => nm w_10.2 (fun (z_9 : OS) => (if r_8 = (0 : Int32) then bd (fX9_keeps fu z_9) (fun (z_12 : OS) => bd (fX9_adds fu z_12 (-1 : Int32) (-1 : Int32) (-1 : Int32)) (fun (w_16 : Int32 × OS) => nm w_16.1 (fun (r_14 : Int32) => nm w_16.2 (fun (z_15 : OS) => bd (fX9_records fu z_15 r_14) (fun (w_20 : Int32 × OS) => nm w_20.1 (fun (r_18 : Int32) => nm w_20.2 (fun (z_19 : OS) => some (r_18, z_19)))))))) else some ((0 : Int32), z_9)))))) (fun j37 => jn (κ := Option (Int32 × (OS))) (j37 (1 : Int32)) (fun j32 => (if ¬ r_6 = (-1 : Int32) then j32 else bd (fX9_many fu z_3) (fun (r_22 : Int32) => (if ¬ r_22 = (60 : Int32) then j37 (0 : Int32) else j32)))))))))))
set_option maxRecDepth 100000 in
set_option maxHeartbeats 4000000 in
theorem mX9_addClause (l : Launch) (D : va_G) (cI cB cZ cO : ClassId) (q : Nat → Nat) (sz : Nat) (fu : Nat) (z : OS) (p1 : Int32) (p2 : Int32) {r : Int32} {y1 : OS} (hf : fX9_addClause fu z p1 p2 = some (r, y1)) : Met l yX9_addClause wsX9_addClause ({ frames := 4, cells := 0, slots := 0, locals := 83 }) (va_Pc [.ref (q 0), .int p1, .int p2] (Pw D (gT cI cB cZ cO) (wM cI cB cZ q z) sz)) (Qw D (va_A (wM cI cB cZ q z) sz) (some (.int r)) (wM cI cB cZ q y1)) 0 0 (va_A (wM cI cB cZ q z) sz) := by
  unfold fX9_addClause at hf
  refine metW (ret := (some .int)) (own := RX9) rfl (by decide) rfl (Nat.le_of_ble_eq_true rfl) (fun p e s m args below meth c ls A hx hb hr hml hown hlocks hts hK hA hP hD hS hl => ?_)
  have k46 := (hts (.fieldLink RX9 46 "ResolutionProverModel" "thrown" "I") (List.mem_of_getElem? (i := 1) rfl))
  have hiX9 : ∀ w ∈ wsX90, w ∈ wsX9_addClause := (memIn_p [69, 70, 71, 72, 73, 74, 75, 76, 77, 78, 79, 80, 81, 82, 83, 84, 85, 86, 87, 88, 89, 90, 91, 92, 93, 94, 95] rfl)
  have hl : lv_has ls 3 [(0, .ref (q 0)), (1, .int p1), (2, .int p2)] := hl
  refine lv_aload_n hx hb dX9_addClause_0 rfl (lv_at hl 0 rfl) ?_
  refine lv_iconst (v := 0) hx hb dX9_addClause_1 (by decide) ?_
  refine va_put (D := D) (ci := 8) (v := .int (0 : Int32)) (ty := .int) (C := RX9) (T := TX9) (N := 27) hx hb hts hiX9 tyX9 tyX9_ok nmX9 hown hK hP hD hS 0 rfl rfl 0 (by decide) k46 (fun _ h9 => h9) rfl (by decide +kernel) rfl rfl (Nat.le_of_ble_eq_true rfl) dX9_addClause_2 (fun H locs hP hD hS => ?_)
  obtain ⟨z_1, ez_1, hf⟩ := nm_ob hf
  have hP : va_P D vwCl (wM cI cB cZ q z_1) H := by rw [ez_1]; exact hP
  have hD : va_D A (wM cI cB cZ q z_1) := by rw [ez_1]; exact hD
  refine lv_aload_n hx hb dX9_addClause_5 rfl (lv_at hl 0 rfl) ?_
  refine lv_iload_n hx hb dX9_addClause_6 rfl (lv_at hl 1 rfl) ?_
  refine lv_iload_n hx hb dX9_addClause_7 rfl (lv_at hl 2 rfl) ?_
  obtain ⟨⟨r_2, z_3⟩, hc_5, hf⟩ := bd_ob hf
  have hf := nm_st hf
  have hf := nm_st hf
  refine weV (As := [.int p1, .int p2]) (rest := []) ⟨hx, hb, hml, hown, hts⟩ (mX9_noMasks l D cI cB cZ cO q _ fu z_1 p1 p2 hc_5) (cwV 2 hts gX9_addClause_X9_noMasks rfl rfl rfl (by decide +kernel) ⟨Nat.le_of_ble_eq_true rfl, Nat.le_of_ble_eq_true rfl⟩) hK hP hD hS hA (va_recv hK hP (ci := 8) (q0 := 0) rfl rfl) rfl hl.1 rfl (Nat.le_of_ble_eq_true rfl) dX9_addClause_8 ⟨Nat.zero_le _, Nat.zero_le _⟩ (fun H locs hP hD hS => ?_)
  refine lv_if_ne (tgt := 44) hx hb dX9_addClause_11 (by decide) (fun c_11 => ?_) (fun c_11 => ?_)
  · have hf := ip c_11 hf
    refine lv_iconst (v := 0) hx hb dX9_addClause_44 (by decide) ?_
    exact rW_i hx hb hr hlocks hP hD hS (congrArg (fun q9 => q9.1) (so_ob hf)) (congrArg (fun (q9 : Int32 × (OS)) => wM cI cB cZ q q9.2) (so_ob hf)) dX9_addClause_45
  · have hf := iqn c_11 hf
    refine lv_aload_n hx hb dX9_addClause_14 rfl (lv_at hl 0 rfl) ?_
    refine lv_aload_n hx hb dX9_addClause_15 rfl (lv_at hl 0 rfl) ?_
    obtain ⟨r_6, hc_7, hf⟩ := bd_ob hf
    refine rdV (As := []) (rest := [.ref (q 0)]) ⟨hx, hb, hml, hown, hts⟩ (mX9_same l D cI cB cZ cO q fu z_3 hc_7) (cwV 0 hts gX9_addClause_X9_same rfl rfl rfl (by decide +kernel) ⟨Nat.le_of_ble_eq_true rfl, Nat.le_of_ble_eq_true rfl⟩) hK hP (va_recv hK hP (ci := 8) (q0 := 0) rfl rfl) rfl hl.1 rfl (Nat.le_of_ble_eq_true rfl) dX9_addClause_16 ⟨Nat.zero_le _, Nat.zero_le _⟩ ?_
    refine lv_iconst (v := (-1)) hx hb dX9_addClause_19 (by decide) ?_
    obtain ⟨j37, ej37, hf⟩ := jn_ob hf
    have hp37 : ∀ (t1_37 : Int32) (H : Heap) (locs : List Loc) (ls : Array Slot), j37 t1_37 = some (r, y1) → va_P D vwCl (wM cI cB cZ q z_3) H → va_D A (wM cI cB cZ q z_3) → va_S A s.heap H locs → lv_has ls 3 [(0, .ref (q 0))] → W p l e (headSpec wsX9_addClause { frames := 4, cells := 0, slots := 0, locals := 83 }).room s m args below meth c H locs 0 0 (MQ below (Qw D A (some (.int r)) (wM cI cB cZ q y1)) args s 0 0 A) (F0 m 37 ls [.int t1_37, .ref (q 0)]) := by
      intro t1_37 H locs ls hf hP hD hS hl
      rw [ej37] at hf
      refine lv_iconst (v := 2) hx hb dX9_addClause_37 (by decide) ?_
      obtain ⟨⟨r_8, z_9⟩, hc_11, hf⟩ := bd_ob hf
      have hf := nm_st hf
      have hf := nm_st hf
      refine weV (As := [.int t1_37, .int (2 : Int32)]) (rest := []) ⟨hx, hb, hml, hown, hts⟩ (mX9_throwsIf l D cI cB cZ cO q _ fu z_3 t1_37 (2 : Int32) hc_11) (cwV 2 hts gX9_addClause_X9_throwsIf rfl rfl rfl (by decide +kernel) ⟨Nat.le_of_ble_eq_true rfl, Nat.le_of_ble_eq_true rfl⟩) hK hP hD hS hA (va_recv hK hP (ci := 8) (q0 := 0) rfl rfl) rfl hl.1 rfl (Nat.le_of_ble_eq_true rfl) dX9_addClause_38 ⟨Nat.zero_le _, Nat.zero_le _⟩ (fun H locs hP hD hS => ?_)
      refine lv_if_eq (tgt := 46) hx hb dX9_addClause_41 (by decide) (fun c_41 => ?_) (fun c_41 => ?_)
      · have hf := ip c_41 hf
        refine lv_aload_n hx hb dX9_addClause_46 rfl (lv_at hl 0 rfl) ?_
        obtain ⟨z_12, hc_13, hf⟩ := bd_ob hf
        refine weV (As := []) (rest := []) ⟨hx, hb, hml, hown, hts⟩ (mX9_keeps l D cI cB cZ cO q _ fu z_9 hc_13) (cwV 0 hts gX9_addClause_X9_keeps rfl rfl rfl (by decide +kernel) ⟨Nat.le_of_ble_eq_true rfl, Nat.le_of_ble_eq_true rfl⟩) hK hP hD hS hA (va_recv hK hP (ci := 8) (q0 := 0) rfl rfl) rfl hl.1 rfl (Nat.le_of_ble_eq_true rfl) dX9_addClause_47 ⟨Nat.zero_le _, Nat.zero_le _⟩ (fun H locs hP hD hS => ?_)
        refine lv_aload_n hx hb dX9_addClause_50 rfl (lv_at hl 0 rfl) ?_
        refine lv_aload_n hx hb dX9_addClause_51 rfl (lv_at hl 0 rfl) ?_
        refine lv_iconst (v := (-1)) hx hb dX9_addClause_52 (by decide) ?_
        refine lv_iconst (v := (-1)) hx hb dX9_addClause_53 (by decide) ?_
        refine lv_iconst (v := (-1)) hx hb dX9_addClause_54 (by decide) ?_
        obtain ⟨⟨r_14, z_15⟩, hc_17, hf⟩ := bd_ob hf
        have hf := nm_st hf
        have hf := nm_st hf
        refine weV (As := [.int (-1 : Int32), .int (-1 : Int32), .int (-1 : Int32)]) (rest := [.ref (q 0)]) ⟨hx, hb, hml, hown, hts⟩ (mX9_adds l D cI cB cZ cO q _ fu z_12 (-1 : Int32) (-1 : Int32) (-1 : Int32) hc_17) (cwV 3 hts gX9_addClause_X9_adds rfl rfl rfl (by decide +kernel) ⟨Nat.le_of_ble_eq_true rfl, Nat.le_of_ble_eq_true rfl⟩) hK hP hD hS hA (va_recv hK hP (ci := 8) (q0 := 0) rfl rfl) rfl hl.1 rfl (Nat.le_of_ble_eq_true rfl) dX9_addClause_55 ⟨Nat.zero_le _, Nat.zero_le _⟩ (fun H locs hP hD hS => ?_)
        obtain ⟨⟨r_18, z_19⟩, hc_21, hf⟩ := bd_ob hf
        have hf := nm_st hf
        have hf := nm_st hf
        refine weV (As := [.int r_14]) (rest := []) ⟨hx, hb, hml, hown, hts⟩ (mX9_records l D cI cB cZ cO q _ fu z_15 r_14 hc_21) (cwV 1 hts gX9_addClause_X9_records rfl rfl rfl (by decide +kernel) ⟨Nat.le_of_ble_eq_true rfl, Nat.le_of_ble_eq_true rfl⟩) hK hP hD hS hA (va_recv hK hP (ci := 8) (q0 := 0) rfl rfl) rfl hl.1 rfl (Nat.le_of_ble_eq_true rfl) dX9_addClause_58 ⟨Nat.zero_le _, Nat.zero_le _⟩ (fun H locs hP hD hS => ?_)
        exact rW_i hx hb hr hlocks hP hD hS (congrArg (fun q9 => q9.1) (so_ob hf)) (congrArg (fun (q9 : Int32 × (OS)) => wM cI cB cZ q q9.2) (so_ob hf)) dX9_addClause_61
      · have hf := iq c_41 hf
        refine lv_iconst (v := 0) hx hb dX9_addClause_44 (by decide) ?_
        exact rW_i hx hb hr hlocks hP hD hS (congrArg (fun q9 => q9.1) (so_ob hf)) (congrArg (fun (q9 : Int32 × (OS)) => wM cI cB cZ q q9.2) (so_ob hf)) dX9_addClause_45
    obtain ⟨j32, ej32, hf⟩ := jn_ob hf
    have hp32 : ∀  (H : Heap) (locs : List Loc) (ls : Array Slot), j32 = some (r, y1) → va_P D vwCl (wM cI cB cZ q z_3) H → va_D A (wM cI cB cZ q z_3) → va_S A s.heap H locs → lv_has ls 3 [(0, .ref (q 0))] → W p l e (headSpec wsX9_addClause { frames := 4, cells := 0, slots := 0, locals := 83 }).room s m args below meth c H locs 0 0 (MQ below (Qw D A (some (.int r)) (wM cI cB cZ q y1)) args s 0 0 A) (F0 m 32 ls [.ref (q 0)]) := by
      intro H locs ls hf hP hD hS hl
      rw [ej32] at hf
      refine lv_iconst (v := 1) hx hb dX9_addClause_32 (by decide) ?_
      refine lv_goto (tgt := 37) hx hb dX9_addClause_33 (by decide) ?_
      exact hp37 (1 : Int32) _ _ _ hf hP hD hS hl
    refine lv_icmp_ne (tgt := 32) hx hb dX9_addClause_20 (by decide) (fun c_20 => ?_) (fun c_20 => ?_)
    · have hf := ip c_20 hf
      exact hp32 _ _ _ hf hP hD hS (lv_sub hl [0] rfl)
    · have hf := iqn c_20 hf
      refine lv_aload_n hx hb dX9_addClause_23 rfl (lv_at hl 0 rfl) ?_
      obtain ⟨r_22, hc_23, hf⟩ := bd_ob hf
      refine rdV (As := []) (rest := [.ref (q 0)]) ⟨hx, hb, hml, hown, hts⟩ (mX9_many l D cI cB cZ cO q fu z_3 hc_23) (cwV 0 hts gX9_addClause_X9_many rfl rfl rfl (by decide +kernel) ⟨Nat.le_of_ble_eq_true rfl, Nat.le_of_ble_eq_true rfl⟩) hK hP (va_recv hK hP (ci := 8) (q0 := 0) rfl rfl) rfl hl.1 rfl (Nat.le_of_ble_eq_true rfl) dX9_addClause_24 ⟨Nat.zero_le _, Nat.zero_le _⟩ ?_
      refine lv_bipush (v := 60) hx hb dX9_addClause_27 (by decide) ?_
      refine lv_icmp_ne (tgt := 36) hx hb dX9_addClause_29 (by decide) (fun c_29 => ?_) (fun c_29 => ?_)
      · have hf := ip c_29 hf
        refine lv_iconst (v := 0) hx hb dX9_addClause_36 (by decide) ?_
        exact hp37 (0 : Int32) _ _ _ hf hP hD hS (lv_sub hl [0] rfl)
      · have hf := iqn c_29 hf
        exact hp32 _ _ _ hf hP hD hS (lv_sub hl [0] rfl)

def fX9_resolve (fu : Nat) (z : OS) (p1 : Int32) (p2 : Int32) : Option (Int32 × (OS)) :=
  nm (sI z 0 (0 : Int32)) (fun (z_1 : OS) => bd (fX9_noPair fu z_1 p1 p2) (fun (w_4 : Int32 × OS) => nm w_4.1 (fun (r_2 : Int32) => nm w_4.2 (fun (z_3 : OS) => (if ¬ r_2 = (0 : Int32) then some ((0 : Int32), z_3) else bd (fX9_clashing fu z_3 p1 p2) (fun (r_6 : Int32) => jn (κ := Int32 → Option (Int32 × (OS))) (fun (t1_30 : Int32) => bd (fX9_throwsIf fu z_3 t1_30 (2 : Int32)) (fun (w_10 : Int32 × OS) => nm w_10.1 (fun (r_8 : Int32) => nm w_10.2 (fun (z_9 : OS) => (if r_8 = (0 : Int32) then bd (fX9_resolves fu z_9 p1 p2) (fun (z_12 : OS) => bd (fX9_same fu z_12) (fun (r_14 : Int32) => jn (κ := Int32 → Option (Int32 × (OS))) (fun (t1_68 : Int32) => bd (fX9_throwsIf fu z_12 t1_68 (3 : Int32)) (fun (w_18 : Int32 × OS) => nm w_18.1 (fun (r_16 : Int32) => nm w_18.2 (fun (z_17 : OS) => (if r_16 = (0 : Int32) then bd (fX9_keeps fu z_17) (fun (z_20 : OS) => bd (fX9_addsResolvent fu z_20 p1 p2) (fun (w_24 : Int32 × OS) => nm w_24.1 (fun (r_22 : Int32) => nm w_24.2 (fun (z_23 : OS) => bd (fX9_records fu z_23 r_22) (fun (w_28 : Int32 × OS) => nm w_28.1 (fun (r_26 : Int32) => nm w_28.2 (fun (z_27 : OS) => some (r_26, z_27)))))))) else some ((0 : Int32), z_17)))))) (fun j68 => jn (κ := Option (Int32 × (OS))) (j68 (1 : Int32)) (fun j63 => (if ¬ r_14 = (-1 : Int32) then j63 else bd (fX9_many fu z_12) (fun (r_30 : Int32) => (if ¬ r_30 = (60 : Int32) then j68 (0 : Int32) else j63))))))) else some ((0 : Int32), z_9)))))) (fun j30 => (if r_6 = (1 : Int32) then j30 (0 : Int32) else j30 (1 : Int32)))))))))
set_option maxRecDepth 100000 in
set_option maxHeartbeats 4000000 in
theorem mX9_resolve (l : Launch) (D : va_G) (cI cB cZ cO : ClassId) (q : Nat → Nat) (sz : Nat) (fu : Nat) (z : OS) (p1 : Int32) (p2 : Int32) {r : Int32} {y1 : OS} (hf : fX9_resolve fu z p1 p2 = some (r, y1)) : Met l yX9_resolve wsX9_resolve ({ frames := 4, cells := 0, slots := 0, locals := 94 }) (va_Pc [.ref (q 0), .int p1, .int p2] (Pw D (gT cI cB cZ cO) (wM cI cB cZ q z) sz)) (Qw D (va_A (wM cI cB cZ q z) sz) (some (.int r)) (wM cI cB cZ q y1)) 0 0 (va_A (wM cI cB cZ q z) sz) := by
  unfold fX9_resolve at hf
  refine metW (ret := (some .int)) (own := RX9) rfl (by decide) rfl (Nat.le_of_ble_eq_true rfl) (fun p e s m args below meth c ls A hx hb hr hml hown hlocks hts hK hA hP hD hS hl => ?_)
  have k46 := (hts (.fieldLink RX9 46 "ResolutionProverModel" "thrown" "I") (List.mem_of_getElem? (i := 1) rfl))
  have hiX9 : ∀ w ∈ wsX90, w ∈ wsX9_resolve := (memIn_p [77, 78, 79, 80, 81, 82, 83, 84, 85, 86, 87, 88, 89, 90, 91, 92, 93, 94, 95, 96, 97, 98, 99, 100, 101, 102, 103] rfl)
  have hl : lv_has ls 3 [(0, .ref (q 0)), (1, .int p1), (2, .int p2)] := hl
  refine lv_aload_n hx hb dX9_resolve_0 rfl (lv_at hl 0 rfl) ?_
  refine lv_iconst (v := 0) hx hb dX9_resolve_1 (by decide) ?_
  refine va_put (D := D) (ci := 8) (v := .int (0 : Int32)) (ty := .int) (C := RX9) (T := TX9) (N := 27) hx hb hts hiX9 tyX9 tyX9_ok nmX9 hown hK hP hD hS 0 rfl rfl 0 (by decide) k46 (fun _ h9 => h9) rfl (by decide +kernel) rfl rfl (Nat.le_of_ble_eq_true rfl) dX9_resolve_2 (fun H locs hP hD hS => ?_)
  obtain ⟨z_1, ez_1, hf⟩ := nm_ob hf
  have hP : va_P D vwCl (wM cI cB cZ q z_1) H := by rw [ez_1]; exact hP
  have hD : va_D A (wM cI cB cZ q z_1) := by rw [ez_1]; exact hD
  refine lv_aload_n hx hb dX9_resolve_5 rfl (lv_at hl 0 rfl) ?_
  refine lv_iload_n hx hb dX9_resolve_6 rfl (lv_at hl 1 rfl) ?_
  refine lv_iload_n hx hb dX9_resolve_7 rfl (lv_at hl 2 rfl) ?_
  obtain ⟨⟨r_2, z_3⟩, hc_5, hf⟩ := bd_ob hf
  have hf := nm_st hf
  have hf := nm_st hf
  refine weV (As := [.int p1, .int p2]) (rest := []) ⟨hx, hb, hml, hown, hts⟩ (mX9_noPair l D cI cB cZ cO q _ fu z_1 p1 p2 hc_5) (cwV 2 hts gX9_resolve_X9_noPair rfl rfl rfl (by decide +kernel) ⟨Nat.le_of_ble_eq_true rfl, Nat.le_of_ble_eq_true rfl⟩) hK hP hD hS hA (va_recv hK hP (ci := 8) (q0 := 0) rfl rfl) rfl hl.1 rfl (Nat.le_of_ble_eq_true rfl) dX9_resolve_8 ⟨Nat.zero_le _, Nat.zero_le _⟩ (fun H locs hP hD hS => ?_)
  refine lv_if_ne (tgt := 37) hx hb dX9_resolve_11 (by decide) (fun c_11 => ?_) (fun c_11 => ?_)
  · have hf := ip c_11 hf
    refine lv_iconst (v := 0) hx hb dX9_resolve_37 (by decide) ?_
    exact rW_i hx hb hr hlocks hP hD hS (congrArg (fun q9 => q9.1) (so_ob hf)) (congrArg (fun (q9 : Int32 × (OS)) => wM cI cB cZ q q9.2) (so_ob hf)) dX9_resolve_38
  · have hf := iqn c_11 hf
    refine lv_aload_n hx hb dX9_resolve_14 rfl (lv_at hl 0 rfl) ?_
    refine lv_aload_n hx hb dX9_resolve_15 rfl (lv_at hl 0 rfl) ?_
    refine lv_iload_n hx hb dX9_resolve_16 rfl (lv_at hl 1 rfl) ?_
    refine lv_iload_n hx hb dX9_resolve_17 rfl (lv_at hl 2 rfl) ?_
    obtain ⟨r_6, hc_7, hf⟩ := bd_ob hf
    refine rdV (As := [.int p1, .int p2]) (rest := [.ref (q 0)]) ⟨hx, hb, hml, hown, hts⟩ (mX9_clashing l D cI cB cZ cO q fu z_3 p1 p2 hc_7) (cwV 2 hts gX9_resolve_X9_clashing rfl rfl rfl (by decide +kernel) ⟨Nat.le_of_ble_eq_true rfl, Nat.le_of_ble_eq_true rfl⟩) hK hP (va_recv hK hP (ci := 8) (q0 := 0) rfl rfl) rfl hl.1 rfl (Nat.le_of_ble_eq_true rfl) dX9_resolve_18 ⟨Nat.zero_le _, Nat.zero_le _⟩ ?_
    refine lv_iconst (v := 1) hx hb dX9_resolve_21 (by decide) ?_
    obtain ⟨j30, ej30, hf⟩ := jn_ob hf
    have hp30 : ∀ (t1_30 : Int32) (H : Heap) (locs : List Loc) (ls : Array Slot), j30 t1_30 = some (r, y1) → va_P D vwCl (wM cI cB cZ q z_3) H → va_D A (wM cI cB cZ q z_3) → va_S A s.heap H locs → lv_has ls 3 [(0, .ref (q 0)), (1, .int p1), (2, .int p2)] → W p l e (headSpec wsX9_resolve { frames := 4, cells := 0, slots := 0, locals := 94 }).room s m args below meth c H locs 0 0 (MQ below (Qw D A (some (.int r)) (wM cI cB cZ q y1)) args s 0 0 A) (F0 m 30 ls [.int t1_30, .ref (q 0)]) := by
      intro t1_30 H locs ls hf hP hD hS hl
      rw [ej30] at hf
      refine lv_iconst (v := 2) hx hb dX9_resolve_30 (by decide) ?_
      obtain ⟨⟨r_8, z_9⟩, hc_11, hf⟩ := bd_ob hf
      have hf := nm_st hf
      have hf := nm_st hf
      refine weV (As := [.int t1_30, .int (2 : Int32)]) (rest := []) ⟨hx, hb, hml, hown, hts⟩ (mX9_throwsIf l D cI cB cZ cO q _ fu z_3 t1_30 (2 : Int32) hc_11) (cwV 2 hts gX9_resolve_X9_throwsIf rfl rfl rfl (by decide +kernel) ⟨Nat.le_of_ble_eq_true rfl, Nat.le_of_ble_eq_true rfl⟩) hK hP hD hS hA (va_recv hK hP (ci := 8) (q0 := 0) rfl rfl) rfl hl.1 rfl (Nat.le_of_ble_eq_true rfl) dX9_resolve_31 ⟨Nat.zero_le _, Nat.zero_le _⟩ (fun H locs hP hD hS => ?_)
      refine lv_if_eq (tgt := 39) hx hb dX9_resolve_34 (by decide) (fun c_34 => ?_) (fun c_34 => ?_)
      · have hf := ip c_34 hf
        refine lv_aload_n hx hb dX9_resolve_39 rfl (lv_at hl 0 rfl) ?_
        refine lv_iload_n hx hb dX9_resolve_40 rfl (lv_at hl 1 rfl) ?_
        refine lv_iload_n hx hb dX9_resolve_41 rfl (lv_at hl 2 rfl) ?_
        obtain ⟨z_12, hc_13, hf⟩ := bd_ob hf
        refine weV (As := [.int p1, .int p2]) (rest := []) ⟨hx, hb, hml, hown, hts⟩ (mX9_resolves l D cI cB cZ cO q _ fu z_9 p1 p2 hc_13) (cwV 2 hts gX9_resolve_X9_resolves rfl rfl rfl (by decide +kernel) ⟨Nat.le_of_ble_eq_true rfl, Nat.le_of_ble_eq_true rfl⟩) hK hP hD hS hA (va_recv hK hP (ci := 8) (q0 := 0) rfl rfl) rfl hl.1 rfl (Nat.le_of_ble_eq_true rfl) dX9_resolve_42 ⟨Nat.zero_le _, Nat.zero_le _⟩ (fun H locs hP hD hS => ?_)
        refine lv_aload_n hx hb dX9_resolve_45 rfl (lv_at hl 0 rfl) ?_
        refine lv_aload_n hx hb dX9_resolve_46 rfl (lv_at hl 0 rfl) ?_
        obtain ⟨r_14, hc_15, hf⟩ := bd_ob hf
        refine rdV (As := []) (rest := [.ref (q 0)]) ⟨hx, hb, hml, hown, hts⟩ (mX9_same l D cI cB cZ cO q fu z_12 hc_15) (cwV 0 hts gX9_resolve_X9_same rfl rfl rfl (by decide +kernel) ⟨Nat.le_of_ble_eq_true rfl, Nat.le_of_ble_eq_true rfl⟩) hK hP (va_recv hK hP (ci := 8) (q0 := 0) rfl rfl) rfl hl.1 rfl (Nat.le_of_ble_eq_true rfl) dX9_resolve_47 ⟨Nat.zero_le _, Nat.zero_le _⟩ ?_
        refine lv_iconst (v := (-1)) hx hb dX9_resolve_50 (by decide) ?_
        obtain ⟨j68, ej68, hf⟩ := jn_ob hf
        have hp68 : ∀ (t1_68 : Int32) (H : Heap) (locs : List Loc) (ls : Array Slot), j68 t1_68 = some (r, y1) → va_P D vwCl (wM cI cB cZ q z_12) H → va_D A (wM cI cB cZ q z_12) → va_S A s.heap H locs → lv_has ls 3 [(0, .ref (q 0)), (1, .int p1), (2, .int p2)] → W p l e (headSpec wsX9_resolve { frames := 4, cells := 0, slots := 0, locals := 94 }).room s m args below meth c H locs 0 0 (MQ below (Qw D A (some (.int r)) (wM cI cB cZ q y1)) args s 0 0 A) (F0 m 68 ls [.int t1_68, .ref (q 0)]) := by
          intro t1_68 H locs ls hf hP hD hS hl
          rw [ej68] at hf
          refine lv_iconst (v := 3) hx hb dX9_resolve_68 (by decide) ?_
          obtain ⟨⟨r_16, z_17⟩, hc_19, hf⟩ := bd_ob hf
          have hf := nm_st hf
          have hf := nm_st hf
          refine weV (As := [.int t1_68, .int (3 : Int32)]) (rest := []) ⟨hx, hb, hml, hown, hts⟩ (mX9_throwsIf l D cI cB cZ cO q _ fu z_12 t1_68 (3 : Int32) hc_19) (cwV 2 hts gX9_resolve_X9_throwsIf rfl rfl rfl (by decide +kernel) ⟨Nat.le_of_ble_eq_true rfl, Nat.le_of_ble_eq_true rfl⟩) hK hP hD hS hA (va_recv hK hP (ci := 8) (q0 := 0) rfl rfl) rfl hl.1 rfl (Nat.le_of_ble_eq_true rfl) dX9_resolve_69 ⟨Nat.zero_le _, Nat.zero_le _⟩ (fun H locs hP hD hS => ?_)
          refine lv_if_eq (tgt := 77) hx hb dX9_resolve_72 (by decide) (fun c_72 => ?_) (fun c_72 => ?_)
          · have hf := ip c_72 hf
            refine lv_aload_n hx hb dX9_resolve_77 rfl (lv_at hl 0 rfl) ?_
            obtain ⟨z_20, hc_21, hf⟩ := bd_ob hf
            refine weV (As := []) (rest := []) ⟨hx, hb, hml, hown, hts⟩ (mX9_keeps l D cI cB cZ cO q _ fu z_17 hc_21) (cwV 0 hts gX9_resolve_X9_keeps rfl rfl rfl (by decide +kernel) ⟨Nat.le_of_ble_eq_true rfl, Nat.le_of_ble_eq_true rfl⟩) hK hP hD hS hA (va_recv hK hP (ci := 8) (q0 := 0) rfl rfl) rfl hl.1 rfl (Nat.le_of_ble_eq_true rfl) dX9_resolve_78 ⟨Nat.zero_le _, Nat.zero_le _⟩ (fun H locs hP hD hS => ?_)
            refine lv_aload_n hx hb dX9_resolve_81 rfl (lv_at hl 0 rfl) ?_
            refine lv_aload_n hx hb dX9_resolve_82 rfl (lv_at hl 0 rfl) ?_
            refine lv_iload_n hx hb dX9_resolve_83 rfl (lv_at hl 1 rfl) ?_
            refine lv_iload_n hx hb dX9_resolve_84 rfl (lv_at hl 2 rfl) ?_
            obtain ⟨⟨r_22, z_23⟩, hc_25, hf⟩ := bd_ob hf
            have hf := nm_st hf
            have hf := nm_st hf
            refine weV (As := [.int p1, .int p2]) (rest := [.ref (q 0)]) ⟨hx, hb, hml, hown, hts⟩ (mX9_addsResolvent l D cI cB cZ cO q _ fu z_20 p1 p2 hc_25) (cwV 2 hts gX9_resolve_X9_addsResolvent rfl rfl rfl (by decide +kernel) ⟨Nat.le_of_ble_eq_true rfl, Nat.le_of_ble_eq_true rfl⟩) hK hP hD hS hA (va_recv hK hP (ci := 8) (q0 := 0) rfl rfl) rfl hl.1 rfl (Nat.le_of_ble_eq_true rfl) dX9_resolve_85 ⟨Nat.zero_le _, Nat.zero_le _⟩ (fun H locs hP hD hS => ?_)
            obtain ⟨⟨r_26, z_27⟩, hc_29, hf⟩ := bd_ob hf
            have hf := nm_st hf
            have hf := nm_st hf
            refine weV (As := [.int r_22]) (rest := []) ⟨hx, hb, hml, hown, hts⟩ (mX9_records l D cI cB cZ cO q _ fu z_23 r_22 hc_29) (cwV 1 hts gX9_resolve_X9_records rfl rfl rfl (by decide +kernel) ⟨Nat.le_of_ble_eq_true rfl, Nat.le_of_ble_eq_true rfl⟩) hK hP hD hS hA (va_recv hK hP (ci := 8) (q0 := 0) rfl rfl) rfl hl.1 rfl (Nat.le_of_ble_eq_true rfl) dX9_resolve_88 ⟨Nat.zero_le _, Nat.zero_le _⟩ (fun H locs hP hD hS => ?_)
            exact rW_i hx hb hr hlocks hP hD hS (congrArg (fun q9 => q9.1) (so_ob hf)) (congrArg (fun (q9 : Int32 × (OS)) => wM cI cB cZ q q9.2) (so_ob hf)) dX9_resolve_91
          · have hf := iq c_72 hf
            refine lv_iconst (v := 0) hx hb dX9_resolve_75 (by decide) ?_
            exact rW_i hx hb hr hlocks hP hD hS (congrArg (fun q9 => q9.1) (so_ob hf)) (congrArg (fun (q9 : Int32 × (OS)) => wM cI cB cZ q q9.2) (so_ob hf)) dX9_resolve_76
        obtain ⟨j63, ej63, hf⟩ := jn_ob hf
        have hp63 : ∀  (H : Heap) (locs : List Loc) (ls : Array Slot), j63 = some (r, y1) → va_P D vwCl (wM cI cB cZ q z_12) H → va_D A (wM cI cB cZ q z_12) → va_S A s.heap H locs → lv_has ls 3 [(0, .ref (q 0)), (1, .int p1), (2, .int p2)] → W p l e (headSpec wsX9_resolve { frames := 4, cells := 0, slots := 0, locals := 94 }).room s m args below meth c H locs 0 0 (MQ below (Qw D A (some (.int r)) (wM cI cB cZ q y1)) args s 0 0 A) (F0 m 63 ls [.ref (q 0)]) := by
          intro H locs ls hf hP hD hS hl
          rw [ej63] at hf
          refine lv_iconst (v := 1) hx hb dX9_resolve_63 (by decide) ?_
          refine lv_goto (tgt := 68) hx hb dX9_resolve_64 (by decide) ?_
          exact hp68 (1 : Int32) _ _ _ hf hP hD hS hl
        refine lv_icmp_ne (tgt := 63) hx hb dX9_resolve_51 (by decide) (fun c_51 => ?_) (fun c_51 => ?_)
        · have hf := ip c_51 hf
          exact hp63 _ _ _ hf hP hD hS hl
        · have hf := iqn c_51 hf
          refine lv_aload_n hx hb dX9_resolve_54 rfl (lv_at hl 0 rfl) ?_
          obtain ⟨r_30, hc_31, hf⟩ := bd_ob hf
          refine rdV (As := []) (rest := [.ref (q 0)]) ⟨hx, hb, hml, hown, hts⟩ (mX9_many l D cI cB cZ cO q fu z_12 hc_31) (cwV 0 hts gX9_resolve_X9_many rfl rfl rfl (by decide +kernel) ⟨Nat.le_of_ble_eq_true rfl, Nat.le_of_ble_eq_true rfl⟩) hK hP (va_recv hK hP (ci := 8) (q0 := 0) rfl rfl) rfl hl.1 rfl (Nat.le_of_ble_eq_true rfl) dX9_resolve_55 ⟨Nat.zero_le _, Nat.zero_le _⟩ ?_
          refine lv_bipush (v := 60) hx hb dX9_resolve_58 (by decide) ?_
          refine lv_icmp_ne (tgt := 67) hx hb dX9_resolve_60 (by decide) (fun c_60 => ?_) (fun c_60 => ?_)
          · have hf := ip c_60 hf
            refine lv_iconst (v := 0) hx hb dX9_resolve_67 (by decide) ?_
            exact hp68 (0 : Int32) _ _ _ hf hP hD hS hl
          · have hf := iqn c_60 hf
            exact hp63 _ _ _ hf hP hD hS hl
      · have hf := iq c_34 hf
        refine lv_iconst (v := 0) hx hb dX9_resolve_37 (by decide) ?_
        exact rW_i hx hb hr hlocks hP hD hS (congrArg (fun q9 => q9.1) (so_ob hf)) (congrArg (fun (q9 : Int32 × (OS)) => wM cI cB cZ q q9.2) (so_ob hf)) dX9_resolve_38
    refine lv_icmp_eq (tgt := 29) hx hb dX9_resolve_22 (by decide) (fun c_22 => ?_) (fun c_22 => ?_)
    · have hf := ip c_22 hf
      refine lv_iconst (v := 0) hx hb dX9_resolve_29 (by decide) ?_
      exact hp30 (0 : Int32) _ _ _ hf hP hD hS hl
    · have hf := iq c_22 hf
      refine lv_iconst (v := 1) hx hb dX9_resolve_25 (by decide) ?_
      refine lv_goto (tgt := 30) hx hb dX9_resolve_26 (by decide) ?_
      exact hp30 (1 : Int32) _ _ _ hf hP hD hS hl

def fX9_saturate (fu : Nat) (z : OS) (p1 : Int32) : Option (Int32 × (OS)) :=
  nm (sI z 0 (0 : Int32)) (fun (z_1 : OS) => bd (fX9_in fu ((p1).toInt64) (1 : Int64) (99 : Int64)) (fun (r_2 : Int32) => jn (κ := Int32 → Option (Int32 × (OS))) (fun (t1_23 : Int32) => bd (fX9_throwsIf fu z_1 t1_23 (1 : Int32)) (fun (w_6 : Int32 × OS) => nm w_6.1 (fun (r_4 : Int32) => nm w_6.2 (fun (z_5 : OS) => (if ¬ r_4 = (0 : Int32) then some ((0 : Int32), z_5) else bd (fX9_hasStep fu z_5) (fun (w_10 : Int32 × OS) => nm w_10.1 (fun (r_8 : Int32) => nm w_10.2 (fun (z_9 : OS) => jn (κ := Int32 → Option (Int32 × (OS))) (fun (t1_43 : Int32) => bd (fX9_throwsIf fu z_9 t1_43 (2 : Int32)) (fun (w_14 : Int32 × OS) => nm w_14.1 (fun (r_12 : Int32) => nm w_14.2 (fun (z_13 : OS) => (if r_12 = (0 : Int32) then bd (fX9_keeps fu z_13) (fun (z_16 : OS) => bd (fX9_steps fu z_16 p1) (fun (w_20 : Int32 × OS) => nm w_20.1 (fun (r_18 : Int32) => nm w_20.2 (fun (z_19 : OS) => bd (fX9_records fu z_19 r_18) (fun (w_24 : Int32 × OS) => nm w_24.1 (fun (r_22 : Int32) => nm w_24.2 (fun (z_23 : OS) => some (r_22, z_23)))))))) else some ((0 : Int32), z_13)))))) (fun j43 => (if ¬ r_8 = (0 : Int32) then j43 (0 : Int32) else j43 (1 : Int32))))))))))) (fun j23 => (if ¬ r_2 = (0 : Int32) then j23 (0 : Int32) else j23 (1 : Int32)))))
set_option maxRecDepth 100000 in
set_option maxHeartbeats 4000000 in
theorem mX9_saturate (l : Launch) (D : va_G) (cI cB cZ cO : ClassId) (q : Nat → Nat) (sz : Nat) (fu : Nat) (z : OS) (p1 : Int32) {r : Int32} {y1 : OS} (hf : fX9_saturate fu z p1 = some (r, y1)) : Met l yX9_saturate wsX9_saturate ({ frames := 5, cells := 0, slots := 0, locals := 117 }) (va_Pc [.ref (q 0), .int p1] (Pw D (gT cI cB cZ cO) (wM cI cB cZ q z) sz)) (Qw D (va_A (wM cI cB cZ q z) sz) (some (.int r)) (wM cI cB cZ q y1)) 0 0 (va_A (wM cI cB cZ q z) sz) := by
  unfold fX9_saturate at hf
  refine metW (ret := (some .int)) (own := RX9) rfl (by decide) rfl (Nat.le_of_ble_eq_true rfl) (fun p e s m args below meth c ls A hx hb hr hml hown hlocks hts hK hA hP hD hS hl => ?_)
  have k46 := (hts (.fieldLink RX9 46 "ResolutionProverModel" "thrown" "I") (List.mem_of_getElem? (i := 1) rfl))
  have k386 := (hts (.constantLong RX9 386 (99)) (List.mem_of_getElem? (i := 2) rfl))
  have hiX9 : ∀ w ∈ wsX90, w ∈ wsX9_saturate := (memIn_p [88, 89, 90, 91, 92, 93, 94, 95, 96, 97, 98, 99, 100, 101, 102, 103, 104, 105, 106, 107, 108, 109, 110, 111, 112, 113, 114] rfl)
  have hl : lv_has ls 2 [(0, .ref (q 0)), (1, .int p1)] := hl
  refine lv_aload_n hx hb dX9_saturate_0 rfl (lv_at hl 0 rfl) ?_
  refine lv_iconst (v := 0) hx hb dX9_saturate_1 (by decide) ?_
  refine va_put (D := D) (ci := 8) (v := .int (0 : Int32)) (ty := .int) (C := RX9) (T := TX9) (N := 27) hx hb hts hiX9 tyX9 tyX9_ok nmX9 hown hK hP hD hS 0 rfl rfl 0 (by decide) k46 (fun _ h9 => h9) rfl (by decide +kernel) rfl rfl (Nat.le_of_ble_eq_true rfl) dX9_saturate_2 (fun H locs hP hD hS => ?_)
  obtain ⟨z_1, ez_1, hf⟩ := nm_ob hf
  have hP : va_P D vwCl (wM cI cB cZ q z_1) H := by rw [ez_1]; exact hP
  have hD : va_D A (wM cI cB cZ q z_1) := by rw [ez_1]; exact hD
  refine lv_aload_n hx hb dX9_saturate_5 rfl (lv_at hl 0 rfl) ?_
  refine lv_iload_n hx hb dX9_saturate_6 rfl (lv_at hl 1 rfl) ?_
  refine lv_i2l hx hb dX9_saturate_7 rfl ?_
  refine lv_lconst (v := 1) hx hb dX9_saturate_8 (by decide) ?_
  refine lv_ldc2 hx hb hown k386 dX9_saturate_9 ?_
  obtain ⟨r_2, hc_3, hf⟩ := bd_ob hf
  refine rdN (As := [.long ((p1).toInt64), .long (1 : Int64), .long (99 : Int64)]) (rest := [.ref (q 0)]) ⟨hx, hb, hml, hown, hts⟩ (mX9_in l D cI cB cZ cO fu ((p1).toInt64) (1 : Int64) (99 : Int64) hc_3) (va_cwS 3 hts gX9_saturate_X9_in rfl rfl rfl (by decide +kernel) ⟨Nat.le_of_ble_eq_true rfl, Nat.le_of_ble_eq_true rfl⟩) rfl hl.1 rfl (Nat.le_of_ble_eq_true rfl) dX9_saturate_12 ⟨Nat.zero_le _, Nat.zero_le _⟩ ?_
  obtain ⟨j23, ej23, hf⟩ := jn_ob hf
  have hp23 : ∀ (t1_23 : Int32) (H : Heap) (locs : List Loc) (ls : Array Slot), j23 t1_23 = some (r, y1) → va_P D vwCl (wM cI cB cZ q z_1) H → va_D A (wM cI cB cZ q z_1) → va_S A s.heap H locs → lv_has ls 2 [(0, .ref (q 0)), (1, .int p1)] → W p l e (headSpec wsX9_saturate { frames := 5, cells := 0, slots := 0, locals := 117 }).room s m args below meth c H locs 0 0 (MQ below (Qw D A (some (.int r)) (wM cI cB cZ q y1)) args s 0 0 A) (F0 m 23 ls [.int t1_23, .ref (q 0)]) := by
    intro t1_23 H locs ls hf hP hD hS hl
    rw [ej23] at hf
    refine lv_iconst (v := 1) hx hb dX9_saturate_23 (by decide) ?_
    obtain ⟨⟨r_4, z_5⟩, hc_7, hf⟩ := bd_ob hf
    have hf := nm_st hf
    have hf := nm_st hf
    refine weV (As := [.int t1_23, .int (1 : Int32)]) (rest := []) ⟨hx, hb, hml, hown, hts⟩ (mX9_throwsIf l D cI cB cZ cO q _ fu z_1 t1_23 (1 : Int32) hc_7) (cwV 2 hts gX9_saturate_X9_throwsIf rfl rfl rfl (by decide +kernel) ⟨Nat.le_of_ble_eq_true rfl, Nat.le_of_ble_eq_true rfl⟩) hK hP hD hS hA (va_recv hK hP (ci := 8) (q0 := 0) rfl rfl) rfl hl.1 rfl (Nat.le_of_ble_eq_true rfl) dX9_saturate_24 ⟨Nat.zero_le _, Nat.zero_le _⟩ (fun H locs hP hD hS => ?_)
    refine lv_if_ne (tgt := 50) hx hb dX9_saturate_27 (by decide) (fun c_27 => ?_) (fun c_27 => ?_)
    · have hf := ip c_27 hf
      refine lv_iconst (v := 0) hx hb dX9_saturate_50 (by decide) ?_
      exact rW_i hx hb hr hlocks hP hD hS (congrArg (fun q9 => q9.1) (so_ob hf)) (congrArg (fun (q9 : Int32 × (OS)) => wM cI cB cZ q q9.2) (so_ob hf)) dX9_saturate_51
    · have hf := iqn c_27 hf
      refine lv_aload_n hx hb dX9_saturate_30 rfl (lv_at hl 0 rfl) ?_
      refine lv_aload_n hx hb dX9_saturate_31 rfl (lv_at hl 0 rfl) ?_
      obtain ⟨⟨r_8, z_9⟩, hc_11, hf⟩ := bd_ob hf
      have hf := nm_st hf
      have hf := nm_st hf
      refine weV (As := []) (rest := [.ref (q 0)]) ⟨hx, hb, hml, hown, hts⟩ (mX9_hasStep l D cI cB cZ cO q _ fu z_5 hc_11) (cwV 0 hts gX9_saturate_X9_hasStep rfl rfl rfl (by decide +kernel) ⟨Nat.le_of_ble_eq_true rfl, Nat.le_of_ble_eq_true rfl⟩) hK hP hD hS hA (va_recv hK hP (ci := 8) (q0 := 0) rfl rfl) rfl hl.1 rfl (Nat.le_of_ble_eq_true rfl) dX9_saturate_32 ⟨Nat.zero_le _, Nat.zero_le _⟩ (fun H locs hP hD hS => ?_)
      obtain ⟨j43, ej43, hf⟩ := jn_ob hf
      have hp43 : ∀ (t1_43 : Int32) (H : Heap) (locs : List Loc) (ls : Array Slot), j43 t1_43 = some (r, y1) → va_P D vwCl (wM cI cB cZ q z_9) H → va_D A (wM cI cB cZ q z_9) → va_S A s.heap H locs → lv_has ls 2 [(0, .ref (q 0)), (1, .int p1)] → W p l e (headSpec wsX9_saturate { frames := 5, cells := 0, slots := 0, locals := 117 }).room s m args below meth c H locs 0 0 (MQ below (Qw D A (some (.int r)) (wM cI cB cZ q y1)) args s 0 0 A) (F0 m 43 ls [.int t1_43, .ref (q 0)]) := by
        intro t1_43 H locs ls hf hP hD hS hl
        rw [ej43] at hf
        refine lv_iconst (v := 2) hx hb dX9_saturate_43 (by decide) ?_
        obtain ⟨⟨r_12, z_13⟩, hc_15, hf⟩ := bd_ob hf
        have hf := nm_st hf
        have hf := nm_st hf
        refine weV (As := [.int t1_43, .int (2 : Int32)]) (rest := []) ⟨hx, hb, hml, hown, hts⟩ (mX9_throwsIf l D cI cB cZ cO q _ fu z_9 t1_43 (2 : Int32) hc_15) (cwV 2 hts gX9_saturate_X9_throwsIf rfl rfl rfl (by decide +kernel) ⟨Nat.le_of_ble_eq_true rfl, Nat.le_of_ble_eq_true rfl⟩) hK hP hD hS hA (va_recv hK hP (ci := 8) (q0 := 0) rfl rfl) rfl hl.1 rfl (Nat.le_of_ble_eq_true rfl) dX9_saturate_44 ⟨Nat.zero_le _, Nat.zero_le _⟩ (fun H locs hP hD hS => ?_)
        refine lv_if_eq (tgt := 52) hx hb dX9_saturate_47 (by decide) (fun c_47 => ?_) (fun c_47 => ?_)
        · have hf := ip c_47 hf
          refine lv_aload_n hx hb dX9_saturate_52 rfl (lv_at hl 0 rfl) ?_
          obtain ⟨z_16, hc_17, hf⟩ := bd_ob hf
          refine weV (As := []) (rest := []) ⟨hx, hb, hml, hown, hts⟩ (mX9_keeps l D cI cB cZ cO q _ fu z_13 hc_17) (cwV 0 hts gX9_saturate_X9_keeps rfl rfl rfl (by decide +kernel) ⟨Nat.le_of_ble_eq_true rfl, Nat.le_of_ble_eq_true rfl⟩) hK hP hD hS hA (va_recv hK hP (ci := 8) (q0 := 0) rfl rfl) rfl hl.1 rfl (Nat.le_of_ble_eq_true rfl) dX9_saturate_53 ⟨Nat.zero_le _, Nat.zero_le _⟩ (fun H locs hP hD hS => ?_)
          refine lv_aload_n hx hb dX9_saturate_56 rfl (lv_at hl 0 rfl) ?_
          refine lv_aload_n hx hb dX9_saturate_57 rfl (lv_at hl 0 rfl) ?_
          refine lv_iload_n hx hb dX9_saturate_58 rfl (lv_at hl 1 rfl) ?_
          obtain ⟨⟨r_18, z_19⟩, hc_21, hf⟩ := bd_ob hf
          have hf := nm_st hf
          have hf := nm_st hf
          refine weV (As := [.int p1]) (rest := [.ref (q 0)]) ⟨hx, hb, hml, hown, hts⟩ (mX9_steps l D cI cB cZ cO q _ fu z_16 p1 hc_21) (cwV 1 hts gX9_saturate_X9_steps rfl rfl rfl (by decide +kernel) ⟨Nat.le_of_ble_eq_true rfl, Nat.le_of_ble_eq_true rfl⟩) hK hP hD hS hA (va_recv hK hP (ci := 8) (q0 := 0) rfl rfl) rfl hl.1 rfl (Nat.le_of_ble_eq_true rfl) dX9_saturate_59 ⟨Nat.zero_le _, Nat.zero_le _⟩ (fun H locs hP hD hS => ?_)
          obtain ⟨⟨r_22, z_23⟩, hc_25, hf⟩ := bd_ob hf
          have hf := nm_st hf
          have hf := nm_st hf
          refine weV (As := [.int r_18]) (rest := []) ⟨hx, hb, hml, hown, hts⟩ (mX9_records l D cI cB cZ cO q _ fu z_19 r_18 hc_25) (cwV 1 hts gX9_saturate_X9_records rfl rfl rfl (by decide +kernel) ⟨Nat.le_of_ble_eq_true rfl, Nat.le_of_ble_eq_true rfl⟩) hK hP hD hS hA (va_recv hK hP (ci := 8) (q0 := 0) rfl rfl) rfl hl.1 rfl (Nat.le_of_ble_eq_true rfl) dX9_saturate_62 ⟨Nat.zero_le _, Nat.zero_le _⟩ (fun H locs hP hD hS => ?_)
          exact rW_i hx hb hr hlocks hP hD hS (congrArg (fun q9 => q9.1) (so_ob hf)) (congrArg (fun (q9 : Int32 × (OS)) => wM cI cB cZ q q9.2) (so_ob hf)) dX9_saturate_65
        · have hf := iq c_47 hf
          refine lv_iconst (v := 0) hx hb dX9_saturate_50 (by decide) ?_
          exact rW_i hx hb hr hlocks hP hD hS (congrArg (fun q9 => q9.1) (so_ob hf)) (congrArg (fun (q9 : Int32 × (OS)) => wM cI cB cZ q q9.2) (so_ob hf)) dX9_saturate_51
      refine lv_if_ne (tgt := 42) hx hb dX9_saturate_35 (by decide) (fun c_35 => ?_) (fun c_35 => ?_)
      · have hf := ip c_35 hf
        refine lv_iconst (v := 0) hx hb dX9_saturate_42 (by decide) ?_
        exact hp43 (0 : Int32) _ _ _ hf hP hD hS hl
      · have hf := iqn c_35 hf
        refine lv_iconst (v := 1) hx hb dX9_saturate_38 (by decide) ?_
        refine lv_goto (tgt := 43) hx hb dX9_saturate_39 (by decide) ?_
        exact hp43 (1 : Int32) _ _ _ hf hP hD hS hl
  refine lv_if_ne (tgt := 22) hx hb dX9_saturate_15 (by decide) (fun c_15 => ?_) (fun c_15 => ?_)
  · have hf := ip c_15 hf
    refine lv_iconst (v := 0) hx hb dX9_saturate_22 (by decide) ?_
    exact hp23 (0 : Int32) _ _ _ hf hP hD hS hl
  · have hf := iqn c_15 hf
    refine lv_iconst (v := 1) hx hb dX9_saturate_18 (by decide) ?_
    refine lv_goto (tgt := 23) hx hb dX9_saturate_19 (by decide) ?_
    exact hp23 (1 : Int32) _ _ _ hf hP hD hS hl

def fX9_dropClause (fu : Nat) (z : OS) (p1 : Int32) : Option (Int32 × (OS)) :=
  nm (sI z 0 (0 : Int32)) (fun (z_1 : OS) => bd (fX9_noClause fu z_1 p1) (fun (w_4 : Int32 × OS) => nm w_4.1 (fun (r_2 : Int32) => nm w_4.2 (fun (z_3 : OS) => (if ¬ r_2 = (0 : Int32) then some ((0 : Int32), z_3) else bd (fX9_isParent fu z_3 p1) (fun (r_6 : Int32) => bd (fX9_throwsIf fu z_3 r_6 (2 : Int32)) (fun (w_10 : Int32 × OS) => nm w_10.1 (fun (r_8 : Int32) => nm w_10.2 (fun (z_9 : OS) => (if r_8 = (0 : Int32) then bd (fX9_keeps fu z_9) (fun (z_12 : OS) => bd (fX9_drops fu z_12 p1) (fun (z_14 : OS) => bd (fX9_models fu z_14) (fun (r_16 : Int32) => bd (fX9_records fu z_14 r_16) (fun (w_20 : Int32 × OS) => nm w_20.1 (fun (r_18 : Int32) => nm w_20.2 (fun (z_19 : OS) => some (r_18, z_19))))))) else some ((0 : Int32), z_9)))))))))))
set_option maxRecDepth 100000 in
set_option maxHeartbeats 4000000 in
theorem mX9_dropClause (l : Launch) (D : va_G) (cI cB cZ cO : ClassId) (q : Nat → Nat) (sz : Nat) (fu : Nat) (z : OS) (p1 : Int32) {r : Int32} {y1 : OS} (hf : fX9_dropClause fu z p1 = some (r, y1)) : Met l yX9_dropClause wsX9_dropClause ({ frames := 4, cells := 0, slots := 0, locals := 91 }) (va_Pc [.ref (q 0), .int p1] (Pw D (gT cI cB cZ cO) (wM cI cB cZ q z) sz)) (Qw D (va_A (wM cI cB cZ q z) sz) (some (.int r)) (wM cI cB cZ q y1)) 0 0 (va_A (wM cI cB cZ q z) sz) := by
  unfold fX9_dropClause at hf
  refine metW (ret := (some .int)) (own := RX9) rfl (by decide) rfl (Nat.le_of_ble_eq_true rfl) (fun p e s m args below meth c ls A hx hb hr hml hown hlocks hts hK hA hP hD hS hl => ?_)
  have k46 := (hts (.fieldLink RX9 46 "ResolutionProverModel" "thrown" "I") (List.mem_of_getElem? (i := 1) rfl))
  have hiX9 : ∀ w ∈ wsX90, w ∈ wsX9_dropClause := (memIn_p [69, 70, 71, 72, 73, 74, 75, 76, 77, 78, 79, 80, 81, 82, 83, 84, 85, 86, 87, 88, 89, 90, 91, 92, 93, 94, 95] rfl)
  have hl : lv_has ls 2 [(0, .ref (q 0)), (1, .int p1)] := hl
  refine lv_aload_n hx hb dX9_dropClause_0 rfl (lv_at hl 0 rfl) ?_
  refine lv_iconst (v := 0) hx hb dX9_dropClause_1 (by decide) ?_
  refine va_put (D := D) (ci := 8) (v := .int (0 : Int32)) (ty := .int) (C := RX9) (T := TX9) (N := 27) hx hb hts hiX9 tyX9 tyX9_ok nmX9 hown hK hP hD hS 0 rfl rfl 0 (by decide) k46 (fun _ h9 => h9) rfl (by decide +kernel) rfl rfl (Nat.le_of_ble_eq_true rfl) dX9_dropClause_2 (fun H locs hP hD hS => ?_)
  obtain ⟨z_1, ez_1, hf⟩ := nm_ob hf
  have hP : va_P D vwCl (wM cI cB cZ q z_1) H := by rw [ez_1]; exact hP
  have hD : va_D A (wM cI cB cZ q z_1) := by rw [ez_1]; exact hD
  refine lv_aload_n hx hb dX9_dropClause_5 rfl (lv_at hl 0 rfl) ?_
  refine lv_iload_n hx hb dX9_dropClause_6 rfl (lv_at hl 1 rfl) ?_
  obtain ⟨⟨r_2, z_3⟩, hc_5, hf⟩ := bd_ob hf
  have hf := nm_st hf
  have hf := nm_st hf
  refine weV (As := [.int p1]) (rest := []) ⟨hx, hb, hml, hown, hts⟩ (mX9_noClause l D cI cB cZ cO q _ fu z_1 p1 hc_5) (cwV 1 hts gX9_dropClause_X9_noClause rfl rfl rfl (by decide +kernel) ⟨Nat.le_of_ble_eq_true rfl, Nat.le_of_ble_eq_true rfl⟩) hK hP hD hS hA (va_recv hK hP (ci := 8) (q0 := 0) rfl rfl) rfl hl.1 rfl (Nat.le_of_ble_eq_true rfl) dX9_dropClause_7 ⟨Nat.zero_le _, Nat.zero_le _⟩ (fun H locs hP hD hS => ?_)
  refine lv_if_ne (tgt := 26) hx hb dX9_dropClause_10 (by decide) (fun c_10 => ?_) (fun c_10 => ?_)
  · have hf := ip c_10 hf
    refine lv_iconst (v := 0) hx hb dX9_dropClause_26 (by decide) ?_
    exact rW_i hx hb hr hlocks hP hD hS (congrArg (fun q9 => q9.1) (so_ob hf)) (congrArg (fun (q9 : Int32 × (OS)) => wM cI cB cZ q q9.2) (so_ob hf)) dX9_dropClause_27
  · have hf := iqn c_10 hf
    refine lv_aload_n hx hb dX9_dropClause_13 rfl (lv_at hl 0 rfl) ?_
    refine lv_aload_n hx hb dX9_dropClause_14 rfl (lv_at hl 0 rfl) ?_
    refine lv_iload_n hx hb dX9_dropClause_15 rfl (lv_at hl 1 rfl) ?_
    obtain ⟨r_6, hc_7, hf⟩ := bd_ob hf
    refine rdV (As := [.int p1]) (rest := [.ref (q 0)]) ⟨hx, hb, hml, hown, hts⟩ (mX9_isParent l D cI cB cZ cO q fu z_3 p1 hc_7) (cwV 1 hts gX9_dropClause_X9_isParent rfl rfl rfl (by decide +kernel) ⟨Nat.le_of_ble_eq_true rfl, Nat.le_of_ble_eq_true rfl⟩) hK hP (va_recv hK hP (ci := 8) (q0 := 0) rfl rfl) rfl hl.1 rfl (Nat.le_of_ble_eq_true rfl) dX9_dropClause_16 ⟨Nat.zero_le _, Nat.zero_le _⟩ ?_
    refine lv_iconst (v := 2) hx hb dX9_dropClause_19 (by decide) ?_
    obtain ⟨⟨r_8, z_9⟩, hc_11, hf⟩ := bd_ob hf
    have hf := nm_st hf
    have hf := nm_st hf
    refine weV (As := [.int r_6, .int (2 : Int32)]) (rest := []) ⟨hx, hb, hml, hown, hts⟩ (mX9_throwsIf l D cI cB cZ cO q _ fu z_3 r_6 (2 : Int32) hc_11) (cwV 2 hts gX9_dropClause_X9_throwsIf rfl rfl rfl (by decide +kernel) ⟨Nat.le_of_ble_eq_true rfl, Nat.le_of_ble_eq_true rfl⟩) hK hP hD hS hA (va_recv hK hP (ci := 8) (q0 := 0) rfl rfl) rfl hl.1 rfl (Nat.le_of_ble_eq_true rfl) dX9_dropClause_20 ⟨Nat.zero_le _, Nat.zero_le _⟩ (fun H locs hP hD hS => ?_)
    refine lv_if_eq (tgt := 28) hx hb dX9_dropClause_23 (by decide) (fun c_23 => ?_) (fun c_23 => ?_)
    · have hf := ip c_23 hf
      refine lv_aload_n hx hb dX9_dropClause_28 rfl (lv_at hl 0 rfl) ?_
      obtain ⟨z_12, hc_13, hf⟩ := bd_ob hf
      refine weV (As := []) (rest := []) ⟨hx, hb, hml, hown, hts⟩ (mX9_keeps l D cI cB cZ cO q _ fu z_9 hc_13) (cwV 0 hts gX9_dropClause_X9_keeps rfl rfl rfl (by decide +kernel) ⟨Nat.le_of_ble_eq_true rfl, Nat.le_of_ble_eq_true rfl⟩) hK hP hD hS hA (va_recv hK hP (ci := 8) (q0 := 0) rfl rfl) rfl hl.1 rfl (Nat.le_of_ble_eq_true rfl) dX9_dropClause_29 ⟨Nat.zero_le _, Nat.zero_le _⟩ (fun H locs hP hD hS => ?_)
      refine lv_aload_n hx hb dX9_dropClause_32 rfl (lv_at hl 0 rfl) ?_
      refine lv_iload_n hx hb dX9_dropClause_33 rfl (lv_at hl 1 rfl) ?_
      obtain ⟨z_14, hc_15, hf⟩ := bd_ob hf
      refine weV (As := [.int p1]) (rest := []) ⟨hx, hb, hml, hown, hts⟩ (mX9_drops l D cI cB cZ cO q _ fu z_12 p1 hc_15) (cwV 1 hts gX9_dropClause_X9_drops rfl rfl rfl (by decide +kernel) ⟨Nat.le_of_ble_eq_true rfl, Nat.le_of_ble_eq_true rfl⟩) hK hP hD hS hA (va_recv hK hP (ci := 8) (q0 := 0) rfl rfl) rfl hl.1 rfl (Nat.le_of_ble_eq_true rfl) dX9_dropClause_34 ⟨Nat.zero_le _, Nat.zero_le _⟩ (fun H locs hP hD hS => ?_)
      refine lv_aload_n hx hb dX9_dropClause_37 rfl (lv_at hl 0 rfl) ?_
      refine lv_aload_n hx hb dX9_dropClause_38 rfl (lv_at hl 0 rfl) ?_
      obtain ⟨r_16, hc_17, hf⟩ := bd_ob hf
      refine rdV (As := []) (rest := [.ref (q 0)]) ⟨hx, hb, hml, hown, hts⟩ (mX9_models l D cI cB cZ cO q fu z_14 hc_17) (cwV 0 hts gX9_dropClause_X9_models rfl rfl rfl (by decide +kernel) ⟨Nat.le_of_ble_eq_true rfl, Nat.le_of_ble_eq_true rfl⟩) hK hP (va_recv hK hP (ci := 8) (q0 := 0) rfl rfl) rfl hl.1 rfl (Nat.le_of_ble_eq_true rfl) dX9_dropClause_39 ⟨Nat.zero_le _, Nat.zero_le _⟩ ?_
      obtain ⟨⟨r_18, z_19⟩, hc_21, hf⟩ := bd_ob hf
      have hf := nm_st hf
      have hf := nm_st hf
      refine weV (As := [.int r_16]) (rest := []) ⟨hx, hb, hml, hown, hts⟩ (mX9_records l D cI cB cZ cO q _ fu z_14 r_16 hc_21) (cwV 1 hts gX9_dropClause_X9_records rfl rfl rfl (by decide +kernel) ⟨Nat.le_of_ble_eq_true rfl, Nat.le_of_ble_eq_true rfl⟩) hK hP hD hS hA (va_recv hK hP (ci := 8) (q0 := 0) rfl rfl) rfl hl.1 rfl (Nat.le_of_ble_eq_true rfl) dX9_dropClause_42 ⟨Nat.zero_le _, Nat.zero_le _⟩ (fun H locs hP hD hS => ?_)
      exact rW_i hx hb hr hlocks hP hD hS (congrArg (fun q9 => q9.1) (so_ob hf)) (congrArg (fun (q9 : Int32 × (OS)) => wM cI cB cZ q q9.2) (so_ob hf)) dX9_dropClause_45
    · have hf := iq c_23 hf
      refine lv_iconst (v := 0) hx hb dX9_dropClause_26 (by decide) ?_
      exact rW_i hx hb hr hlocks hP hD hS (congrArg (fun q9 => q9.1) (so_ob hf)) (congrArg (fun (q9 : Int32 × (OS)) => wM cI cB cZ q q9.2) (so_ob hf)) dX9_dropClause_27

def fX9_negateVariable (fu : Nat) (z : OS) (p1 : Int32) : Option (Int32 × (OS)) :=
  nm (sI z 0 (0 : Int32)) (fun (z_1 : OS) => bd (fX9_noVariable fu z_1 p1) (fun (w_4 : Int32 × OS) => nm w_4.1 (fun (r_2 : Int32) => nm w_4.2 (fun (z_3 : OS) => (if r_2 = (0 : Int32) then bd (fX9_keeps fu z_3) (fun (z_6 : OS) => bd (fX9_negates fu z_6 p1) (fun (w_10 : Int32 × OS) => nm w_10.1 (fun (r_8 : Int32) => nm w_10.2 (fun (z_9 : OS) => bd (fX9_records fu z_9 r_8) (fun (w_14 : Int32 × OS) => nm w_14.1 (fun (r_12 : Int32) => nm w_14.2 (fun (z_13 : OS) => some (r_12, z_13)))))))) else some ((0 : Int32), z_3))))))
set_option maxRecDepth 100000 in
set_option maxHeartbeats 4000000 in
theorem mX9_negateVariable (l : Launch) (D : va_G) (cI cB cZ cO : ClassId) (q : Nat → Nat) (sz : Nat) (fu : Nat) (z : OS) (p1 : Int32) {r : Int32} {y1 : OS} (hf : fX9_negateVariable fu z p1 = some (r, y1)) : Met l yX9_negateVariable wsX9_negateVariable ({ frames := 2, cells := 0, slots := 0, locals := 48 }) (va_Pc [.ref (q 0), .int p1] (Pw D (gT cI cB cZ cO) (wM cI cB cZ q z) sz)) (Qw D (va_A (wM cI cB cZ q z) sz) (some (.int r)) (wM cI cB cZ q y1)) 0 0 (va_A (wM cI cB cZ q z) sz) := by
  unfold fX9_negateVariable at hf
  refine metW (ret := (some .int)) (own := RX9) rfl (by decide) rfl (Nat.le_of_ble_eq_true rfl) (fun p e s m args below meth c ls A hx hb hr hml hown hlocks hts hK hA hP hD hS hl => ?_)
  have k46 := (hts (.fieldLink RX9 46 "ResolutionProverModel" "thrown" "I") (List.mem_of_getElem? (i := 1) rfl))
  have hiX9 : ∀ w ∈ wsX90, w ∈ wsX9_negateVariable := (memIn_p [49, 50, 51, 52, 53, 54, 55, 56, 57, 58, 59, 60, 61, 62, 63, 64, 65, 66, 67, 68, 69, 70, 71, 72, 73, 74, 75] rfl)
  have hl : lv_has ls 2 [(0, .ref (q 0)), (1, .int p1)] := hl
  refine lv_aload_n hx hb dX9_negateVariable_0 rfl (lv_at hl 0 rfl) ?_
  refine lv_iconst (v := 0) hx hb dX9_negateVariable_1 (by decide) ?_
  refine va_put (D := D) (ci := 8) (v := .int (0 : Int32)) (ty := .int) (C := RX9) (T := TX9) (N := 27) hx hb hts hiX9 tyX9 tyX9_ok nmX9 hown hK hP hD hS 0 rfl rfl 0 (by decide) k46 (fun _ h9 => h9) rfl (by decide +kernel) rfl rfl (Nat.le_of_ble_eq_true rfl) dX9_negateVariable_2 (fun H locs hP hD hS => ?_)
  obtain ⟨z_1, ez_1, hf⟩ := nm_ob hf
  have hP : va_P D vwCl (wM cI cB cZ q z_1) H := by rw [ez_1]; exact hP
  have hD : va_D A (wM cI cB cZ q z_1) := by rw [ez_1]; exact hD
  refine lv_aload_n hx hb dX9_negateVariable_5 rfl (lv_at hl 0 rfl) ?_
  refine lv_iload_n hx hb dX9_negateVariable_6 rfl (lv_at hl 1 rfl) ?_
  obtain ⟨⟨r_2, z_3⟩, hc_5, hf⟩ := bd_ob hf
  have hf := nm_st hf
  have hf := nm_st hf
  refine weV (As := [.int p1]) (rest := []) ⟨hx, hb, hml, hown, hts⟩ (mX9_noVariable l D cI cB cZ cO q _ fu z_1 p1 hc_5) (cwV 1 hts gX9_negateVariable_X9_noVariable rfl rfl rfl (by decide +kernel) ⟨Nat.le_of_ble_eq_true rfl, Nat.le_of_ble_eq_true rfl⟩) hK hP hD hS hA (va_recv hK hP (ci := 8) (q0 := 0) rfl rfl) rfl hl.1 rfl (Nat.le_of_ble_eq_true rfl) dX9_negateVariable_7 ⟨Nat.zero_le _, Nat.zero_le _⟩ (fun H locs hP hD hS => ?_)
  refine lv_if_eq (tgt := 15) hx hb dX9_negateVariable_10 (by decide) (fun c_10 => ?_) (fun c_10 => ?_)
  · have hf := ip c_10 hf
    refine lv_aload_n hx hb dX9_negateVariable_15 rfl (lv_at hl 0 rfl) ?_
    obtain ⟨z_6, hc_7, hf⟩ := bd_ob hf
    refine weV (As := []) (rest := []) ⟨hx, hb, hml, hown, hts⟩ (mX9_keeps l D cI cB cZ cO q _ fu z_3 hc_7) (cwV 0 hts gX9_negateVariable_X9_keeps rfl rfl rfl (by decide +kernel) ⟨Nat.le_of_ble_eq_true rfl, Nat.le_of_ble_eq_true rfl⟩) hK hP hD hS hA (va_recv hK hP (ci := 8) (q0 := 0) rfl rfl) rfl hl.1 rfl (Nat.le_of_ble_eq_true rfl) dX9_negateVariable_16 ⟨Nat.zero_le _, Nat.zero_le _⟩ (fun H locs hP hD hS => ?_)
    refine lv_aload_n hx hb dX9_negateVariable_19 rfl (lv_at hl 0 rfl) ?_
    refine lv_aload_n hx hb dX9_negateVariable_20 rfl (lv_at hl 0 rfl) ?_
    refine lv_iload_n hx hb dX9_negateVariable_21 rfl (lv_at hl 1 rfl) ?_
    obtain ⟨⟨r_8, z_9⟩, hc_11, hf⟩ := bd_ob hf
    have hf := nm_st hf
    have hf := nm_st hf
    refine weV (As := [.int p1]) (rest := [.ref (q 0)]) ⟨hx, hb, hml, hown, hts⟩ (mX9_negates l D cI cB cZ cO q _ fu z_6 p1 hc_11) (cwV 1 hts gX9_negateVariable_X9_negates rfl rfl rfl (by decide +kernel) ⟨Nat.le_of_ble_eq_true rfl, Nat.le_of_ble_eq_true rfl⟩) hK hP hD hS hA (va_recv hK hP (ci := 8) (q0 := 0) rfl rfl) rfl hl.1 rfl (Nat.le_of_ble_eq_true rfl) dX9_negateVariable_22 ⟨Nat.zero_le _, Nat.zero_le _⟩ (fun H locs hP hD hS => ?_)
    obtain ⟨⟨r_12, z_13⟩, hc_15, hf⟩ := bd_ob hf
    have hf := nm_st hf
    have hf := nm_st hf
    refine weV (As := [.int r_8]) (rest := []) ⟨hx, hb, hml, hown, hts⟩ (mX9_records l D cI cB cZ cO q _ fu z_9 r_8 hc_15) (cwV 1 hts gX9_negateVariable_X9_records rfl rfl rfl (by decide +kernel) ⟨Nat.le_of_ble_eq_true rfl, Nat.le_of_ble_eq_true rfl⟩) hK hP hD hS hA (va_recv hK hP (ci := 8) (q0 := 0) rfl rfl) rfl hl.1 rfl (Nat.le_of_ble_eq_true rfl) dX9_negateVariable_25 ⟨Nat.zero_le _, Nat.zero_le _⟩ (fun H locs hP hD hS => ?_)
    exact rW_i hx hb hr hlocks hP hD hS (congrArg (fun q9 => q9.1) (so_ob hf)) (congrArg (fun (q9 : Int32 × (OS)) => wM cI cB cZ q q9.2) (so_ob hf)) dX9_negateVariable_28
  · have hf := iq c_10 hf
    refine lv_iconst (v := 0) hx hb dX9_negateVariable_13 (by decide) ?_
    exact rW_i hx hb hr hlocks hP hD hS (congrArg (fun q9 => q9.1) (so_ob hf)) (congrArg (fun (q9 : Int32 × (OS)) => wM cI cB cZ q q9.2) (so_ob hf)) dX9_negateVariable_14

def fX9_reduce (fu : Nat) (z : OS) : Option (Int32 × (OS)) :=
  nm (sI z 0 (0 : Int32)) (fun (z_1 : OS) => bd (fX9_keeps fu z_1) (fun (z_2 : OS) => bd (fX9_reduces fu z_2) (fun (w_6 : Int32 × OS) => nm w_6.1 (fun (r_4 : Int32) => nm w_6.2 (fun (z_5 : OS) => bd (fX9_records fu z_5 r_4) (fun (w_10 : Int32 × OS) => nm w_10.1 (fun (r_8 : Int32) => nm w_10.2 (fun (z_9 : OS) => some (r_8, z_9)))))))))
set_option maxRecDepth 100000 in
set_option maxHeartbeats 4000000 in
theorem mX9_reduce (l : Launch) (D : va_G) (cI cB cZ cO : ClassId) (q : Nat → Nat) (sz : Nat) (fu : Nat) (z : OS) {r : Int32} {y1 : OS} (hf : fX9_reduce fu z = some (r, y1)) : Met l yX9_reduce wsX9_reduce ({ frames := 5, cells := 0, slots := 0, locals := 110 }) (va_Pc [.ref (q 0)] (Pw D (gT cI cB cZ cO) (wM cI cB cZ q z) sz)) (Qw D (va_A (wM cI cB cZ q z) sz) (some (.int r)) (wM cI cB cZ q y1)) 0 0 (va_A (wM cI cB cZ q z) sz) := by
  unfold fX9_reduce at hf
  refine metW (ret := (some .int)) (own := RX9) rfl (by decide) rfl (Nat.le_of_ble_eq_true rfl) (fun p e s m args below meth c ls A hx hb hr hml hown hlocks hts hK hA hP hD hS hl => ?_)
  have k46 := (hts (.fieldLink RX9 46 "ResolutionProverModel" "thrown" "I") (List.mem_of_getElem? (i := 1) rfl))
  have hiX9 : ∀ w ∈ wsX90, w ∈ wsX9_reduce := (memIn_p [58, 59, 60, 61, 62, 63, 64, 65, 66, 67, 68, 69, 70, 71, 72, 73, 74, 75, 76, 77, 78, 79, 80, 81, 82, 83, 84] rfl)
  have hl : lv_has ls 1 [(0, .ref (q 0))] := hl
  refine lv_aload_n hx hb dX9_reduce_0 rfl (lv_at hl 0 rfl) ?_
  refine lv_iconst (v := 0) hx hb dX9_reduce_1 (by decide) ?_
  refine va_put (D := D) (ci := 8) (v := .int (0 : Int32)) (ty := .int) (C := RX9) (T := TX9) (N := 27) hx hb hts hiX9 tyX9 tyX9_ok nmX9 hown hK hP hD hS 0 rfl rfl 0 (by decide) k46 (fun _ h9 => h9) rfl (by decide +kernel) rfl rfl (Nat.le_of_ble_eq_true rfl) dX9_reduce_2 (fun H locs hP hD hS => ?_)
  obtain ⟨z_1, ez_1, hf⟩ := nm_ob hf
  have hP : va_P D vwCl (wM cI cB cZ q z_1) H := by rw [ez_1]; exact hP
  have hD : va_D A (wM cI cB cZ q z_1) := by rw [ez_1]; exact hD
  refine lv_aload_n hx hb dX9_reduce_5 rfl (lv_at hl 0 rfl) ?_
  obtain ⟨z_2, hc_3, hf⟩ := bd_ob hf
  refine weV (As := []) (rest := []) ⟨hx, hb, hml, hown, hts⟩ (mX9_keeps l D cI cB cZ cO q _ fu z_1 hc_3) (cwV 0 hts gX9_reduce_X9_keeps rfl rfl rfl (by decide +kernel) ⟨Nat.le_of_ble_eq_true rfl, Nat.le_of_ble_eq_true rfl⟩) hK hP hD hS hA (va_recv hK hP (ci := 8) (q0 := 0) rfl rfl) rfl hl.1 rfl (Nat.le_of_ble_eq_true rfl) dX9_reduce_6 ⟨Nat.zero_le _, Nat.zero_le _⟩ (fun H locs hP hD hS => ?_)
  refine lv_aload_n hx hb dX9_reduce_9 rfl (lv_at hl 0 rfl) ?_
  refine lv_aload_n hx hb dX9_reduce_10 rfl (lv_at hl 0 rfl) ?_
  obtain ⟨⟨r_4, z_5⟩, hc_7, hf⟩ := bd_ob hf
  have hf := nm_st hf
  have hf := nm_st hf
  refine weV (As := []) (rest := [.ref (q 0)]) ⟨hx, hb, hml, hown, hts⟩ (mX9_reduces l D cI cB cZ cO q _ fu z_2 hc_7) (cwV 0 hts gX9_reduce_X9_reduces rfl rfl rfl (by decide +kernel) ⟨Nat.le_of_ble_eq_true rfl, Nat.le_of_ble_eq_true rfl⟩) hK hP hD hS hA (va_recv hK hP (ci := 8) (q0 := 0) rfl rfl) rfl hl.1 rfl (Nat.le_of_ble_eq_true rfl) dX9_reduce_11 ⟨Nat.zero_le _, Nat.zero_le _⟩ (fun H locs hP hD hS => ?_)
  obtain ⟨⟨r_8, z_9⟩, hc_11, hf⟩ := bd_ob hf
  have hf := nm_st hf
  have hf := nm_st hf
  refine weV (As := [.int r_4]) (rest := []) ⟨hx, hb, hml, hown, hts⟩ (mX9_records l D cI cB cZ cO q _ fu z_5 r_4 hc_11) (cwV 1 hts gX9_reduce_X9_records rfl rfl rfl (by decide +kernel) ⟨Nat.le_of_ble_eq_true rfl, Nat.le_of_ble_eq_true rfl⟩) hK hP hD hS hA (va_recv hK hP (ci := 8) (q0 := 0) rfl rfl) rfl hl.1 rfl (Nat.le_of_ble_eq_true rfl) dX9_reduce_14 ⟨Nat.zero_le _, Nat.zero_le _⟩ (fun H locs hP hD hS => ?_)
  exact rW_i hx hb hr hlocks hP hD hS (congrArg (fun q9 => q9.1) (so_ob hf)) (congrArg (fun (q9 : Int32 × (OS)) => wM cI cB cZ q q9.2) (so_ob hf)) dX9_reduce_17

def fX9_undo (fu : Nat) (z : OS) : Option (Int32 × (OS)) :=
  nm (sI z 0 (0 : Int32)) (fun (z_1 : OS) => jn (κ := Int32 → Option (Int32 × (OS))) (fun (t1_18 : Int32) => bd (fX9_throwsIf fu z_1 t1_18 (1 : Int32)) (fun (w_4 : Int32 × OS) => nm w_4.1 (fun (r_2 : Int32) => nm w_4.2 (fun (z_3 : OS) => (if r_2 = (0 : Int32) then nm (sI z_3 7 ((z_3.1 7) - (1 : Int32))) (fun (z_6 : OS) => bd (fX9_copies_two fu 7336 (z_6.2 4) 917 (z_6.2 1) (z_6.1 7) (0 : Int32)) (fun (x_7 : (Nat → Int32)) => nm (sA z_6 1 x_7) (fun (z_9 : OS) => some ((z_9.1 7), z_9)))) else some ((0 : Int32), z_3)))))) (fun j18 => (if ¬ (z_1.1 7) = (0 : Int32) then j18 (0 : Int32) else j18 (1 : Int32))))
set_option maxRecDepth 100000 in
set_option maxHeartbeats 4000000 in
theorem mX9_undo (l : Launch) (D : va_G) (cI cB cZ cO : ClassId) (q : Nat → Nat) (sz : Nat) (fu : Nat) (z : OS) {r : Int32} {y1 : OS} (hf : fX9_undo fu z = some (r, y1)) : Met l yX9_undo wsX9_undo ({ frames := 1, cells := 0, slots := 0, locals := 24 }) (va_Pc [.ref (q 0)] (Pw D (gT cI cB cZ cO) (wM cI cB cZ q z) sz)) (Qw D (va_A (wM cI cB cZ q z) sz) (some (.int r)) (wM cI cB cZ q y1)) 0 0 (va_A (wM cI cB cZ q z) sz) := by
  unfold fX9_undo at hf
  refine metW (ret := (some .int)) (own := RX9) rfl (by decide) rfl (Nat.le_of_ble_eq_true rfl) (fun p e s m args below meth c ls A hx hb hr hml hown hlocks hts hK hA hP hD hS hl => ?_)
  have k46 := (hts (.fieldLink RX9 46 "ResolutionProverModel" "thrown" "I") (List.mem_of_getElem? (i := 1) rfl))
  have k53 := (hts (.fieldLink RX9 53 "ResolutionProverModel" "depth" "I") (List.mem_of_getElem? (i := 2) rfl))
  have k19 := (hts (.fieldLink RX9 19 "ResolutionProverModel" "past" "[I") (List.mem_of_getElem? (i := 3) rfl))
  have k9 := (hts (.fieldLink RX9 9 "ResolutionProverModel" "now" "[I") (List.mem_of_getElem? (i := 4) rfl))
  have hiX9 : ∀ w ∈ wsX90, w ∈ wsX9_undo := (memIn_p [13, 14, 15, 16, 17, 18, 19, 20, 21, 22, 23, 24, 25, 26, 27, 28, 29, 30, 31, 32, 33, 34, 35, 36, 37, 38, 39] rfl)
  have hl : lv_has ls 1 [(0, .ref (q 0))] := hl
  refine lv_aload_n hx hb dX9_undo_0 rfl (lv_at hl 0 rfl) ?_
  refine lv_iconst (v := 0) hx hb dX9_undo_1 (by decide) ?_
  refine va_put (D := D) (ci := 8) (v := .int (0 : Int32)) (ty := .int) (C := RX9) (T := TX9) (N := 27) hx hb hts hiX9 tyX9 tyX9_ok nmX9 hown hK hP hD hS 0 rfl rfl 0 (by decide) k46 (fun _ h9 => h9) rfl (by decide +kernel) rfl rfl (Nat.le_of_ble_eq_true rfl) dX9_undo_2 (fun H locs hP hD hS => ?_)
  obtain ⟨z_1, ez_1, hf⟩ := nm_ob hf
  have hP : va_P D vwCl (wM cI cB cZ q z_1) H := by rw [ez_1]; exact hP
  have hD : va_D A (wM cI cB cZ q z_1) := by rw [ez_1]; exact hD
  refine lv_aload_n hx hb dX9_undo_5 rfl (lv_at hl 0 rfl) ?_
  refine lv_aload_n hx hb dX9_undo_6 rfl (lv_at hl 0 rfl) ?_
  refine va_get (D := D) (ci := 8) (v := .int (z_1.1 7)) (C := RX9) (T := TX9) (N := 27) hx hb hts hiX9 hown hK hP 0 rfl rfl 7 (by decide) k53 (fun _ h9 => h9) rfl dX9_undo_7 ?_
  obtain ⟨j18, ej18, hf⟩ := jn_ob hf
  have hp18 : ∀ (t1_18 : Int32) (H : Heap) (locs : List Loc) (ls : Array Slot), j18 t1_18 = some (r, y1) → va_P D vwCl (wM cI cB cZ q z_1) H → va_D A (wM cI cB cZ q z_1) → va_S A s.heap H locs → lv_has ls 1 [(0, .ref (q 0))] → W p l e (headSpec wsX9_undo { frames := 1, cells := 0, slots := 0, locals := 24 }).room s m args below meth c H locs 0 0 (MQ below (Qw D A (some (.int r)) (wM cI cB cZ q y1)) args s 0 0 A) (F0 m 18 ls [.int t1_18, .ref (q 0)]) := by
    intro t1_18 H locs ls hf hP hD hS hl
    rw [ej18] at hf
    refine lv_iconst (v := 1) hx hb dX9_undo_18 (by decide) ?_
    obtain ⟨⟨r_2, z_3⟩, hc_5, hf⟩ := bd_ob hf
    have hf := nm_st hf
    have hf := nm_st hf
    refine weV (As := [.int t1_18, .int (1 : Int32)]) (rest := []) ⟨hx, hb, hml, hown, hts⟩ (mX9_throwsIf l D cI cB cZ cO q _ fu z_1 t1_18 (1 : Int32) hc_5) (cwV 2 hts gX9_undo_X9_throwsIf rfl rfl rfl (by decide +kernel) ⟨Nat.le_of_ble_eq_true rfl, Nat.le_of_ble_eq_true rfl⟩) hK hP hD hS hA (va_recv hK hP (ci := 8) (q0 := 0) rfl rfl) rfl hl.1 rfl (Nat.le_of_ble_eq_true rfl) dX9_undo_19 ⟨Nat.zero_le _, Nat.zero_le _⟩ (fun H locs hP hD hS => ?_)
    refine lv_if_eq (tgt := 27) hx hb dX9_undo_22 (by decide) (fun c_22 => ?_) (fun c_22 => ?_)
    · have hf := ip c_22 hf
      refine lv_aload_n hx hb dX9_undo_27 rfl (lv_at hl 0 rfl) ?_
      refine lv_dup hx hb dX9_undo_28 rfl ?_
      refine va_get (D := D) (ci := 8) (v := .int (z_3.1 7)) (C := RX9) (T := TX9) (N := 27) hx hb hts hiX9 hown hK hP 0 rfl rfl 7 (by decide) k53 (fun _ h9 => h9) rfl dX9_undo_29 ?_
      refine lv_iconst (v := 1) hx hb dX9_undo_32 (by decide) ?_
      refine lv_isub hx hb dX9_undo_33 ?_
      refine va_put (D := D) (ci := 8) (v := .int ((z_3.1 7) - (1 : Int32))) (ty := .int) (C := RX9) (T := TX9) (N := 27) hx hb hts hiX9 tyX9 tyX9_ok nmX9 hown hK hP hD hS 0 rfl rfl 7 (by decide) k53 (fun _ h9 => h9) rfl (by decide +kernel) rfl rfl (Nat.le_of_ble_eq_true rfl) dX9_undo_34 (fun H locs hP hD hS => ?_)
      obtain ⟨z_6, ez_6, hf⟩ := nm_ob hf
      have hP : va_P D vwCl (wM cI cB cZ q z_6) H := by rw [ez_6]; exact hP
      have hD : va_D A (wM cI cB cZ q z_6) := by rw [ez_6]; exact hD
      refine lv_aload_n hx hb dX9_undo_37 rfl (lv_at hl 0 rfl) ?_
      refine va_get (D := D) (ci := 8) (v := .ref (q 4)) (C := RX9) (T := TX9) (N := 27) hx hb hts hiX9 hown hK hP 0 rfl rfl 4 (by decide) k19 (fun _ h9 => h9) rfl dX9_undo_38 ?_
      refine lv_aload_n hx hb dX9_undo_41 rfl (lv_at hl 0 rfl) ?_
      refine va_get (D := D) (ci := 8) (v := .int (z_6.1 7)) (C := RX9) (T := TX9) (N := 27) hx hb hts hiX9 hown hK hP 0 rfl rfl 7 (by decide) k53 (fun _ h9 => h9) rfl dX9_undo_42 ?_
      refine lv_aload_n hx hb dX9_undo_45 rfl (lv_at hl 0 rfl) ?_
      refine va_get (D := D) (ci := 8) (v := .ref (q 1)) (C := RX9) (T := TX9) (N := 27) hx hb hts hiX9 hown hK hP 0 rfl rfl 1 (by decide) k9 (fun _ h9 => h9) rfl dX9_undo_46 ?_
      refine lv_iconst (v := 0) hx hb dX9_undo_49 (by decide) ?_
      obtain ⟨x_7, hc_8, hf⟩ := bd_ob hf
      refine wrS (As := [.ref (q 4), .int (z_6.1 7), .ref (q 1), .int (0 : Int32)]) (rest := []) (ws2 := wM cI cB cZ q (sA z_6 1 x_7)) ⟨hx, hb, hml, hown, hts⟩ (mX9_copies_two l D cI cB cZ cO (q 4) (q 1) _ fu 7336 (z_6.2 4) 917 (z_6.2 1) (z_6.1 7) (0 : Int32) hc_8) (va_cwS 4 hts gX9_undo_X9_copies rfl rfl rfl (by decide +kernel) ⟨Nat.le_of_ble_eq_true rfl, Nat.le_of_ble_eq_true rfl⟩) hK hP hD hS hA [4, 1] [0, 2, 3, 5, 6, 7, 8, 9, 10] [0, 10, 1, 2, 9, 3, 4, 5, 6, 7, 8] rfl (hP.sub [4, 1] rfl) (by decide) rfl (by decide) (by decide) (by decide) rfl  rfl hl.1 rfl (Nat.le_of_ble_eq_true rfl) dX9_undo_50 ⟨Nat.zero_le _, Nat.zero_le _⟩ (fun H locs hP hD hS => ?_)
      obtain ⟨z_9, ez_9, hf⟩ := nm_ob hf
      have hP : va_P D vwCl (wM cI cB cZ q z_9) H := by rw [ez_9]; exact hP
      have hD : va_D A (wM cI cB cZ q z_9) := by rw [ez_9]; exact hD
      refine lv_aload_n hx hb dX9_undo_53 rfl (lv_at hl 0 rfl) ?_
      refine va_get (D := D) (ci := 8) (v := .int (z_9.1 7)) (C := RX9) (T := TX9) (N := 27) hx hb hts hiX9 hown hK hP 0 rfl rfl 7 (by decide) k53 (fun _ h9 => h9) rfl dX9_undo_54 ?_
      exact rW_i hx hb hr hlocks hP hD hS (congrArg (fun q9 => q9.1) (so_ob hf)) (congrArg (fun (q9 : Int32 × (OS)) => wM cI cB cZ q q9.2) (so_ob hf)) dX9_undo_57
    · have hf := iq c_22 hf
      refine lv_iconst (v := 0) hx hb dX9_undo_25 (by decide) ?_
      exact rW_i hx hb hr hlocks hP hD hS (congrArg (fun q9 => q9.1) (so_ob hf)) (congrArg (fun (q9 : Int32 × (OS)) => wM cI cB cZ q q9.2) (so_ob hf)) dX9_undo_26
  refine lv_if_ne (tgt := 17) hx hb dX9_undo_10 (by decide) (fun c_10 => ?_) (fun c_10 => ?_)
  · have hf := ip c_10 hf
    refine lv_iconst (v := 0) hx hb dX9_undo_17 (by decide) ?_
    exact hp18 (0 : Int32) _ _ _ hf hP hD hS hl
  · have hf := iqn c_10 hf
    refine lv_iconst (v := 1) hx hb dX9_undo_13 (by decide) ?_
    refine lv_goto (tgt := 18) hx hb dX9_undo_14 (by decide) ?_
    exact hp18 (1 : Int32) _ _ _ hf hP hD hS hl

def fX9_undoDepth (fu : Nat) (z : OS) : Option (Int32 × (OS)) :=
  nm (sI z 0 (0 : Int32)) (fun (z_1 : OS) => some ((z_1.1 7), z_1))
set_option maxRecDepth 100000 in
set_option maxHeartbeats 4000000 in
theorem mX9_undoDepth (l : Launch) (D : va_G) (cI cB cZ cO : ClassId) (q : Nat → Nat) (sz : Nat) (fu : Nat) (z : OS) {r : Int32} {y1 : OS} (hf : fX9_undoDepth fu z = some (r, y1)) : Met l yX9_undoDepth wsX9_undoDepth ({ frames := 0, cells := 0, slots := 0, locals := 0 }) (va_Pc [.ref (q 0)] (Pw D (gT cI cB cZ cO) (wM cI cB cZ q z) sz)) (Qw D (va_A (wM cI cB cZ q z) sz) (some (.int r)) (wM cI cB cZ q y1)) 0 0 (va_A (wM cI cB cZ q z) sz) := by
  unfold fX9_undoDepth at hf
  refine metW (ret := (some .int)) (own := RX9) rfl (by decide) rfl (Nat.le_of_ble_eq_true rfl) (fun p e s m args below meth c ls A hx hb hr hml hown hlocks hts hK hA hP hD hS hl => ?_)
  have k46 := (hts (.fieldLink RX9 46 "ResolutionProverModel" "thrown" "I") (List.mem_of_getElem? (i := 1) rfl))
  have k53 := (hts (.fieldLink RX9 53 "ResolutionProverModel" "depth" "I") (List.mem_of_getElem? (i := 2) rfl))
  have hiX9 : ∀ w ∈ wsX90, w ∈ wsX9_undoDepth := (memIn_p [3, 4, 5, 6, 7, 8, 9, 10, 11, 12, 13, 14, 15, 16, 17, 18, 19, 20, 21, 22, 23, 24, 25, 26, 27, 28, 29] rfl)
  have hl : lv_has ls 1 [(0, .ref (q 0))] := hl
  refine lv_aload_n hx hb dX9_undoDepth_0 rfl (lv_at hl 0 rfl) ?_
  refine lv_iconst (v := 0) hx hb dX9_undoDepth_1 (by decide) ?_
  refine va_put (D := D) (ci := 8) (v := .int (0 : Int32)) (ty := .int) (C := RX9) (T := TX9) (N := 27) hx hb hts hiX9 tyX9 tyX9_ok nmX9 hown hK hP hD hS 0 rfl rfl 0 (by decide) k46 (fun _ h9 => h9) rfl (by decide +kernel) rfl rfl (Nat.le_of_ble_eq_true rfl) dX9_undoDepth_2 (fun H locs hP hD hS => ?_)
  obtain ⟨z_1, ez_1, hf⟩ := nm_ob hf
  have hP : va_P D vwCl (wM cI cB cZ q z_1) H := by rw [ez_1]; exact hP
  have hD : va_D A (wM cI cB cZ q z_1) := by rw [ez_1]; exact hD
  refine lv_aload_n hx hb dX9_undoDepth_5 rfl (lv_at hl 0 rfl) ?_
  refine va_get (D := D) (ci := 8) (v := .int (z_1.1 7)) (C := RX9) (T := TX9) (N := 27) hx hb hts hiX9 hown hK hP 0 rfl rfl 7 (by decide) k53 (fun _ h9 => h9) rfl dX9_undoDepth_6 ?_
  exact rW_i hx hb hr hlocks hP hD hS (congrArg (fun q9 => q9.1) (so_ob hf)) (congrArg (fun (q9 : Int32 × (OS)) => wM cI cB cZ q q9.2) (so_ob hf)) dX9_undoDepth_9

def fX9_noSlot (fu : Nat) (z : OS) (p1 : Int32) : Option (Int32 × (OS)) :=
  bd (fX9_in fu ((p1).toInt64) (0 : Int64) (1 : Int64)) (fun (r_1 : Int32) => jn (κ := Int32 → Option (Int32 × (OS))) (fun (t1_16 : Int32) => bd (fX9_throwsIf fu z t1_16 (1 : Int32)) (fun (w_5 : Int32 × OS) => nm w_5.1 (fun (r_3 : Int32) => nm w_5.2 (fun (z_4 : OS) => gd (isZ r_3) (some (r_3, z_4)))))) (fun j16 => (if ¬ r_1 = (0 : Int32) then j16 (0 : Int32) else j16 (1 : Int32))))
set_option maxRecDepth 100000 in
set_option maxHeartbeats 4000000 in
theorem mX9_noSlot (l : Launch) (D : va_G) (cI cB cZ cO : ClassId) (q : Nat → Nat) (sz : Nat) (fu : Nat) (z : OS) (p1 : Int32) {r : Int32} {y1 : OS} (hf : fX9_noSlot fu z p1 = some (r, y1)) : Met l yX9_noSlot wsX9_noSlot ({ frames := 1, cells := 0, slots := 0, locals := 25 }) (va_Pc [.ref (q 0), .int p1] (Pw D (gT cI cB cZ cO) (wM cI cB cZ q z) sz)) (Qw D (va_A (wM cI cB cZ q z) sz) (some (.int r)) (wM cI cB cZ q y1)) 0 0 (va_A (wM cI cB cZ q z) sz) := by
  unfold fX9_noSlot at hf
  refine metW (ret := (some .boolean)) (own := RX9) rfl (by decide) rfl (Nat.le_of_ble_eq_true rfl) (fun p e s m args below meth c ls A hx hb hr hml hown hlocks hts hK hA hP hD hS hl => ?_)
  have hl : lv_has ls 2 [(0, .ref (q 0)), (1, .int p1)] := hl
  refine lv_aload_n hx hb dX9_noSlot_0 rfl (lv_at hl 0 rfl) ?_
  refine lv_iload_n hx hb dX9_noSlot_1 rfl (lv_at hl 1 rfl) ?_
  refine lv_i2l hx hb dX9_noSlot_2 rfl ?_
  refine lv_lconst (v := 0) hx hb dX9_noSlot_3 (by decide) ?_
  refine lv_lconst (v := 1) hx hb dX9_noSlot_4 (by decide) ?_
  obtain ⟨r_1, hc_2, hf⟩ := bd_ob hf
  refine rdN (As := [.long ((p1).toInt64), .long (0 : Int64), .long (1 : Int64)]) (rest := [.ref (q 0)]) ⟨hx, hb, hml, hown, hts⟩ (mX9_in l D cI cB cZ cO fu ((p1).toInt64) (0 : Int64) (1 : Int64) hc_2) (va_cwS 3 hts gX9_noSlot_X9_in rfl rfl rfl (by decide +kernel) ⟨Nat.le_of_ble_eq_true rfl, Nat.le_of_ble_eq_true rfl⟩) rfl hl.1 rfl (Nat.le_of_ble_eq_true rfl) dX9_noSlot_5 ⟨Nat.zero_le _, Nat.zero_le _⟩ ?_
  obtain ⟨j16, ej16, hf⟩ := jn_ob hf
  have hp16 : ∀ (t1_16 : Int32) (H : Heap) (locs : List Loc) (ls : Array Slot), j16 t1_16 = some (r, y1) → va_P D vwCl (wM cI cB cZ q z) H → va_D A (wM cI cB cZ q z) → va_S A s.heap H locs → lv_has ls 2 [] → W p l e (headSpec wsX9_noSlot { frames := 1, cells := 0, slots := 0, locals := 25 }).room s m args below meth c H locs 0 0 (MQ below (Qw D A (some (.int r)) (wM cI cB cZ q y1)) args s 0 0 A) (F0 m 16 ls [.int t1_16, .ref (q 0)]) := by
    intro t1_16 H locs ls hf hP hD hS hl
    rw [ej16] at hf
    refine lv_iconst (v := 1) hx hb dX9_noSlot_16 (by decide) ?_
    obtain ⟨⟨r_3, z_4⟩, hc_6, hf⟩ := bd_ob hf
    have hf := nm_st hf
    have hf := nm_st hf
    refine weV (As := [.int t1_16, .int (1 : Int32)]) (rest := []) ⟨hx, hb, hml, hown, hts⟩ (mX9_throwsIf l D cI cB cZ cO q _ fu z t1_16 (1 : Int32) hc_6) (cwV 2 hts gX9_noSlot_X9_throwsIf rfl rfl rfl (by decide +kernel) ⟨Nat.le_of_ble_eq_true rfl, Nat.le_of_ble_eq_true rfl⟩) hK hP hD hS hA (va_recv hK hP (ci := 8) (q0 := 0) rfl rfl) rfl hl.1 rfl (Nat.le_of_ble_eq_true rfl) dX9_noSlot_17 ⟨Nat.zero_le _, Nat.zero_le _⟩ (fun H locs hP hD hS => ?_)
    obtain ⟨hz, hf⟩ := gd_ob hf
    exact rW_z hx hb hr hlocks hP hD hS hz (congrArg (fun q9 => q9.1) (so_ob hf)) (congrArg (fun (q9 : Int32 × (OS)) => wM cI cB cZ q q9.2) (so_ob hf)) dX9_noSlot_20
  refine lv_if_ne (tgt := 15) hx hb dX9_noSlot_8 (by decide) (fun c_8 => ?_) (fun c_8 => ?_)
  · have hf := ip c_8 hf
    refine lv_iconst (v := 0) hx hb dX9_noSlot_15 (by decide) ?_
    exact hp16 (0 : Int32) _ _ _ hf hP hD hS (lv_sub hl [] rfl)
  · have hf := iqn c_8 hf
    refine lv_iconst (v := 1) hx hb dX9_noSlot_11 (by decide) ?_
    refine lv_goto (tgt := 16) hx hb dX9_noSlot_12 (by decide) ?_
    exact hp16 (1 : Int32) _ _ _ hf hP hD hS (lv_sub hl [] rfl)

def fX9_save (fu : Nat) (z : OS) (p1 : Int32) : Option (Int32 × (OS)) :=
  nm (sI z 0 (0 : Int32)) (fun (z_1 : OS) => bd (fX9_noSlot fu z_1 p1) (fun (w_4 : Int32 × OS) => nm w_4.1 (fun (r_2 : Int32) => nm w_4.2 (fun (z_3 : OS) => (if r_2 = (0 : Int32) then gd (inB p1 2) (jn (κ := Int32 → Option (Int32 × (OS))) (fun (t0_29 : Int32) => gd (inB p1 2) (nm (sA z_3 6 (upd (z_3.2 6) (p1).toNatClampNeg (vp_nar .boolean (1 : Int32)))) (fun (z_6 : OS) => bd (fX9_copies_two fu 917 (z_6.2 1) 1834 (z_6.2 5) (0 : Int32) p1) (fun (x_7 : (Nat → Int32)) => nm (sA z_6 5 x_7) (fun (z_9 : OS) => gd (isZ t0_29) (some (t0_29, z_9))))))) (fun j29 => (if ¬ (z_3.2 6 (p1).toNatClampNeg) = (0 : Int32) then j29 (0 : Int32) else j29 (1 : Int32)))) else gd (isZ (0 : Int32)) (some ((0 : Int32), z_3)))))))
set_option maxRecDepth 100000 in
set_option maxHeartbeats 4000000 in
theorem mX9_save (l : Launch) (D : va_G) (cI cB cZ cO : ClassId) (q : Nat → Nat) (sz : Nat) (fu : Nat) (z : OS) (p1 : Int32) {r : Int32} {y1 : OS} (hf : fX9_save fu z p1 = some (r, y1)) : Met l yX9_save wsX9_save ({ frames := 2, cells := 0, slots := 0, locals := 46 }) (va_Pc [.ref (q 0), .int p1] (Pw D (gT cI cB cZ cO) (wM cI cB cZ q z) sz)) (Qw D (va_A (wM cI cB cZ q z) sz) (some (.int r)) (wM cI cB cZ q y1)) 0 0 (va_A (wM cI cB cZ q z) sz) := by
  unfold fX9_save at hf
  refine metW (ret := (some .boolean)) (own := RX9) rfl (by decide) rfl (Nat.le_of_ble_eq_true rfl) (fun p e s m args below meth c ls A hx hb hr hml hown hlocks hts hK hA hP hD hS hl => ?_)
  have k46 := (hts (.fieldLink RX9 46 "ResolutionProverModel" "thrown" "I") (List.mem_of_getElem? (i := 1) rfl))
  have k25 := (hts (.fieldLink RX9 25 "ResolutionProverModel" "isSaved" "[Z") (List.mem_of_getElem? (i := 2) rfl))
  have k9 := (hts (.fieldLink RX9 9 "ResolutionProverModel" "now" "[I") (List.mem_of_getElem? (i := 3) rfl))
  have k22 := (hts (.fieldLink RX9 22 "ResolutionProverModel" "slot" "[I") (List.mem_of_getElem? (i := 4) rfl))
  have hiX9 : ∀ w ∈ wsX90, w ∈ wsX9_save := (memIn_p [20, 21, 22, 23, 24, 25, 26, 27, 28, 29, 30, 31, 32, 33, 34, 35, 36, 37, 38, 39, 40, 41, 42, 43, 44, 45, 46] rfl)
  have hl : lv_has ls 3 [(0, .ref (q 0)), (1, .int p1)] := hl
  refine lv_aload_n hx hb dX9_save_0 rfl (lv_at hl 0 rfl) ?_
  refine lv_iconst (v := 0) hx hb dX9_save_1 (by decide) ?_
  refine va_put (D := D) (ci := 8) (v := .int (0 : Int32)) (ty := .int) (C := RX9) (T := TX9) (N := 27) hx hb hts hiX9 tyX9 tyX9_ok nmX9 hown hK hP hD hS 0 rfl rfl 0 (by decide) k46 (fun _ h9 => h9) rfl (by decide +kernel) rfl rfl (Nat.le_of_ble_eq_true rfl) dX9_save_2 (fun H locs hP hD hS => ?_)
  obtain ⟨z_1, ez_1, hf⟩ := nm_ob hf
  have hP : va_P D vwCl (wM cI cB cZ q z_1) H := by rw [ez_1]; exact hP
  have hD : va_D A (wM cI cB cZ q z_1) := by rw [ez_1]; exact hD
  refine lv_aload_n hx hb dX9_save_5 rfl (lv_at hl 0 rfl) ?_
  refine lv_iload_n hx hb dX9_save_6 rfl (lv_at hl 1 rfl) ?_
  obtain ⟨⟨r_2, z_3⟩, hc_5, hf⟩ := bd_ob hf
  have hf := nm_st hf
  have hf := nm_st hf
  refine weV (As := [.int p1]) (rest := []) ⟨hx, hb, hml, hown, hts⟩ (mX9_noSlot l D cI cB cZ cO q _ fu z_1 p1 hc_5) (cwV 1 hts gX9_save_X9_noSlot rfl rfl rfl (by decide +kernel) ⟨Nat.le_of_ble_eq_true rfl, Nat.le_of_ble_eq_true rfl⟩) hK hP hD hS hA (va_recv hK hP (ci := 8) (q0 := 0) rfl rfl) rfl hl.1 rfl (Nat.le_of_ble_eq_true rfl) dX9_save_7 ⟨Nat.zero_le _, Nat.zero_le _⟩ (fun H locs hP hD hS => ?_)
  refine lv_if_eq (tgt := 15) hx hb dX9_save_10 (by decide) (fun c_10 => ?_) (fun c_10 => ?_)
  · have hf := ip c_10 hf
    refine lv_aload_n hx hb dX9_save_15 rfl (lv_at hl 0 rfl) ?_
    refine va_get (D := D) (ci := 8) (v := .ref (q 6)) (C := RX9) (T := TX9) (N := 27) hx hb hts hiX9 hown hK hP 0 rfl rfl 6 (by decide) k25 (fun _ h9 => h9) rfl dX9_save_16 ?_
    refine lv_iload_n hx hb dX9_save_19 rfl (lv_at hl 1 rfl) ?_
    obtain ⟨hi_, hf⟩ := gd_ob hf
    refine va_zald hx hb hK hP 6 2 rfl rfl (inB_in hi_) dX9_save_20 ?_
    obtain ⟨j29, ej29, hf⟩ := jn_ob hf
    have hp29 : ∀ (t0_29 : Int32) (H : Heap) (locs : List Loc) (ls : Array Slot), j29 t0_29 = some (r, y1) → va_P D vwCl (wM cI cB cZ q z_3) H → va_D A (wM cI cB cZ q z_3) → va_S A s.heap H locs → lv_has ls 3 [(0, .ref (q 0)), (1, .int p1)] → W p l e (headSpec wsX9_save { frames := 2, cells := 0, slots := 0, locals := 46 }).room s m args below meth c H locs 0 0 (MQ below (Qw D A (some (.int r)) (wM cI cB cZ q y1)) args s 0 0 A) (F0 m 29 ls [.int t0_29]) := by
      intro t0_29 H locs ls hf hP hD hS hl
      rw [ej29] at hf
      refine lv_istore_n (lv' := [(2, .int t0_29), (0, .ref (q 0)), (1, .int p1)]) hx hb dX9_save_29 rfl hl (by decide) rfl (fun ls hl => ?_)
      refine lv_aload_n hx hb dX9_save_30 rfl (lv_at hl 1 rfl) ?_
      refine va_get (D := D) (ci := 8) (v := .ref (q 6)) (C := RX9) (T := TX9) (N := 27) hx hb hts hiX9 hown hK hP 0 rfl rfl 6 (by decide) k25 (fun _ h9 => h9) rfl dX9_save_31 ?_
      refine lv_iload_n hx hb dX9_save_34 rfl (lv_at hl 2 rfl) ?_
      refine lv_iconst (v := 1) hx hb dX9_save_35 (by decide) ?_
      obtain ⟨hi_, hf⟩ := gd_ob hf
      refine va_zast hx hb hK hP hD hS 6 2 rfl rfl (inB_in hi_) dX9_save_36 (fun H locs hP hD hS => ?_)
      obtain ⟨z_6, ez_6, hf⟩ := nm_ob hf
      have hP : va_P D vwCl (wM cI cB cZ q z_6) H := by rw [ez_6]; exact hP
      have hD : va_D A (wM cI cB cZ q z_6) := by rw [ez_6]; exact hD
      refine lv_aload_n hx hb dX9_save_37 rfl (lv_at hl 1 rfl) ?_
      refine va_get (D := D) (ci := 8) (v := .ref (q 1)) (C := RX9) (T := TX9) (N := 27) hx hb hts hiX9 hown hK hP 0 rfl rfl 1 (by decide) k9 (fun _ h9 => h9) rfl dX9_save_38 ?_
      refine lv_iconst (v := 0) hx hb dX9_save_41 (by decide) ?_
      refine lv_aload_n hx hb dX9_save_42 rfl (lv_at hl 1 rfl) ?_
      refine va_get (D := D) (ci := 8) (v := .ref (q 5)) (C := RX9) (T := TX9) (N := 27) hx hb hts hiX9 hown hK hP 0 rfl rfl 5 (by decide) k22 (fun _ h9 => h9) rfl dX9_save_43 ?_
      refine lv_iload_n hx hb dX9_save_46 rfl (lv_at hl 2 rfl) ?_
      obtain ⟨x_7, hc_8, hf⟩ := bd_ob hf
      refine wrS (As := [.ref (q 1), .int (0 : Int32), .ref (q 5), .int p1]) (rest := []) (ws2 := wM cI cB cZ q (sA z_6 5 x_7)) ⟨hx, hb, hml, hown, hts⟩ (mX9_copies_two l D cI cB cZ cO (q 1) (q 5) _ fu 917 (z_6.2 1) 1834 (z_6.2 5) (0 : Int32) p1 hc_8) (va_cwS 4 hts gX9_save_X9_copies rfl rfl rfl (by decide +kernel) ⟨Nat.le_of_ble_eq_true rfl, Nat.le_of_ble_eq_true rfl⟩) hK hP hD hS hA [1, 5] [0, 2, 3, 4, 6, 7, 8, 9, 10] [0, 9, 1, 2, 3, 10, 4, 5, 6, 7, 8] rfl (hP.sub [1, 5] rfl) (by decide) rfl (by decide) (by decide) (by decide) rfl  rfl hl.1 rfl (Nat.le_of_ble_eq_true rfl) dX9_save_47 ⟨Nat.zero_le _, Nat.zero_le _⟩ (fun H locs hP hD hS => ?_)
      obtain ⟨z_9, ez_9, hf⟩ := nm_ob hf
      have hP : va_P D vwCl (wM cI cB cZ q z_9) H := by rw [ez_9]; exact hP
      have hD : va_D A (wM cI cB cZ q z_9) := by rw [ez_9]; exact hD
      refine lv_iload_n hx hb dX9_save_50 rfl (lv_at hl 0 rfl) ?_
      obtain ⟨hz, hf⟩ := gd_ob hf
      exact rW_z hx hb hr hlocks hP hD hS hz (congrArg (fun q9 => q9.1) (so_ob hf)) (congrArg (fun (q9 : Int32 × (OS)) => wM cI cB cZ q q9.2) (so_ob hf)) dX9_save_51
    refine lv_if_ne (tgt := 28) hx hb dX9_save_21 (by decide) (fun c_21 => ?_) (fun c_21 => ?_)
    · have hf := ip c_21 hf
      refine lv_iconst (v := 0) hx hb dX9_save_28 (by decide) ?_
      exact hp29 (0 : Int32) _ _ _ hf hP hD hS hl
    · have hf := iqn c_21 hf
      refine lv_iconst (v := 1) hx hb dX9_save_24 (by decide) ?_
      refine lv_goto (tgt := 29) hx hb dX9_save_25 (by decide) ?_
      exact hp29 (1 : Int32) _ _ _ hf hP hD hS hl
  · have hf := iq c_10 hf
    refine lv_iconst (v := 0) hx hb dX9_save_13 (by decide) ?_
    obtain ⟨hz, hf⟩ := gd_ob hf
    exact rW_z hx hb hr hlocks hP hD hS hz (congrArg (fun q9 => q9.1) (so_ob hf)) (congrArg (fun (q9 : Int32 × (OS)) => wM cI cB cZ q q9.2) (so_ob hf)) dX9_save_14

def fX9_restore (fu : Nat) (z : OS) (p1 : Int32) : Option (Int32 × (OS)) :=
  nm (sI z 0 (0 : Int32)) (fun (z_1 : OS) => bd (fX9_noSlot fu z_1 p1) (fun (w_4 : Int32 × OS) => nm w_4.1 (fun (r_2 : Int32) => nm w_4.2 (fun (z_3 : OS) => (if ¬ r_2 = (0 : Int32) then some ((0 : Int32), z_3) else gd (inB p1 2) (jn (κ := Int32 → Option (Int32 × (OS))) (fun (t1_28 : Int32) => bd (fX9_throwsIf fu z_3 t1_28 (2 : Int32)) (fun (w_8 : Int32 × OS) => nm w_8.1 (fun (r_6 : Int32) => nm w_8.2 (fun (z_7 : OS) => (if r_6 = (0 : Int32) then bd (fX9_copies_two fu 1834 (z_7.2 5) 917 (z_7.2 1) p1 (0 : Int32)) (fun (x_10 : (Nat → Int32)) => nm (sA z_7 1 x_10) (fun (z_12 : OS) => nm (sI z_12 7 (0 : Int32)) (fun (z_13 : OS) => bd (fX9_many fu z_13) (fun (r_14 : Int32) => some (r_14, z_13))))) else some ((0 : Int32), z_7)))))) (fun j28 => (if ¬ (z_3.2 6 (p1).toNatClampNeg) = (0 : Int32) then j28 (0 : Int32) else j28 (1 : Int32)))))))))
set_option maxRecDepth 100000 in
set_option maxHeartbeats 4000000 in
theorem mX9_restore (l : Launch) (D : va_G) (cI cB cZ cO : ClassId) (q : Nat → Nat) (sz : Nat) (fu : Nat) (z : OS) (p1 : Int32) {r : Int32} {y1 : OS} (hf : fX9_restore fu z p1 = some (r, y1)) : Met l yX9_restore wsX9_restore ({ frames := 2, cells := 0, slots := 0, locals := 46 }) (va_Pc [.ref (q 0), .int p1] (Pw D (gT cI cB cZ cO) (wM cI cB cZ q z) sz)) (Qw D (va_A (wM cI cB cZ q z) sz) (some (.int r)) (wM cI cB cZ q y1)) 0 0 (va_A (wM cI cB cZ q z) sz) := by
  unfold fX9_restore at hf
  refine metW (ret := (some .int)) (own := RX9) rfl (by decide) rfl (Nat.le_of_ble_eq_true rfl) (fun p e s m args below meth c ls A hx hb hr hml hown hlocks hts hK hA hP hD hS hl => ?_)
  have k46 := (hts (.fieldLink RX9 46 "ResolutionProverModel" "thrown" "I") (List.mem_of_getElem? (i := 1) rfl))
  have k25 := (hts (.fieldLink RX9 25 "ResolutionProverModel" "isSaved" "[Z") (List.mem_of_getElem? (i := 2) rfl))
  have k22 := (hts (.fieldLink RX9 22 "ResolutionProverModel" "slot" "[I") (List.mem_of_getElem? (i := 3) rfl))
  have k9 := (hts (.fieldLink RX9 9 "ResolutionProverModel" "now" "[I") (List.mem_of_getElem? (i := 4) rfl))
  have k53 := (hts (.fieldLink RX9 53 "ResolutionProverModel" "depth" "I") (List.mem_of_getElem? (i := 5) rfl))
  have hiX9 : ∀ w ∈ wsX90, w ∈ wsX9_restore := (memIn_p [25, 26, 27, 28, 29, 30, 31, 32, 33, 34, 35, 36, 37, 38, 39, 40, 41, 42, 43, 44, 45, 46, 47, 48, 49, 50, 51] rfl)
  have hl : lv_has ls 2 [(0, .ref (q 0)), (1, .int p1)] := hl
  refine lv_aload_n hx hb dX9_restore_0 rfl (lv_at hl 0 rfl) ?_
  refine lv_iconst (v := 0) hx hb dX9_restore_1 (by decide) ?_
  refine va_put (D := D) (ci := 8) (v := .int (0 : Int32)) (ty := .int) (C := RX9) (T := TX9) (N := 27) hx hb hts hiX9 tyX9 tyX9_ok nmX9 hown hK hP hD hS 0 rfl rfl 0 (by decide) k46 (fun _ h9 => h9) rfl (by decide +kernel) rfl rfl (Nat.le_of_ble_eq_true rfl) dX9_restore_2 (fun H locs hP hD hS => ?_)
  obtain ⟨z_1, ez_1, hf⟩ := nm_ob hf
  have hP : va_P D vwCl (wM cI cB cZ q z_1) H := by rw [ez_1]; exact hP
  have hD : va_D A (wM cI cB cZ q z_1) := by rw [ez_1]; exact hD
  refine lv_aload_n hx hb dX9_restore_5 rfl (lv_at hl 0 rfl) ?_
  refine lv_iload_n hx hb dX9_restore_6 rfl (lv_at hl 1 rfl) ?_
  obtain ⟨⟨r_2, z_3⟩, hc_5, hf⟩ := bd_ob hf
  have hf := nm_st hf
  have hf := nm_st hf
  refine weV (As := [.int p1]) (rest := []) ⟨hx, hb, hml, hown, hts⟩ (mX9_noSlot l D cI cB cZ cO q _ fu z_1 p1 hc_5) (cwV 1 hts gX9_restore_X9_noSlot rfl rfl rfl (by decide +kernel) ⟨Nat.le_of_ble_eq_true rfl, Nat.le_of_ble_eq_true rfl⟩) hK hP hD hS hA (va_recv hK hP (ci := 8) (q0 := 0) rfl rfl) rfl hl.1 rfl (Nat.le_of_ble_eq_true rfl) dX9_restore_7 ⟨Nat.zero_le _, Nat.zero_le _⟩ (fun H locs hP hD hS => ?_)
  refine lv_if_ne (tgt := 35) hx hb dX9_restore_10 (by decide) (fun c_10 => ?_) (fun c_10 => ?_)
  · have hf := ip c_10 hf
    refine lv_iconst (v := 0) hx hb dX9_restore_35 (by decide) ?_
    exact rW_i hx hb hr hlocks hP hD hS (congrArg (fun q9 => q9.1) (so_ob hf)) (congrArg (fun (q9 : Int32 × (OS)) => wM cI cB cZ q q9.2) (so_ob hf)) dX9_restore_36
  · have hf := iqn c_10 hf
    refine lv_aload_n hx hb dX9_restore_13 rfl (lv_at hl 0 rfl) ?_
    refine lv_aload_n hx hb dX9_restore_14 rfl (lv_at hl 0 rfl) ?_
    refine va_get (D := D) (ci := 8) (v := .ref (q 6)) (C := RX9) (T := TX9) (N := 27) hx hb hts hiX9 hown hK hP 0 rfl rfl 6 (by decide) k25 (fun _ h9 => h9) rfl dX9_restore_15 ?_
    refine lv_iload_n hx hb dX9_restore_18 rfl (lv_at hl 1 rfl) ?_
    obtain ⟨hi_, hf⟩ := gd_ob hf
    refine va_zald hx hb hK hP 6 2 rfl rfl (inB_in hi_) dX9_restore_19 ?_
    obtain ⟨j28, ej28, hf⟩ := jn_ob hf
    have hp28 : ∀ (t1_28 : Int32) (H : Heap) (locs : List Loc) (ls : Array Slot), j28 t1_28 = some (r, y1) → va_P D vwCl (wM cI cB cZ q z_3) H → va_D A (wM cI cB cZ q z_3) → va_S A s.heap H locs → lv_has ls 2 [(0, .ref (q 0)), (1, .int p1)] → W p l e (headSpec wsX9_restore { frames := 2, cells := 0, slots := 0, locals := 46 }).room s m args below meth c H locs 0 0 (MQ below (Qw D A (some (.int r)) (wM cI cB cZ q y1)) args s 0 0 A) (F0 m 28 ls [.int t1_28, .ref (q 0)]) := by
      intro t1_28 H locs ls hf hP hD hS hl
      rw [ej28] at hf
      refine lv_iconst (v := 2) hx hb dX9_restore_28 (by decide) ?_
      obtain ⟨⟨r_6, z_7⟩, hc_9, hf⟩ := bd_ob hf
      have hf := nm_st hf
      have hf := nm_st hf
      refine weV (As := [.int t1_28, .int (2 : Int32)]) (rest := []) ⟨hx, hb, hml, hown, hts⟩ (mX9_throwsIf l D cI cB cZ cO q _ fu z_3 t1_28 (2 : Int32) hc_9) (cwV 2 hts gX9_restore_X9_throwsIf rfl rfl rfl (by decide +kernel) ⟨Nat.le_of_ble_eq_true rfl, Nat.le_of_ble_eq_true rfl⟩) hK hP hD hS hA (va_recv hK hP (ci := 8) (q0 := 0) rfl rfl) rfl hl.1 rfl (Nat.le_of_ble_eq_true rfl) dX9_restore_29 ⟨Nat.zero_le _, Nat.zero_le _⟩ (fun H locs hP hD hS => ?_)
      refine lv_if_eq (tgt := 37) hx hb dX9_restore_32 (by decide) (fun c_32 => ?_) (fun c_32 => ?_)
      · have hf := ip c_32 hf
        refine lv_aload_n hx hb dX9_restore_37 rfl (lv_at hl 0 rfl) ?_
        refine va_get (D := D) (ci := 8) (v := .ref (q 5)) (C := RX9) (T := TX9) (N := 27) hx hb hts hiX9 hown hK hP 0 rfl rfl 5 (by decide) k22 (fun _ h9 => h9) rfl dX9_restore_38 ?_
        refine lv_iload_n hx hb dX9_restore_41 rfl (lv_at hl 1 rfl) ?_
        refine lv_aload_n hx hb dX9_restore_42 rfl (lv_at hl 0 rfl) ?_
        refine va_get (D := D) (ci := 8) (v := .ref (q 1)) (C := RX9) (T := TX9) (N := 27) hx hb hts hiX9 hown hK hP 0 rfl rfl 1 (by decide) k9 (fun _ h9 => h9) rfl dX9_restore_43 ?_
        refine lv_iconst (v := 0) hx hb dX9_restore_46 (by decide) ?_
        obtain ⟨x_10, hc_11, hf⟩ := bd_ob hf
        refine wrS (As := [.ref (q 5), .int p1, .ref (q 1), .int (0 : Int32)]) (rest := []) (ws2 := wM cI cB cZ q (sA z_7 1 x_10)) ⟨hx, hb, hml, hown, hts⟩ (mX9_copies_two l D cI cB cZ cO (q 5) (q 1) _ fu 1834 (z_7.2 5) 917 (z_7.2 1) p1 (0 : Int32) hc_11) (va_cwS 4 hts gX9_restore_X9_copies rfl rfl rfl (by decide +kernel) ⟨Nat.le_of_ble_eq_true rfl, Nat.le_of_ble_eq_true rfl⟩) hK hP hD hS hA [5, 1] [0, 2, 3, 4, 6, 7, 8, 9, 10] [0, 10, 1, 2, 3, 9, 4, 5, 6, 7, 8] rfl (hP.sub [5, 1] rfl) (by decide) rfl (by decide) (by decide) (by decide) rfl  rfl hl.1 rfl (Nat.le_of_ble_eq_true rfl) dX9_restore_47 ⟨Nat.zero_le _, Nat.zero_le _⟩ (fun H locs hP hD hS => ?_)
        obtain ⟨z_12, ez_12, hf⟩ := nm_ob hf
        have hP : va_P D vwCl (wM cI cB cZ q z_12) H := by rw [ez_12]; exact hP
        have hD : va_D A (wM cI cB cZ q z_12) := by rw [ez_12]; exact hD
        refine lv_aload_n hx hb dX9_restore_50 rfl (lv_at hl 0 rfl) ?_
        refine lv_iconst (v := 0) hx hb dX9_restore_51 (by decide) ?_
        refine va_put (D := D) (ci := 8) (v := .int (0 : Int32)) (ty := .int) (C := RX9) (T := TX9) (N := 27) hx hb hts hiX9 tyX9 tyX9_ok nmX9 hown hK hP hD hS 0 rfl rfl 7 (by decide) k53 (fun _ h9 => h9) rfl (by decide +kernel) rfl rfl (Nat.le_of_ble_eq_true rfl) dX9_restore_52 (fun H locs hP hD hS => ?_)
        obtain ⟨z_13, ez_13, hf⟩ := nm_ob hf
        have hP : va_P D vwCl (wM cI cB cZ q z_13) H := by rw [ez_13]; exact hP
        have hD : va_D A (wM cI cB cZ q z_13) := by rw [ez_13]; exact hD
        refine lv_aload_n hx hb dX9_restore_55 rfl (lv_at hl 0 rfl) ?_
        obtain ⟨r_14, hc_15, hf⟩ := bd_ob hf
        refine rdV (As := []) (rest := []) ⟨hx, hb, hml, hown, hts⟩ (mX9_many l D cI cB cZ cO q fu z_13 hc_15) (cwV 0 hts gX9_restore_X9_many rfl rfl rfl (by decide +kernel) ⟨Nat.le_of_ble_eq_true rfl, Nat.le_of_ble_eq_true rfl⟩) hK hP (va_recv hK hP (ci := 8) (q0 := 0) rfl rfl) rfl hl.1 rfl (Nat.le_of_ble_eq_true rfl) dX9_restore_56 ⟨Nat.zero_le _, Nat.zero_le _⟩ ?_
        exact rW_i hx hb hr hlocks hP hD hS (congrArg (fun q9 => q9.1) (so_ob hf)) (congrArg (fun (q9 : Int32 × (OS)) => wM cI cB cZ q q9.2) (so_ob hf)) dX9_restore_59
      · have hf := iq c_32 hf
        refine lv_iconst (v := 0) hx hb dX9_restore_35 (by decide) ?_
        exact rW_i hx hb hr hlocks hP hD hS (congrArg (fun q9 => q9.1) (so_ob hf)) (congrArg (fun (q9 : Int32 × (OS)) => wM cI cB cZ q q9.2) (so_ob hf)) dX9_restore_36
    refine lv_if_ne (tgt := 27) hx hb dX9_restore_20 (by decide) (fun c_20 => ?_) (fun c_20 => ?_)
    · have hf := ip c_20 hf
      refine lv_iconst (v := 0) hx hb dX9_restore_27 (by decide) ?_
      exact hp28 (0 : Int32) _ _ _ hf hP hD hS hl
    · have hf := iqn c_20 hf
      refine lv_iconst (v := 1) hx hb dX9_restore_23 (by decide) ?_
      refine lv_goto (tgt := 28) hx hb dX9_restore_24 (by decide) ?_
      exact hp28 (1 : Int32) _ _ _ hf hP hD hS hl
