def fX6_begin (fu : Nat) (z : OS) (z2 : OS) (z3 : OS) (z4 : OS) (z5 : OS) : Option ((OS) × (OS)) :=
  nm (sI z 4 (0 : Int32)) (fun (z_1 : OS) => nm (sI z_1 5 (-1 : Int32)) (fun (z_2 : OS) => nm (sI z_2 6 (0 : Int32)) (fun (z_3 : OS) => bd (fX7_begin fu z2) (fun (z_4 : OS) => some (z_3, z_4)))))
set_option maxRecDepth 100000 in
set_option maxHeartbeats 4000000 in
theorem mX6_begin (l : Launch) (D : va_G) (cI cB cZ cO : ClassId) (q : Nat → Nat) (q2 : Nat → Nat) (q3 : Nat → Nat) (q4 : Nat → Nat) (q5 : Nat → Nat) (sz : Nat) (fu : Nat) (z : OS) (z2 : OS) (z3 : OS) (z4 : OS) (z5 : OS) {y1 : OS} {y2 : OS} (hf : fX6_begin fu z z2 z3 z4 z5 = some (y1, y2)) : Met l yX6_begin wsX6_begin ({ frames := 2, cells := 0, slots := 0, locals := 41 }) (va_Pc [.ref (q 0)] (Pw D (gT cI cB cZ cO) (wS q (q2 0) (q3 0) (q4 0) (q5 0) z ++ wT cB q2 z2 ++ wC cI q3 z3 ++ wA q4 z4 ++ wP q5 z5) sz)) (Qw D (va_A (wS q (q2 0) (q3 0) (q4 0) (q5 0) z ++ wT cB q2 z2 ++ wC cI q3 z3 ++ wA q4 z4 ++ wP q5 z5) sz) none (wS q (q2 0) (q3 0) (q4 0) (q5 0) y1 ++ wT cB q2 y2 ++ wC cI q3 z3 ++ wA q4 z4 ++ wP q5 z5)) 0 0 (va_A (wS q (q2 0) (q3 0) (q4 0) (q5 0) z ++ wT cB q2 z2 ++ wC cI q3 z3 ++ wA q4 z4 ++ wP q5 z5) sz) := by
  unfold fX6_begin at hf
  refine metW (ret := none) (own := RX6) rfl (by decide) rfl (Nat.le_of_ble_eq_true rfl) (fun p e s m args below meth c ls A hx hb hr hml hown hlocks hts hK hA hP hD hS hl => ?_)
  have k39 := (hts (.fieldLink RX6 39 "ResolutionProver$Script" "errorCode" "I") (List.mem_of_getElem? (i := 1) rfl))
  have k43 := (hts (.fieldLink RX6 43 "ResolutionProver$Script" "errorPosition" "I") (List.mem_of_getElem? (i := 2) rfl))
  have k46 := (hts (.fieldLink RX6 46 "ResolutionProver$Script" "commands" "I") (List.mem_of_getElem? (i := 3) rfl))
  have k12 := (hts (.fieldLink RX6 12 "ResolutionProver$Script" "tokens" "LResolutionProver$Tokens;") (List.mem_of_getElem? (i := 4) rfl))
  have hiX6 : ∀ w ∈ wsX60, w ∈ wsX6_begin := (memIn_p [19, 20, 21, 22, 23, 24, 25, 26, 27] rfl)
  have hl : lv_has ls 1 [(0, .ref (q 0))] := hl
  refine lv_aload_n hx hb dX6_begin_0 rfl (lv_at hl 0 rfl) ?_
  refine lv_iconst (v := 0) hx hb dX6_begin_1 (by decide) ?_
  refine va_put (D := D) (ci := 5) (v := .int (0 : Int32)) (ty := .int) (C := RX6) (T := TX6) (N := 9) hx hb hts hiX6 tyX6 tyX6_ok nmX6 hown hK hP hD hS 0 rfl rfl 4 (by decide) k39 (fun _ h9 => h9) rfl (by decide +kernel) rfl rfl (Nat.le_of_ble_eq_true rfl) dX6_begin_2 (fun H locs hP hD hS => ?_)
  obtain ⟨z_1, ez_1, hf⟩ := nm_ob hf
  have hP : va_P D vwCl (wS q (q2 0) (q3 0) (q4 0) (q5 0) z_1 ++ wT cB q2 z2 ++ wC cI q3 z3 ++ wA q4 z4 ++ wP q5 z5) H := by rw [ez_1]; exact hP
  have hD : va_D A (wS q (q2 0) (q3 0) (q4 0) (q5 0) z_1 ++ wT cB q2 z2 ++ wC cI q3 z3 ++ wA q4 z4 ++ wP q5 z5) := by rw [ez_1]; exact hD
  refine lv_aload_n hx hb dX6_begin_5 rfl (lv_at hl 0 rfl) ?_
  refine lv_iconst (v := (-1)) hx hb dX6_begin_6 (by decide) ?_
  refine va_put (D := D) (ci := 5) (v := .int (-1 : Int32)) (ty := .int) (C := RX6) (T := TX6) (N := 9) hx hb hts hiX6 tyX6 tyX6_ok nmX6 hown hK hP hD hS 0 rfl rfl 5 (by decide) k43 (fun _ h9 => h9) rfl (by decide +kernel) rfl rfl (Nat.le_of_ble_eq_true rfl) dX6_begin_7 (fun H locs hP hD hS => ?_)
  obtain ⟨z_2, ez_2, hf⟩ := nm_ob hf
  have hP : va_P D vwCl (wS q (q2 0) (q3 0) (q4 0) (q5 0) z_2 ++ wT cB q2 z2 ++ wC cI q3 z3 ++ wA q4 z4 ++ wP q5 z5) H := by rw [ez_2]; exact hP
  have hD : va_D A (wS q (q2 0) (q3 0) (q4 0) (q5 0) z_2 ++ wT cB q2 z2 ++ wC cI q3 z3 ++ wA q4 z4 ++ wP q5 z5) := by rw [ez_2]; exact hD
  refine lv_aload_n hx hb dX6_begin_10 rfl (lv_at hl 0 rfl) ?_
  refine lv_iconst (v := 0) hx hb dX6_begin_11 (by decide) ?_
  refine va_put (D := D) (ci := 5) (v := .int (0 : Int32)) (ty := .int) (C := RX6) (T := TX6) (N := 9) hx hb hts hiX6 tyX6 tyX6_ok nmX6 hown hK hP hD hS 0 rfl rfl 6 (by decide) k46 (fun _ h9 => h9) rfl (by decide +kernel) rfl rfl (Nat.le_of_ble_eq_true rfl) dX6_begin_12 (fun H locs hP hD hS => ?_)
  obtain ⟨z_3, ez_3, hf⟩ := nm_ob hf
  have hP : va_P D vwCl (wS q (q2 0) (q3 0) (q4 0) (q5 0) z_3 ++ wT cB q2 z2 ++ wC cI q3 z3 ++ wA q4 z4 ++ wP q5 z5) H := by rw [ez_3]; exact hP
  have hD : va_D A (wS q (q2 0) (q3 0) (q4 0) (q5 0) z_3 ++ wT cB q2 z2 ++ wC cI q3 z3 ++ wA q4 z4 ++ wP q5 z5) := by rw [ez_3]; exact hD
  refine lv_aload_n hx hb dX6_begin_15 rfl (lv_at hl 0 rfl) ?_
  refine va_get (D := D) (ci := 5) (v := .ref (q2 0)) (C := RX6) (T := TX6) (N := 9) hx hb hts hiX6 hown hK hP 0 rfl rfl 0 (by decide) k12 (fun _ h9 => h9) rfl dX6_begin_16 ?_
  obtain ⟨z_4, hc_5, hf⟩ := bd_ob hf
  refine wrV (As := []) (rest := []) (ws2 := wS q (q2 0) (q3 0) (q4 0) (q5 0) z_3 ++ wT cB q2 z_4 ++ wC cI q3 z3 ++ wA q4 z4 ++ wP q5 z5) ⟨hx, hb, hml, hown, hts⟩ (mX7_begin l D cI cB cZ cO q2 _ fu z2 hc_5) (cwV 0 hts gX6_begin_X7_begin rfl rfl rfl (by decide +kernel) ⟨Nat.le_of_ble_eq_true rfl, Nat.le_of_ble_eq_true rfl⟩) hK hP hD hS hA [1, 2] [0, 3, 4, 5, 6, 7, 8, 9, 10, 11] [0, 10, 11, 1, 2, 3, 4, 5, 6, 7, 8, 9] rfl (hP.sub [1, 2] rfl) (by decide) rfl (by decide) (by decide) (by decide) rfl (va_recv hK hP (ci := 6) (q0 := 1) rfl rfl) rfl hl.1 rfl (Nat.le_of_ble_eq_true rfl) dX6_begin_19 ⟨Nat.zero_le _, Nat.zero_le _⟩ (fun H locs hP hD hS => ?_)
  exact rW_v hx hb hr hlocks hP hD hS (congrArg (fun (q9 : (OS) × (OS)) => wS q (q2 0) (q3 0) (q4 0) (q5 0) q9.1 ++ wT cB q2 q9.2 ++ wC cI q3 z3 ++ wA q4 z4 ++ wP q5 z5) (so_ob hf)) dX6_begin_22
def fX6_end (fu : Nat) (z : OS) (z2 : OS) (z3 : OS) (z4 : OS) (z5 : OS) : Option ((OS)) :=
  nm (sI z2 1 (0 : Int32)) (fun (z_1 : OS) => some z_1)
set_option maxRecDepth 100000 in
set_option maxHeartbeats 4000000 in
theorem mX6_end (l : Launch) (D : va_G) (cI cB cZ cO : ClassId) (q : Nat → Nat) (q2 : Nat → Nat) (q3 : Nat → Nat) (q4 : Nat → Nat) (q5 : Nat → Nat) (sz : Nat) (fu : Nat) (z : OS) (z2 : OS) (z3 : OS) (z4 : OS) (z5 : OS) {y2 : OS} (hf : fX6_end fu z z2 z3 z4 z5 = some y2) : Met l yX6_end wsX6_end ({ frames := 0, cells := 0, slots := 0, locals := 0 }) (va_Pc [.ref (q 0)] (Pw D (gT cI cB cZ cO) (wS q (q2 0) (q3 0) (q4 0) (q5 0) z ++ wT cB q2 z2 ++ wC cI q3 z3 ++ wA q4 z4 ++ wP q5 z5) sz)) (Qw D (va_A (wS q (q2 0) (q3 0) (q4 0) (q5 0) z ++ wT cB q2 z2 ++ wC cI q3 z3 ++ wA q4 z4 ++ wP q5 z5) sz) none (wS q (q2 0) (q3 0) (q4 0) (q5 0) z ++ wT cB q2 y2 ++ wC cI q3 z3 ++ wA q4 z4 ++ wP q5 z5)) 0 0 (va_A (wS q (q2 0) (q3 0) (q4 0) (q5 0) z ++ wT cB q2 z2 ++ wC cI q3 z3 ++ wA q4 z4 ++ wP q5 z5) sz) := by
  unfold fX6_end at hf
  refine metW (ret := none) (own := RX6) rfl (by decide) rfl (Nat.le_of_ble_eq_true rfl) (fun p e s m args below meth c ls A hx hb hr hml hown hlocks hts hK hA hP hD hS hl => ?_)
  have k12 := (hts (.fieldLink RX6 12 "ResolutionProver$Script" "tokens" "LResolutionProver$Tokens;") (List.mem_of_getElem? (i := 1) rfl))
  have k58 := (hts (.fieldLink RX6 58 "ResolutionProver$Tokens" "length" "I") (List.mem_of_getElem? (i := 2) rfl))
  have hiX6 : ∀ w ∈ wsX60, w ∈ wsX6_end := (memIn_p [3, 4, 5, 6, 7, 8, 9, 10, 11] rfl)
  have hiX7 : ∀ w ∈ wsX70, w ∈ wsX6_end := (memIn_p [12, 13, 14, 15, 16] rfl)
  have hl : lv_has ls 1 [(0, .ref (q 0))] := hl
  refine lv_aload_n hx hb dX6_end_0 rfl (lv_at hl 0 rfl) ?_
  refine va_get (D := D) (ci := 5) (v := .ref (q2 0)) (C := RX6) (T := TX6) (N := 9) hx hb hts hiX6 hown hK hP 0 rfl rfl 0 (by decide) k12 (fun _ h9 => h9) rfl dX6_end_1 ?_
  refine lv_iconst (v := 0) hx hb dX6_end_4 (by decide) ?_
  refine va_put (D := D) (ci := 6) (v := .int (0 : Int32)) (ty := .int) (C := RX7) (T := TX7) (N := 5) hx hb hts hiX7 tyX7 tyX7_ok nmX7 hown hK hP hD hS 1 rfl rfl 1 (by decide) k58 (fun _ h9 => h9) rfl (by decide +kernel) rfl rfl (Nat.le_of_ble_eq_true rfl) dX6_end_5 (fun H locs hP hD hS => ?_)
  obtain ⟨z_1, ez_1, hf⟩ := nm_ob hf
  have hP : va_P D vwCl (wS q (q2 0) (q3 0) (q4 0) (q5 0) z ++ wT cB q2 z_1 ++ wC cI q3 z3 ++ wA q4 z4 ++ wP q5 z5) H := by rw [ez_1]; exact hP
  have hD : va_D A (wS q (q2 0) (q3 0) (q4 0) (q5 0) z ++ wT cB q2 z_1 ++ wC cI q3 z3 ++ wA q4 z4 ++ wP q5 z5) := by rw [ez_1]; exact hD
  exact rW_v hx hb hr hlocks hP hD hS (congrArg (fun (q9 : (OS)) => wS q (q2 0) (q3 0) (q4 0) (q5 0) z ++ wT cB q2 q9 ++ wC cI q3 z3 ++ wA q4 z4 ++ wP q5 z5) (so_ob hf)) dX6_end_8
def fX6_isFailed (fu : Nat) (z : OS) (z2 : OS) (z3 : OS) (z4 : OS) (z5 : OS) : Option (Int32) :=
  (if (z.1 4) = (0 : Int32) then gd (isZ (0 : Int32)) (some (0 : Int32)) else gd (isZ (1 : Int32)) (some (1 : Int32)))
set_option maxRecDepth 100000 in
set_option maxHeartbeats 4000000 in
theorem mX6_isFailed (l : Launch) (D : va_G) (cI cB cZ cO : ClassId) (q : Nat → Nat) (q2 : Nat → Nat) (q3 : Nat → Nat) (q4 : Nat → Nat) (q5 : Nat → Nat) (fu : Nat) (z : OS) (z2 : OS) (z3 : OS) (z4 : OS) (z5 : OS) {r : Int32} (hf : fX6_isFailed fu z z2 z3 z4 z5 = some r) : Met l yX6_isFailed wsX6_isFailed ({ frames := 0, cells := 0, slots := 0, locals := 0 }) (va_Pc [.ref (q 0)] (Pr D (gT cI cB cZ cO) (wS q (q2 0) (q3 0) (q4 0) (q5 0) z ++ wT cB q2 z2 ++ wC cI q3 z3 ++ wA q4 z4 ++ wP q5 z5))) (Qr (some (.int r))) 0 0 (fun _ => False) := by
  unfold fX6_isFailed at hf
  refine metR (ret := (some .boolean)) (own := RX6) rfl (by decide) rfl (Nat.le_of_ble_eq_true rfl) (fun p e s m args below meth c ls hx hb hr hml hown hlocks hts hP hK hl => ?_)
  have k39 := (hts (.fieldLink RX6 39 "ResolutionProver$Script" "errorCode" "I") (List.mem_of_getElem? (i := 1) rfl))
  have hiX6 : ∀ w ∈ wsX60, w ∈ wsX6_isFailed := (memIn_p [2, 3, 4, 5, 6, 7, 8, 9, 10] rfl)
  have hl : lv_has ls 1 [(0, .ref (q 0))] := hl
  refine lv_aload_n hx hb dX6_isFailed_0 rfl (lv_at hl 0 rfl) ?_
  refine va_get (D := D) (ci := 5) (v := .int (z.1 4)) (C := RX6) (T := TX6) (N := 9) hx hb hts hiX6 hown hK hP 0 rfl rfl 4 (by decide) k39 (fun _ h9 => h9) rfl dX6_isFailed_1 ?_
  refine lv_if_eq (tgt := 11) hx hb dX6_isFailed_4 (by decide) (fun c_4 => ?_) (fun c_4 => ?_)
  · have hf := ip c_4 hf
    refine lv_iconst (v := 0) hx hb dX6_isFailed_11 (by decide) ?_
    obtain ⟨hz, hf⟩ := gd_ob hf
    exact rR_z hx hb hr hlocks hz (so_ob hf) dX6_isFailed_12
  · have hf := iq c_4 hf
    refine lv_iconst (v := 1) hx hb dX6_isFailed_7 (by decide) ?_
    refine lv_goto (tgt := 12) hx hb dX6_isFailed_8 (by decide) ?_
    obtain ⟨hz, hf⟩ := gd_ob hf
    exact rR_z hx hb hr hlocks hz (so_ob hf) dX6_isFailed_12
def fX6_fail (fu : Nat) (z : OS) (z2 : OS) (z3 : OS) (z4 : OS) (z5 : OS) (p1 : Int32) (p2 : Int32) : Option ((OS)) :=
  (if ¬ (z.1 4) = (0 : Int32) then some z else nm (sI z 4 p1) (fun (z_1 : OS) => nm (sI z_1 5 p2) (fun (z_2 : OS) => some z_2)))
set_option maxRecDepth 100000 in
set_option maxHeartbeats 4000000 in
theorem mX6_fail (l : Launch) (D : va_G) (cI cB cZ cO : ClassId) (q : Nat → Nat) (q2 : Nat → Nat) (q3 : Nat → Nat) (q4 : Nat → Nat) (q5 : Nat → Nat) (sz : Nat) (fu : Nat) (z : OS) (z2 : OS) (z3 : OS) (z4 : OS) (z5 : OS) (p1 : Int32) (p2 : Int32) {y1 : OS} (hf : fX6_fail fu z z2 z3 z4 z5 p1 p2 = some y1) : Met l yX6_fail wsX6_fail ({ frames := 0, cells := 0, slots := 0, locals := 0 }) (va_Pc [.ref (q 0), .int p1, .int p2] (Pw D (gT cI cB cZ cO) (wS q (q2 0) (q3 0) (q4 0) (q5 0) z ++ wT cB q2 z2 ++ wC cI q3 z3 ++ wA q4 z4 ++ wP q5 z5) sz)) (Qw D (va_A (wS q (q2 0) (q3 0) (q4 0) (q5 0) z ++ wT cB q2 z2 ++ wC cI q3 z3 ++ wA q4 z4 ++ wP q5 z5) sz) none (wS q (q2 0) (q3 0) (q4 0) (q5 0) y1 ++ wT cB q2 z2 ++ wC cI q3 z3 ++ wA q4 z4 ++ wP q5 z5)) 0 0 (va_A (wS q (q2 0) (q3 0) (q4 0) (q5 0) z ++ wT cB q2 z2 ++ wC cI q3 z3 ++ wA q4 z4 ++ wP q5 z5) sz) := by
  unfold fX6_fail at hf
  refine metW (ret := none) (own := RX6) rfl (by decide) rfl (Nat.le_of_ble_eq_true rfl) (fun p e s m args below meth c ls A hx hb hr hml hown hlocks hts hK hA hP hD hS hl => ?_)
  have k39 := (hts (.fieldLink RX6 39 "ResolutionProver$Script" "errorCode" "I") (List.mem_of_getElem? (i := 1) rfl))
  have k43 := (hts (.fieldLink RX6 43 "ResolutionProver$Script" "errorPosition" "I") (List.mem_of_getElem? (i := 2) rfl))
  have hiX6 : ∀ w ∈ wsX60, w ∈ wsX6_fail := (memIn_p [3, 4, 5, 6, 7, 8, 9, 10, 11] rfl)
  have hl : lv_has ls 3 [(0, .ref (q 0)), (1, .int p1), (2, .int p2)] := hl
  refine lv_aload_n hx hb dX6_fail_0 rfl (lv_at hl 0 rfl) ?_
  refine va_get (D := D) (ci := 5) (v := .int (z.1 4)) (C := RX6) (T := TX6) (N := 9) hx hb hts hiX6 hown hK hP 0 rfl rfl 4 (by decide) k39 (fun _ h9 => h9) rfl dX6_fail_1 ?_
  refine lv_if_ne (tgt := 17) hx hb dX6_fail_4 (by decide) (fun c_4 => ?_) (fun c_4 => ?_)
  · have hf := ip c_4 hf
    exact rW_v hx hb hr hlocks hP hD hS (congrArg (fun (q9 : (OS)) => wS q (q2 0) (q3 0) (q4 0) (q5 0) q9 ++ wT cB q2 z2 ++ wC cI q3 z3 ++ wA q4 z4 ++ wP q5 z5) (so_ob hf)) dX6_fail_17
  · have hf := iqn c_4 hf
    refine lv_aload_n hx hb dX6_fail_7 rfl (lv_at hl 0 rfl) ?_
    refine lv_iload_n hx hb dX6_fail_8 rfl (lv_at hl 1 rfl) ?_
    refine va_put (D := D) (ci := 5) (v := .int p1) (ty := .int) (C := RX6) (T := TX6) (N := 9) hx hb hts hiX6 tyX6 tyX6_ok nmX6 hown hK hP hD hS 0 rfl rfl 4 (by decide) k39 (fun _ h9 => h9) rfl (by decide +kernel) rfl rfl (Nat.le_of_ble_eq_true rfl) dX6_fail_9 (fun H locs hP hD hS => ?_)
    obtain ⟨z_1, ez_1, hf⟩ := nm_ob hf
    have hP : va_P D vwCl (wS q (q2 0) (q3 0) (q4 0) (q5 0) z_1 ++ wT cB q2 z2 ++ wC cI q3 z3 ++ wA q4 z4 ++ wP q5 z5) H := by rw [ez_1]; exact hP
    have hD : va_D A (wS q (q2 0) (q3 0) (q4 0) (q5 0) z_1 ++ wT cB q2 z2 ++ wC cI q3 z3 ++ wA q4 z4 ++ wP q5 z5) := by rw [ez_1]; exact hD
    refine lv_aload_n hx hb dX6_fail_12 rfl (lv_at hl 0 rfl) ?_
    refine lv_iload_n hx hb dX6_fail_13 rfl (lv_at hl 2 rfl) ?_
    refine va_put (D := D) (ci := 5) (v := .int p2) (ty := .int) (C := RX6) (T := TX6) (N := 9) hx hb hts hiX6 tyX6 tyX6_ok nmX6 hown hK hP hD hS 0 rfl rfl 5 (by decide) k43 (fun _ h9 => h9) rfl (by decide +kernel) rfl rfl (Nat.le_of_ble_eq_true rfl) dX6_fail_14 (fun H locs hP hD hS => ?_)
    obtain ⟨z_2, ez_2, hf⟩ := nm_ob hf
    have hP : va_P D vwCl (wS q (q2 0) (q3 0) (q4 0) (q5 0) z_2 ++ wT cB q2 z2 ++ wC cI q3 z3 ++ wA q4 z4 ++ wP q5 z5) H := by rw [ez_2]; exact hP
    have hD : va_D A (wS q (q2 0) (q3 0) (q4 0) (q5 0) z_2 ++ wT cB q2 z2 ++ wC cI q3 z3 ++ wA q4 z4 ++ wP q5 z5) := by rw [ez_2]; exact hD
    exact rW_v hx hb hr hlocks hP hD hS (congrArg (fun (q9 : (OS)) => wS q (q2 0) (q3 0) (q4 0) (q5 0) q9 ++ wT cB q2 z2 ++ wC cI q3 z3 ++ wA q4 z4 ++ wP q5 z5) (so_ob hf)) dX6_fail_17
def fX6_readNumber (fu : Nat) (z : OS) (z2 : OS) (z3 : OS) (z4 : OS) (z5 : OS) (p1 : Int32) (p2 : Int32) : Option (Int32 × (OS) × (OS)) :=
  bd (fX6_isFailed fu z z2 z3 z4 z5) (fun (r_1 : Int32) => (if r_1 = (0 : Int32) then (if (z2.1 2) = (2 : Int32) then bd (fX7_number fu z2) (fun (r_3 : Int32) => jn (κ := Option (Int32 × (OS) × (OS))) (bd (fX6_fail fu z z2 z3 z4 z5 (2 : Int32) (z2.1 3)) (fun (z_5 : OS) => some ((-1 : Int32), z_5, z2))) (fun j52 => (if r_3 < p1 then j52 else (if r_3 ≤ p2 then bd (fX7_advance fu z2) (fun (z_7 : OS) => some (r_3, z, z_7)) else j52)))) else bd (fX6_fail fu z z2 z3 z4 z5 (1 : Int32) (z2.1 3)) (fun (z_9 : OS) => some ((-1 : Int32), z_9, z2))) else some ((-1 : Int32), z, z2)))
set_option maxRecDepth 100000 in
set_option maxHeartbeats 4000000 in
theorem mX6_readNumber (l : Launch) (D : va_G) (cI cB cZ cO : ClassId) (q : Nat → Nat) (q2 : Nat → Nat) (q3 : Nat → Nat) (q4 : Nat → Nat) (q5 : Nat → Nat) (sz : Nat) (fu : Nat) (z : OS) (z2 : OS) (z3 : OS) (z4 : OS) (z5 : OS) (p1 : Int32) (p2 : Int32) {r : Int32} {y1 : OS} {y2 : OS} (hf : fX6_readNumber fu z z2 z3 z4 z5 p1 p2 = some (r, y1, y2)) : Met l yX6_readNumber wsX6_readNumber ({ frames := 1, cells := 0, slots := 0, locals := 22 }) (va_Pc [.ref (q 0), .int p1, .int p2] (Pw D (gT cI cB cZ cO) (wS q (q2 0) (q3 0) (q4 0) (q5 0) z ++ wT cB q2 z2 ++ wC cI q3 z3 ++ wA q4 z4 ++ wP q5 z5) sz)) (Qw D (va_A (wS q (q2 0) (q3 0) (q4 0) (q5 0) z ++ wT cB q2 z2 ++ wC cI q3 z3 ++ wA q4 z4 ++ wP q5 z5) sz) (some (.int r)) (wS q (q2 0) (q3 0) (q4 0) (q5 0) y1 ++ wT cB q2 y2 ++ wC cI q3 z3 ++ wA q4 z4 ++ wP q5 z5)) 0 0 (va_A (wS q (q2 0) (q3 0) (q4 0) (q5 0) z ++ wT cB q2 z2 ++ wC cI q3 z3 ++ wA q4 z4 ++ wP q5 z5) sz) := by
  unfold fX6_readNumber at hf
  refine metW (ret := (some .int)) (own := RX6) rfl (by decide) rfl (Nat.le_of_ble_eq_true rfl) (fun p e s m args below meth c ls A hx hb hr hml hown hlocks hts hK hA hP hD hS hl => ?_)
  have k12 := (hts (.fieldLink RX6 12 "ResolutionProver$Script" "tokens" "LResolutionProver$Tokens;") (List.mem_of_getElem? (i := 1) rfl))
  have k91 := (hts (.fieldLink RX6 91 "ResolutionProver$Tokens" "kind" "I") (List.mem_of_getElem? (i := 2) rfl))
  have k67 := (hts (.fieldLink RX6 67 "ResolutionProver$Tokens" "start" "I") (List.mem_of_getElem? (i := 3) rfl))
  have hiX6 : ∀ w ∈ wsX60, w ∈ wsX6_readNumber := (memIn_p [29, 30, 31, 32, 33, 34, 35, 36, 37] rfl)
  have hiX7 : ∀ w ∈ wsX70, w ∈ wsX6_readNumber := (memIn_p [38, 39, 40, 41, 42] rfl)
  have hl : lv_has ls 4 [(0, .ref (q 0)), (1, .int p1), (2, .int p2)] := hl
  refine lv_aload_n hx hb dX6_readNumber_0 rfl (lv_at hl 0 rfl) ?_
  obtain ⟨r_1, hc_2, hf⟩ := bd_ob hf
  refine rdV (As := []) (rest := []) ⟨hx, hb, hml, hown, hts⟩ (mX6_isFailed l D cI cB cZ cO q q2 q3 q4 q5 fu z z2 z3 z4 z5 hc_2) (cwV 0 hts gX6_readNumber_X6_isFailed rfl rfl rfl (by decide +kernel) ⟨Nat.le_of_ble_eq_true rfl, Nat.le_of_ble_eq_true rfl⟩) hK hP (va_recv hK hP (ci := 5) (q0 := 0) rfl rfl) rfl hl.1 rfl (Nat.le_of_ble_eq_true rfl) dX6_readNumber_1 ⟨Nat.zero_le _, Nat.zero_le _⟩ ?_
  refine lv_if_eq (tgt := 9) hx hb dX6_readNumber_4 (by decide) (fun c_4 => ?_) (fun c_4 => ?_)
  · have hf := ip c_4 hf
    refine lv_aload_n hx hb dX6_readNumber_9 rfl (lv_at hl 0 rfl) ?_
    refine va_get (D := D) (ci := 5) (v := .ref (q2 0)) (C := RX6) (T := TX6) (N := 9) hx hb hts hiX6 hown hK hP 0 rfl rfl 0 (by decide) k12 (fun _ h9 => h9) rfl dX6_readNumber_10 ?_
    refine va_get (D := D) (ci := 6) (v := .int (z2.1 2)) (C := RX7) (T := TX7) (N := 5) hx hb hts hiX7 hown hK hP 1 rfl rfl 2 (by decide) k91 (fun _ h9 => h9) rfl dX6_readNumber_13 ?_
    refine lv_iconst (v := 2) hx hb dX6_readNumber_16 (by decide) ?_
    refine lv_icmp_eq (tgt := 34) hx hb dX6_readNumber_17 (by decide) (fun c_17 => ?_) (fun c_17 => ?_)
    · have hf := ip c_17 hf
      refine lv_aload_n hx hb dX6_readNumber_34 rfl (lv_at hl 0 rfl) ?_
      refine va_get (D := D) (ci := 5) (v := .ref (q2 0)) (C := RX6) (T := TX6) (N := 9) hx hb hts hiX6 hown hK hP 0 rfl rfl 0 (by decide) k12 (fun _ h9 => h9) rfl dX6_readNumber_35 ?_
      obtain ⟨r_3, hc_4, hf⟩ := bd_ob hf
      refine rdV (As := []) (rest := []) ⟨hx, hb, hml, hown, hts⟩ (mX7_number l D cI cB cZ cO q2 fu z2 hc_4) (cwV 0 hts gX6_readNumber_X7_number rfl rfl rfl (by decide +kernel) ⟨Nat.le_of_ble_eq_true rfl, Nat.le_of_ble_eq_true rfl⟩) hK (hP.sub [1, 2] rfl) (va_recv hK hP (ci := 6) (q0 := 1) rfl rfl) rfl hl.1 rfl (Nat.le_of_ble_eq_true rfl) dX6_readNumber_38 ⟨Nat.zero_le _, Nat.zero_le _⟩ ?_
      refine lv_istore_n (lv' := [(3, .int r_3), (0, .ref (q 0)), (1, .int p1), (2, .int p2)]) hx hb dX6_readNumber_41 rfl hl (by decide) rfl (fun ls hl => ?_)
      refine lv_iload_n hx hb dX6_readNumber_42 rfl (lv_at hl 0 rfl) ?_
      refine lv_iload_n hx hb dX6_readNumber_43 rfl (lv_at hl 2 rfl) ?_
      obtain ⟨j52, ej52, hf⟩ := jn_ob hf
      have hp52 : ∀  (H : Heap) (locs : List Loc) (ls : Array Slot), j52 = some (r, y1, y2) → va_P D vwCl (wS q (q2 0) (q3 0) (q4 0) (q5 0) z ++ wT cB q2 z2 ++ wC cI q3 z3 ++ wA q4 z4 ++ wP q5 z5) H → va_D A (wS q (q2 0) (q3 0) (q4 0) (q5 0) z ++ wT cB q2 z2 ++ wC cI q3 z3 ++ wA q4 z4 ++ wP q5 z5) → va_S A s.heap H locs → lv_has ls 4 [(0, .ref (q 0))] → W p l e (headSpec wsX6_readNumber { frames := 1, cells := 0, slots := 0, locals := 22 }).room s m args below meth c H locs 0 0 (MQ below (Qw D A (some (.int r)) (wS q (q2 0) (q3 0) (q4 0) (q5 0) y1 ++ wT cB q2 y2 ++ wC cI q3 z3 ++ wA q4 z4 ++ wP q5 z5)) args s 0 0 A) (F0 m 52 ls []) := by
        intro H locs ls hf hP hD hS hl
        rw [ej52] at hf
        refine lv_aload_n hx hb dX6_readNumber_52 rfl (lv_at hl 0 rfl) ?_
        refine lv_iconst (v := 2) hx hb dX6_readNumber_53 (by decide) ?_
        refine lv_aload_n hx hb dX6_readNumber_54 rfl (lv_at hl 0 rfl) ?_
        refine va_get (D := D) (ci := 5) (v := .ref (q2 0)) (C := RX6) (T := TX6) (N := 9) hx hb hts hiX6 hown hK hP 0 rfl rfl 0 (by decide) k12 (fun _ h9 => h9) rfl dX6_readNumber_55 ?_
        refine va_get (D := D) (ci := 6) (v := .int (z2.1 3)) (C := RX7) (T := TX7) (N := 5) hx hb hts hiX7 hown hK hP 1 rfl rfl 3 (by decide) k67 (fun _ h9 => h9) rfl dX6_readNumber_58 ?_
        obtain ⟨z_5, hc_6, hf⟩ := bd_ob hf
        refine weV (As := [.int (2 : Int32), .int (z2.1 3)]) (rest := []) ⟨hx, hb, hml, hown, hts⟩ (mX6_fail l D cI cB cZ cO q q2 q3 q4 q5 _ fu z z2 z3 z4 z5 (2 : Int32) (z2.1 3) hc_6) (cwV 2 hts gX6_readNumber_X6_fail rfl rfl rfl (by decide +kernel) ⟨Nat.le_of_ble_eq_true rfl, Nat.le_of_ble_eq_true rfl⟩) hK hP hD hS hA (va_recv hK hP (ci := 5) (q0 := 0) rfl rfl) rfl hl.1 rfl (Nat.le_of_ble_eq_true rfl) dX6_readNumber_61 ⟨Nat.zero_le _, Nat.zero_le _⟩ (fun H locs hP hD hS => ?_)
        refine lv_iconst (v := (-1)) hx hb dX6_readNumber_64 (by decide) ?_
        exact rW_i hx hb hr hlocks hP hD hS (congrArg (fun q9 => q9.1) (so_ob hf)) (congrArg (fun (q9 : Int32 × (OS) × (OS)) => wS q (q2 0) (q3 0) (q4 0) (q5 0) q9.2.1 ++ wT cB q2 q9.2.2 ++ wC cI q3 z3 ++ wA q4 z4 ++ wP q5 z5) (so_ob hf)) dX6_readNumber_65
      refine lv_icmp_lt (tgt := 52) hx hb dX6_readNumber_44 (by decide) (fun c_44 => ?_) (fun c_44 => ?_)
      · have hf := ip c_44 hf
        exact hp52 _ _ _ hf hP hD hS (lv_sub hl [1] rfl)
      · have hf := iq c_44 hf
        refine lv_iload_n hx hb dX6_readNumber_47 rfl (lv_at hl 0 rfl) ?_
        refine lv_iload_n hx hb dX6_readNumber_48 rfl (lv_at hl 3 rfl) ?_
        refine lv_icmp_le (tgt := 66) hx hb dX6_readNumber_49 (by decide) (fun c_49 => ?_) (fun c_49 => ?_)
        · have hf := ip c_49 hf
          refine lv_aload_n hx hb dX6_readNumber_66 rfl (lv_at hl 1 rfl) ?_
          refine va_get (D := D) (ci := 5) (v := .ref (q2 0)) (C := RX6) (T := TX6) (N := 9) hx hb hts hiX6 hown hK hP 0 rfl rfl 0 (by decide) k12 (fun _ h9 => h9) rfl dX6_readNumber_67 ?_
          obtain ⟨z_7, hc_8, hf⟩ := bd_ob hf
          refine wrV (As := []) (rest := []) (ws2 := wS q (q2 0) (q3 0) (q4 0) (q5 0) z ++ wT cB q2 z_7 ++ wC cI q3 z3 ++ wA q4 z4 ++ wP q5 z5) ⟨hx, hb, hml, hown, hts⟩ (mX7_advance l D cI cB cZ cO q2 _ fu z2 hc_8) (cwV 0 hts gX6_readNumber_X7_advance rfl rfl rfl (by decide +kernel) ⟨Nat.le_of_ble_eq_true rfl, Nat.le_of_ble_eq_true rfl⟩) hK hP hD hS hA [1, 2] [0, 3, 4, 5, 6, 7, 8, 9, 10, 11] [0, 10, 11, 1, 2, 3, 4, 5, 6, 7, 8, 9] rfl (hP.sub [1, 2] rfl) (by decide) rfl (by decide) (by decide) (by decide) rfl (va_recv hK hP (ci := 6) (q0 := 1) rfl rfl) rfl hl.1 rfl (Nat.le_of_ble_eq_true rfl) dX6_readNumber_70 ⟨Nat.zero_le _, Nat.zero_le _⟩ (fun H locs hP hD hS => ?_)
          refine lv_iload_n hx hb dX6_readNumber_73 rfl (lv_at hl 0 rfl) ?_
          exact rW_i hx hb hr hlocks hP hD hS (congrArg (fun q9 => q9.1) (so_ob hf)) (congrArg (fun (q9 : Int32 × (OS) × (OS)) => wS q (q2 0) (q3 0) (q4 0) (q5 0) q9.2.1 ++ wT cB q2 q9.2.2 ++ wC cI q3 z3 ++ wA q4 z4 ++ wP q5 z5) (so_ob hf)) dX6_readNumber_74
        · have hf := iq c_49 hf
          exact hp52 _ _ _ hf hP hD hS (lv_sub hl [1] rfl)
    · have hf := iq c_17 hf
      refine lv_aload_n hx hb dX6_readNumber_20 rfl (lv_at hl 0 rfl) ?_
      refine lv_iconst (v := 1) hx hb dX6_readNumber_21 (by decide) ?_
      refine lv_aload_n hx hb dX6_readNumber_22 rfl (lv_at hl 0 rfl) ?_
      refine va_get (D := D) (ci := 5) (v := .ref (q2 0)) (C := RX6) (T := TX6) (N := 9) hx hb hts hiX6 hown hK hP 0 rfl rfl 0 (by decide) k12 (fun _ h9 => h9) rfl dX6_readNumber_23 ?_
      refine va_get (D := D) (ci := 6) (v := .int (z2.1 3)) (C := RX7) (T := TX7) (N := 5) hx hb hts hiX7 hown hK hP 1 rfl rfl 3 (by decide) k67 (fun _ h9 => h9) rfl dX6_readNumber_26 ?_
      obtain ⟨z_9, hc_10, hf⟩ := bd_ob hf
      refine weV (As := [.int (1 : Int32), .int (z2.1 3)]) (rest := []) ⟨hx, hb, hml, hown, hts⟩ (mX6_fail l D cI cB cZ cO q q2 q3 q4 q5 _ fu z z2 z3 z4 z5 (1 : Int32) (z2.1 3) hc_10) (cwV 2 hts gX6_readNumber_X6_fail rfl rfl rfl (by decide +kernel) ⟨Nat.le_of_ble_eq_true rfl, Nat.le_of_ble_eq_true rfl⟩) hK hP hD hS hA (va_recv hK hP (ci := 5) (q0 := 0) rfl rfl) rfl hl.1 rfl (Nat.le_of_ble_eq_true rfl) dX6_readNumber_29 ⟨Nat.zero_le _, Nat.zero_le _⟩ (fun H locs hP hD hS => ?_)
      refine lv_iconst (v := (-1)) hx hb dX6_readNumber_32 (by decide) ?_
      exact rW_i hx hb hr hlocks hP hD hS (congrArg (fun q9 => q9.1) (so_ob hf)) (congrArg (fun (q9 : Int32 × (OS) × (OS)) => wS q (q2 0) (q3 0) (q4 0) (q5 0) q9.2.1 ++ wT cB q2 q9.2.2 ++ wC cI q3 z3 ++ wA q4 z4 ++ wP q5 z5) (so_ob hf)) dX6_readNumber_33
  · have hf := iq c_4 hf
    refine lv_iconst (v := (-1)) hx hb dX6_readNumber_7 (by decide) ?_
    exact rW_i hx hb hr hlocks hP hD hS (congrArg (fun q9 => q9.1) (so_ob hf)) (congrArg (fun (q9 : Int32 × (OS) × (OS)) => wS q (q2 0) (q3 0) (q4 0) (q5 0) q9.2.1 ++ wT cB q2 q9.2.2 ++ wC cI q3 z3 ++ wA q4 z4 ++ wP q5 z5) (so_ob hf)) dX6_readNumber_8
def fX6_readSemicolon (fu : Nat) (z : OS) (z2 : OS) (z3 : OS) (z4 : OS) (z5 : OS) : Option ((OS) × (OS)) :=
  bd (fX6_isFailed fu z z2 z3 z4 z5) (fun (r_1 : Int32) => (if r_1 = (0 : Int32) then (if (z2.1 2) = (3 : Int32) then bd (fX7_advance fu z2) (fun (z_3 : OS) => some (z, z_3)) else bd (fX6_fail fu z z2 z3 z4 z5 (1 : Int32) (z2.1 3)) (fun (z_5 : OS) => some (z_5, z2))) else some (z, z2)))
set_option maxRecDepth 100000 in
set_option maxHeartbeats 4000000 in
theorem mX6_readSemicolon (l : Launch) (D : va_G) (cI cB cZ cO : ClassId) (q : Nat → Nat) (q2 : Nat → Nat) (q3 : Nat → Nat) (q4 : Nat → Nat) (q5 : Nat → Nat) (sz : Nat) (fu : Nat) (z : OS) (z2 : OS) (z3 : OS) (z4 : OS) (z5 : OS) {y1 : OS} {y2 : OS} (hf : fX6_readSemicolon fu z z2 z3 z4 z5 = some (y1, y2)) : Met l yX6_readSemicolon wsX6_readSemicolon ({ frames := 1, cells := 0, slots := 0, locals := 22 }) (va_Pc [.ref (q 0)] (Pw D (gT cI cB cZ cO) (wS q (q2 0) (q3 0) (q4 0) (q5 0) z ++ wT cB q2 z2 ++ wC cI q3 z3 ++ wA q4 z4 ++ wP q5 z5) sz)) (Qw D (va_A (wS q (q2 0) (q3 0) (q4 0) (q5 0) z ++ wT cB q2 z2 ++ wC cI q3 z3 ++ wA q4 z4 ++ wP q5 z5) sz) none (wS q (q2 0) (q3 0) (q4 0) (q5 0) y1 ++ wT cB q2 y2 ++ wC cI q3 z3 ++ wA q4 z4 ++ wP q5 z5)) 0 0 (va_A (wS q (q2 0) (q3 0) (q4 0) (q5 0) z ++ wT cB q2 z2 ++ wC cI q3 z3 ++ wA q4 z4 ++ wP q5 z5) sz) := by
  unfold fX6_readSemicolon at hf
  refine metW (ret := none) (own := RX6) rfl (by decide) rfl (Nat.le_of_ble_eq_true rfl) (fun p e s m args below meth c ls A hx hb hr hml hown hlocks hts hK hA hP hD hS hl => ?_)
  have k12 := (hts (.fieldLink RX6 12 "ResolutionProver$Script" "tokens" "LResolutionProver$Tokens;") (List.mem_of_getElem? (i := 1) rfl))
  have k91 := (hts (.fieldLink RX6 91 "ResolutionProver$Tokens" "kind" "I") (List.mem_of_getElem? (i := 2) rfl))
  have k67 := (hts (.fieldLink RX6 67 "ResolutionProver$Tokens" "start" "I") (List.mem_of_getElem? (i := 3) rfl))
  have hiX6 : ∀ w ∈ wsX60, w ∈ wsX6_readSemicolon := (memIn_p [25, 26, 27, 28, 29, 30, 31, 32, 33] rfl)
  have hiX7 : ∀ w ∈ wsX70, w ∈ wsX6_readSemicolon := (memIn_p [34, 35, 36, 37, 38] rfl)
  have hl : lv_has ls 1 [(0, .ref (q 0))] := hl
  refine lv_aload_n hx hb dX6_readSemicolon_0 rfl (lv_at hl 0 rfl) ?_
  obtain ⟨r_1, hc_2, hf⟩ := bd_ob hf
  refine rdV (As := []) (rest := []) ⟨hx, hb, hml, hown, hts⟩ (mX6_isFailed l D cI cB cZ cO q q2 q3 q4 q5 fu z z2 z3 z4 z5 hc_2) (cwV 0 hts gX6_readSemicolon_X6_isFailed rfl rfl rfl (by decide +kernel) ⟨Nat.le_of_ble_eq_true rfl, Nat.le_of_ble_eq_true rfl⟩) hK hP (va_recv hK hP (ci := 5) (q0 := 0) rfl rfl) rfl hl.1 rfl (Nat.le_of_ble_eq_true rfl) dX6_readSemicolon_1 ⟨Nat.zero_le _, Nat.zero_le _⟩ ?_
  refine lv_if_eq (tgt := 8) hx hb dX6_readSemicolon_4 (by decide) (fun c_4 => ?_) (fun c_4 => ?_)
  · have hf := ip c_4 hf
    refine lv_aload_n hx hb dX6_readSemicolon_8 rfl (lv_at hl 0 rfl) ?_
    refine va_get (D := D) (ci := 5) (v := .ref (q2 0)) (C := RX6) (T := TX6) (N := 9) hx hb hts hiX6 hown hK hP 0 rfl rfl 0 (by decide) k12 (fun _ h9 => h9) rfl dX6_readSemicolon_9 ?_
    refine va_get (D := D) (ci := 6) (v := .int (z2.1 2)) (C := RX7) (T := TX7) (N := 5) hx hb hts hiX7 hown hK hP 1 rfl rfl 2 (by decide) k91 (fun _ h9 => h9) rfl dX6_readSemicolon_12 ?_
    refine lv_iconst (v := 3) hx hb dX6_readSemicolon_15 (by decide) ?_
    refine lv_icmp_eq (tgt := 32) hx hb dX6_readSemicolon_16 (by decide) (fun c_16 => ?_) (fun c_16 => ?_)
    · have hf := ip c_16 hf
      refine lv_aload_n hx hb dX6_readSemicolon_32 rfl (lv_at hl 0 rfl) ?_
      refine va_get (D := D) (ci := 5) (v := .ref (q2 0)) (C := RX6) (T := TX6) (N := 9) hx hb hts hiX6 hown hK hP 0 rfl rfl 0 (by decide) k12 (fun _ h9 => h9) rfl dX6_readSemicolon_33 ?_
      obtain ⟨z_3, hc_4, hf⟩ := bd_ob hf
      refine wrV (As := []) (rest := []) (ws2 := wS q (q2 0) (q3 0) (q4 0) (q5 0) z ++ wT cB q2 z_3 ++ wC cI q3 z3 ++ wA q4 z4 ++ wP q5 z5) ⟨hx, hb, hml, hown, hts⟩ (mX7_advance l D cI cB cZ cO q2 _ fu z2 hc_4) (cwV 0 hts gX6_readSemicolon_X7_advance rfl rfl rfl (by decide +kernel) ⟨Nat.le_of_ble_eq_true rfl, Nat.le_of_ble_eq_true rfl⟩) hK hP hD hS hA [1, 2] [0, 3, 4, 5, 6, 7, 8, 9, 10, 11] [0, 10, 11, 1, 2, 3, 4, 5, 6, 7, 8, 9] rfl (hP.sub [1, 2] rfl) (by decide) rfl (by decide) (by decide) (by decide) rfl (va_recv hK hP (ci := 6) (q0 := 1) rfl rfl) rfl hl.1 rfl (Nat.le_of_ble_eq_true rfl) dX6_readSemicolon_36 ⟨Nat.zero_le _, Nat.zero_le _⟩ (fun H locs hP hD hS => ?_)
      exact rW_v hx hb hr hlocks hP hD hS (congrArg (fun (q9 : (OS) × (OS)) => wS q (q2 0) (q3 0) (q4 0) (q5 0) q9.1 ++ wT cB q2 q9.2 ++ wC cI q3 z3 ++ wA q4 z4 ++ wP q5 z5) (so_ob hf)) dX6_readSemicolon_39
    · have hf := iq c_16 hf
      refine lv_aload_n hx hb dX6_readSemicolon_19 rfl (lv_at hl 0 rfl) ?_
      refine lv_iconst (v := 1) hx hb dX6_readSemicolon_20 (by decide) ?_
      refine lv_aload_n hx hb dX6_readSemicolon_21 rfl (lv_at hl 0 rfl) ?_
      refine va_get (D := D) (ci := 5) (v := .ref (q2 0)) (C := RX6) (T := TX6) (N := 9) hx hb hts hiX6 hown hK hP 0 rfl rfl 0 (by decide) k12 (fun _ h9 => h9) rfl dX6_readSemicolon_22 ?_
      refine va_get (D := D) (ci := 6) (v := .int (z2.1 3)) (C := RX7) (T := TX7) (N := 5) hx hb hts hiX7 hown hK hP 1 rfl rfl 3 (by decide) k67 (fun _ h9 => h9) rfl dX6_readSemicolon_25 ?_
      obtain ⟨z_5, hc_6, hf⟩ := bd_ob hf
      refine weV (As := [.int (1 : Int32), .int (z2.1 3)]) (rest := []) ⟨hx, hb, hml, hown, hts⟩ (mX6_fail l D cI cB cZ cO q q2 q3 q4 q5 _ fu z z2 z3 z4 z5 (1 : Int32) (z2.1 3) hc_6) (cwV 2 hts gX6_readSemicolon_X6_fail rfl rfl rfl (by decide +kernel) ⟨Nat.le_of_ble_eq_true rfl, Nat.le_of_ble_eq_true rfl⟩) hK hP hD hS hA (va_recv hK hP (ci := 5) (q0 := 0) rfl rfl) rfl hl.1 rfl (Nat.le_of_ble_eq_true rfl) dX6_readSemicolon_28 ⟨Nat.zero_le _, Nat.zero_le _⟩ (fun H locs hP hD hS => ?_)
      exact rW_v hx hb hr hlocks hP hD hS (congrArg (fun (q9 : (OS) × (OS)) => wS q (q2 0) (q3 0) (q4 0) (q5 0) q9.1 ++ wT cB q2 q9.2 ++ wC cI q3 z3 ++ wA q4 z4 ++ wP q5 z5) (so_ob hf)) dX6_readSemicolon_31
  · have hf := iq c_4 hf
    exact rW_v hx hb hr hlocks hP hD hS (congrArg (fun (q9 : (OS) × (OS)) => wS q (q2 0) (q3 0) (q4 0) (q5 0) q9.1 ++ wT cB q2 q9.2 ++ wC cI q3 z3 ++ wA q4 z4 ++ wP q5 z5) (so_ob hf)) dX6_readSemicolon_7
def fX6_readHeader (fu : Nat) (z : OS) (z2 : OS) (z3 : OS) (z4 : OS) (z5 : OS) : Option ((OS) × (OS) × (OS)) :=
  bd (fX7_isWord fu z2 (lt 0)) (fun (r_1 : Int32) => (if ¬ r_1 = (0 : Int32) then bd (fX7_advance fu z2) (fun (z_3 : OS) => bd (fX6_readNumber fu z z_3 z3 z4 z5 (1 : Int32) (12 : Int32)) (fun (w_8 : Int32 × OS × OS) => nm w_8.1 (fun (r_5 : Int32) => nm w_8.2.1 (fun (z_6 : OS) => nm w_8.2.2 (fun (z_7 : OS) => bd (fX6_readSemicolon fu z_6 z_7 z3 z4 z5) (fun (w_12 : OS × OS) => nm w_12.1 (fun (z_10 : OS) => nm w_12.2 (fun (z_11 : OS) => bd (fX6_isFailed fu z_10 z_11 z3 z4 z5) (fun (r_14 : Int32) => (if ¬ r_14 = (0 : Int32) then some (z_10, z_11, z3) else bd (fX0_begin fu z3 r_5) (fun (z_16 : OS) => some (z_10, z_11, z_16)))))))))))) else bd (fX6_fail fu z z2 z3 z4 z5 (1 : Int32) (z2.1 3)) (fun (z_18 : OS) => some (z_18, z2, z3))))
set_option maxRecDepth 100000 in
set_option maxHeartbeats 4000000 in
theorem mX6_readHeader (l : Launch) (D : va_G) (cI cB cZ cO : ClassId) (aK aV : Nat → Nat) (q : Nat → Nat) (q2 : Nat → Nat) (q3 : Nat → Nat) (q4 : Nat → Nat) (q5 : Nat → Nat) (sz : Nat) (fu : Nat) (z : OS) (z2 : OS) (z3 : OS) (z4 : OS) (z5 : OS) {y1 : OS} {y2 : OS} {y3 : OS} (hf : fX6_readHeader fu z z2 z3 z4 z5 = some (y1, y2, y3)) : Met l yX6_readHeader wsX6_readHeader ({ frames := 5, cells := 0, slots := 0, locals := 107 }) (va_Pc [.ref (q 0)] (PwX (EL aK aV) D (gT cI cB cZ cO) (wS q (q2 0) (q3 0) (q4 0) (q5 0) z ++ wT cB q2 z2 ++ wC cI q3 z3 ++ wA q4 z4 ++ wP q5 z5) sz)) (Qw D (va_A (wS q (q2 0) (q3 0) (q4 0) (q5 0) z ++ wT cB q2 z2 ++ wC cI q3 z3 ++ wA q4 z4 ++ wP q5 z5) sz) none (wS q (q2 0) (q3 0) (q4 0) (q5 0) y1 ++ wT cB q2 y2 ++ wC cI q3 y3 ++ wA q4 z4 ++ wP q5 z5)) 0 0 (va_A (wS q (q2 0) (q3 0) (q4 0) (q5 0) z ++ wT cB q2 z2 ++ wC cI q3 z3 ++ wA q4 z4 ++ wP q5 z5) sz) := by
  unfold fX6_readHeader at hf
  refine metWX (ret := none) (own := RX6) rfl (by decide) rfl (Nat.le_of_ble_eq_true rfl) (fun p e s m args below meth c ls A hx hb hr hml hown hlocks hts hK hA hP hD hS hE hl => ?_)
  have k12 := (hts (.fieldLink RX6 12 "ResolutionProver$Script" "tokens" "LResolutionProver$Tokens;") (List.mem_of_getElem? (i := 1) rfl))
  have k21 := (hts (.fieldLink RX6 21 "ResolutionProver$Script" "draft" "LResolutionProver$Clauses;") (List.mem_of_getElem? (i := 3) rfl))
  have k67 := (hts (.fieldLink RX6 67 "ResolutionProver$Tokens" "start" "I") (List.mem_of_getElem? (i := 2) rfl))
  have hiX6 : ∀ w ∈ wsX60, w ∈ wsX6_readHeader := (memIn_p [98, 99, 100, 101, 102, 103, 104, 105, 106] rfl)
  have hiX7 : ∀ w ∈ wsX70, w ∈ wsX6_readHeader := (memIn_p [107, 108, 109, 110, 111] rfl)
  have hl : lv_has ls 2 [(0, .ref (q 0))] := hl
  refine lv_aload_n hx hb dX6_readHeader_0 rfl (lv_at hl 0 rfl) ?_
  refine va_get (D := D) (ci := 5) (v := .ref (q2 0)) (C := RX6) (T := TX6) (N := 9) hx hb hts hiX6 hown hK hP 0 rfl rfl 0 (by decide) k12 (fun _ h9 => h9) rfl dX6_readHeader_1 ?_
  refine va_ldcS hx hb hown (EL_s0 hE) dX6_readHeader_4 ?_
  obtain ⟨r_1, hc_2, hf⟩ := bd_ob hf
  refine rdVX (As := [.ref (aK 0)]) (rest := []) ⟨hx, hb, hml, hown, hts⟩ (mX7_isWord l D cI cB cZ cO (aK 0) (aV 0) q2 fu z2 (lt 0) hc_2) (cwV 1 hts gX6_readHeader_X7_isWord rfl rfl rfl (by decide +kernel) ⟨Nat.le_of_ble_eq_true rfl, Nat.le_of_ble_eq_true rfl⟩) (ET_ok _ _ _) ((hE.1 0).kept hS.2.1) hK (hP.sub [1, 2] rfl) (va_recv hK hP (ci := 6) (q0 := 1) rfl rfl) rfl hl.1 rfl (Nat.le_of_ble_eq_true rfl) dX6_readHeader_6 ⟨Nat.zero_le _, Nat.zero_le _⟩ ?_
  refine lv_if_ne (tgt := 25) hx hb dX6_readHeader_9 (by decide) (fun c_9 => ?_) (fun c_9 => ?_)
  · have hf := ip c_9 hf
    refine lv_aload_n hx hb dX6_readHeader_25 rfl (lv_at hl 0 rfl) ?_
    refine va_get (D := D) (ci := 5) (v := .ref (q2 0)) (C := RX6) (T := TX6) (N := 9) hx hb hts hiX6 hown hK hP 0 rfl rfl 0 (by decide) k12 (fun _ h9 => h9) rfl dX6_readHeader_26 ?_
    obtain ⟨z_3, hc_4, hf⟩ := bd_ob hf
    refine wrV (As := []) (rest := []) (ws2 := wS q (q2 0) (q3 0) (q4 0) (q5 0) z ++ wT cB q2 z_3 ++ wC cI q3 z3 ++ wA q4 z4 ++ wP q5 z5) ⟨hx, hb, hml, hown, hts⟩ (mX7_advance l D cI cB cZ cO q2 _ fu z2 hc_4) (cwV 0 hts gX6_readHeader_X7_advance rfl rfl rfl (by decide +kernel) ⟨Nat.le_of_ble_eq_true rfl, Nat.le_of_ble_eq_true rfl⟩) hK hP hD hS hA [1, 2] [0, 3, 4, 5, 6, 7, 8, 9, 10, 11] [0, 10, 11, 1, 2, 3, 4, 5, 6, 7, 8, 9] rfl (hP.sub [1, 2] rfl) (by decide) rfl (by decide) (by decide) (by decide) rfl (va_recv hK hP (ci := 6) (q0 := 1) rfl rfl) rfl hl.1 rfl (Nat.le_of_ble_eq_true rfl) dX6_readHeader_29 ⟨Nat.zero_le _, Nat.zero_le _⟩ (fun H locs hP hD hS => ?_)
    refine lv_aload_n hx hb dX6_readHeader_32 rfl (lv_at hl 0 rfl) ?_
    refine lv_iconst (v := 1) hx hb dX6_readHeader_33 (by decide) ?_
    refine lv_bipush (v := 12) hx hb dX6_readHeader_34 (by decide) ?_
    obtain ⟨⟨r_5, z_6, z_7⟩, hc_9, hf⟩ := bd_ob hf
    have hf := nm_st hf
    have hf := nm_st hf
    have hf := nm_st hf
    refine weV (As := [.int (1 : Int32), .int (12 : Int32)]) (rest := []) ⟨hx, hb, hml, hown, hts⟩ (mX6_readNumber l D cI cB cZ cO q q2 q3 q4 q5 _ fu z z_3 z3 z4 z5 (1 : Int32) (12 : Int32) hc_9) (cwV 2 hts gX6_readHeader_X6_readNumber rfl rfl rfl (by decide +kernel) ⟨Nat.le_of_ble_eq_true rfl, Nat.le_of_ble_eq_true rfl⟩) hK hP hD hS hA (va_recv hK hP (ci := 5) (q0 := 0) rfl rfl) rfl hl.1 rfl (Nat.le_of_ble_eq_true rfl) dX6_readHeader_36 ⟨Nat.zero_le _, Nat.zero_le _⟩ (fun H locs hP hD hS => ?_)
    refine lv_istore_n (lv' := [(1, .int r_5), (0, .ref (q 0))]) hx hb dX6_readHeader_39 rfl hl (by decide) rfl (fun ls hl => ?_)
    refine lv_aload_n hx hb dX6_readHeader_40 rfl (lv_at hl 1 rfl) ?_
    obtain ⟨⟨z_10, z_11⟩, hc_13, hf⟩ := bd_ob hf
    have hf := nm_st hf
    have hf := nm_st hf
    refine weV (As := []) (rest := []) ⟨hx, hb, hml, hown, hts⟩ (mX6_readSemicolon l D cI cB cZ cO q q2 q3 q4 q5 _ fu z_6 z_7 z3 z4 z5 hc_13) (cwV 0 hts gX6_readHeader_X6_readSemicolon rfl rfl rfl (by decide +kernel) ⟨Nat.le_of_ble_eq_true rfl, Nat.le_of_ble_eq_true rfl⟩) hK hP hD hS hA (va_recv hK hP (ci := 5) (q0 := 0) rfl rfl) rfl hl.1 rfl (Nat.le_of_ble_eq_true rfl) dX6_readHeader_41 ⟨Nat.zero_le _, Nat.zero_le _⟩ (fun H locs hP hD hS => ?_)
    refine lv_aload_n hx hb dX6_readHeader_44 rfl (lv_at hl 1 rfl) ?_
    obtain ⟨r_14, hc_15, hf⟩ := bd_ob hf
    refine rdV (As := []) (rest := []) ⟨hx, hb, hml, hown, hts⟩ (mX6_isFailed l D cI cB cZ cO q q2 q3 q4 q5 fu z_10 z_11 z3 z4 z5 hc_15) (cwV 0 hts gX6_readHeader_X6_isFailed rfl rfl rfl (by decide +kernel) ⟨Nat.le_of_ble_eq_true rfl, Nat.le_of_ble_eq_true rfl⟩) hK hP (va_recv hK hP (ci := 5) (q0 := 0) rfl rfl) rfl hl.1 rfl (Nat.le_of_ble_eq_true rfl) dX6_readHeader_45 ⟨Nat.zero_le _, Nat.zero_le _⟩ ?_
    refine lv_if_ne (tgt := 59) hx hb dX6_readHeader_48 (by decide) (fun c_48 => ?_) (fun c_48 => ?_)
    · have hf := ip c_48 hf
      exact rW_v hx hb hr hlocks hP hD hS (congrArg (fun (q9 : (OS) × (OS) × (OS)) => wS q (q2 0) (q3 0) (q4 0) (q5 0) q9.1 ++ wT cB q2 q9.2.1 ++ wC cI q3 q9.2.2 ++ wA q4 z4 ++ wP q5 z5) (so_ob hf)) dX6_readHeader_59
    · have hf := iqn c_48 hf
      refine lv_aload_n hx hb dX6_readHeader_51 rfl (lv_at hl 1 rfl) ?_
      refine va_get (D := D) (ci := 5) (v := .ref (q3 0)) (C := RX6) (T := TX6) (N := 9) hx hb hts hiX6 hown hK hP 0 rfl rfl 1 (by decide) k21 (fun _ h9 => h9) rfl dX6_readHeader_52 ?_
      refine lv_iload_n hx hb dX6_readHeader_55 rfl (lv_at hl 0 rfl) ?_
      obtain ⟨z_16, hc_17, hf⟩ := bd_ob hf
      refine wrV (As := [.int r_5]) (rest := []) (ws2 := wS q (q2 0) (q3 0) (q4 0) (q5 0) z_10 ++ wT cB q2 z_11 ++ wC cI q3 z_16 ++ wA q4 z4 ++ wP q5 z5) ⟨hx, hb, hml, hown, hts⟩ (mX0_begin l D cI cB cZ cO q3 _ fu z3 r_5 hc_17) (cwV 1 hts gX6_readHeader_X0_begin rfl rfl rfl (by decide +kernel) ⟨Nat.le_of_ble_eq_true rfl, Nat.le_of_ble_eq_true rfl⟩) hK hP hD hS hA [3, 4, 5, 6, 7, 8, 9] [0, 1, 2, 10, 11] [0, 1, 2, 5, 6, 7, 8, 9, 10, 11, 3, 4] rfl (hP.sub [3, 4, 5, 6, 7, 8, 9] rfl) (by decide) rfl (by decide) (by decide) (by decide) rfl (va_recv hK hP (ci := 0) (q0 := 3) rfl rfl) rfl hl.1 rfl (Nat.le_of_ble_eq_true rfl) dX6_readHeader_56 ⟨Nat.zero_le _, Nat.zero_le _⟩ (fun H locs hP hD hS => ?_)
      exact rW_v hx hb hr hlocks hP hD hS (congrArg (fun (q9 : (OS) × (OS) × (OS)) => wS q (q2 0) (q3 0) (q4 0) (q5 0) q9.1 ++ wT cB q2 q9.2.1 ++ wC cI q3 q9.2.2 ++ wA q4 z4 ++ wP q5 z5) (so_ob hf)) dX6_readHeader_59
  · have hf := iqn c_9 hf
    refine lv_aload_n hx hb dX6_readHeader_12 rfl (lv_at hl 0 rfl) ?_
    refine lv_iconst (v := 1) hx hb dX6_readHeader_13 (by decide) ?_
    refine lv_aload_n hx hb dX6_readHeader_14 rfl (lv_at hl 0 rfl) ?_
    refine va_get (D := D) (ci := 5) (v := .ref (q2 0)) (C := RX6) (T := TX6) (N := 9) hx hb hts hiX6 hown hK hP 0 rfl rfl 0 (by decide) k12 (fun _ h9 => h9) rfl dX6_readHeader_15 ?_
    refine va_get (D := D) (ci := 6) (v := .int (z2.1 3)) (C := RX7) (T := TX7) (N := 5) hx hb hts hiX7 hown hK hP 1 rfl rfl 3 (by decide) k67 (fun _ h9 => h9) rfl dX6_readHeader_18 ?_
    obtain ⟨z_18, hc_19, hf⟩ := bd_ob hf
    refine weV (As := [.int (1 : Int32), .int (z2.1 3)]) (rest := []) ⟨hx, hb, hml, hown, hts⟩ (mX6_fail l D cI cB cZ cO q q2 q3 q4 q5 _ fu z z2 z3 z4 z5 (1 : Int32) (z2.1 3) hc_19) (cwV 2 hts gX6_readHeader_X6_fail rfl rfl rfl (by decide +kernel) ⟨Nat.le_of_ble_eq_true rfl, Nat.le_of_ble_eq_true rfl⟩) hK hP hD hS hA (va_recv hK hP (ci := 5) (q0 := 0) rfl rfl) rfl hl.1 rfl (Nat.le_of_ble_eq_true rfl) dX6_readHeader_21 ⟨Nat.zero_le _, Nat.zero_le _⟩ (fun H locs hP hD hS => ?_)
    exact rW_v hx hb hr hlocks hP hD hS (congrArg (fun (q9 : (OS) × (OS) × (OS)) => wS q (q2 0) (q3 0) (q4 0) (q5 0) q9.1 ++ wT cB q2 q9.2.1 ++ wC cI q3 q9.2.2 ++ wA q4 z4 ++ wP q5 z5) (so_ob hf)) dX6_readHeader_24
def fX6_readVariable (fu : Nat) (z : OS) (z2 : OS) (z3 : OS) (z4 : OS) (z5 : OS) : Option (Int32 × (OS) × (OS)) :=
  bd (fX7_letter fu z2) (fun (r_1 : Int32) => (if ¬ r_1 = (-1 : Int32) then (if r_1 < (z3.1 6) then bd (fX7_advance fu z2) (fun (z_3 : OS) => some (r_1, z, z_3)) else bd (fX6_fail fu z z2 z3 z4 z5 (2 : Int32) (z2.1 3)) (fun (z_5 : OS) => some ((-1 : Int32), z_5, z2))) else bd (fX6_fail fu z z2 z3 z4 z5 (1 : Int32) (z2.1 3)) (fun (z_7 : OS) => some ((-1 : Int32), z_7, z2))))
set_option maxRecDepth 100000 in
set_option maxHeartbeats 4000000 in
theorem mX6_readVariable (l : Launch) (D : va_G) (cI cB cZ cO : ClassId) (q : Nat → Nat) (q2 : Nat → Nat) (q3 : Nat → Nat) (q4 : Nat → Nat) (q5 : Nat → Nat) (sz : Nat) (fu : Nat) (z : OS) (z2 : OS) (z3 : OS) (z4 : OS) (z5 : OS) {r : Int32} {y1 : OS} {y2 : OS} (hf : fX6_readVariable fu z z2 z3 z4 z5 = some (r, y1, y2)) : Met l yX6_readVariable wsX6_readVariable ({ frames := 1, cells := 0, slots := 0, locals := 22 }) (va_Pc [.ref (q 0)] (Pw D (gT cI cB cZ cO) (wS q (q2 0) (q3 0) (q4 0) (q5 0) z ++ wT cB q2 z2 ++ wC cI q3 z3 ++ wA q4 z4 ++ wP q5 z5) sz)) (Qw D (va_A (wS q (q2 0) (q3 0) (q4 0) (q5 0) z ++ wT cB q2 z2 ++ wC cI q3 z3 ++ wA q4 z4 ++ wP q5 z5) sz) (some (.int r)) (wS q (q2 0) (q3 0) (q4 0) (q5 0) y1 ++ wT cB q2 y2 ++ wC cI q3 z3 ++ wA q4 z4 ++ wP q5 z5)) 0 0 (va_A (wS q (q2 0) (q3 0) (q4 0) (q5 0) z ++ wT cB q2 z2 ++ wC cI q3 z3 ++ wA q4 z4 ++ wP q5 z5) sz) := by
  unfold fX6_readVariable at hf
  refine metW (ret := (some .int)) (own := RX6) rfl (by decide) rfl (Nat.le_of_ble_eq_true rfl) (fun p e s m args below meth c ls A hx hb hr hml hown hlocks hts hK hA hP hD hS hl => ?_)
  have k12 := (hts (.fieldLink RX6 12 "ResolutionProver$Script" "tokens" "LResolutionProver$Tokens;") (List.mem_of_getElem? (i := 1) rfl))
  have k21 := (hts (.fieldLink RX6 21 "ResolutionProver$Script" "draft" "LResolutionProver$Clauses;") (List.mem_of_getElem? (i := 3) rfl))
  have k176 := (hts (.fieldLink RX6 176 "ResolutionProver$Clauses" "variables" "I") (List.mem_of_getElem? (i := 4) rfl))
  have k67 := (hts (.fieldLink RX6 67 "ResolutionProver$Tokens" "start" "I") (List.mem_of_getElem? (i := 2) rfl))
  have hiX6 : ∀ w ∈ wsX60, w ∈ wsX6_readVariable := (memIn_p [26, 27, 28, 29, 30, 31, 32, 33, 34] rfl)
  have hiX0 : ∀ w ∈ wsX00, w ∈ wsX6_readVariable := (memIn_p [40, 41, 42, 43, 44, 45, 46, 47] rfl)
  have hiX7 : ∀ w ∈ wsX70, w ∈ wsX6_readVariable := (memIn_p [35, 36, 37, 38, 39] rfl)
  have hl : lv_has ls 2 [(0, .ref (q 0))] := hl
  refine lv_aload_n hx hb dX6_readVariable_0 rfl (lv_at hl 0 rfl) ?_
  refine va_get (D := D) (ci := 5) (v := .ref (q2 0)) (C := RX6) (T := TX6) (N := 9) hx hb hts hiX6 hown hK hP 0 rfl rfl 0 (by decide) k12 (fun _ h9 => h9) rfl dX6_readVariable_1 ?_
  obtain ⟨r_1, hc_2, hf⟩ := bd_ob hf
  refine rdV (As := []) (rest := []) ⟨hx, hb, hml, hown, hts⟩ (mX7_letter l D cI cB cZ cO q2 fu z2 hc_2) (cwV 0 hts gX6_readVariable_X7_letter rfl rfl rfl (by decide +kernel) ⟨Nat.le_of_ble_eq_true rfl, Nat.le_of_ble_eq_true rfl⟩) hK (hP.sub [1, 2] rfl) (va_recv hK hP (ci := 6) (q0 := 1) rfl rfl) rfl hl.1 rfl (Nat.le_of_ble_eq_true rfl) dX6_readVariable_4 ⟨Nat.zero_le _, Nat.zero_le _⟩ ?_
  refine lv_istore_n (lv' := [(1, .int r_1), (0, .ref (q 0))]) hx hb dX6_readVariable_7 rfl hl (by decide) rfl (fun ls hl => ?_)
  refine lv_iload_n hx hb dX6_readVariable_8 rfl (lv_at hl 0 rfl) ?_
  refine lv_iconst (v := (-1)) hx hb dX6_readVariable_9 (by decide) ?_
  refine lv_icmp_ne (tgt := 27) hx hb dX6_readVariable_10 (by decide) (fun c_10 => ?_) (fun c_10 => ?_)
  · have hf := ip c_10 hf
    refine lv_iload_n hx hb dX6_readVariable_27 rfl (lv_at hl 0 rfl) ?_
    refine lv_aload_n hx hb dX6_readVariable_28 rfl (lv_at hl 1 rfl) ?_
    refine va_get (D := D) (ci := 5) (v := .ref (q3 0)) (C := RX6) (T := TX6) (N := 9) hx hb hts hiX6 hown hK hP 0 rfl rfl 1 (by decide) k21 (fun _ h9 => h9) rfl dX6_readVariable_29 ?_
    refine va_get (D := D) (ci := 0) (v := .int (z3.1 6)) (C := RX0) (T := TX0) (N := 8) hx hb hts hiX0 hown hK hP 3 rfl rfl 6 (by decide) k176 (fun _ h9 => h9) rfl dX6_readVariable_32 ?_
    refine lv_icmp_lt (tgt := 52) hx hb dX6_readVariable_35 (by decide) (fun c_35 => ?_) (fun c_35 => ?_)
    · have hf := ip c_35 hf
      refine lv_aload_n hx hb dX6_readVariable_52 rfl (lv_at hl 1 rfl) ?_
      refine va_get (D := D) (ci := 5) (v := .ref (q2 0)) (C := RX6) (T := TX6) (N := 9) hx hb hts hiX6 hown hK hP 0 rfl rfl 0 (by decide) k12 (fun _ h9 => h9) rfl dX6_readVariable_53 ?_
      obtain ⟨z_3, hc_4, hf⟩ := bd_ob hf
      refine wrV (As := []) (rest := []) (ws2 := wS q (q2 0) (q3 0) (q4 0) (q5 0) z ++ wT cB q2 z_3 ++ wC cI q3 z3 ++ wA q4 z4 ++ wP q5 z5) ⟨hx, hb, hml, hown, hts⟩ (mX7_advance l D cI cB cZ cO q2 _ fu z2 hc_4) (cwV 0 hts gX6_readVariable_X7_advance rfl rfl rfl (by decide +kernel) ⟨Nat.le_of_ble_eq_true rfl, Nat.le_of_ble_eq_true rfl⟩) hK hP hD hS hA [1, 2] [0, 3, 4, 5, 6, 7, 8, 9, 10, 11] [0, 10, 11, 1, 2, 3, 4, 5, 6, 7, 8, 9] rfl (hP.sub [1, 2] rfl) (by decide) rfl (by decide) (by decide) (by decide) rfl (va_recv hK hP (ci := 6) (q0 := 1) rfl rfl) rfl hl.1 rfl (Nat.le_of_ble_eq_true rfl) dX6_readVariable_56 ⟨Nat.zero_le _, Nat.zero_le _⟩ (fun H locs hP hD hS => ?_)
      refine lv_iload_n hx hb dX6_readVariable_59 rfl (lv_at hl 0 rfl) ?_
      exact rW_i hx hb hr hlocks hP hD hS (congrArg (fun q9 => q9.1) (so_ob hf)) (congrArg (fun (q9 : Int32 × (OS) × (OS)) => wS q (q2 0) (q3 0) (q4 0) (q5 0) q9.2.1 ++ wT cB q2 q9.2.2 ++ wC cI q3 z3 ++ wA q4 z4 ++ wP q5 z5) (so_ob hf)) dX6_readVariable_60
    · have hf := iq c_35 hf
      refine lv_aload_n hx hb dX6_readVariable_38 rfl (lv_at hl 1 rfl) ?_
      refine lv_iconst (v := 2) hx hb dX6_readVariable_39 (by decide) ?_
      refine lv_aload_n hx hb dX6_readVariable_40 rfl (lv_at hl 1 rfl) ?_
      refine va_get (D := D) (ci := 5) (v := .ref (q2 0)) (C := RX6) (T := TX6) (N := 9) hx hb hts hiX6 hown hK hP 0 rfl rfl 0 (by decide) k12 (fun _ h9 => h9) rfl dX6_readVariable_41 ?_
      refine va_get (D := D) (ci := 6) (v := .int (z2.1 3)) (C := RX7) (T := TX7) (N := 5) hx hb hts hiX7 hown hK hP 1 rfl rfl 3 (by decide) k67 (fun _ h9 => h9) rfl dX6_readVariable_44 ?_
      obtain ⟨z_5, hc_6, hf⟩ := bd_ob hf
      refine weV (As := [.int (2 : Int32), .int (z2.1 3)]) (rest := []) ⟨hx, hb, hml, hown, hts⟩ (mX6_fail l D cI cB cZ cO q q2 q3 q4 q5 _ fu z z2 z3 z4 z5 (2 : Int32) (z2.1 3) hc_6) (cwV 2 hts gX6_readVariable_X6_fail rfl rfl rfl (by decide +kernel) ⟨Nat.le_of_ble_eq_true rfl, Nat.le_of_ble_eq_true rfl⟩) hK hP hD hS hA (va_recv hK hP (ci := 5) (q0 := 0) rfl rfl) rfl hl.1 rfl (Nat.le_of_ble_eq_true rfl) dX6_readVariable_47 ⟨Nat.zero_le _, Nat.zero_le _⟩ (fun H locs hP hD hS => ?_)
      refine lv_iconst (v := (-1)) hx hb dX6_readVariable_50 (by decide) ?_
      exact rW_i hx hb hr hlocks hP hD hS (congrArg (fun q9 => q9.1) (so_ob hf)) (congrArg (fun (q9 : Int32 × (OS) × (OS)) => wS q (q2 0) (q3 0) (q4 0) (q5 0) q9.2.1 ++ wT cB q2 q9.2.2 ++ wC cI q3 z3 ++ wA q4 z4 ++ wP q5 z5) (so_ob hf)) dX6_readVariable_51
  · have hf := iqn c_10 hf
    refine lv_aload_n hx hb dX6_readVariable_13 rfl (lv_at hl 1 rfl) ?_
    refine lv_iconst (v := 1) hx hb dX6_readVariable_14 (by decide) ?_
    refine lv_aload_n hx hb dX6_readVariable_15 rfl (lv_at hl 1 rfl) ?_
    refine va_get (D := D) (ci := 5) (v := .ref (q2 0)) (C := RX6) (T := TX6) (N := 9) hx hb hts hiX6 hown hK hP 0 rfl rfl 0 (by decide) k12 (fun _ h9 => h9) rfl dX6_readVariable_16 ?_
    refine va_get (D := D) (ci := 6) (v := .int (z2.1 3)) (C := RX7) (T := TX7) (N := 5) hx hb hts hiX7 hown hK hP 1 rfl rfl 3 (by decide) k67 (fun _ h9 => h9) rfl dX6_readVariable_19 ?_
    obtain ⟨z_7, hc_8, hf⟩ := bd_ob hf
    refine weV (As := [.int (1 : Int32), .int (z2.1 3)]) (rest := []) ⟨hx, hb, hml, hown, hts⟩ (mX6_fail l D cI cB cZ cO q q2 q3 q4 q5 _ fu z z2 z3 z4 z5 (1 : Int32) (z2.1 3) hc_8) (cwV 2 hts gX6_readVariable_X6_fail rfl rfl rfl (by decide +kernel) ⟨Nat.le_of_ble_eq_true rfl, Nat.le_of_ble_eq_true rfl⟩) hK hP hD hS hA (va_recv hK hP (ci := 5) (q0 := 0) rfl rfl) rfl hl.1 rfl (Nat.le_of_ble_eq_true rfl) dX6_readVariable_22 ⟨Nat.zero_le _, Nat.zero_le _⟩ (fun H locs hP hD hS => ?_)
    refine lv_iconst (v := (-1)) hx hb dX6_readVariable_25 (by decide) ?_
    exact rW_i hx hb hr hlocks hP hD hS (congrArg (fun q9 => q9.1) (so_ob hf)) (congrArg (fun (q9 : Int32 × (OS) × (OS)) => wS q (q2 0) (q3 0) (q4 0) (q5 0) q9.2.1 ++ wT cB q2 q9.2.2 ++ wC cI q3 z3 ++ wA q4 z4 ++ wP q5 z5) (so_ob hf)) dX6_readVariable_26
def fX6_readLiteral (fu : Nat) (z : OS) (z2 : OS) (z3 : OS) (z4 : OS) (z5 : OS) : Option ((OS) × (OS)) :=
  jn (κ := Int32 → Option ((OS) × (OS))) (fun (t0_16 : Int32) => jn (κ := OS → Option ((OS) × (OS))) (fun (z2_28 : OS) => nm (z2_28.1 3) (fun (v2_1 : Int32) => bd (fX6_readVariable fu z z2_28 z3 z4 z5) (fun (w_5 : Int32 × OS × OS) => nm w_5.1 (fun (r_2 : Int32) => nm w_5.2.1 (fun (z_3 : OS) => nm w_5.2.2 (fun (z_4 : OS) => (if ¬ r_2 = (-1 : Int32) then nm ((1 : Int32) <<< (r_2 &&& (31 : Int32))) (fun (v4_7 : Int32) => jn (κ := Int32 → Option ((OS) × (OS))) (fun (t0_67 : Int32) => (if (t0_67 &&& v4_7) = (0 : Int32) then (if t0_16 = (0 : Int32) then nm (sI z_3 7 ((z_3.1 7) ||| v4_7)) (fun (z_8 : OS) => some (z_8, z_4)) else nm (sI z_3 8 ((z_3.1 8) ||| v4_7)) (fun (z_9 : OS) => some (z_9, z_4))) else bd (fX6_fail fu z_3 z_4 z3 z4 z5 (3 : Int32) v2_1) (fun (z_10 : OS) => some (z_10, z_4)))) (fun j67 => (if t0_16 = (0 : Int32) then j67 (z_3.1 8) else j67 (z_3.1 7)))) else some (z_3, z_4)))))))) (fun j28 => (if t0_16 = (0 : Int32) then j28 z2 else bd (fX7_advance fu z2) (fun (z_12 : OS) => j28 z_12)))) (fun j16 => (if ¬ (z2.1 2) = (4 : Int32) then j16 (0 : Int32) else j16 (1 : Int32)))
set_option maxRecDepth 100000 in
set_option maxHeartbeats 4000000 in
theorem mX6_readLiteral (l : Launch) (D : va_G) (cI cB cZ cO : ClassId) (q : Nat → Nat) (q2 : Nat → Nat) (q3 : Nat → Nat) (q4 : Nat → Nat) (q5 : Nat → Nat) (sz : Nat) (fu : Nat) (z : OS) (z2 : OS) (z3 : OS) (z4 : OS) (z5 : OS) {y1 : OS} {y2 : OS} (hf : fX6_readLiteral fu z z2 z3 z4 z5 = some (y1, y2)) : Met l yX6_readLiteral wsX6_readLiteral ({ frames := 2, cells := 0, slots := 0, locals := 43 }) (va_Pc [.ref (q 0)] (Pw D (gT cI cB cZ cO) (wS q (q2 0) (q3 0) (q4 0) (q5 0) z ++ wT cB q2 z2 ++ wC cI q3 z3 ++ wA q4 z4 ++ wP q5 z5) sz)) (Qw D (va_A (wS q (q2 0) (q3 0) (q4 0) (q5 0) z ++ wT cB q2 z2 ++ wC cI q3 z3 ++ wA q4 z4 ++ wP q5 z5) sz) none (wS q (q2 0) (q3 0) (q4 0) (q5 0) y1 ++ wT cB q2 y2 ++ wC cI q3 z3 ++ wA q4 z4 ++ wP q5 z5)) 0 0 (va_A (wS q (q2 0) (q3 0) (q4 0) (q5 0) z ++ wT cB q2 z2 ++ wC cI q3 z3 ++ wA q4 z4 ++ wP q5 z5) sz) := by
  unfold fX6_readLiteral at hf
  refine metW (ret := none) (own := RX6) rfl (by decide) rfl (Nat.le_of_ble_eq_true rfl) (fun p e s m args below meth c ls A hx hb hr hml hown hlocks hts hK hA hP hD hS hl => ?_)
  have k12 := (hts (.fieldLink RX6 12 "ResolutionProver$Script" "tokens" "LResolutionProver$Tokens;") (List.mem_of_getElem? (i := 1) rfl))
  have k91 := (hts (.fieldLink RX6 91 "ResolutionProver$Tokens" "kind" "I") (List.mem_of_getElem? (i := 2) rfl))
  have k67 := (hts (.fieldLink RX6 67 "ResolutionProver$Tokens" "start" "I") (List.mem_of_getElem? (i := 3) rfl))
  have k49 := (hts (.fieldLink RX6 49 "ResolutionProver$Script" "positive" "I") (List.mem_of_getElem? (i := 4) rfl))
  have k52 := (hts (.fieldLink RX6 52 "ResolutionProver$Script" "negative" "I") (List.mem_of_getElem? (i := 5) rfl))
  have hiX6 : ∀ w ∈ wsX60, w ∈ wsX6_readLiteral := (memIn_p [33, 34, 35, 36, 37, 38, 39, 40, 41] rfl)
  have hiX7 : ∀ w ∈ wsX70, w ∈ wsX6_readLiteral := (memIn_p [42, 43, 44, 45, 46] rfl)
  have hl : lv_has ls 5 [(0, .ref (q 0))] := hl
  refine lv_aload_n hx hb dX6_readLiteral_0 rfl (lv_at hl 0 rfl) ?_
  refine va_get (D := D) (ci := 5) (v := .ref (q2 0)) (C := RX6) (T := TX6) (N := 9) hx hb hts hiX6 hown hK hP 0 rfl rfl 0 (by decide) k12 (fun _ h9 => h9) rfl dX6_readLiteral_1 ?_
  refine va_get (D := D) (ci := 6) (v := .int (z2.1 2)) (C := RX7) (T := TX7) (N := 5) hx hb hts hiX7 hown hK hP 1 rfl rfl 2 (by decide) k91 (fun _ h9 => h9) rfl dX6_readLiteral_4 ?_
  refine lv_iconst (v := 4) hx hb dX6_readLiteral_7 (by decide) ?_
  obtain ⟨j16, ej16, hf⟩ := jn_ob hf
  have hp16 : ∀ (t0_16 : Int32) (H : Heap) (locs : List Loc) (ls : Array Slot), j16 t0_16 = some (y1, y2) → va_P D vwCl (wS q (q2 0) (q3 0) (q4 0) (q5 0) z ++ wT cB q2 z2 ++ wC cI q3 z3 ++ wA q4 z4 ++ wP q5 z5) H → va_D A (wS q (q2 0) (q3 0) (q4 0) (q5 0) z ++ wT cB q2 z2 ++ wC cI q3 z3 ++ wA q4 z4 ++ wP q5 z5) → va_S A s.heap H locs → lv_has ls 5 [(0, .ref (q 0))] → W p l e (headSpec wsX6_readLiteral { frames := 2, cells := 0, slots := 0, locals := 43 }).room s m args below meth c H locs 0 0 (MQ below (Qw D A none (wS q (q2 0) (q3 0) (q4 0) (q5 0) y1 ++ wT cB q2 y2 ++ wC cI q3 z3 ++ wA q4 z4 ++ wP q5 z5)) args s 0 0 A) (F0 m 16 ls [.int t0_16]) := by
    intro t0_16 H locs ls hf hP hD hS hl
    rw [ej16] at hf
    refine lv_istore_n (lv' := [(1, .int t0_16), (0, .ref (q 0))]) hx hb dX6_readLiteral_16 rfl hl (by decide) rfl (fun ls hl => ?_)
    refine lv_iload_n hx hb dX6_readLiteral_17 rfl (lv_at hl 0 rfl) ?_
    obtain ⟨j28, ej28, hf⟩ := jn_ob hf
    have hp28 : ∀ (z2_28 : OS) (H : Heap) (locs : List Loc) (ls : Array Slot), j28 z2_28 = some (y1, y2) → va_P D vwCl (wS q (q2 0) (q3 0) (q4 0) (q5 0) z ++ wT cB q2 z2_28 ++ wC cI q3 z3 ++ wA q4 z4 ++ wP q5 z5) H → va_D A (wS q (q2 0) (q3 0) (q4 0) (q5 0) z ++ wT cB q2 z2_28 ++ wC cI q3 z3 ++ wA q4 z4 ++ wP q5 z5) → va_S A s.heap H locs → lv_has ls 5 [(0, .ref (q 0)), (1, .int t0_16)] → W p l e (headSpec wsX6_readLiteral { frames := 2, cells := 0, slots := 0, locals := 43 }).room s m args below meth c H locs 0 0 (MQ below (Qw D A none (wS q (q2 0) (q3 0) (q4 0) (q5 0) y1 ++ wT cB q2 y2 ++ wC cI q3 z3 ++ wA q4 z4 ++ wP q5 z5)) args s 0 0 A) (F0 m 28 ls []) := by
      intro z2_28 H locs ls hf hP hD hS hl
      rw [ej28] at hf
      refine lv_aload_n hx hb dX6_readLiteral_28 rfl (lv_at hl 0 rfl) ?_
      refine va_get (D := D) (ci := 5) (v := .ref (q2 0)) (C := RX6) (T := TX6) (N := 9) hx hb hts hiX6 hown hK hP 0 rfl rfl 0 (by decide) k12 (fun _ h9 => h9) rfl dX6_readLiteral_29 ?_
      refine va_get (D := D) (ci := 6) (v := .int (z2_28.1 3)) (C := RX7) (T := TX7) (N := 5) hx hb hts hiX7 hown hK hP 1 rfl rfl 3 (by decide) k67 (fun _ h9 => h9) rfl dX6_readLiteral_32 ?_
      obtain ⟨v2_1, ev2_1, hf⟩ := nm_ob hf
      refine lv_nmi ev2_1 ?_
      refine lv_istore_n (lv' := [(2, .int v2_1), (0, .ref (q 0)), (1, .int t0_16)]) hx hb dX6_readLiteral_35 rfl hl (by decide) rfl (fun ls hl => ?_)
      refine lv_aload_n hx hb dX6_readLiteral_36 rfl (lv_at hl 1 rfl) ?_
      obtain ⟨⟨r_2, z_3, z_4⟩, hc_6, hf⟩ := bd_ob hf
      have hf := nm_st hf
      have hf := nm_st hf
      have hf := nm_st hf
      refine weV (As := []) (rest := []) ⟨hx, hb, hml, hown, hts⟩ (mX6_readVariable l D cI cB cZ cO q q2 q3 q4 q5 _ fu z z2_28 z3 z4 z5 hc_6) (cwV 0 hts gX6_readLiteral_X6_readVariable rfl rfl rfl (by decide +kernel) ⟨Nat.le_of_ble_eq_true rfl, Nat.le_of_ble_eq_true rfl⟩) hK hP hD hS hA (va_recv hK hP (ci := 5) (q0 := 0) rfl rfl) rfl hl.1 rfl (Nat.le_of_ble_eq_true rfl) dX6_readLiteral_37 ⟨Nat.zero_le _, Nat.zero_le _⟩ (fun H locs hP hD hS => ?_)
      refine lv_istore_n (lv' := [(3, .int r_2), (2, .int v2_1), (0, .ref (q 0)), (1, .int t0_16)]) hx hb dX6_readLiteral_40 rfl hl (by decide) rfl (fun ls hl => ?_)
      refine lv_iload_n hx hb dX6_readLiteral_41 rfl (lv_at hl 0 rfl) ?_
      refine lv_iconst (v := (-1)) hx hb dX6_readLiteral_42 (by decide) ?_
      refine lv_icmp_ne (tgt := 47) hx hb dX6_readLiteral_43 (by decide) (fun c_43 => ?_) (fun c_43 => ?_)
      · have hf := ip c_43 hf
        refine lv_iconst (v := 1) hx hb dX6_readLiteral_47 (by decide) ?_
        refine lv_iload_n hx hb dX6_readLiteral_48 rfl (lv_at hl 0 rfl) ?_
        refine lv_ishl hx hb dX6_readLiteral_49 ?_
        obtain ⟨v4_7, ev4_7, hf⟩ := nm_ob hf
        refine lv_nmi ev4_7 ?_
        refine lv_istore (lv' := [(4, .int v4_7), (3, .int r_2), (2, .int v2_1), (0, .ref (q 0)), (1, .int t0_16)]) hx hb dX6_readLiteral_50 hl (by decide) rfl (fun ls hl => ?_)
        refine lv_iload_n hx hb dX6_readLiteral_52 rfl (lv_at hl 4 rfl) ?_
        obtain ⟨j67, ej67, hf⟩ := jn_ob hf
        have hp67 : ∀ (t0_67 : Int32) (H : Heap) (locs : List Loc) (ls : Array Slot), j67 t0_67 = some (y1, y2) → va_P D vwCl (wS q (q2 0) (q3 0) (q4 0) (q5 0) z_3 ++ wT cB q2 z_4 ++ wC cI q3 z3 ++ wA q4 z4 ++ wP q5 z5) H → va_D A (wS q (q2 0) (q3 0) (q4 0) (q5 0) z_3 ++ wT cB q2 z_4 ++ wC cI q3 z3 ++ wA q4 z4 ++ wP q5 z5) → va_S A s.heap H locs → lv_has ls 5 [(0, .ref (q 0)), (1, .int t0_16), (2, .int v2_1), (4, .int v4_7)] → W p l e (headSpec wsX6_readLiteral { frames := 2, cells := 0, slots := 0, locals := 43 }).room s m args below meth c H locs 0 0 (MQ below (Qw D A none (wS q (q2 0) (q3 0) (q4 0) (q5 0) y1 ++ wT cB q2 y2 ++ wC cI q3 z3 ++ wA q4 z4 ++ wP q5 z5)) args s 0 0 A) (F0 m 67 ls [.int t0_67]) := by
          intro t0_67 H locs ls hf hP hD hS hl
          rw [ej67] at hf
          refine lv_iload hx hb dX6_readLiteral_67 (lv_at hl 3 rfl) ?_
          refine lv_iand hx hb dX6_readLiteral_69 ?_
          refine lv_if_eq (tgt := 82) hx hb dX6_readLiteral_70 (by decide) (fun c_70 => ?_) (fun c_70 => ?_)
          · have hf := ip c_70 hf
            refine lv_iload_n hx hb dX6_readLiteral_82 rfl (lv_at hl 1 rfl) ?_
            refine lv_if_eq (tgt := 100) hx hb dX6_readLiteral_83 (by decide) (fun c_83 => ?_) (fun c_83 => ?_)
            · have hf := ip c_83 hf
              refine lv_aload_n hx hb dX6_readLiteral_100 rfl (lv_at hl 0 rfl) ?_
              refine lv_dup hx hb dX6_readLiteral_101 rfl ?_
              refine va_get (D := D) (ci := 5) (v := .int (z_3.1 7)) (C := RX6) (T := TX6) (N := 9) hx hb hts hiX6 hown hK hP 0 rfl rfl 7 (by decide) k49 (fun _ h9 => h9) rfl dX6_readLiteral_102 ?_
              refine lv_iload hx hb dX6_readLiteral_105 (lv_at hl 3 rfl) ?_
              refine lv_ior hx hb dX6_readLiteral_107 ?_
              refine va_put (D := D) (ci := 5) (v := .int ((z_3.1 7) ||| v4_7)) (ty := .int) (C := RX6) (T := TX6) (N := 9) hx hb hts hiX6 tyX6 tyX6_ok nmX6 hown hK hP hD hS 0 rfl rfl 7 (by decide) k49 (fun _ h9 => h9) rfl (by decide +kernel) rfl rfl (Nat.le_of_ble_eq_true rfl) dX6_readLiteral_108 (fun H locs hP hD hS => ?_)
              obtain ⟨z_8, ez_8, hf⟩ := nm_ob hf
              have hP : va_P D vwCl (wS q (q2 0) (q3 0) (q4 0) (q5 0) z_8 ++ wT cB q2 z_4 ++ wC cI q3 z3 ++ wA q4 z4 ++ wP q5 z5) H := by rw [ez_8]; exact hP
              have hD : va_D A (wS q (q2 0) (q3 0) (q4 0) (q5 0) z_8 ++ wT cB q2 z_4 ++ wC cI q3 z3 ++ wA q4 z4 ++ wP q5 z5) := by rw [ez_8]; exact hD
              exact rW_v hx hb hr hlocks hP hD hS (congrArg (fun (q9 : (OS) × (OS)) => wS q (q2 0) (q3 0) (q4 0) (q5 0) q9.1 ++ wT cB q2 q9.2 ++ wC cI q3 z3 ++ wA q4 z4 ++ wP q5 z5) (so_ob hf)) dX6_readLiteral_111
            · have hf := iq c_83 hf
              refine lv_aload_n hx hb dX6_readLiteral_86 rfl (lv_at hl 0 rfl) ?_
              refine lv_dup hx hb dX6_readLiteral_87 rfl ?_
              refine va_get (D := D) (ci := 5) (v := .int (z_3.1 8)) (C := RX6) (T := TX6) (N := 9) hx hb hts hiX6 hown hK hP 0 rfl rfl 8 (by decide) k52 (fun _ h9 => h9) rfl dX6_readLiteral_88 ?_
              refine lv_iload hx hb dX6_readLiteral_91 (lv_at hl 3 rfl) ?_
              refine lv_ior hx hb dX6_readLiteral_93 ?_
              refine va_put (D := D) (ci := 5) (v := .int ((z_3.1 8) ||| v4_7)) (ty := .int) (C := RX6) (T := TX6) (N := 9) hx hb hts hiX6 tyX6 tyX6_ok nmX6 hown hK hP hD hS 0 rfl rfl 8 (by decide) k52 (fun _ h9 => h9) rfl (by decide +kernel) rfl rfl (Nat.le_of_ble_eq_true rfl) dX6_readLiteral_94 (fun H locs hP hD hS => ?_)
              obtain ⟨z_9, ez_9, hf⟩ := nm_ob hf
              have hP : va_P D vwCl (wS q (q2 0) (q3 0) (q4 0) (q5 0) z_9 ++ wT cB q2 z_4 ++ wC cI q3 z3 ++ wA q4 z4 ++ wP q5 z5) H := by rw [ez_9]; exact hP
              have hD : va_D A (wS q (q2 0) (q3 0) (q4 0) (q5 0) z_9 ++ wT cB q2 z_4 ++ wC cI q3 z3 ++ wA q4 z4 ++ wP q5 z5) := by rw [ez_9]; exact hD
              refine lv_goto (tgt := 111) hx hb dX6_readLiteral_97 (by decide) ?_
              exact rW_v hx hb hr hlocks hP hD hS (congrArg (fun (q9 : (OS) × (OS)) => wS q (q2 0) (q3 0) (q4 0) (q5 0) q9.1 ++ wT cB q2 q9.2 ++ wC cI q3 z3 ++ wA q4 z4 ++ wP q5 z5) (so_ob hf)) dX6_readLiteral_111
          · have hf := iq c_70 hf
            refine lv_aload_n hx hb dX6_readLiteral_73 rfl (lv_at hl 0 rfl) ?_
            refine lv_iconst (v := 3) hx hb dX6_readLiteral_74 (by decide) ?_
            refine lv_iload_n hx hb dX6_readLiteral_75 rfl (lv_at hl 2 rfl) ?_
            obtain ⟨z_10, hc_11, hf⟩ := bd_ob hf
            refine weV (As := [.int (3 : Int32), .int v2_1]) (rest := []) ⟨hx, hb, hml, hown, hts⟩ (mX6_fail l D cI cB cZ cO q q2 q3 q4 q5 _ fu z_3 z_4 z3 z4 z5 (3 : Int32) v2_1 hc_11) (cwV 2 hts gX6_readLiteral_X6_fail rfl rfl rfl (by decide +kernel) ⟨Nat.le_of_ble_eq_true rfl, Nat.le_of_ble_eq_true rfl⟩) hK hP hD hS hA (va_recv hK hP (ci := 5) (q0 := 0) rfl rfl) rfl hl.1 rfl (Nat.le_of_ble_eq_true rfl) dX6_readLiteral_76 ⟨Nat.zero_le _, Nat.zero_le _⟩ (fun H locs hP hD hS => ?_)
            refine lv_goto (tgt := 111) hx hb dX6_readLiteral_79 (by decide) ?_
            exact rW_v hx hb hr hlocks hP hD hS (congrArg (fun (q9 : (OS) × (OS)) => wS q (q2 0) (q3 0) (q4 0) (q5 0) q9.1 ++ wT cB q2 q9.2 ++ wC cI q3 z3 ++ wA q4 z4 ++ wP q5 z5) (so_ob hf)) dX6_readLiteral_111
        refine lv_if_eq (tgt := 63) hx hb dX6_readLiteral_53 (by decide) (fun c_53 => ?_) (fun c_53 => ?_)
        · have hf := ip c_53 hf
          refine lv_aload_n hx hb dX6_readLiteral_63 rfl (lv_at hl 3 rfl) ?_
          refine va_get (D := D) (ci := 5) (v := .int (z_3.1 8)) (C := RX6) (T := TX6) (N := 9) hx hb hts hiX6 hown hK hP 0 rfl rfl 8 (by decide) k52 (fun _ h9 => h9) rfl dX6_readLiteral_64 ?_
          exact hp67 (z_3.1 8) _ _ _ hf hP hD hS (lv_sub hl [3, 4, 2, 0] rfl)
        · have hf := iq c_53 hf
          refine lv_aload_n hx hb dX6_readLiteral_56 rfl (lv_at hl 3 rfl) ?_
          refine va_get (D := D) (ci := 5) (v := .int (z_3.1 7)) (C := RX6) (T := TX6) (N := 9) hx hb hts hiX6 hown hK hP 0 rfl rfl 7 (by decide) k49 (fun _ h9 => h9) rfl dX6_readLiteral_57 ?_
          refine lv_goto (tgt := 67) hx hb dX6_readLiteral_60 (by decide) ?_
          exact hp67 (z_3.1 7) _ _ _ hf hP hD hS (lv_sub hl [3, 4, 2, 0] rfl)
      · have hf := iqn c_43 hf
        exact rW_v hx hb hr hlocks hP hD hS (congrArg (fun (q9 : (OS) × (OS)) => wS q (q2 0) (q3 0) (q4 0) (q5 0) q9.1 ++ wT cB q2 q9.2 ++ wC cI q3 z3 ++ wA q4 z4 ++ wP q5 z5) (so_ob hf)) dX6_readLiteral_46
    refine lv_if_eq (tgt := 28) hx hb dX6_readLiteral_18 (by decide) (fun c_18 => ?_) (fun c_18 => ?_)
    · have hf := ip c_18 hf
      exact hp28 z2 _ _ _ hf hP hD hS (lv_sub hl [1, 0] rfl)
    · have hf := iq c_18 hf
      refine lv_aload_n hx hb dX6_readLiteral_21 rfl (lv_at hl 1 rfl) ?_
      refine va_get (D := D) (ci := 5) (v := .ref (q2 0)) (C := RX6) (T := TX6) (N := 9) hx hb hts hiX6 hown hK hP 0 rfl rfl 0 (by decide) k12 (fun _ h9 => h9) rfl dX6_readLiteral_22 ?_
      obtain ⟨z_12, hc_13, hf⟩ := bd_ob hf
      refine wrV (As := []) (rest := []) (ws2 := wS q (q2 0) (q3 0) (q4 0) (q5 0) z ++ wT cB q2 z_12 ++ wC cI q3 z3 ++ wA q4 z4 ++ wP q5 z5) ⟨hx, hb, hml, hown, hts⟩ (mX7_advance l D cI cB cZ cO q2 _ fu z2 hc_13) (cwV 0 hts gX6_readLiteral_X7_advance rfl rfl rfl (by decide +kernel) ⟨Nat.le_of_ble_eq_true rfl, Nat.le_of_ble_eq_true rfl⟩) hK hP hD hS hA [1, 2] [0, 3, 4, 5, 6, 7, 8, 9, 10, 11] [0, 10, 11, 1, 2, 3, 4, 5, 6, 7, 8, 9] rfl (hP.sub [1, 2] rfl) (by decide) rfl (by decide) (by decide) (by decide) rfl (va_recv hK hP (ci := 6) (q0 := 1) rfl rfl) rfl hl.1 rfl (Nat.le_of_ble_eq_true rfl) dX6_readLiteral_25 ⟨Nat.zero_le _, Nat.zero_le _⟩ (fun H locs hP hD hS => ?_)
      exact hp28 z_12 _ _ _ hf hP hD hS (lv_sub hl [1, 0] rfl)
  refine lv_icmp_ne (tgt := 15) hx hb dX6_readLiteral_8 (by decide) (fun c_8 => ?_) (fun c_8 => ?_)
  · have hf := ip c_8 hf
    refine lv_iconst (v := 0) hx hb dX6_readLiteral_15 (by decide) ?_
    exact hp16 (0 : Int32) _ _ _ hf hP hD hS hl
  · have hf := iqn c_8 hf
    refine lv_iconst (v := 1) hx hb dX6_readLiteral_11 (by decide) ?_
    refine lv_goto (tgt := 16) hx hb dX6_readLiteral_12 (by decide) ?_
    exact hp16 (1 : Int32) _ _ _ hf hP hD hS hl
def lX6_readLiterals_12 (fu : Nat) (z3 : OS) (z4 : OS) (z5 : OS) (j59 : OS → OS → Option ((OS) × (OS))) : Nat → Int32 → OS → OS → Option ((OS) × (OS))
  | 0, _, _, _ => none
  | n_12 + 1, v1_12, z1_12, z2_12 => (if (500 : Int32) ≤ v1_12 then j59 z1_12 z2_12 else bd (fX6_isFailed fu z1_12 z2_12 z3 z4 z5) (fun (r_3 : Int32) => (if ¬ r_3 = (0 : Int32) then j59 z1_12 z2_12 else jn (κ := Option ((OS) × (OS))) (bd (fX6_readLiteral fu z1_12 z2_12 z3 z4 z5) (fun (w_7 : OS × OS) => nm w_7.1 (fun (z_5 : OS) => nm w_7.2 (fun (z_6 : OS) => nm (v1_12 + (1 : Int32)) (fun (v1_9 : Int32) => lX6_readLiterals_12 fu z3 z4 z5 j59 n_12 v1_9 z_5 z_6))))) (fun j49 => (if (z2_12.1 2) = (1 : Int32) then j49 else (if (z2_12.1 2) = (4 : Int32) then j49 else some (z1_12, z2_12)))))))
def fX6_readLiterals (fu : Nat) (z : OS) (z2 : OS) (z3 : OS) (z4 : OS) (z5 : OS) : Option ((OS) × (OS)) :=
  nm (sI z 7 (0 : Int32)) (fun (z_1 : OS) => nm (sI z_1 8 (0 : Int32)) (fun (z_2 : OS) => jn (κ := OS → OS → Option ((OS) × (OS))) (fun (z1_59 : OS) (z2_59 : OS) => some (z1_59, z2_59)) (fun j59 => lX6_readLiterals_12 fu z3 z4 z5 j59 fu (0 : Int32) z_2 z2)))
set_option maxRecDepth 100000 in
set_option maxHeartbeats 4000000 in
theorem mX6_readLiterals (l : Launch) (D : va_G) (cI cB cZ cO : ClassId) (q : Nat → Nat) (q2 : Nat → Nat) (q3 : Nat → Nat) (q4 : Nat → Nat) (q5 : Nat → Nat) (sz : Nat) (fu : Nat) (z : OS) (z2 : OS) (z3 : OS) (z4 : OS) (z5 : OS) {y1 : OS} {y2 : OS} (hf : fX6_readLiterals fu z z2 z3 z4 z5 = some (y1, y2)) : Met l yX6_readLiterals wsX6_readLiterals ({ frames := 3, cells := 0, slots := 0, locals := 67 }) (va_Pc [.ref (q 0)] (Pw D (gT cI cB cZ cO) (wS q (q2 0) (q3 0) (q4 0) (q5 0) z ++ wT cB q2 z2 ++ wC cI q3 z3 ++ wA q4 z4 ++ wP q5 z5) sz)) (Qw D (va_A (wS q (q2 0) (q3 0) (q4 0) (q5 0) z ++ wT cB q2 z2 ++ wC cI q3 z3 ++ wA q4 z4 ++ wP q5 z5) sz) none (wS q (q2 0) (q3 0) (q4 0) (q5 0) y1 ++ wT cB q2 y2 ++ wC cI q3 z3 ++ wA q4 z4 ++ wP q5 z5)) 0 0 (va_A (wS q (q2 0) (q3 0) (q4 0) (q5 0) z ++ wT cB q2 z2 ++ wC cI q3 z3 ++ wA q4 z4 ++ wP q5 z5) sz) := by
  unfold fX6_readLiterals at hf
  refine metW (ret := none) (own := RX6) rfl (by decide) rfl (Nat.le_of_ble_eq_true rfl) (fun p e s m args below meth c ls A hx hb hr hml hown hlocks hts hK hA hP hD hS hl => ?_)
  have k49 := (hts (.fieldLink RX6 49 "ResolutionProver$Script" "positive" "I") (List.mem_of_getElem? (i := 1) rfl))
  have k52 := (hts (.fieldLink RX6 52 "ResolutionProver$Script" "negative" "I") (List.mem_of_getElem? (i := 2) rfl))
  have k12 := (hts (.fieldLink RX6 12 "ResolutionProver$Script" "tokens" "LResolutionProver$Tokens;") (List.mem_of_getElem? (i := 3) rfl))
  have k91 := (hts (.fieldLink RX6 91 "ResolutionProver$Tokens" "kind" "I") (List.mem_of_getElem? (i := 4) rfl))
  have hiX6 : ∀ w ∈ wsX60, w ∈ wsX6_readLiterals := (memIn_p [41, 42, 43, 44, 45, 46, 47, 48, 49] rfl)
  have hiX7 : ∀ w ∈ wsX70, w ∈ wsX6_readLiterals := (memIn_p [50, 51, 52, 53, 54] rfl)
  have hl : lv_has ls 2 [(0, .ref (q 0))] := hl
  refine lv_aload_n hx hb dX6_readLiterals_0 rfl (lv_at hl 0 rfl) ?_
  refine lv_iconst (v := 0) hx hb dX6_readLiterals_1 (by decide) ?_
  refine va_put (D := D) (ci := 5) (v := .int (0 : Int32)) (ty := .int) (C := RX6) (T := TX6) (N := 9) hx hb hts hiX6 tyX6 tyX6_ok nmX6 hown hK hP hD hS 0 rfl rfl 7 (by decide) k49 (fun _ h9 => h9) rfl (by decide +kernel) rfl rfl (Nat.le_of_ble_eq_true rfl) dX6_readLiterals_2 (fun H locs hP hD hS => ?_)
  obtain ⟨z_1, ez_1, hf⟩ := nm_ob hf
  have hP : va_P D vwCl (wS q (q2 0) (q3 0) (q4 0) (q5 0) z_1 ++ wT cB q2 z2 ++ wC cI q3 z3 ++ wA q4 z4 ++ wP q5 z5) H := by rw [ez_1]; exact hP
  have hD : va_D A (wS q (q2 0) (q3 0) (q4 0) (q5 0) z_1 ++ wT cB q2 z2 ++ wC cI q3 z3 ++ wA q4 z4 ++ wP q5 z5) := by rw [ez_1]; exact hD
  refine lv_aload_n hx hb dX6_readLiterals_5 rfl (lv_at hl 0 rfl) ?_
  refine lv_iconst (v := 0) hx hb dX6_readLiterals_6 (by decide) ?_
  refine va_put (D := D) (ci := 5) (v := .int (0 : Int32)) (ty := .int) (C := RX6) (T := TX6) (N := 9) hx hb hts hiX6 tyX6 tyX6_ok nmX6 hown hK hP hD hS 0 rfl rfl 8 (by decide) k52 (fun _ h9 => h9) rfl (by decide +kernel) rfl rfl (Nat.le_of_ble_eq_true rfl) dX6_readLiterals_7 (fun H locs hP hD hS => ?_)
  obtain ⟨z_2, ez_2, hf⟩ := nm_ob hf
  have hP : va_P D vwCl (wS q (q2 0) (q3 0) (q4 0) (q5 0) z_2 ++ wT cB q2 z2 ++ wC cI q3 z3 ++ wA q4 z4 ++ wP q5 z5) H := by rw [ez_2]; exact hP
  have hD : va_D A (wS q (q2 0) (q3 0) (q4 0) (q5 0) z_2 ++ wT cB q2 z2 ++ wC cI q3 z3 ++ wA q4 z4 ++ wP q5 z5) := by rw [ez_2]; exact hD
  refine lv_iconst (v := 0) hx hb dX6_readLiterals_10 (by decide) ?_
  refine lv_istore_n (lv' := [(1, .int (0 : Int32)), (0, .ref (q 0))]) hx hb dX6_readLiterals_11 rfl hl (by decide) rfl (fun ls hl => ?_)
  obtain ⟨j59, ej59, hf⟩ := jn_ob hf
  have hp59 : ∀ (z1_59 : OS) (z2_59 : OS) (H : Heap) (locs : List Loc) (ls : Array Slot), j59 z1_59 z2_59 = some (y1, y2) → va_P D vwCl (wS q (q2 0) (q3 0) (q4 0) (q5 0) z1_59 ++ wT cB q2 z2_59 ++ wC cI q3 z3 ++ wA q4 z4 ++ wP q5 z5) H → va_D A (wS q (q2 0) (q3 0) (q4 0) (q5 0) z1_59 ++ wT cB q2 z2_59 ++ wC cI q3 z3 ++ wA q4 z4 ++ wP q5 z5) → va_S A s.heap H locs → lv_has ls 2 [] → W p l e (headSpec wsX6_readLiterals { frames := 3, cells := 0, slots := 0, locals := 67 }).room s m args below meth c H locs 0 0 (MQ below (Qw D A none (wS q (q2 0) (q3 0) (q4 0) (q5 0) y1 ++ wT cB q2 y2 ++ wC cI q3 z3 ++ wA q4 z4 ++ wP q5 z5)) args s 0 0 A) (F0 m 59 ls []) := by
    intro z1_59 z2_59 H locs ls hf hP hD hS hl
    rw [ej59] at hf
    exact rW_v hx hb hr hlocks hP hD hS (congrArg (fun (q9 : (OS) × (OS)) => wS q (q2 0) (q3 0) (q4 0) (q5 0) q9.1 ++ wT cB q2 q9.2 ++ wC cI q3 z3 ++ wA q4 z4 ++ wP q5 z5) (so_ob hf)) dX6_readLiterals_59
  have hL12 : ∀ (n_12 : Nat) (v1_12 : Int32) (z1_12 : OS) (z2_12 : OS) (H : Heap) (locs : List Loc) (ls : Array Slot), lX6_readLiterals_12 fu z3 z4 z5 j59 n_12 v1_12 z1_12 z2_12 = some (y1, y2) → va_P D vwCl (wS q (q2 0) (q3 0) (q4 0) (q5 0) z1_12 ++ wT cB q2 z2_12 ++ wC cI q3 z3 ++ wA q4 z4 ++ wP q5 z5) H → va_D A (wS q (q2 0) (q3 0) (q4 0) (q5 0) z1_12 ++ wT cB q2 z2_12 ++ wC cI q3 z3 ++ wA q4 z4 ++ wP q5 z5) → va_S A s.heap H locs → lv_has ls 2 [(0, .ref (q 0)), (1, .int v1_12)] → W p l e (headSpec wsX6_readLiterals { frames := 3, cells := 0, slots := 0, locals := 67 }).room s m args below meth c H locs 0 0 (MQ below (Qw D A none (wS q (q2 0) (q3 0) (q4 0) (q5 0) y1 ++ wT cB q2 y2 ++ wC cI q3 z3 ++ wA q4 z4 ++ wP q5 z5)) args s 0 0 A) (F0 m 12 ls []) := by
    intro n_12
    induction n_12 with
    | zero =>
      intro v1_12 z1_12 z2_12 H locs ls hf
      exact no_ob hf
    | succ n_12 ih12 =>
      intro v1_12 z1_12 z2_12 H locs ls hf hP hD hS hl
      rw [lX6_readLiterals_12] at hf
      refine lv_iload_n hx hb dX6_readLiterals_12 rfl (lv_at hl 1 rfl) ?_
      refine lv_sipush (v := 500) hx hb dX6_readLiterals_13 (by decide) ?_
      refine lv_icmp_ge (tgt := 59) hx hb dX6_readLiterals_16 (by decide) (fun c_16 => ?_) (fun c_16 => ?_)
      · have hf := ip c_16 hf
        exact hp59 z1_12 z2_12 _ _ _ hf hP hD hS (lv_sub hl [] rfl)
      · have hf := iq c_16 hf
        refine lv_aload_n hx hb dX6_readLiterals_19 rfl (lv_at hl 0 rfl) ?_
        obtain ⟨r_3, hc_4, hf⟩ := bd_ob hf
        refine rdV (As := []) (rest := []) ⟨hx, hb, hml, hown, hts⟩ (mX6_isFailed l D cI cB cZ cO q q2 q3 q4 q5 fu z1_12 z2_12 z3 z4 z5 hc_4) (cwV 0 hts gX6_readLiterals_X6_isFailed rfl rfl rfl (by decide +kernel) ⟨Nat.le_of_ble_eq_true rfl, Nat.le_of_ble_eq_true rfl⟩) hK hP (va_recv hK hP (ci := 5) (q0 := 0) rfl rfl) rfl hl.1 rfl (Nat.le_of_ble_eq_true rfl) dX6_readLiterals_20 ⟨Nat.zero_le _, Nat.zero_le _⟩ ?_
        refine lv_if_ne (tgt := 59) hx hb dX6_readLiterals_23 (by decide) (fun c_23 => ?_) (fun c_23 => ?_)
        · have hf := ip c_23 hf
          exact hp59 z1_12 z2_12 _ _ _ hf hP hD hS (lv_sub hl [] rfl)
        · have hf := iqn c_23 hf
          refine lv_aload_n hx hb dX6_readLiterals_26 rfl (lv_at hl 0 rfl) ?_
          refine va_get (D := D) (ci := 5) (v := .ref (q2 0)) (C := RX6) (T := TX6) (N := 9) hx hb hts hiX6 hown hK hP 0 rfl rfl 0 (by decide) k12 (fun _ h9 => h9) rfl dX6_readLiterals_27 ?_
          refine va_get (D := D) (ci := 6) (v := .int (z2_12.1 2)) (C := RX7) (T := TX7) (N := 5) hx hb hts hiX7 hown hK hP 1 rfl rfl 2 (by decide) k91 (fun _ h9 => h9) rfl dX6_readLiterals_30 ?_
          refine lv_iconst (v := 1) hx hb dX6_readLiterals_33 (by decide) ?_
          obtain ⟨j49, ej49, hf⟩ := jn_ob hf
          have hp49 : ∀  (H : Heap) (locs : List Loc) (ls : Array Slot), j49 = some (y1, y2) → va_P D vwCl (wS q (q2 0) (q3 0) (q4 0) (q5 0) z1_12 ++ wT cB q2 z2_12 ++ wC cI q3 z3 ++ wA q4 z4 ++ wP q5 z5) H → va_D A (wS q (q2 0) (q3 0) (q4 0) (q5 0) z1_12 ++ wT cB q2 z2_12 ++ wC cI q3 z3 ++ wA q4 z4 ++ wP q5 z5) → va_S A s.heap H locs → lv_has ls 2 [(0, .ref (q 0)), (1, .int v1_12)] → W p l e (headSpec wsX6_readLiterals { frames := 3, cells := 0, slots := 0, locals := 67 }).room s m args below meth c H locs 0 0 (MQ below (Qw D A none (wS q (q2 0) (q3 0) (q4 0) (q5 0) y1 ++ wT cB q2 y2 ++ wC cI q3 z3 ++ wA q4 z4 ++ wP q5 z5)) args s 0 0 A) (F0 m 49 ls []) := by
            intro H locs ls hf hP hD hS hl
            rw [ej49] at hf
            refine lv_aload_n hx hb dX6_readLiterals_49 rfl (lv_at hl 0 rfl) ?_
            obtain ⟨⟨z_5, z_6⟩, hc_8, hf⟩ := bd_ob hf
            have hf := nm_st hf
            have hf := nm_st hf
            refine weV (As := []) (rest := []) ⟨hx, hb, hml, hown, hts⟩ (mX6_readLiteral l D cI cB cZ cO q q2 q3 q4 q5 _ fu z1_12 z2_12 z3 z4 z5 hc_8) (cwV 0 hts gX6_readLiterals_X6_readLiteral rfl rfl rfl (by decide +kernel) ⟨Nat.le_of_ble_eq_true rfl, Nat.le_of_ble_eq_true rfl⟩) hK hP hD hS hA (va_recv hK hP (ci := 5) (q0 := 0) rfl rfl) rfl hl.1 rfl (Nat.le_of_ble_eq_true rfl) dX6_readLiterals_50 ⟨Nat.zero_le _, Nat.zero_le _⟩ (fun H locs hP hD hS => ?_)
            obtain ⟨v1_9, ev1_9, hf⟩ := nm_ob hf
            refine lv_iinc (v := v1_9) (lv' := [(1, .int v1_9), (0, .ref (q 0))]) hx hb dX6_readLiterals_53 hl (k := 1) rfl (by rw [ev1_9]; rfl) (by decide) rfl (fun ls hl => ?_)
            refine lv_goto (tgt := 12) hx hb dX6_readLiterals_56 (by decide) ?_
            exact ih12 v1_9 z_5 z_6 _ _ _ hf hP hD hS (lv_sub hl [1, 0] rfl)
          refine lv_icmp_eq (tgt := 49) hx hb dX6_readLiterals_34 (by decide) (fun c_34 => ?_) (fun c_34 => ?_)
          · have hf := ip c_34 hf
            exact hp49 _ _ _ hf hP hD hS hl
          · have hf := iq c_34 hf
            refine lv_aload_n hx hb dX6_readLiterals_37 rfl (lv_at hl 0 rfl) ?_
            refine va_get (D := D) (ci := 5) (v := .ref (q2 0)) (C := RX6) (T := TX6) (N := 9) hx hb hts hiX6 hown hK hP 0 rfl rfl 0 (by decide) k12 (fun _ h9 => h9) rfl dX6_readLiterals_38 ?_
            refine va_get (D := D) (ci := 6) (v := .int (z2_12.1 2)) (C := RX7) (T := TX7) (N := 5) hx hb hts hiX7 hown hK hP 1 rfl rfl 2 (by decide) k91 (fun _ h9 => h9) rfl dX6_readLiterals_41 ?_
            refine lv_iconst (v := 4) hx hb dX6_readLiterals_44 (by decide) ?_
            refine lv_icmp_eq (tgt := 49) hx hb dX6_readLiterals_45 (by decide) (fun c_45 => ?_) (fun c_45 => ?_)
            · have hf := ip c_45 hf
              exact hp49 _ _ _ hf hP hD hS hl
            · have hf := iq c_45 hf
              exact rW_v hx hb hr hlocks hP hD hS (congrArg (fun (q9 : (OS) × (OS)) => wS q (q2 0) (q3 0) (q4 0) (q5 0) q9.1 ++ wT cB q2 q9.2 ++ wC cI q3 z3 ++ wA q4 z4 ++ wP q5 z5) (so_ob hf)) dX6_readLiterals_48
  exact hL12 fu (0 : Int32) z_2 z2 _ _ _ hf hP hD hS (lv_sub hl [1, 0] rfl)
def fX6_readClause (fu : Nat) (z : OS) (z2 : OS) (z3 : OS) (z4 : OS) (z5 : OS) : Option ((OS) × (OS) × (OS)) :=
  nm (z2.1 3) (fun (v1_1 : Int32) => bd (fX0_isFull fu z3) (fun (r_2 : Int32) => (if r_2 = (0 : Int32) then bd (fX7_advance fu z2) (fun (z_4 : OS) => bd (fX6_readLiterals fu z z_4 z3 z4 z5) (fun (w_8 : OS × OS) => nm w_8.1 (fun (z_6 : OS) => nm w_8.2 (fun (z_7 : OS) => bd (fX6_isFailed fu z_6 z_7 z3 z4 z5) (fun (r_10 : Int32) => (if r_10 = (0 : Int32) then bd (fX0_indexOf fu z3 (z_6.1 7) (z_6.1 8)) (fun (r_12 : Int32) => (if r_12 = (-1 : Int32) then bd (fX0_addGiven fu z3 (z_6.1 7) (z_6.1 8)) (fun (w_16 : Int32 × OS) => nm w_16.1 (fun (r_14 : Int32) => nm w_16.2 (fun (z_15 : OS) => some (z_6, z_7, z_15)))) else bd (fX6_fail fu z_6 z_7 z3 z4 z5 (4 : Int32) v1_1) (fun (z_18 : OS) => some (z_18, z_7, z3)))) else some (z_6, z_7, z3))))))) else bd (fX6_fail fu z z2 z3 z4 z5 (4 : Int32) v1_1) (fun (z_20 : OS) => some (z_20, z2, z3)))))
set_option maxRecDepth 100000 in
set_option maxHeartbeats 4000000 in
theorem mX6_readClause (l : Launch) (D : va_G) (cI cB cZ cO : ClassId) (q : Nat → Nat) (q2 : Nat → Nat) (q3 : Nat → Nat) (q4 : Nat → Nat) (q5 : Nat → Nat) (sz : Nat) (fu : Nat) (z : OS) (z2 : OS) (z3 : OS) (z4 : OS) (z5 : OS) {y1 : OS} {y2 : OS} {y3 : OS} (hf : fX6_readClause fu z z2 z3 z4 z5 = some (y1, y2, y3)) : Met l yX6_readClause wsX6_readClause ({ frames := 4, cells := 0, slots := 0, locals := 88 }) (va_Pc [.ref (q 0)] (Pw D (gT cI cB cZ cO) (wS q (q2 0) (q3 0) (q4 0) (q5 0) z ++ wT cB q2 z2 ++ wC cI q3 z3 ++ wA q4 z4 ++ wP q5 z5) sz)) (Qw D (va_A (wS q (q2 0) (q3 0) (q4 0) (q5 0) z ++ wT cB q2 z2 ++ wC cI q3 z3 ++ wA q4 z4 ++ wP q5 z5) sz) none (wS q (q2 0) (q3 0) (q4 0) (q5 0) y1 ++ wT cB q2 y2 ++ wC cI q3 y3 ++ wA q4 z4 ++ wP q5 z5)) 0 0 (va_A (wS q (q2 0) (q3 0) (q4 0) (q5 0) z ++ wT cB q2 z2 ++ wC cI q3 z3 ++ wA q4 z4 ++ wP q5 z5) sz) := by
  unfold fX6_readClause at hf
  refine metW (ret := none) (own := RX6) rfl (by decide) rfl (Nat.le_of_ble_eq_true rfl) (fun p e s m args below meth c ls A hx hb hr hml hown hlocks hts hK hA hP hD hS hl => ?_)
  have k12 := (hts (.fieldLink RX6 12 "ResolutionProver$Script" "tokens" "LResolutionProver$Tokens;") (List.mem_of_getElem? (i := 1) rfl))
  have k67 := (hts (.fieldLink RX6 67 "ResolutionProver$Tokens" "start" "I") (List.mem_of_getElem? (i := 2) rfl))
  have k21 := (hts (.fieldLink RX6 21 "ResolutionProver$Script" "draft" "LResolutionProver$Clauses;") (List.mem_of_getElem? (i := 3) rfl))
  have k49 := (hts (.fieldLink RX6 49 "ResolutionProver$Script" "positive" "I") (List.mem_of_getElem? (i := 4) rfl))
  have k52 := (hts (.fieldLink RX6 52 "ResolutionProver$Script" "negative" "I") (List.mem_of_getElem? (i := 5) rfl))
  have hiX6 : ∀ w ∈ wsX60, w ∈ wsX6_readClause := (memIn_p [66, 67, 68, 69, 70, 71, 72, 73, 74] rfl)
  have hiX7 : ∀ w ∈ wsX70, w ∈ wsX6_readClause := (memIn_p [75, 76, 77, 78, 79] rfl)
  have hl : lv_has ls 2 [(0, .ref (q 0))] := hl
  refine lv_aload_n hx hb dX6_readClause_0 rfl (lv_at hl 0 rfl) ?_
  refine va_get (D := D) (ci := 5) (v := .ref (q2 0)) (C := RX6) (T := TX6) (N := 9) hx hb hts hiX6 hown hK hP 0 rfl rfl 0 (by decide) k12 (fun _ h9 => h9) rfl dX6_readClause_1 ?_
  refine va_get (D := D) (ci := 6) (v := .int (z2.1 3)) (C := RX7) (T := TX7) (N := 5) hx hb hts hiX7 hown hK hP 1 rfl rfl 3 (by decide) k67 (fun _ h9 => h9) rfl dX6_readClause_4 ?_
  obtain ⟨v1_1, ev1_1, hf⟩ := nm_ob hf
  refine lv_nmi ev1_1 ?_
  refine lv_istore_n (lv' := [(1, .int v1_1), (0, .ref (q 0))]) hx hb dX6_readClause_7 rfl hl (by decide) rfl (fun ls hl => ?_)
  refine lv_aload_n hx hb dX6_readClause_8 rfl (lv_at hl 1 rfl) ?_
  refine va_get (D := D) (ci := 5) (v := .ref (q3 0)) (C := RX6) (T := TX6) (N := 9) hx hb hts hiX6 hown hK hP 0 rfl rfl 1 (by decide) k21 (fun _ h9 => h9) rfl dX6_readClause_9 ?_
  obtain ⟨r_2, hc_3, hf⟩ := bd_ob hf
  refine rdV (As := []) (rest := []) ⟨hx, hb, hml, hown, hts⟩ (mX0_isFull l D cI cB cZ cO q3 fu z3 hc_3) (cwV 0 hts gX6_readClause_X0_isFull rfl rfl rfl (by decide +kernel) ⟨Nat.le_of_ble_eq_true rfl, Nat.le_of_ble_eq_true rfl⟩) hK (hP.sub [3, 4, 5, 6, 7, 8, 9] rfl) (va_recv hK hP (ci := 0) (q0 := 3) rfl rfl) rfl hl.1 rfl (Nat.le_of_ble_eq_true rfl) dX6_readClause_12 ⟨Nat.zero_le _, Nat.zero_le _⟩ ?_
  refine lv_if_eq (tgt := 25) hx hb dX6_readClause_15 (by decide) (fun c_15 => ?_) (fun c_15 => ?_)
  · have hf := ip c_15 hf
    refine lv_aload_n hx hb dX6_readClause_25 rfl (lv_at hl 1 rfl) ?_
    refine va_get (D := D) (ci := 5) (v := .ref (q2 0)) (C := RX6) (T := TX6) (N := 9) hx hb hts hiX6 hown hK hP 0 rfl rfl 0 (by decide) k12 (fun _ h9 => h9) rfl dX6_readClause_26 ?_
    obtain ⟨z_4, hc_5, hf⟩ := bd_ob hf
    refine wrV (As := []) (rest := []) (ws2 := wS q (q2 0) (q3 0) (q4 0) (q5 0) z ++ wT cB q2 z_4 ++ wC cI q3 z3 ++ wA q4 z4 ++ wP q5 z5) ⟨hx, hb, hml, hown, hts⟩ (mX7_advance l D cI cB cZ cO q2 _ fu z2 hc_5) (cwV 0 hts gX6_readClause_X7_advance rfl rfl rfl (by decide +kernel) ⟨Nat.le_of_ble_eq_true rfl, Nat.le_of_ble_eq_true rfl⟩) hK hP hD hS hA [1, 2] [0, 3, 4, 5, 6, 7, 8, 9, 10, 11] [0, 10, 11, 1, 2, 3, 4, 5, 6, 7, 8, 9] rfl (hP.sub [1, 2] rfl) (by decide) rfl (by decide) (by decide) (by decide) rfl (va_recv hK hP (ci := 6) (q0 := 1) rfl rfl) rfl hl.1 rfl (Nat.le_of_ble_eq_true rfl) dX6_readClause_29 ⟨Nat.zero_le _, Nat.zero_le _⟩ (fun H locs hP hD hS => ?_)
    refine lv_aload_n hx hb dX6_readClause_32 rfl (lv_at hl 1 rfl) ?_
    obtain ⟨⟨z_6, z_7⟩, hc_9, hf⟩ := bd_ob hf
    have hf := nm_st hf
    have hf := nm_st hf
    refine weV (As := []) (rest := []) ⟨hx, hb, hml, hown, hts⟩ (mX6_readLiterals l D cI cB cZ cO q q2 q3 q4 q5 _ fu z z_4 z3 z4 z5 hc_9) (cwV 0 hts gX6_readClause_X6_readLiterals rfl rfl rfl (by decide +kernel) ⟨Nat.le_of_ble_eq_true rfl, Nat.le_of_ble_eq_true rfl⟩) hK hP hD hS hA (va_recv hK hP (ci := 5) (q0 := 0) rfl rfl) rfl hl.1 rfl (Nat.le_of_ble_eq_true rfl) dX6_readClause_33 ⟨Nat.zero_le _, Nat.zero_le _⟩ (fun H locs hP hD hS => ?_)
    refine lv_aload_n hx hb dX6_readClause_36 rfl (lv_at hl 1 rfl) ?_
    obtain ⟨r_10, hc_11, hf⟩ := bd_ob hf
    refine rdV (As := []) (rest := []) ⟨hx, hb, hml, hown, hts⟩ (mX6_isFailed l D cI cB cZ cO q q2 q3 q4 q5 fu z_6 z_7 z3 z4 z5 hc_11) (cwV 0 hts gX6_readClause_X6_isFailed rfl rfl rfl (by decide +kernel) ⟨Nat.le_of_ble_eq_true rfl, Nat.le_of_ble_eq_true rfl⟩) hK hP (va_recv hK hP (ci := 5) (q0 := 0) rfl rfl) rfl hl.1 rfl (Nat.le_of_ble_eq_true rfl) dX6_readClause_37 ⟨Nat.zero_le _, Nat.zero_le _⟩ ?_
    refine lv_if_eq (tgt := 44) hx hb dX6_readClause_40 (by decide) (fun c_40 => ?_) (fun c_40 => ?_)
    · have hf := ip c_40 hf
      refine lv_aload_n hx hb dX6_readClause_44 rfl (lv_at hl 1 rfl) ?_
      refine va_get (D := D) (ci := 5) (v := .ref (q3 0)) (C := RX6) (T := TX6) (N := 9) hx hb hts hiX6 hown hK hP 0 rfl rfl 1 (by decide) k21 (fun _ h9 => h9) rfl dX6_readClause_45 ?_
      refine lv_aload_n hx hb dX6_readClause_48 rfl (lv_at hl 1 rfl) ?_
      refine va_get (D := D) (ci := 5) (v := .int (z_6.1 7)) (C := RX6) (T := TX6) (N := 9) hx hb hts hiX6 hown hK hP 0 rfl rfl 7 (by decide) k49 (fun _ h9 => h9) rfl dX6_readClause_49 ?_
      refine lv_aload_n hx hb dX6_readClause_52 rfl (lv_at hl 1 rfl) ?_
      refine va_get (D := D) (ci := 5) (v := .int (z_6.1 8)) (C := RX6) (T := TX6) (N := 9) hx hb hts hiX6 hown hK hP 0 rfl rfl 8 (by decide) k52 (fun _ h9 => h9) rfl dX6_readClause_53 ?_
      obtain ⟨r_12, hc_13, hf⟩ := bd_ob hf
      refine rdV (As := [.int (z_6.1 7), .int (z_6.1 8)]) (rest := []) ⟨hx, hb, hml, hown, hts⟩ (mX0_indexOf l D cI cB cZ cO q3 fu z3 (z_6.1 7) (z_6.1 8) hc_13) (cwV 2 hts gX6_readClause_X0_indexOf rfl rfl rfl (by decide +kernel) ⟨Nat.le_of_ble_eq_true rfl, Nat.le_of_ble_eq_true rfl⟩) hK (hP.sub [3, 4, 5, 6, 7, 8, 9] rfl) (va_recv hK hP (ci := 0) (q0 := 3) rfl rfl) rfl hl.1 rfl (Nat.le_of_ble_eq_true rfl) dX6_readClause_56 ⟨Nat.zero_le _, Nat.zero_le _⟩ ?_
      refine lv_iconst (v := (-1)) hx hb dX6_readClause_59 (by decide) ?_
      refine lv_icmp_eq (tgt := 70) hx hb dX6_readClause_60 (by decide) (fun c_60 => ?_) (fun c_60 => ?_)
      · have hf := ip c_60 hf
        refine lv_aload_n hx hb dX6_readClause_70 rfl (lv_at hl 1 rfl) ?_
        refine va_get (D := D) (ci := 5) (v := .ref (q3 0)) (C := RX6) (T := TX6) (N := 9) hx hb hts hiX6 hown hK hP 0 rfl rfl 1 (by decide) k21 (fun _ h9 => h9) rfl dX6_readClause_71 ?_
        refine lv_aload_n hx hb dX6_readClause_74 rfl (lv_at hl 1 rfl) ?_
        refine va_get (D := D) (ci := 5) (v := .int (z_6.1 7)) (C := RX6) (T := TX6) (N := 9) hx hb hts hiX6 hown hK hP 0 rfl rfl 7 (by decide) k49 (fun _ h9 => h9) rfl dX6_readClause_75 ?_
        refine lv_aload_n hx hb dX6_readClause_78 rfl (lv_at hl 1 rfl) ?_
        refine va_get (D := D) (ci := 5) (v := .int (z_6.1 8)) (C := RX6) (T := TX6) (N := 9) hx hb hts hiX6 hown hK hP 0 rfl rfl 8 (by decide) k52 (fun _ h9 => h9) rfl dX6_readClause_79 ?_
        obtain ⟨⟨r_14, z_15⟩, hc_17, hf⟩ := bd_ob hf
        have hf := nm_st hf
        have hf := nm_st hf
        refine wrV (As := [.int (z_6.1 7), .int (z_6.1 8)]) (rest := []) (ws2 := wS q (q2 0) (q3 0) (q4 0) (q5 0) z_6 ++ wT cB q2 z_7 ++ wC cI q3 z_15 ++ wA q4 z4 ++ wP q5 z5) ⟨hx, hb, hml, hown, hts⟩ (mX0_addGiven l D cI cB cZ cO q3 _ fu z3 (z_6.1 7) (z_6.1 8) hc_17) (cwV 2 hts gX6_readClause_X0_addGiven rfl rfl rfl (by decide +kernel) ⟨Nat.le_of_ble_eq_true rfl, Nat.le_of_ble_eq_true rfl⟩) hK hP hD hS hA [3, 4, 5, 6, 7, 8, 9] [0, 1, 2, 10, 11] [0, 1, 2, 5, 6, 7, 8, 9, 10, 11, 3, 4] rfl (hP.sub [3, 4, 5, 6, 7, 8, 9] rfl) (by decide) rfl (by decide) (by decide) (by decide) rfl (va_recv hK hP (ci := 0) (q0 := 3) rfl rfl) rfl hl.1 rfl (Nat.le_of_ble_eq_true rfl) dX6_readClause_82 ⟨Nat.zero_le _, Nat.zero_le _⟩ (fun H locs hP hD hS => ?_)
        refine lv_pop hx hb dX6_readClause_85 rfl ?_
        exact rW_v hx hb hr hlocks hP hD hS (congrArg (fun (q9 : (OS) × (OS) × (OS)) => wS q (q2 0) (q3 0) (q4 0) (q5 0) q9.1 ++ wT cB q2 q9.2.1 ++ wC cI q3 q9.2.2 ++ wA q4 z4 ++ wP q5 z5) (so_ob hf)) dX6_readClause_86
      · have hf := iq c_60 hf
        refine lv_aload_n hx hb dX6_readClause_63 rfl (lv_at hl 1 rfl) ?_
        refine lv_iconst (v := 4) hx hb dX6_readClause_64 (by decide) ?_
        refine lv_iload_n hx hb dX6_readClause_65 rfl (lv_at hl 0 rfl) ?_
        obtain ⟨z_18, hc_19, hf⟩ := bd_ob hf
        refine weV (As := [.int (4 : Int32), .int v1_1]) (rest := []) ⟨hx, hb, hml, hown, hts⟩ (mX6_fail l D cI cB cZ cO q q2 q3 q4 q5 _ fu z_6 z_7 z3 z4 z5 (4 : Int32) v1_1 hc_19) (cwV 2 hts gX6_readClause_X6_fail rfl rfl rfl (by decide +kernel) ⟨Nat.le_of_ble_eq_true rfl, Nat.le_of_ble_eq_true rfl⟩) hK hP hD hS hA (va_recv hK hP (ci := 5) (q0 := 0) rfl rfl) rfl hl.1 rfl (Nat.le_of_ble_eq_true rfl) dX6_readClause_66 ⟨Nat.zero_le _, Nat.zero_le _⟩ (fun H locs hP hD hS => ?_)
        exact rW_v hx hb hr hlocks hP hD hS (congrArg (fun (q9 : (OS) × (OS) × (OS)) => wS q (q2 0) (q3 0) (q4 0) (q5 0) q9.1 ++ wT cB q2 q9.2.1 ++ wC cI q3 q9.2.2 ++ wA q4 z4 ++ wP q5 z5) (so_ob hf)) dX6_readClause_69
    · have hf := iq c_40 hf
      exact rW_v hx hb hr hlocks hP hD hS (congrArg (fun (q9 : (OS) × (OS) × (OS)) => wS q (q2 0) (q3 0) (q4 0) (q5 0) q9.1 ++ wT cB q2 q9.2.1 ++ wC cI q3 q9.2.2 ++ wA q4 z4 ++ wP q5 z5) (so_ob hf)) dX6_readClause_43
  · have hf := iq c_15 hf
    refine lv_aload_n hx hb dX6_readClause_18 rfl (lv_at hl 1 rfl) ?_
    refine lv_iconst (v := 4) hx hb dX6_readClause_19 (by decide) ?_
    refine lv_iload_n hx hb dX6_readClause_20 rfl (lv_at hl 0 rfl) ?_
    obtain ⟨z_20, hc_21, hf⟩ := bd_ob hf
    refine weV (As := [.int (4 : Int32), .int v1_1]) (rest := []) ⟨hx, hb, hml, hown, hts⟩ (mX6_fail l D cI cB cZ cO q q2 q3 q4 q5 _ fu z z2 z3 z4 z5 (4 : Int32) v1_1 hc_21) (cwV 2 hts gX6_readClause_X6_fail rfl rfl rfl (by decide +kernel) ⟨Nat.le_of_ble_eq_true rfl, Nat.le_of_ble_eq_true rfl⟩) hK hP hD hS hA (va_recv hK hP (ci := 5) (q0 := 0) rfl rfl) rfl hl.1 rfl (Nat.le_of_ble_eq_true rfl) dX6_readClause_21 ⟨Nat.zero_le _, Nat.zero_le _⟩ (fun H locs hP hD hS => ?_)
    exact rW_v hx hb hr hlocks hP hD hS (congrArg (fun (q9 : (OS) × (OS) × (OS)) => wS q (q2 0) (q3 0) (q4 0) (q5 0) q9.1 ++ wT cB q2 q9.2.1 ++ wC cI q3 q9.2.2 ++ wA q4 z4 ++ wP q5 z5) (so_ob hf)) dX6_readClause_24
def fX6_readClauseNumber (fu : Nat) (z : OS) (z2 : OS) (z3 : OS) (z4 : OS) (z5 : OS) : Option (Int32 × (OS) × (OS)) :=
  bd (fX6_readNumber fu z z2 z3 z4 z5 (0 : Int32) ((z3.1 7) - (1 : Int32))) (fun (w_4 : Int32 × OS × OS) => nm w_4.1 (fun (r_1 : Int32) => nm w_4.2.1 (fun (z_2 : OS) => nm w_4.2.2 (fun (z_3 : OS) => some (r_1, z_2, z_3)))))
set_option maxRecDepth 100000 in
set_option maxHeartbeats 4000000 in
theorem mX6_readClauseNumber (l : Launch) (D : va_G) (cI cB cZ cO : ClassId) (q : Nat → Nat) (q2 : Nat → Nat) (q3 : Nat → Nat) (q4 : Nat → Nat) (q5 : Nat → Nat) (sz : Nat) (fu : Nat) (z : OS) (z2 : OS) (z3 : OS) (z4 : OS) (z5 : OS) {r : Int32} {y1 : OS} {y2 : OS} (hf : fX6_readClauseNumber fu z z2 z3 z4 z5 = some (r, y1, y2)) : Met l yX6_readClauseNumber wsX6_readClauseNumber ({ frames := 2, cells := 0, slots := 0, locals := 45 }) (va_Pc [.ref (q 0)] (Pw D (gT cI cB cZ cO) (wS q (q2 0) (q3 0) (q4 0) (q5 0) z ++ wT cB q2 z2 ++ wC cI q3 z3 ++ wA q4 z4 ++ wP q5 z5) sz)) (Qw D (va_A (wS q (q2 0) (q3 0) (q4 0) (q5 0) z ++ wT cB q2 z2 ++ wC cI q3 z3 ++ wA q4 z4 ++ wP q5 z5) sz) (some (.int r)) (wS q (q2 0) (q3 0) (q4 0) (q5 0) y1 ++ wT cB q2 y2 ++ wC cI q3 z3 ++ wA q4 z4 ++ wP q5 z5)) 0 0 (va_A (wS q (q2 0) (q3 0) (q4 0) (q5 0) z ++ wT cB q2 z2 ++ wC cI q3 z3 ++ wA q4 z4 ++ wP q5 z5) sz) := by
  unfold fX6_readClauseNumber at hf
  refine metW (ret := (some .int)) (own := RX6) rfl (by decide) rfl (Nat.le_of_ble_eq_true rfl) (fun p e s m args below meth c ls A hx hb hr hml hown hlocks hts hK hA hP hD hS hl => ?_)
  have k21 := (hts (.fieldLink RX6 21 "ResolutionProver$Script" "draft" "LResolutionProver$Clauses;") (List.mem_of_getElem? (i := 1) rfl))
  have k190 := (hts (.fieldLink RX6 190 "ResolutionProver$Clauses" "count" "I") (List.mem_of_getElem? (i := 2) rfl))
  have hiX6 : ∀ w ∈ wsX60, w ∈ wsX6_readClauseNumber := (memIn_p [35, 36, 37, 38, 39, 40, 41, 42, 43] rfl)
  have hiX0 : ∀ w ∈ wsX00, w ∈ wsX6_readClauseNumber := (memIn_p [44, 45, 46, 47, 48, 49, 50, 51] rfl)
  have hl : lv_has ls 1 [(0, .ref (q 0))] := hl
  refine lv_aload_n hx hb dX6_readClauseNumber_0 rfl (lv_at hl 0 rfl) ?_
  refine lv_iconst (v := 0) hx hb dX6_readClauseNumber_1 (by decide) ?_
  refine lv_aload_n hx hb dX6_readClauseNumber_2 rfl (lv_at hl 0 rfl) ?_
  refine va_get (D := D) (ci := 5) (v := .ref (q3 0)) (C := RX6) (T := TX6) (N := 9) hx hb hts hiX6 hown hK hP 0 rfl rfl 1 (by decide) k21 (fun _ h9 => h9) rfl dX6_readClauseNumber_3 ?_
  refine va_get (D := D) (ci := 0) (v := .int (z3.1 7)) (C := RX0) (T := TX0) (N := 8) hx hb hts hiX0 hown hK hP 3 rfl rfl 7 (by decide) k190 (fun _ h9 => h9) rfl dX6_readClauseNumber_6 ?_
  refine lv_iconst (v := 1) hx hb dX6_readClauseNumber_9 (by decide) ?_
  refine lv_isub hx hb dX6_readClauseNumber_10 ?_
  obtain ⟨⟨r_1, z_2, z_3⟩, hc_5, hf⟩ := bd_ob hf
  have hf := nm_st hf
  have hf := nm_st hf
  have hf := nm_st hf
  refine weV (As := [.int (0 : Int32), .int ((z3.1 7) - (1 : Int32))]) (rest := []) ⟨hx, hb, hml, hown, hts⟩ (mX6_readNumber l D cI cB cZ cO q q2 q3 q4 q5 _ fu z z2 z3 z4 z5 (0 : Int32) ((z3.1 7) - (1 : Int32)) hc_5) (cwV 2 hts gX6_readClauseNumber_X6_readNumber rfl rfl rfl (by decide +kernel) ⟨Nat.le_of_ble_eq_true rfl, Nat.le_of_ble_eq_true rfl⟩) hK hP hD hS hA (va_recv hK hP (ci := 5) (q0 := 0) rfl rfl) rfl hl.1 rfl (Nat.le_of_ble_eq_true rfl) dX6_readClauseNumber_11 ⟨Nat.zero_le _, Nat.zero_le _⟩ (fun H locs hP hD hS => ?_)
  exact rW_i hx hb hr hlocks hP hD hS (congrArg (fun q9 => q9.1) (so_ob hf)) (congrArg (fun (q9 : Int32 × (OS) × (OS)) => wS q (q2 0) (q3 0) (q4 0) (q5 0) q9.2.1 ++ wT cB q2 q9.2.2 ++ wC cI q3 z3 ++ wA q4 z4 ++ wP q5 z5) (so_ob hf)) dX6_readClauseNumber_14
def fX6_readResolve (fu : Nat) (z : OS) (z2 : OS) (z3 : OS) (z4 : OS) (z5 : OS) : Option ((OS) × (OS) × (OS)) :=
  bd (fX7_advance fu z2) (fun (z_1 : OS) => bd (fX6_readClauseNumber fu z z_1 z3 z4 z5) (fun (w_6 : Int32 × OS × OS) => nm w_6.1 (fun (r_3 : Int32) => nm w_6.2.1 (fun (z_4 : OS) => nm w_6.2.2 (fun (z_5 : OS) => nm (z_5.1 3) (fun (v2_8 : Int32) => bd (fX6_readClauseNumber fu z_4 z_5 z3 z4 z5) (fun (w_12 : Int32 × OS × OS) => nm w_12.1 (fun (r_9 : Int32) => nm w_12.2.1 (fun (z_10 : OS) => nm w_12.2.2 (fun (z_11 : OS) => (if r_3 = (-1 : Int32) then some (z_10, z_11, z3) else (if ¬ r_9 = (-1 : Int32) then bd (fX0_clashOnce fu z3 r_3 r_9) (fun (r_14 : Int32) => jn (κ := Option ((OS) × (OS) × (OS))) (bd (fX6_fail fu z_10 z_11 z3 z4 z5 (4 : Int32) v2_8) (fun (z_16 : OS) => some (z_16, z_11, z3))) (fun j60 => (if r_14 = (0 : Int32) then j60 else bd (fX0_hasRoomForResolvent fu z3 r_3 r_9) (fun (r_18 : Int32) => (if ¬ r_18 = (0 : Int32) then bd (fX0_addResolvent fu z3 r_3 r_9) (fun (w_22 : Int32 × OS) => nm w_22.1 (fun (r_20 : Int32) => nm w_22.2 (fun (z_21 : OS) => some (z_10, z_11, z_21)))) else j60))))) else some (z_10, z_11, z3)))))))))))))
set_option maxRecDepth 100000 in
set_option maxHeartbeats 4000000 in
theorem mX6_readResolve (l : Launch) (D : va_G) (cI cB cZ cO : ClassId) (q : Nat → Nat) (q2 : Nat → Nat) (q3 : Nat → Nat) (q4 : Nat → Nat) (q5 : Nat → Nat) (sz : Nat) (fu : Nat) (z : OS) (z2 : OS) (z3 : OS) (z4 : OS) (z5 : OS) {y1 : OS} {y2 : OS} {y3 : OS} (hf : fX6_readResolve fu z z2 z3 z4 z5 = some (y1, y2, y3)) : Met l yX6_readResolve wsX6_readResolve ({ frames := 3, cells := 0, slots := 0, locals := 70 }) (va_Pc [.ref (q 0)] (Pw D (gT cI cB cZ cO) (wS q (q2 0) (q3 0) (q4 0) (q5 0) z ++ wT cB q2 z2 ++ wC cI q3 z3 ++ wA q4 z4 ++ wP q5 z5) sz)) (Qw D (va_A (wS q (q2 0) (q3 0) (q4 0) (q5 0) z ++ wT cB q2 z2 ++ wC cI q3 z3 ++ wA q4 z4 ++ wP q5 z5) sz) none (wS q (q2 0) (q3 0) (q4 0) (q5 0) y1 ++ wT cB q2 y2 ++ wC cI q3 y3 ++ wA q4 z4 ++ wP q5 z5)) 0 0 (va_A (wS q (q2 0) (q3 0) (q4 0) (q5 0) z ++ wT cB q2 z2 ++ wC cI q3 z3 ++ wA q4 z4 ++ wP q5 z5) sz) := by
  unfold fX6_readResolve at hf
  refine metW (ret := none) (own := RX6) rfl (by decide) rfl (Nat.le_of_ble_eq_true rfl) (fun p e s m args below meth c ls A hx hb hr hml hown hlocks hts hK hA hP hD hS hl => ?_)
  have k12 := (hts (.fieldLink RX6 12 "ResolutionProver$Script" "tokens" "LResolutionProver$Tokens;") (List.mem_of_getElem? (i := 1) rfl))
  have k67 := (hts (.fieldLink RX6 67 "ResolutionProver$Tokens" "start" "I") (List.mem_of_getElem? (i := 2) rfl))
  have k21 := (hts (.fieldLink RX6 21 "ResolutionProver$Script" "draft" "LResolutionProver$Clauses;") (List.mem_of_getElem? (i := 3) rfl))
  have hiX6 : ∀ w ∈ wsX60, w ∈ wsX6_readResolve := (memIn_p [98, 99, 100, 101, 102, 103, 104, 105, 106] rfl)
  have hiX7 : ∀ w ∈ wsX70, w ∈ wsX6_readResolve := (memIn_p [107, 108, 109, 110, 111] rfl)
  have hl : lv_has ls 4 [(0, .ref (q 0))] := hl
  refine lv_aload_n hx hb dX6_readResolve_0 rfl (lv_at hl 0 rfl) ?_
  refine va_get (D := D) (ci := 5) (v := .ref (q2 0)) (C := RX6) (T := TX6) (N := 9) hx hb hts hiX6 hown hK hP 0 rfl rfl 0 (by decide) k12 (fun _ h9 => h9) rfl dX6_readResolve_1 ?_
  obtain ⟨z_1, hc_2, hf⟩ := bd_ob hf
  refine wrV (As := []) (rest := []) (ws2 := wS q (q2 0) (q3 0) (q4 0) (q5 0) z ++ wT cB q2 z_1 ++ wC cI q3 z3 ++ wA q4 z4 ++ wP q5 z5) ⟨hx, hb, hml, hown, hts⟩ (mX7_advance l D cI cB cZ cO q2 _ fu z2 hc_2) (cwV 0 hts gX6_readResolve_X7_advance rfl rfl rfl (by decide +kernel) ⟨Nat.le_of_ble_eq_true rfl, Nat.le_of_ble_eq_true rfl⟩) hK hP hD hS hA [1, 2] [0, 3, 4, 5, 6, 7, 8, 9, 10, 11] [0, 10, 11, 1, 2, 3, 4, 5, 6, 7, 8, 9] rfl (hP.sub [1, 2] rfl) (by decide) rfl (by decide) (by decide) (by decide) rfl (va_recv hK hP (ci := 6) (q0 := 1) rfl rfl) rfl hl.1 rfl (Nat.le_of_ble_eq_true rfl) dX6_readResolve_4 ⟨Nat.zero_le _, Nat.zero_le _⟩ (fun H locs hP hD hS => ?_)
  refine lv_aload_n hx hb dX6_readResolve_7 rfl (lv_at hl 0 rfl) ?_
  obtain ⟨⟨r_3, z_4, z_5⟩, hc_7, hf⟩ := bd_ob hf
  have hf := nm_st hf
  have hf := nm_st hf
  have hf := nm_st hf
  refine weV (As := []) (rest := []) ⟨hx, hb, hml, hown, hts⟩ (mX6_readClauseNumber l D cI cB cZ cO q q2 q3 q4 q5 _ fu z z_1 z3 z4 z5 hc_7) (cwV 0 hts gX6_readResolve_X6_readClauseNumber rfl rfl rfl (by decide +kernel) ⟨Nat.le_of_ble_eq_true rfl, Nat.le_of_ble_eq_true rfl⟩) hK hP hD hS hA (va_recv hK hP (ci := 5) (q0 := 0) rfl rfl) rfl hl.1 rfl (Nat.le_of_ble_eq_true rfl) dX6_readResolve_8 ⟨Nat.zero_le _, Nat.zero_le _⟩ (fun H locs hP hD hS => ?_)
  refine lv_istore_n (lv' := [(1, .int r_3), (0, .ref (q 0))]) hx hb dX6_readResolve_11 rfl hl (by decide) rfl (fun ls hl => ?_)
  refine lv_aload_n hx hb dX6_readResolve_12 rfl (lv_at hl 1 rfl) ?_
  refine va_get (D := D) (ci := 5) (v := .ref (q2 0)) (C := RX6) (T := TX6) (N := 9) hx hb hts hiX6 hown hK hP 0 rfl rfl 0 (by decide) k12 (fun _ h9 => h9) rfl dX6_readResolve_13 ?_
  refine va_get (D := D) (ci := 6) (v := .int (z_5.1 3)) (C := RX7) (T := TX7) (N := 5) hx hb hts hiX7 hown hK hP 1 rfl rfl 3 (by decide) k67 (fun _ h9 => h9) rfl dX6_readResolve_16 ?_
  obtain ⟨v2_8, ev2_8, hf⟩ := nm_ob hf
  refine lv_nmi ev2_8 ?_
  refine lv_istore_n (lv' := [(2, .int v2_8), (1, .int r_3), (0, .ref (q 0))]) hx hb dX6_readResolve_19 rfl hl (by decide) rfl (fun ls hl => ?_)
  refine lv_aload_n hx hb dX6_readResolve_20 rfl (lv_at hl 2 rfl) ?_
  obtain ⟨⟨r_9, z_10, z_11⟩, hc_13, hf⟩ := bd_ob hf
  have hf := nm_st hf
  have hf := nm_st hf
  have hf := nm_st hf
  refine weV (As := []) (rest := []) ⟨hx, hb, hml, hown, hts⟩ (mX6_readClauseNumber l D cI cB cZ cO q q2 q3 q4 q5 _ fu z_4 z_5 z3 z4 z5 hc_13) (cwV 0 hts gX6_readResolve_X6_readClauseNumber rfl rfl rfl (by decide +kernel) ⟨Nat.le_of_ble_eq_true rfl, Nat.le_of_ble_eq_true rfl⟩) hK hP hD hS hA (va_recv hK hP (ci := 5) (q0 := 0) rfl rfl) rfl hl.1 rfl (Nat.le_of_ble_eq_true rfl) dX6_readResolve_21 ⟨Nat.zero_le _, Nat.zero_le _⟩ (fun H locs hP hD hS => ?_)
  refine lv_istore_n (lv' := [(3, .int r_9), (2, .int v2_8), (1, .int r_3), (0, .ref (q 0))]) hx hb dX6_readResolve_24 rfl hl (by decide) rfl (fun ls hl => ?_)
  refine lv_iload_n hx hb dX6_readResolve_25 rfl (lv_at hl 2 rfl) ?_
  refine lv_iconst (v := (-1)) hx hb dX6_readResolve_26 (by decide) ?_
  refine lv_icmp_eq (tgt := 35) hx hb dX6_readResolve_27 (by decide) (fun c_27 => ?_) (fun c_27 => ?_)
  · have hf := ip c_27 hf
    exact rW_v hx hb hr hlocks hP hD hS (congrArg (fun (q9 : (OS) × (OS) × (OS)) => wS q (q2 0) (q3 0) (q4 0) (q5 0) q9.1 ++ wT cB q2 q9.2.1 ++ wC cI q3 q9.2.2 ++ wA q4 z4 ++ wP q5 z5) (so_ob hf)) dX6_readResolve_35
  · have hf := iq c_27 hf
    refine lv_iload_n hx hb dX6_readResolve_30 rfl (lv_at hl 0 rfl) ?_
    refine lv_iconst (v := (-1)) hx hb dX6_readResolve_31 (by decide) ?_
    refine lv_icmp_ne (tgt := 36) hx hb dX6_readResolve_32 (by decide) (fun c_32 => ?_) (fun c_32 => ?_)
    · have hf := ip c_32 hf
      refine lv_aload_n hx hb dX6_readResolve_36 rfl (lv_at hl 3 rfl) ?_
      refine va_get (D := D) (ci := 5) (v := .ref (q3 0)) (C := RX6) (T := TX6) (N := 9) hx hb hts hiX6 hown hK hP 0 rfl rfl 1 (by decide) k21 (fun _ h9 => h9) rfl dX6_readResolve_37 ?_
      refine lv_iload_n hx hb dX6_readResolve_40 rfl (lv_at hl 2 rfl) ?_
      refine lv_iload_n hx hb dX6_readResolve_41 rfl (lv_at hl 0 rfl) ?_
      obtain ⟨r_14, hc_15, hf⟩ := bd_ob hf
      refine rdV (As := [.int r_3, .int r_9]) (rest := []) ⟨hx, hb, hml, hown, hts⟩ (mX0_clashOnce l D cI cB cZ cO q3 fu z3 r_3 r_9 hc_15) (cwV 2 hts gX6_readResolve_X0_clashOnce rfl rfl rfl (by decide +kernel) ⟨Nat.le_of_ble_eq_true rfl, Nat.le_of_ble_eq_true rfl⟩) hK (hP.sub [3, 4, 5, 6, 7, 8, 9] rfl) (va_recv hK hP (ci := 0) (q0 := 3) rfl rfl) rfl hl.1 rfl (Nat.le_of_ble_eq_true rfl) dX6_readResolve_42 ⟨Nat.zero_le _, Nat.zero_le _⟩ ?_
      obtain ⟨j60, ej60, hf⟩ := jn_ob hf
      have hp60 : ∀  (H : Heap) (locs : List Loc) (ls : Array Slot), j60 = some (y1, y2, y3) → va_P D vwCl (wS q (q2 0) (q3 0) (q4 0) (q5 0) z_10 ++ wT cB q2 z_11 ++ wC cI q3 z3 ++ wA q4 z4 ++ wP q5 z5) H → va_D A (wS q (q2 0) (q3 0) (q4 0) (q5 0) z_10 ++ wT cB q2 z_11 ++ wC cI q3 z3 ++ wA q4 z4 ++ wP q5 z5) → va_S A s.heap H locs → lv_has ls 4 [(0, .ref (q 0)), (2, .int v2_8)] → W p l e (headSpec wsX6_readResolve { frames := 3, cells := 0, slots := 0, locals := 70 }).room s m args below meth c H locs 0 0 (MQ below (Qw D A none (wS q (q2 0) (q3 0) (q4 0) (q5 0) y1 ++ wT cB q2 y2 ++ wC cI q3 y3 ++ wA q4 z4 ++ wP q5 z5)) args s 0 0 A) (F0 m 60 ls []) := by
        intro H locs ls hf hP hD hS hl
        rw [ej60] at hf
        refine lv_aload_n hx hb dX6_readResolve_60 rfl (lv_at hl 0 rfl) ?_
        refine lv_iconst (v := 4) hx hb dX6_readResolve_61 (by decide) ?_
        refine lv_iload_n hx hb dX6_readResolve_62 rfl (lv_at hl 1 rfl) ?_
        obtain ⟨z_16, hc_17, hf⟩ := bd_ob hf
        refine weV (As := [.int (4 : Int32), .int v2_8]) (rest := []) ⟨hx, hb, hml, hown, hts⟩ (mX6_fail l D cI cB cZ cO q q2 q3 q4 q5 _ fu z_10 z_11 z3 z4 z5 (4 : Int32) v2_8 hc_17) (cwV 2 hts gX6_readResolve_X6_fail rfl rfl rfl (by decide +kernel) ⟨Nat.le_of_ble_eq_true rfl, Nat.le_of_ble_eq_true rfl⟩) hK hP hD hS hA (va_recv hK hP (ci := 5) (q0 := 0) rfl rfl) rfl hl.1 rfl (Nat.le_of_ble_eq_true rfl) dX6_readResolve_63 ⟨Nat.zero_le _, Nat.zero_le _⟩ (fun H locs hP hD hS => ?_)
        exact rW_v hx hb hr hlocks hP hD hS (congrArg (fun (q9 : (OS) × (OS) × (OS)) => wS q (q2 0) (q3 0) (q4 0) (q5 0) q9.1 ++ wT cB q2 q9.2.1 ++ wC cI q3 q9.2.2 ++ wA q4 z4 ++ wP q5 z5) (so_ob hf)) dX6_readResolve_66
      refine lv_if_eq (tgt := 60) hx hb dX6_readResolve_45 (by decide) (fun c_45 => ?_) (fun c_45 => ?_)
      · have hf := ip c_45 hf
        exact hp60 _ _ _ hf hP hD hS (lv_sub hl [3, 1] rfl)
      · have hf := iq c_45 hf
        refine lv_aload_n hx hb dX6_readResolve_48 rfl (lv_at hl 3 rfl) ?_
        refine va_get (D := D) (ci := 5) (v := .ref (q3 0)) (C := RX6) (T := TX6) (N := 9) hx hb hts hiX6 hown hK hP 0 rfl rfl 1 (by decide) k21 (fun _ h9 => h9) rfl dX6_readResolve_49 ?_
        refine lv_iload_n hx hb dX6_readResolve_52 rfl (lv_at hl 2 rfl) ?_
        refine lv_iload_n hx hb dX6_readResolve_53 rfl (lv_at hl 0 rfl) ?_
        obtain ⟨r_18, hc_19, hf⟩ := bd_ob hf
        refine rdV (As := [.int r_3, .int r_9]) (rest := []) ⟨hx, hb, hml, hown, hts⟩ (mX0_hasRoomForResolvent l D cI cB cZ cO q3 fu z3 r_3 r_9 hc_19) (cwV 2 hts gX6_readResolve_X0_hasRoomForResolvent rfl rfl rfl (by decide +kernel) ⟨Nat.le_of_ble_eq_true rfl, Nat.le_of_ble_eq_true rfl⟩) hK (hP.sub [3, 4, 5, 6, 7, 8, 9] rfl) (va_recv hK hP (ci := 0) (q0 := 3) rfl rfl) rfl hl.1 rfl (Nat.le_of_ble_eq_true rfl) dX6_readResolve_54 ⟨Nat.zero_le _, Nat.zero_le _⟩ ?_
        refine lv_if_ne (tgt := 67) hx hb dX6_readResolve_57 (by decide) (fun c_57 => ?_) (fun c_57 => ?_)
        · have hf := ip c_57 hf
          refine lv_aload_n hx hb dX6_readResolve_67 rfl (lv_at hl 3 rfl) ?_
          refine va_get (D := D) (ci := 5) (v := .ref (q3 0)) (C := RX6) (T := TX6) (N := 9) hx hb hts hiX6 hown hK hP 0 rfl rfl 1 (by decide) k21 (fun _ h9 => h9) rfl dX6_readResolve_68 ?_
          refine lv_iload_n hx hb dX6_readResolve_71 rfl (lv_at hl 2 rfl) ?_
          refine lv_iload_n hx hb dX6_readResolve_72 rfl (lv_at hl 0 rfl) ?_
          obtain ⟨⟨r_20, z_21⟩, hc_23, hf⟩ := bd_ob hf
          have hf := nm_st hf
          have hf := nm_st hf
          refine wrV (As := [.int r_3, .int r_9]) (rest := []) (ws2 := wS q (q2 0) (q3 0) (q4 0) (q5 0) z_10 ++ wT cB q2 z_11 ++ wC cI q3 z_21 ++ wA q4 z4 ++ wP q5 z5) ⟨hx, hb, hml, hown, hts⟩ (mX0_addResolvent l D cI cB cZ cO q3 _ fu z3 r_3 r_9 hc_23) (cwV 2 hts gX6_readResolve_X0_addResolvent rfl rfl rfl (by decide +kernel) ⟨Nat.le_of_ble_eq_true rfl, Nat.le_of_ble_eq_true rfl⟩) hK hP hD hS hA [3, 4, 5, 6, 7, 8, 9] [0, 1, 2, 10, 11] [0, 1, 2, 5, 6, 7, 8, 9, 10, 11, 3, 4] rfl (hP.sub [3, 4, 5, 6, 7, 8, 9] rfl) (by decide) rfl (by decide) (by decide) (by decide) rfl (va_recv hK hP (ci := 0) (q0 := 3) rfl rfl) rfl hl.1 rfl (Nat.le_of_ble_eq_true rfl) dX6_readResolve_73 ⟨Nat.zero_le _, Nat.zero_le _⟩ (fun H locs hP hD hS => ?_)
          refine lv_pop hx hb dX6_readResolve_76 rfl ?_
          exact rW_v hx hb hr hlocks hP hD hS (congrArg (fun (q9 : (OS) × (OS) × (OS)) => wS q (q2 0) (q3 0) (q4 0) (q5 0) q9.1 ++ wT cB q2 q9.2.1 ++ wC cI q3 q9.2.2 ++ wA q4 z4 ++ wP q5 z5) (so_ob hf)) dX6_readResolve_77
        · have hf := iqn c_57 hf
          exact hp60 _ _ _ hf hP hD hS (lv_sub hl [3, 1] rfl)
    · have hf := iqn c_32 hf
      exact rW_v hx hb hr hlocks hP hD hS (congrArg (fun (q9 : (OS) × (OS) × (OS)) => wS q (q2 0) (q3 0) (q4 0) (q5 0) q9.1 ++ wT cB q2 q9.2.1 ++ wC cI q3 q9.2.2 ++ wA q4 z4 ++ wP q5 z5) (so_ob hf)) dX6_readResolve_35
def fX6_readSaturate (fu : Nat) (z : OS) (z2 : OS) (z3 : OS) (z4 : OS) (z5 : OS) : Option ((OS) × (OS) × (OS) × (OS)) :=
  bd (fX7_advance fu z2) (fun (z_1 : OS) => bd (fX6_readNumber fu z z_1 z3 z4 z5 (1 : Int32) (99 : Int32)) (fun (w_6 : Int32 × OS × OS) => nm w_6.1 (fun (r_3 : Int32) => nm w_6.2.1 (fun (z_4 : OS) => nm w_6.2.2 (fun (z_5 : OS) => (if r_3 = (-1 : Int32) then some (z_4, z_5, z3, z4) else bd (fX5_makeSteps fu z4 z3 r_3) (fun (w_11 : Int32 × OS × OS) => nm w_11.1 (fun (r_8 : Int32) => nm w_11.2.1 (fun (z_9 : OS) => nm w_11.2.2 (fun (z_10 : OS) => some (z_4, z_5, z_10, z_9)))))))))))
set_option maxRecDepth 100000 in
set_option maxHeartbeats 4000000 in
theorem mX6_readSaturate (l : Launch) (D : va_G) (cI cB cZ cO : ClassId) (q : Nat → Nat) (q2 : Nat → Nat) (q3 : Nat → Nat) (q4 : Nat → Nat) (q5 : Nat → Nat) (sz : Nat) (fu : Nat) (z : OS) (z2 : OS) (z3 : OS) (z4 : OS) (z5 : OS) {y1 : OS} {y2 : OS} {y3 : OS} {y4 : OS} (hf : fX6_readSaturate fu z z2 z3 z4 z5 = some (y1, y2, y3, y4)) : Met l yX6_readSaturate wsX6_readSaturate ({ frames := 4, cells := 0, slots := 0, locals := 93 }) (va_Pc [.ref (q 0)] (Pw D (gT cI cB cZ cO) (wS q (q2 0) (q3 0) (q4 0) (q5 0) z ++ wT cB q2 z2 ++ wC cI q3 z3 ++ wA q4 z4 ++ wP q5 z5) sz)) (Qw D (va_A (wS q (q2 0) (q3 0) (q4 0) (q5 0) z ++ wT cB q2 z2 ++ wC cI q3 z3 ++ wA q4 z4 ++ wP q5 z5) sz) none (wS q (q2 0) (q3 0) (q4 0) (q5 0) y1 ++ wT cB q2 y2 ++ wC cI q3 y3 ++ wA q4 y4 ++ wP q5 z5)) 0 0 (va_A (wS q (q2 0) (q3 0) (q4 0) (q5 0) z ++ wT cB q2 z2 ++ wC cI q3 z3 ++ wA q4 z4 ++ wP q5 z5) sz) := by
  unfold fX6_readSaturate at hf
  refine metW (ret := none) (own := RX6) rfl (by decide) rfl (Nat.le_of_ble_eq_true rfl) (fun p e s m args below meth c ls A hx hb hr hml hown hlocks hts hK hA hP hD hS hl => ?_)
  have k12 := (hts (.fieldLink RX6 12 "ResolutionProver$Script" "tokens" "LResolutionProver$Tokens;") (List.mem_of_getElem? (i := 1) rfl))
  have k28 := (hts (.fieldLink RX6 28 "ResolutionProver$Script" "saturation" "LResolutionProver$Saturation;") (List.mem_of_getElem? (i := 2) rfl))
  have k21 := (hts (.fieldLink RX6 21 "ResolutionProver$Script" "draft" "LResolutionProver$Clauses;") (List.mem_of_getElem? (i := 3) rfl))
  have hiX6 : ∀ w ∈ wsX60, w ∈ wsX6_readSaturate := (memIn_p [117, 118, 119, 120, 121, 122, 123, 124, 125] rfl)
  have hl : lv_has ls 2 [(0, .ref (q 0))] := hl
  refine lv_aload_n hx hb dX6_readSaturate_0 rfl (lv_at hl 0 rfl) ?_
  refine va_get (D := D) (ci := 5) (v := .ref (q2 0)) (C := RX6) (T := TX6) (N := 9) hx hb hts hiX6 hown hK hP 0 rfl rfl 0 (by decide) k12 (fun _ h9 => h9) rfl dX6_readSaturate_1 ?_
  obtain ⟨z_1, hc_2, hf⟩ := bd_ob hf
  refine wrV (As := []) (rest := []) (ws2 := wS q (q2 0) (q3 0) (q4 0) (q5 0) z ++ wT cB q2 z_1 ++ wC cI q3 z3 ++ wA q4 z4 ++ wP q5 z5) ⟨hx, hb, hml, hown, hts⟩ (mX7_advance l D cI cB cZ cO q2 _ fu z2 hc_2) (cwV 0 hts gX6_readSaturate_X7_advance rfl rfl rfl (by decide +kernel) ⟨Nat.le_of_ble_eq_true rfl, Nat.le_of_ble_eq_true rfl⟩) hK hP hD hS hA [1, 2] [0, 3, 4, 5, 6, 7, 8, 9, 10, 11] [0, 10, 11, 1, 2, 3, 4, 5, 6, 7, 8, 9] rfl (hP.sub [1, 2] rfl) (by decide) rfl (by decide) (by decide) (by decide) rfl (va_recv hK hP (ci := 6) (q0 := 1) rfl rfl) rfl hl.1 rfl (Nat.le_of_ble_eq_true rfl) dX6_readSaturate_4 ⟨Nat.zero_le _, Nat.zero_le _⟩ (fun H locs hP hD hS => ?_)
  refine lv_aload_n hx hb dX6_readSaturate_7 rfl (lv_at hl 0 rfl) ?_
  refine lv_iconst (v := 1) hx hb dX6_readSaturate_8 (by decide) ?_
  refine lv_bipush (v := 99) hx hb dX6_readSaturate_9 (by decide) ?_
  obtain ⟨⟨r_3, z_4, z_5⟩, hc_7, hf⟩ := bd_ob hf
  have hf := nm_st hf
  have hf := nm_st hf
  have hf := nm_st hf
  refine weV (As := [.int (1 : Int32), .int (99 : Int32)]) (rest := []) ⟨hx, hb, hml, hown, hts⟩ (mX6_readNumber l D cI cB cZ cO q q2 q3 q4 q5 _ fu z z_1 z3 z4 z5 (1 : Int32) (99 : Int32) hc_7) (cwV 2 hts gX6_readSaturate_X6_readNumber rfl rfl rfl (by decide +kernel) ⟨Nat.le_of_ble_eq_true rfl, Nat.le_of_ble_eq_true rfl⟩) hK hP hD hS hA (va_recv hK hP (ci := 5) (q0 := 0) rfl rfl) rfl hl.1 rfl (Nat.le_of_ble_eq_true rfl) dX6_readSaturate_11 ⟨Nat.zero_le _, Nat.zero_le _⟩ (fun H locs hP hD hS => ?_)
  refine lv_istore_n (lv' := [(1, .int r_3), (0, .ref (q 0))]) hx hb dX6_readSaturate_14 rfl hl (by decide) rfl (fun ls hl => ?_)
  refine lv_iload_n hx hb dX6_readSaturate_15 rfl (lv_at hl 0 rfl) ?_
  refine lv_iconst (v := (-1)) hx hb dX6_readSaturate_16 (by decide) ?_
  refine lv_icmp_eq (tgt := 33) hx hb dX6_readSaturate_17 (by decide) (fun c_17 => ?_) (fun c_17 => ?_)
  · have hf := ip c_17 hf
    exact rW_v hx hb hr hlocks hP hD hS (congrArg (fun (q9 : (OS) × (OS) × (OS) × (OS)) => wS q (q2 0) (q3 0) (q4 0) (q5 0) q9.1 ++ wT cB q2 q9.2.1 ++ wC cI q3 q9.2.2.1 ++ wA q4 q9.2.2.2 ++ wP q5 z5) (so_ob hf)) dX6_readSaturate_33
  · have hf := iq c_17 hf
    refine lv_aload_n hx hb dX6_readSaturate_20 rfl (lv_at hl 1 rfl) ?_
    refine va_get (D := D) (ci := 5) (v := .ref (q4 0)) (C := RX6) (T := TX6) (N := 9) hx hb hts hiX6 hown hK hP 0 rfl rfl 2 (by decide) k28 (fun _ h9 => h9) rfl dX6_readSaturate_21 ?_
    refine lv_aload_n hx hb dX6_readSaturate_24 rfl (lv_at hl 1 rfl) ?_
    refine va_get (D := D) (ci := 5) (v := .ref (q3 0)) (C := RX6) (T := TX6) (N := 9) hx hb hts hiX6 hown hK hP 0 rfl rfl 1 (by decide) k21 (fun _ h9 => h9) rfl dX6_readSaturate_25 ?_
    refine lv_iload_n hx hb dX6_readSaturate_28 rfl (lv_at hl 0 rfl) ?_
    obtain ⟨⟨r_8, z_9, z_10⟩, hc_12, hf⟩ := bd_ob hf
    have hf := nm_st hf
    have hf := nm_st hf
    have hf := nm_st hf
    refine wrV (As := [.ref (q3 0), .int r_3]) (rest := []) (ws2 := wS q (q2 0) (q3 0) (q4 0) (q5 0) z_4 ++ wT cB q2 z_5 ++ wC cI q3 z_10 ++ wA q4 z_9 ++ wP q5 z5) ⟨hx, hb, hml, hown, hts⟩ (mX5_makeSteps l D cI cB cZ cO q4 q3 _ fu z4 z3 r_3 hc_12) (cwV 2 hts gX6_readSaturate_X5_makeSteps rfl rfl rfl (by decide +kernel) ⟨Nat.le_of_ble_eq_true rfl, Nat.le_of_ble_eq_true rfl⟩) hK hP hD hS hA [10, 3, 4, 5, 6, 7, 8, 9] [0, 1, 2, 11] [0, 1, 2, 5, 6, 7, 8, 9, 10, 11, 4, 3] rfl (hP.sub [10, 3, 4, 5, 6, 7, 8, 9] rfl) (by decide) rfl (by decide) (by decide) (by decide) rfl (va_recv hK hP (ci := 4) (q0 := 10) rfl rfl) rfl hl.1 rfl (Nat.le_of_ble_eq_true rfl) dX6_readSaturate_29 ⟨Nat.zero_le _, Nat.zero_le _⟩ (fun H locs hP hD hS => ?_)
    refine lv_pop hx hb dX6_readSaturate_32 rfl ?_
    exact rW_v hx hb hr hlocks hP hD hS (congrArg (fun (q9 : (OS) × (OS) × (OS) × (OS)) => wS q (q2 0) (q3 0) (q4 0) (q5 0) q9.1 ++ wT cB q2 q9.2.1 ++ wC cI q3 q9.2.2.1 ++ wA q4 q9.2.2.2 ++ wP q5 z5) (so_ob hf)) dX6_readSaturate_33
def fX6_readDrop (fu : Nat) (z : OS) (z2 : OS) (z3 : OS) (z4 : OS) (z5 : OS) : Option ((OS) × (OS) × (OS)) :=
  bd (fX7_advance fu z2) (fun (z_1 : OS) => nm (z_1.1 3) (fun (v1_3 : Int32) => bd (fX6_readClauseNumber fu z z_1 z3 z4 z5) (fun (w_7 : Int32 × OS × OS) => nm w_7.1 (fun (r_4 : Int32) => nm w_7.2.1 (fun (z_5 : OS) => nm w_7.2.2 (fun (z_6 : OS) => (if ¬ r_4 = (-1 : Int32) then bd (fX0_isParent fu z3 r_4) (fun (r_9 : Int32) => (if r_9 = (0 : Int32) then bd (fX0_remove fu z3 r_4) (fun (z_11 : OS) => some (z_5, z_6, z_11)) else bd (fX6_fail fu z_5 z_6 z3 z4 z5 (4 : Int32) v1_3) (fun (z_13 : OS) => some (z_13, z_6, z3)))) else some (z_5, z_6, z3))))))))
set_option maxRecDepth 100000 in
set_option maxHeartbeats 4000000 in
theorem mX6_readDrop (l : Launch) (D : va_G) (cI cB cZ cO : ClassId) (q : Nat → Nat) (q2 : Nat → Nat) (q3 : Nat → Nat) (q4 : Nat → Nat) (q5 : Nat → Nat) (sz : Nat) (fu : Nat) (z : OS) (z2 : OS) (z3 : OS) (z4 : OS) (z5 : OS) {y1 : OS} {y2 : OS} {y3 : OS} (hf : fX6_readDrop fu z z2 z3 z4 z5 = some (y1, y2, y3)) : Met l yX6_readDrop wsX6_readDrop ({ frames := 3, cells := 0, slots := 0, locals := 65 }) (va_Pc [.ref (q 0)] (Pw D (gT cI cB cZ cO) (wS q (q2 0) (q3 0) (q4 0) (q5 0) z ++ wT cB q2 z2 ++ wC cI q3 z3 ++ wA q4 z4 ++ wP q5 z5) sz)) (Qw D (va_A (wS q (q2 0) (q3 0) (q4 0) (q5 0) z ++ wT cB q2 z2 ++ wC cI q3 z3 ++ wA q4 z4 ++ wP q5 z5) sz) none (wS q (q2 0) (q3 0) (q4 0) (q5 0) y1 ++ wT cB q2 y2 ++ wC cI q3 y3 ++ wA q4 z4 ++ wP q5 z5)) 0 0 (va_A (wS q (q2 0) (q3 0) (q4 0) (q5 0) z ++ wT cB q2 z2 ++ wC cI q3 z3 ++ wA q4 z4 ++ wP q5 z5) sz) := by
  unfold fX6_readDrop at hf
  refine metW (ret := none) (own := RX6) rfl (by decide) rfl (Nat.le_of_ble_eq_true rfl) (fun p e s m args below meth c ls A hx hb hr hml hown hlocks hts hK hA hP hD hS hl => ?_)
  have k12 := (hts (.fieldLink RX6 12 "ResolutionProver$Script" "tokens" "LResolutionProver$Tokens;") (List.mem_of_getElem? (i := 1) rfl))
  have k67 := (hts (.fieldLink RX6 67 "ResolutionProver$Tokens" "start" "I") (List.mem_of_getElem? (i := 2) rfl))
  have k21 := (hts (.fieldLink RX6 21 "ResolutionProver$Script" "draft" "LResolutionProver$Clauses;") (List.mem_of_getElem? (i := 3) rfl))
  have hiX6 : ∀ w ∈ wsX60, w ∈ wsX6_readDrop := (memIn_p [55, 56, 57, 58, 59, 60, 61, 62, 63] rfl)
  have hiX7 : ∀ w ∈ wsX70, w ∈ wsX6_readDrop := (memIn_p [64, 65, 66, 67, 68] rfl)
  have hl : lv_has ls 3 [(0, .ref (q 0))] := hl
  refine lv_aload_n hx hb dX6_readDrop_0 rfl (lv_at hl 0 rfl) ?_
  refine va_get (D := D) (ci := 5) (v := .ref (q2 0)) (C := RX6) (T := TX6) (N := 9) hx hb hts hiX6 hown hK hP 0 rfl rfl 0 (by decide) k12 (fun _ h9 => h9) rfl dX6_readDrop_1 ?_
  obtain ⟨z_1, hc_2, hf⟩ := bd_ob hf
  refine wrV (As := []) (rest := []) (ws2 := wS q (q2 0) (q3 0) (q4 0) (q5 0) z ++ wT cB q2 z_1 ++ wC cI q3 z3 ++ wA q4 z4 ++ wP q5 z5) ⟨hx, hb, hml, hown, hts⟩ (mX7_advance l D cI cB cZ cO q2 _ fu z2 hc_2) (cwV 0 hts gX6_readDrop_X7_advance rfl rfl rfl (by decide +kernel) ⟨Nat.le_of_ble_eq_true rfl, Nat.le_of_ble_eq_true rfl⟩) hK hP hD hS hA [1, 2] [0, 3, 4, 5, 6, 7, 8, 9, 10, 11] [0, 10, 11, 1, 2, 3, 4, 5, 6, 7, 8, 9] rfl (hP.sub [1, 2] rfl) (by decide) rfl (by decide) (by decide) (by decide) rfl (va_recv hK hP (ci := 6) (q0 := 1) rfl rfl) rfl hl.1 rfl (Nat.le_of_ble_eq_true rfl) dX6_readDrop_4 ⟨Nat.zero_le _, Nat.zero_le _⟩ (fun H locs hP hD hS => ?_)
  refine lv_aload_n hx hb dX6_readDrop_7 rfl (lv_at hl 0 rfl) ?_
  refine va_get (D := D) (ci := 5) (v := .ref (q2 0)) (C := RX6) (T := TX6) (N := 9) hx hb hts hiX6 hown hK hP 0 rfl rfl 0 (by decide) k12 (fun _ h9 => h9) rfl dX6_readDrop_8 ?_
  refine va_get (D := D) (ci := 6) (v := .int (z_1.1 3)) (C := RX7) (T := TX7) (N := 5) hx hb hts hiX7 hown hK hP 1 rfl rfl 3 (by decide) k67 (fun _ h9 => h9) rfl dX6_readDrop_11 ?_
  obtain ⟨v1_3, ev1_3, hf⟩ := nm_ob hf
  refine lv_nmi ev1_3 ?_
  refine lv_istore_n (lv' := [(1, .int v1_3), (0, .ref (q 0))]) hx hb dX6_readDrop_14 rfl hl (by decide) rfl (fun ls hl => ?_)
  refine lv_aload_n hx hb dX6_readDrop_15 rfl (lv_at hl 1 rfl) ?_
  obtain ⟨⟨r_4, z_5, z_6⟩, hc_8, hf⟩ := bd_ob hf
  have hf := nm_st hf
  have hf := nm_st hf
  have hf := nm_st hf
  refine weV (As := []) (rest := []) ⟨hx, hb, hml, hown, hts⟩ (mX6_readClauseNumber l D cI cB cZ cO q q2 q3 q4 q5 _ fu z z_1 z3 z4 z5 hc_8) (cwV 0 hts gX6_readDrop_X6_readClauseNumber rfl rfl rfl (by decide +kernel) ⟨Nat.le_of_ble_eq_true rfl, Nat.le_of_ble_eq_true rfl⟩) hK hP hD hS hA (va_recv hK hP (ci := 5) (q0 := 0) rfl rfl) rfl hl.1 rfl (Nat.le_of_ble_eq_true rfl) dX6_readDrop_16 ⟨Nat.zero_le _, Nat.zero_le _⟩ (fun H locs hP hD hS => ?_)
  refine lv_istore_n (lv' := [(2, .int r_4), (1, .int v1_3), (0, .ref (q 0))]) hx hb dX6_readDrop_19 rfl hl (by decide) rfl (fun ls hl => ?_)
  refine lv_iload_n hx hb dX6_readDrop_20 rfl (lv_at hl 0 rfl) ?_
  refine lv_iconst (v := (-1)) hx hb dX6_readDrop_21 (by decide) ?_
  refine lv_icmp_ne (tgt := 26) hx hb dX6_readDrop_22 (by decide) (fun c_22 => ?_) (fun c_22 => ?_)
  · have hf := ip c_22 hf
    refine lv_aload_n hx hb dX6_readDrop_26 rfl (lv_at hl 2 rfl) ?_
    refine va_get (D := D) (ci := 5) (v := .ref (q3 0)) (C := RX6) (T := TX6) (N := 9) hx hb hts hiX6 hown hK hP 0 rfl rfl 1 (by decide) k21 (fun _ h9 => h9) rfl dX6_readDrop_27 ?_
    refine lv_iload_n hx hb dX6_readDrop_30 rfl (lv_at hl 0 rfl) ?_
    obtain ⟨r_9, hc_10, hf⟩ := bd_ob hf
    refine rdV (As := [.int r_4]) (rest := []) ⟨hx, hb, hml, hown, hts⟩ (mX0_isParent l D cI cB cZ cO q3 fu z3 r_4 hc_10) (cwV 1 hts gX6_readDrop_X0_isParent rfl rfl rfl (by decide +kernel) ⟨Nat.le_of_ble_eq_true rfl, Nat.le_of_ble_eq_true rfl⟩) hK (hP.sub [3, 4, 5, 6, 7, 8, 9] rfl) (va_recv hK hP (ci := 0) (q0 := 3) rfl rfl) rfl hl.1 rfl (Nat.le_of_ble_eq_true rfl) dX6_readDrop_31 ⟨Nat.zero_le _, Nat.zero_le _⟩ ?_
    refine lv_if_eq (tgt := 44) hx hb dX6_readDrop_34 (by decide) (fun c_34 => ?_) (fun c_34 => ?_)
    · have hf := ip c_34 hf
      refine lv_aload_n hx hb dX6_readDrop_44 rfl (lv_at hl 2 rfl) ?_
      refine va_get (D := D) (ci := 5) (v := .ref (q3 0)) (C := RX6) (T := TX6) (N := 9) hx hb hts hiX6 hown hK hP 0 rfl rfl 1 (by decide) k21 (fun _ h9 => h9) rfl dX6_readDrop_45 ?_
      refine lv_iload_n hx hb dX6_readDrop_48 rfl (lv_at hl 0 rfl) ?_
      obtain ⟨z_11, hc_12, hf⟩ := bd_ob hf
      refine wrV (As := [.int r_4]) (rest := []) (ws2 := wS q (q2 0) (q3 0) (q4 0) (q5 0) z_5 ++ wT cB q2 z_6 ++ wC cI q3 z_11 ++ wA q4 z4 ++ wP q5 z5) ⟨hx, hb, hml, hown, hts⟩ (mX0_remove l D cI cB cZ cO q3 _ fu z3 r_4 hc_12) (cwV 1 hts gX6_readDrop_X0_remove rfl rfl rfl (by decide +kernel) ⟨Nat.le_of_ble_eq_true rfl, Nat.le_of_ble_eq_true rfl⟩) hK hP hD hS hA [3, 4, 5, 6, 7, 8, 9] [0, 1, 2, 10, 11] [0, 1, 2, 5, 6, 7, 8, 9, 10, 11, 3, 4] rfl (hP.sub [3, 4, 5, 6, 7, 8, 9] rfl) (by decide) rfl (by decide) (by decide) (by decide) rfl (va_recv hK hP (ci := 0) (q0 := 3) rfl rfl) rfl hl.1 rfl (Nat.le_of_ble_eq_true rfl) dX6_readDrop_49 ⟨Nat.zero_le _, Nat.zero_le _⟩ (fun H locs hP hD hS => ?_)
      exact rW_v hx hb hr hlocks hP hD hS (congrArg (fun (q9 : (OS) × (OS) × (OS)) => wS q (q2 0) (q3 0) (q4 0) (q5 0) q9.1 ++ wT cB q2 q9.2.1 ++ wC cI q3 q9.2.2 ++ wA q4 z4 ++ wP q5 z5) (so_ob hf)) dX6_readDrop_52
    · have hf := iq c_34 hf
      refine lv_aload_n hx hb dX6_readDrop_37 rfl (lv_at hl 2 rfl) ?_
      refine lv_iconst (v := 4) hx hb dX6_readDrop_38 (by decide) ?_
      refine lv_iload_n hx hb dX6_readDrop_39 rfl (lv_at hl 1 rfl) ?_
      obtain ⟨z_13, hc_14, hf⟩ := bd_ob hf
      refine weV (As := [.int (4 : Int32), .int v1_3]) (rest := []) ⟨hx, hb, hml, hown, hts⟩ (mX6_fail l D cI cB cZ cO q q2 q3 q4 q5 _ fu z_5 z_6 z3 z4 z5 (4 : Int32) v1_3 hc_14) (cwV 2 hts gX6_readDrop_X6_fail rfl rfl rfl (by decide +kernel) ⟨Nat.le_of_ble_eq_true rfl, Nat.le_of_ble_eq_true rfl⟩) hK hP hD hS hA (va_recv hK hP (ci := 5) (q0 := 0) rfl rfl) rfl hl.1 rfl (Nat.le_of_ble_eq_true rfl) dX6_readDrop_40 ⟨Nat.zero_le _, Nat.zero_le _⟩ (fun H locs hP hD hS => ?_)
      exact rW_v hx hb hr hlocks hP hD hS (congrArg (fun (q9 : (OS) × (OS) × (OS)) => wS q (q2 0) (q3 0) (q4 0) (q5 0) q9.1 ++ wT cB q2 q9.2.1 ++ wC cI q3 q9.2.2 ++ wA q4 z4 ++ wP q5 z5) (so_ob hf)) dX6_readDrop_43
  · have hf := iqn c_22 hf
    exact rW_v hx hb hr hlocks hP hD hS (congrArg (fun (q9 : (OS) × (OS) × (OS)) => wS q (q2 0) (q3 0) (q4 0) (q5 0) q9.1 ++ wT cB q2 q9.2.1 ++ wC cI q3 q9.2.2 ++ wA q4 z4 ++ wP q5 z5) (so_ob hf)) dX6_readDrop_25
def fX6_readNegate (fu : Nat) (z : OS) (z2 : OS) (z3 : OS) (z4 : OS) (z5 : OS) : Option ((OS) × (OS) × (OS)) :=
  bd (fX7_advance fu z2) (fun (z_1 : OS) => bd (fX6_readVariable fu z z_1 z3 z4 z5) (fun (w_6 : Int32 × OS × OS) => nm w_6.1 (fun (r_3 : Int32) => nm w_6.2.1 (fun (z_4 : OS) => nm w_6.2.2 (fun (z_5 : OS) => (if r_3 = (-1 : Int32) then some (z_4, z_5, z3) else bd (fX0_negate fu z3 r_3) (fun (z_8 : OS) => some (z_4, z_5, z_8))))))))
set_option maxRecDepth 100000 in
set_option maxHeartbeats 4000000 in
theorem mX6_readNegate (l : Launch) (D : va_G) (cI cB cZ cO : ClassId) (q : Nat → Nat) (q2 : Nat → Nat) (q3 : Nat → Nat) (q4 : Nat → Nat) (q5 : Nat → Nat) (sz : Nat) (fu : Nat) (z : OS) (z2 : OS) (z3 : OS) (z4 : OS) (z5 : OS) {y1 : OS} {y2 : OS} {y3 : OS} (hf : fX6_readNegate fu z z2 z3 z4 z5 = some (y1, y2, y3)) : Met l yX6_readNegate wsX6_readNegate ({ frames := 2, cells := 0, slots := 0, locals := 43 }) (va_Pc [.ref (q 0)] (Pw D (gT cI cB cZ cO) (wS q (q2 0) (q3 0) (q4 0) (q5 0) z ++ wT cB q2 z2 ++ wC cI q3 z3 ++ wA q4 z4 ++ wP q5 z5) sz)) (Qw D (va_A (wS q (q2 0) (q3 0) (q4 0) (q5 0) z ++ wT cB q2 z2 ++ wC cI q3 z3 ++ wA q4 z4 ++ wP q5 z5) sz) none (wS q (q2 0) (q3 0) (q4 0) (q5 0) y1 ++ wT cB q2 y2 ++ wC cI q3 y3 ++ wA q4 z4 ++ wP q5 z5)) 0 0 (va_A (wS q (q2 0) (q3 0) (q4 0) (q5 0) z ++ wT cB q2 z2 ++ wC cI q3 z3 ++ wA q4 z4 ++ wP q5 z5) sz) := by
  unfold fX6_readNegate at hf
  refine metW (ret := none) (own := RX6) rfl (by decide) rfl (Nat.le_of_ble_eq_true rfl) (fun p e s m args below meth c ls A hx hb hr hml hown hlocks hts hK hA hP hD hS hl => ?_)
  have k12 := (hts (.fieldLink RX6 12 "ResolutionProver$Script" "tokens" "LResolutionProver$Tokens;") (List.mem_of_getElem? (i := 1) rfl))
  have k21 := (hts (.fieldLink RX6 21 "ResolutionProver$Script" "draft" "LResolutionProver$Clauses;") (List.mem_of_getElem? (i := 2) rfl))
  have hiX6 : ∀ w ∈ wsX60, w ∈ wsX6_readNegate := (memIn_p [41, 42, 43, 44, 45, 46, 47, 48, 49] rfl)
  have hl : lv_has ls 2 [(0, .ref (q 0))] := hl
  refine lv_aload_n hx hb dX6_readNegate_0 rfl (lv_at hl 0 rfl) ?_
  refine va_get (D := D) (ci := 5) (v := .ref (q2 0)) (C := RX6) (T := TX6) (N := 9) hx hb hts hiX6 hown hK hP 0 rfl rfl 0 (by decide) k12 (fun _ h9 => h9) rfl dX6_readNegate_1 ?_
  obtain ⟨z_1, hc_2, hf⟩ := bd_ob hf
  refine wrV (As := []) (rest := []) (ws2 := wS q (q2 0) (q3 0) (q4 0) (q5 0) z ++ wT cB q2 z_1 ++ wC cI q3 z3 ++ wA q4 z4 ++ wP q5 z5) ⟨hx, hb, hml, hown, hts⟩ (mX7_advance l D cI cB cZ cO q2 _ fu z2 hc_2) (cwV 0 hts gX6_readNegate_X7_advance rfl rfl rfl (by decide +kernel) ⟨Nat.le_of_ble_eq_true rfl, Nat.le_of_ble_eq_true rfl⟩) hK hP hD hS hA [1, 2] [0, 3, 4, 5, 6, 7, 8, 9, 10, 11] [0, 10, 11, 1, 2, 3, 4, 5, 6, 7, 8, 9] rfl (hP.sub [1, 2] rfl) (by decide) rfl (by decide) (by decide) (by decide) rfl (va_recv hK hP (ci := 6) (q0 := 1) rfl rfl) rfl hl.1 rfl (Nat.le_of_ble_eq_true rfl) dX6_readNegate_4 ⟨Nat.zero_le _, Nat.zero_le _⟩ (fun H locs hP hD hS => ?_)
  refine lv_aload_n hx hb dX6_readNegate_7 rfl (lv_at hl 0 rfl) ?_
  obtain ⟨⟨r_3, z_4, z_5⟩, hc_7, hf⟩ := bd_ob hf
  have hf := nm_st hf
  have hf := nm_st hf
  have hf := nm_st hf
  refine weV (As := []) (rest := []) ⟨hx, hb, hml, hown, hts⟩ (mX6_readVariable l D cI cB cZ cO q q2 q3 q4 q5 _ fu z z_1 z3 z4 z5 hc_7) (cwV 0 hts gX6_readNegate_X6_readVariable rfl rfl rfl (by decide +kernel) ⟨Nat.le_of_ble_eq_true rfl, Nat.le_of_ble_eq_true rfl⟩) hK hP hD hS hA (va_recv hK hP (ci := 5) (q0 := 0) rfl rfl) rfl hl.1 rfl (Nat.le_of_ble_eq_true rfl) dX6_readNegate_8 ⟨Nat.zero_le _, Nat.zero_le _⟩ (fun H locs hP hD hS => ?_)
  refine lv_istore_n (lv' := [(1, .int r_3), (0, .ref (q 0))]) hx hb dX6_readNegate_11 rfl hl (by decide) rfl (fun ls hl => ?_)
  refine lv_iload_n hx hb dX6_readNegate_12 rfl (lv_at hl 0 rfl) ?_
  refine lv_iconst (v := (-1)) hx hb dX6_readNegate_13 (by decide) ?_
  refine lv_icmp_eq (tgt := 25) hx hb dX6_readNegate_14 (by decide) (fun c_14 => ?_) (fun c_14 => ?_)
  · have hf := ip c_14 hf
    exact rW_v hx hb hr hlocks hP hD hS (congrArg (fun (q9 : (OS) × (OS) × (OS)) => wS q (q2 0) (q3 0) (q4 0) (q5 0) q9.1 ++ wT cB q2 q9.2.1 ++ wC cI q3 q9.2.2 ++ wA q4 z4 ++ wP q5 z5) (so_ob hf)) dX6_readNegate_25
  · have hf := iq c_14 hf
    refine lv_aload_n hx hb dX6_readNegate_17 rfl (lv_at hl 1 rfl) ?_
    refine va_get (D := D) (ci := 5) (v := .ref (q3 0)) (C := RX6) (T := TX6) (N := 9) hx hb hts hiX6 hown hK hP 0 rfl rfl 1 (by decide) k21 (fun _ h9 => h9) rfl dX6_readNegate_18 ?_
    refine lv_iload_n hx hb dX6_readNegate_21 rfl (lv_at hl 0 rfl) ?_
    obtain ⟨z_8, hc_9, hf⟩ := bd_ob hf
    refine wrV (As := [.int r_3]) (rest := []) (ws2 := wS q (q2 0) (q3 0) (q4 0) (q5 0) z_4 ++ wT cB q2 z_5 ++ wC cI q3 z_8 ++ wA q4 z4 ++ wP q5 z5) ⟨hx, hb, hml, hown, hts⟩ (mX0_negate l D cI cB cZ cO q3 _ fu z3 r_3 hc_9) (cwV 1 hts gX6_readNegate_X0_negate rfl rfl rfl (by decide +kernel) ⟨Nat.le_of_ble_eq_true rfl, Nat.le_of_ble_eq_true rfl⟩) hK hP hD hS hA [3, 4, 5, 6, 7, 8, 9] [0, 1, 2, 10, 11] [0, 1, 2, 5, 6, 7, 8, 9, 10, 11, 3, 4] rfl (hP.sub [3, 4, 5, 6, 7, 8, 9] rfl) (by decide) rfl (by decide) (by decide) (by decide) rfl (va_recv hK hP (ci := 0) (q0 := 3) rfl rfl) rfl hl.1 rfl (Nat.le_of_ble_eq_true rfl) dX6_readNegate_22 ⟨Nat.zero_le _, Nat.zero_le _⟩ (fun H locs hP hD hS => ?_)
    exact rW_v hx hb hr hlocks hP hD hS (congrArg (fun (q9 : (OS) × (OS) × (OS)) => wS q (q2 0) (q3 0) (q4 0) (q5 0) q9.1 ++ wT cB q2 q9.2.1 ++ wC cI q3 q9.2.2 ++ wA q4 z4 ++ wP q5 z5) (so_ob hf)) dX6_readNegate_25
def lX6_readInvert_9 (fu : Nat) (j34 : OS → Option ((OS) × (OS))) : Nat → Int32 → OS → Option ((OS) × (OS))
  | 0, _, _ => none
  | n_9 + 1, v1_9, z3_9 => (if (z3_9.1 6) ≤ v1_9 then j34 z3_9 else bd (fX0_negate fu z3_9 v1_9) (fun (z_3 : OS) => nm (v1_9 + (1 : Int32)) (fun (v1_5 : Int32) => lX6_readInvert_9 fu j34 n_9 v1_5 z_3)))
def fX6_readInvert (fu : Nat) (z : OS) (z2 : OS) (z3 : OS) (z4 : OS) (z5 : OS) : Option ((OS) × (OS)) :=
  bd (fX7_advance fu z2) (fun (z_1 : OS) => jn (κ := OS → Option ((OS) × (OS))) (fun (z3_34 : OS) => some (z_1, z3_34)) (fun j34 => lX6_readInvert_9 fu j34 fu (0 : Int32) z3))
set_option maxRecDepth 100000 in
set_option maxHeartbeats 4000000 in
theorem mX6_readInvert (l : Launch) (D : va_G) (cI cB cZ cO : ClassId) (q : Nat → Nat) (q2 : Nat → Nat) (q3 : Nat → Nat) (q4 : Nat → Nat) (q5 : Nat → Nat) (sz : Nat) (fu : Nat) (z : OS) (z2 : OS) (z3 : OS) (z4 : OS) (z5 : OS) {y2 : OS} {y3 : OS} (hf : fX6_readInvert fu z z2 z3 z4 z5 = some (y2, y3)) : Met l yX6_readInvert wsX6_readInvert ({ frames := 1, cells := 0, slots := 0, locals := 25 }) (va_Pc [.ref (q 0)] (Pw D (gT cI cB cZ cO) (wS q (q2 0) (q3 0) (q4 0) (q5 0) z ++ wT cB q2 z2 ++ wC cI q3 z3 ++ wA q4 z4 ++ wP q5 z5) sz)) (Qw D (va_A (wS q (q2 0) (q3 0) (q4 0) (q5 0) z ++ wT cB q2 z2 ++ wC cI q3 z3 ++ wA q4 z4 ++ wP q5 z5) sz) none (wS q (q2 0) (q3 0) (q4 0) (q5 0) z ++ wT cB q2 y2 ++ wC cI q3 y3 ++ wA q4 z4 ++ wP q5 z5)) 0 0 (va_A (wS q (q2 0) (q3 0) (q4 0) (q5 0) z ++ wT cB q2 z2 ++ wC cI q3 z3 ++ wA q4 z4 ++ wP q5 z5) sz) := by
  unfold fX6_readInvert at hf
  refine metW (ret := none) (own := RX6) rfl (by decide) rfl (Nat.le_of_ble_eq_true rfl) (fun p e s m args below meth c ls A hx hb hr hml hown hlocks hts hK hA hP hD hS hl => ?_)
  have k12 := (hts (.fieldLink RX6 12 "ResolutionProver$Script" "tokens" "LResolutionProver$Tokens;") (List.mem_of_getElem? (i := 1) rfl))
  have k21 := (hts (.fieldLink RX6 21 "ResolutionProver$Script" "draft" "LResolutionProver$Clauses;") (List.mem_of_getElem? (i := 2) rfl))
  have k176 := (hts (.fieldLink RX6 176 "ResolutionProver$Clauses" "variables" "I") (List.mem_of_getElem? (i := 3) rfl))
  have hiX6 : ∀ w ∈ wsX60, w ∈ wsX6_readInvert := (memIn_p [25, 26, 27, 28, 29, 30, 31, 32, 33] rfl)
  have hiX0 : ∀ w ∈ wsX00, w ∈ wsX6_readInvert := (memIn_p [34, 35, 36, 37, 38, 39, 40, 41] rfl)
  have hl : lv_has ls 2 [(0, .ref (q 0))] := hl
  refine lv_aload_n hx hb dX6_readInvert_0 rfl (lv_at hl 0 rfl) ?_
  refine va_get (D := D) (ci := 5) (v := .ref (q2 0)) (C := RX6) (T := TX6) (N := 9) hx hb hts hiX6 hown hK hP 0 rfl rfl 0 (by decide) k12 (fun _ h9 => h9) rfl dX6_readInvert_1 ?_
  obtain ⟨z_1, hc_2, hf⟩ := bd_ob hf
  refine wrV (As := []) (rest := []) (ws2 := wS q (q2 0) (q3 0) (q4 0) (q5 0) z ++ wT cB q2 z_1 ++ wC cI q3 z3 ++ wA q4 z4 ++ wP q5 z5) ⟨hx, hb, hml, hown, hts⟩ (mX7_advance l D cI cB cZ cO q2 _ fu z2 hc_2) (cwV 0 hts gX6_readInvert_X7_advance rfl rfl rfl (by decide +kernel) ⟨Nat.le_of_ble_eq_true rfl, Nat.le_of_ble_eq_true rfl⟩) hK hP hD hS hA [1, 2] [0, 3, 4, 5, 6, 7, 8, 9, 10, 11] [0, 10, 11, 1, 2, 3, 4, 5, 6, 7, 8, 9] rfl (hP.sub [1, 2] rfl) (by decide) rfl (by decide) (by decide) (by decide) rfl (va_recv hK hP (ci := 6) (q0 := 1) rfl rfl) rfl hl.1 rfl (Nat.le_of_ble_eq_true rfl) dX6_readInvert_4 ⟨Nat.zero_le _, Nat.zero_le _⟩ (fun H locs hP hD hS => ?_)
  refine lv_iconst (v := 0) hx hb dX6_readInvert_7 (by decide) ?_
  refine lv_istore_n (lv' := [(1, .int (0 : Int32)), (0, .ref (q 0))]) hx hb dX6_readInvert_8 rfl hl (by decide) rfl (fun ls hl => ?_)
  obtain ⟨j34, ej34, hf⟩ := jn_ob hf
  have hp34 : ∀ (z3_34 : OS) (H : Heap) (locs : List Loc) (ls : Array Slot), j34 z3_34 = some (y2, y3) → va_P D vwCl (wS q (q2 0) (q3 0) (q4 0) (q5 0) z ++ wT cB q2 z_1 ++ wC cI q3 z3_34 ++ wA q4 z4 ++ wP q5 z5) H → va_D A (wS q (q2 0) (q3 0) (q4 0) (q5 0) z ++ wT cB q2 z_1 ++ wC cI q3 z3_34 ++ wA q4 z4 ++ wP q5 z5) → va_S A s.heap H locs → lv_has ls 2 [] → W p l e (headSpec wsX6_readInvert { frames := 1, cells := 0, slots := 0, locals := 25 }).room s m args below meth c H locs 0 0 (MQ below (Qw D A none (wS q (q2 0) (q3 0) (q4 0) (q5 0) z ++ wT cB q2 y2 ++ wC cI q3 y3 ++ wA q4 z4 ++ wP q5 z5)) args s 0 0 A) (F0 m 34 ls []) := by
    intro z3_34 H locs ls hf hP hD hS hl
    rw [ej34] at hf
    exact rW_v hx hb hr hlocks hP hD hS (congrArg (fun (q9 : (OS) × (OS)) => wS q (q2 0) (q3 0) (q4 0) (q5 0) z ++ wT cB q2 q9.1 ++ wC cI q3 q9.2 ++ wA q4 z4 ++ wP q5 z5) (so_ob hf)) dX6_readInvert_34
  have hL9 : ∀ (n_9 : Nat) (v1_9 : Int32) (z3_9 : OS) (H : Heap) (locs : List Loc) (ls : Array Slot), lX6_readInvert_9 fu j34 n_9 v1_9 z3_9 = some (y2, y3) → va_P D vwCl (wS q (q2 0) (q3 0) (q4 0) (q5 0) z ++ wT cB q2 z_1 ++ wC cI q3 z3_9 ++ wA q4 z4 ++ wP q5 z5) H → va_D A (wS q (q2 0) (q3 0) (q4 0) (q5 0) z ++ wT cB q2 z_1 ++ wC cI q3 z3_9 ++ wA q4 z4 ++ wP q5 z5) → va_S A s.heap H locs → lv_has ls 2 [(0, .ref (q 0)), (1, .int v1_9)] → W p l e (headSpec wsX6_readInvert { frames := 1, cells := 0, slots := 0, locals := 25 }).room s m args below meth c H locs 0 0 (MQ below (Qw D A none (wS q (q2 0) (q3 0) (q4 0) (q5 0) z ++ wT cB q2 y2 ++ wC cI q3 y3 ++ wA q4 z4 ++ wP q5 z5)) args s 0 0 A) (F0 m 9 ls []) := by
    intro n_9
    induction n_9 with
    | zero =>
      intro v1_9 z3_9 H locs ls hf
      exact no_ob hf
    | succ n_9 ih9 =>
      intro v1_9 z3_9 H locs ls hf hP hD hS hl
      rw [lX6_readInvert_9] at hf
      refine lv_iload_n hx hb dX6_readInvert_9 rfl (lv_at hl 1 rfl) ?_
      refine lv_aload_n hx hb dX6_readInvert_10 rfl (lv_at hl 0 rfl) ?_
      refine va_get (D := D) (ci := 5) (v := .ref (q3 0)) (C := RX6) (T := TX6) (N := 9) hx hb hts hiX6 hown hK hP 0 rfl rfl 1 (by decide) k21 (fun _ h9 => h9) rfl dX6_readInvert_11 ?_
      refine va_get (D := D) (ci := 0) (v := .int (z3_9.1 6)) (C := RX0) (T := TX0) (N := 8) hx hb hts hiX0 hown hK hP 3 rfl rfl 6 (by decide) k176 (fun _ h9 => h9) rfl dX6_readInvert_14 ?_
      refine lv_icmp_ge (tgt := 34) hx hb dX6_readInvert_17 (by decide) (fun c_17 => ?_) (fun c_17 => ?_)
      · have hf := ip c_17 hf
        exact hp34 z3_9 _ _ _ hf hP hD hS (lv_sub hl [] rfl)
      · have hf := iq c_17 hf
        refine lv_aload_n hx hb dX6_readInvert_20 rfl (lv_at hl 0 rfl) ?_
        refine va_get (D := D) (ci := 5) (v := .ref (q3 0)) (C := RX6) (T := TX6) (N := 9) hx hb hts hiX6 hown hK hP 0 rfl rfl 1 (by decide) k21 (fun _ h9 => h9) rfl dX6_readInvert_21 ?_
        refine lv_iload_n hx hb dX6_readInvert_24 rfl (lv_at hl 1 rfl) ?_
        obtain ⟨z_3, hc_4, hf⟩ := bd_ob hf
        refine wrV (As := [.int v1_9]) (rest := []) (ws2 := wS q (q2 0) (q3 0) (q4 0) (q5 0) z ++ wT cB q2 z_1 ++ wC cI q3 z_3 ++ wA q4 z4 ++ wP q5 z5) ⟨hx, hb, hml, hown, hts⟩ (mX0_negate l D cI cB cZ cO q3 _ fu z3_9 v1_9 hc_4) (cwV 1 hts gX6_readInvert_X0_negate rfl rfl rfl (by decide +kernel) ⟨Nat.le_of_ble_eq_true rfl, Nat.le_of_ble_eq_true rfl⟩) hK hP hD hS hA [3, 4, 5, 6, 7, 8, 9] [0, 1, 2, 10, 11] [0, 1, 2, 5, 6, 7, 8, 9, 10, 11, 3, 4] rfl (hP.sub [3, 4, 5, 6, 7, 8, 9] rfl) (by decide) rfl (by decide) (by decide) (by decide) rfl (va_recv hK hP (ci := 0) (q0 := 3) rfl rfl) rfl hl.1 rfl (Nat.le_of_ble_eq_true rfl) dX6_readInvert_25 ⟨Nat.zero_le _, Nat.zero_le _⟩ (fun H locs hP hD hS => ?_)
        obtain ⟨v1_5, ev1_5, hf⟩ := nm_ob hf
        refine lv_iinc (v := v1_5) (lv' := [(1, .int v1_5), (0, .ref (q 0))]) hx hb dX6_readInvert_28 hl (k := 1) rfl (by rw [ev1_5]; rfl) (by decide) rfl (fun ls hl => ?_)
        refine lv_goto (tgt := 9) hx hb dX6_readInvert_31 (by decide) ?_
        exact ih9 v1_5 z_3 _ _ _ hf hP hD hS (lv_sub hl [1, 0] rfl)
  exact hL9 fu (0 : Int32) z3 _ _ _ hf hP hD hS (lv_sub hl [1, 0] rfl)
def fX6_readReduce (fu : Nat) (z : OS) (z2 : OS) (z3 : OS) (z4 : OS) (z5 : OS) : Option ((OS) × (OS)) :=
  bd (fX7_advance fu z2) (fun (z_1 : OS) => bd (fX0_removeSubsumed fu z3) (fun (w_5 : Int32 × OS) => nm w_5.1 (fun (r_3 : Int32) => nm w_5.2 (fun (z_4 : OS) => some (z_1, z_4)))))
set_option maxRecDepth 100000 in
set_option maxHeartbeats 4000000 in
theorem mX6_readReduce (l : Launch) (D : va_G) (cI cB cZ cO : ClassId) (q : Nat → Nat) (q2 : Nat → Nat) (q3 : Nat → Nat) (q4 : Nat → Nat) (q5 : Nat → Nat) (sz : Nat) (fu : Nat) (z : OS) (z2 : OS) (z3 : OS) (z4 : OS) (z5 : OS) {y2 : OS} {y3 : OS} (hf : fX6_readReduce fu z z2 z3 z4 z5 = some (y2, y3)) : Met l yX6_readReduce wsX6_readReduce ({ frames := 4, cells := 0, slots := 0, locals := 88 }) (va_Pc [.ref (q 0)] (Pw D (gT cI cB cZ cO) (wS q (q2 0) (q3 0) (q4 0) (q5 0) z ++ wT cB q2 z2 ++ wC cI q3 z3 ++ wA q4 z4 ++ wP q5 z5) sz)) (Qw D (va_A (wS q (q2 0) (q3 0) (q4 0) (q5 0) z ++ wT cB q2 z2 ++ wC cI q3 z3 ++ wA q4 z4 ++ wP q5 z5) sz) none (wS q (q2 0) (q3 0) (q4 0) (q5 0) z ++ wT cB q2 y2 ++ wC cI q3 y3 ++ wA q4 z4 ++ wP q5 z5)) 0 0 (va_A (wS q (q2 0) (q3 0) (q4 0) (q5 0) z ++ wT cB q2 z2 ++ wC cI q3 z3 ++ wA q4 z4 ++ wP q5 z5) sz) := by
  unfold fX6_readReduce at hf
  refine metW (ret := none) (own := RX6) rfl (by decide) rfl (Nat.le_of_ble_eq_true rfl) (fun p e s m args below meth c ls A hx hb hr hml hown hlocks hts hK hA hP hD hS hl => ?_)
  have k12 := (hts (.fieldLink RX6 12 "ResolutionProver$Script" "tokens" "LResolutionProver$Tokens;") (List.mem_of_getElem? (i := 1) rfl))
  have k21 := (hts (.fieldLink RX6 21 "ResolutionProver$Script" "draft" "LResolutionProver$Clauses;") (List.mem_of_getElem? (i := 2) rfl))
  have hiX6 : ∀ w ∈ wsX60, w ∈ wsX6_readReduce := (memIn_p [45, 46, 47, 48, 49, 50, 51, 52, 53] rfl)
  have hl : lv_has ls 1 [(0, .ref (q 0))] := hl
  refine lv_aload_n hx hb dX6_readReduce_0 rfl (lv_at hl 0 rfl) ?_
  refine va_get (D := D) (ci := 5) (v := .ref (q2 0)) (C := RX6) (T := TX6) (N := 9) hx hb hts hiX6 hown hK hP 0 rfl rfl 0 (by decide) k12 (fun _ h9 => h9) rfl dX6_readReduce_1 ?_
  obtain ⟨z_1, hc_2, hf⟩ := bd_ob hf
  refine wrV (As := []) (rest := []) (ws2 := wS q (q2 0) (q3 0) (q4 0) (q5 0) z ++ wT cB q2 z_1 ++ wC cI q3 z3 ++ wA q4 z4 ++ wP q5 z5) ⟨hx, hb, hml, hown, hts⟩ (mX7_advance l D cI cB cZ cO q2 _ fu z2 hc_2) (cwV 0 hts gX6_readReduce_X7_advance rfl rfl rfl (by decide +kernel) ⟨Nat.le_of_ble_eq_true rfl, Nat.le_of_ble_eq_true rfl⟩) hK hP hD hS hA [1, 2] [0, 3, 4, 5, 6, 7, 8, 9, 10, 11] [0, 10, 11, 1, 2, 3, 4, 5, 6, 7, 8, 9] rfl (hP.sub [1, 2] rfl) (by decide) rfl (by decide) (by decide) (by decide) rfl (va_recv hK hP (ci := 6) (q0 := 1) rfl rfl) rfl hl.1 rfl (Nat.le_of_ble_eq_true rfl) dX6_readReduce_4 ⟨Nat.zero_le _, Nat.zero_le _⟩ (fun H locs hP hD hS => ?_)
  refine lv_aload_n hx hb dX6_readReduce_7 rfl (lv_at hl 0 rfl) ?_
  refine va_get (D := D) (ci := 5) (v := .ref (q3 0)) (C := RX6) (T := TX6) (N := 9) hx hb hts hiX6 hown hK hP 0 rfl rfl 1 (by decide) k21 (fun _ h9 => h9) rfl dX6_readReduce_8 ?_
  obtain ⟨⟨r_3, z_4⟩, hc_6, hf⟩ := bd_ob hf
  have hf := nm_st hf
  have hf := nm_st hf
  refine wrV (As := []) (rest := []) (ws2 := wS q (q2 0) (q3 0) (q4 0) (q5 0) z ++ wT cB q2 z_1 ++ wC cI q3 z_4 ++ wA q4 z4 ++ wP q5 z5) ⟨hx, hb, hml, hown, hts⟩ (mX0_removeSubsumed l D cI cB cZ cO q3 _ fu z3 hc_6) (cwV 0 hts gX6_readReduce_X0_removeSubsumed rfl rfl rfl (by decide +kernel) ⟨Nat.le_of_ble_eq_true rfl, Nat.le_of_ble_eq_true rfl⟩) hK hP hD hS hA [3, 4, 5, 6, 7, 8, 9] [0, 1, 2, 10, 11] [0, 1, 2, 5, 6, 7, 8, 9, 10, 11, 3, 4] rfl (hP.sub [3, 4, 5, 6, 7, 8, 9] rfl) (by decide) rfl (by decide) (by decide) (by decide) rfl (va_recv hK hP (ci := 0) (q0 := 3) rfl rfl) rfl hl.1 rfl (Nat.le_of_ble_eq_true rfl) dX6_readReduce_11 ⟨Nat.zero_le _, Nat.zero_le _⟩ (fun H locs hP hD hS => ?_)
  refine lv_pop hx hb dX6_readReduce_14 rfl ?_
  exact rW_v hx hb hr hlocks hP hD hS (congrArg (fun (q9 : (OS) × (OS)) => wS q (q2 0) (q3 0) (q4 0) (q5 0) z ++ wT cB q2 q9.1 ++ wC cI q3 q9.2 ++ wA q4 z4 ++ wP q5 z5) (so_ob hf)) dX6_readReduce_15
def fX6_passWord (fu : Nat) (z : OS) (z2 : OS) (z3 : OS) (z4 : OS) (z5 : OS) (tx : List Int32) : Option (Int32 × (OS)) :=
  bd (fX7_isWord fu z2 tx) (fun (r_1 : Int32) => (if r_1 = (0 : Int32) then gd (isZ r_1) (some (r_1, z2)) else bd (fX7_advance fu z2) (fun (z_3 : OS) => gd (isZ r_1) (some (r_1, z_3)))))
set_option maxRecDepth 100000 in
set_option maxHeartbeats 4000000 in
theorem mX6_passWord (l : Launch) (D : va_G) (cI cB cZ cO : ClassId) (sa av : Nat) (q : Nat → Nat) (q2 : Nat → Nat) (q3 : Nat → Nat) (q4 : Nat → Nat) (q5 : Nat → Nat) (sz : Nat) (fu : Nat) (z : OS) (z2 : OS) (z3 : OS) (z4 : OS) (z5 : OS) (tx : List Int32) {r : Int32} {y2 : OS} (hf : fX6_passWord fu z z2 z3 z4 z5 tx = some (r, y2)) : Met l yX6_passWord wsX6_passWord ({ frames := 5, cells := 0, slots := 0, locals := 107 }) (va_Pc [.ref (q 0), .ref sa] (PwX (ET tx sa av) D (gT cI cB cZ cO) (wS q (q2 0) (q3 0) (q4 0) (q5 0) z ++ wT cB q2 z2 ++ wC cI q3 z3 ++ wA q4 z4 ++ wP q5 z5) sz)) (Qw D (va_A (wS q (q2 0) (q3 0) (q4 0) (q5 0) z ++ wT cB q2 z2 ++ wC cI q3 z3 ++ wA q4 z4 ++ wP q5 z5) sz) (some (.int r)) (wS q (q2 0) (q3 0) (q4 0) (q5 0) z ++ wT cB q2 y2 ++ wC cI q3 z3 ++ wA q4 z4 ++ wP q5 z5)) 0 0 (va_A (wS q (q2 0) (q3 0) (q4 0) (q5 0) z ++ wT cB q2 z2 ++ wC cI q3 z3 ++ wA q4 z4 ++ wP q5 z5) sz) := by
  unfold fX6_passWord at hf
  refine metWX (ret := (some .boolean)) (own := RX6) rfl (by decide) rfl (Nat.le_of_ble_eq_true rfl) (fun p e s m args below meth c ls A hx hb hr hml hown hlocks hts hK hA hP hD hS hE hl => ?_)
  have k12 := (hts (.fieldLink RX6 12 "ResolutionProver$Script" "tokens" "LResolutionProver$Tokens;") (List.mem_of_getElem? (i := 1) rfl))
  have hiX6 : ∀ w ∈ wsX60, w ∈ wsX6_passWord := (memIn_p [65, 66, 67, 68, 69, 70, 71, 72, 73] rfl)
  have hl : lv_has ls 3 [(0, .ref (q 0)), (1, .ref sa)] := hl
  refine lv_aload_n hx hb dX6_passWord_0 rfl (lv_at hl 0 rfl) ?_
  refine va_get (D := D) (ci := 5) (v := .ref (q2 0)) (C := RX6) (T := TX6) (N := 9) hx hb hts hiX6 hown hK hP 0 rfl rfl 0 (by decide) k12 (fun _ h9 => h9) rfl dX6_passWord_1 ?_
  refine lv_aload_n hx hb dX6_passWord_4 rfl (lv_at hl 1 rfl) ?_
  obtain ⟨r_1, hc_2, hf⟩ := bd_ob hf
  refine rdVX (As := [.ref sa]) (rest := []) ⟨hx, hb, hml, hown, hts⟩ (mX7_isWord l D cI cB cZ cO sa av q2 fu z2 tx hc_2) (cwV 1 hts gX6_passWord_X7_isWord rfl rfl rfl (by decide +kernel) ⟨Nat.le_of_ble_eq_true rfl, Nat.le_of_ble_eq_true rfl⟩) (ET_ok _ _ _) (hE.kept hS.2.1) hK (hP.sub [1, 2] rfl) (va_recv hK hP (ci := 6) (q0 := 1) rfl rfl) rfl hl.1 rfl (Nat.le_of_ble_eq_true rfl) dX6_passWord_5 ⟨Nat.zero_le _, Nat.zero_le _⟩ ?_
  refine lv_istore_n (lv' := [(2, .int r_1), (0, .ref (q 0)), (1, .ref sa)]) hx hb dX6_passWord_8 rfl hl (by decide) rfl (fun ls hl => ?_)
  refine lv_iload_n hx hb dX6_passWord_9 rfl (lv_at hl 0 rfl) ?_
  refine lv_if_eq (tgt := 20) hx hb dX6_passWord_10 (by decide) (fun c_10 => ?_) (fun c_10 => ?_)
  · have hf := ip c_10 hf
    refine lv_iload_n hx hb dX6_passWord_20 rfl (lv_at hl 0 rfl) ?_
    obtain ⟨hz, hf⟩ := gd_ob hf
    exact rW_z hx hb hr hlocks hP hD hS hz (congrArg (fun q9 => q9.1) (so_ob hf)) (congrArg (fun (q9 : Int32 × (OS)) => wS q (q2 0) (q3 0) (q4 0) (q5 0) z ++ wT cB q2 q9.2 ++ wC cI q3 z3 ++ wA q4 z4 ++ wP q5 z5) (so_ob hf)) dX6_passWord_21
  · have hf := iq c_10 hf
    refine lv_aload_n hx hb dX6_passWord_13 rfl (lv_at hl 1 rfl) ?_
    refine va_get (D := D) (ci := 5) (v := .ref (q2 0)) (C := RX6) (T := TX6) (N := 9) hx hb hts hiX6 hown hK hP 0 rfl rfl 0 (by decide) k12 (fun _ h9 => h9) rfl dX6_passWord_14 ?_
    obtain ⟨z_3, hc_4, hf⟩ := bd_ob hf
    refine wrV (As := []) (rest := []) (ws2 := wS q (q2 0) (q3 0) (q4 0) (q5 0) z ++ wT cB q2 z_3 ++ wC cI q3 z3 ++ wA q4 z4 ++ wP q5 z5) ⟨hx, hb, hml, hown, hts⟩ (mX7_advance l D cI cB cZ cO q2 _ fu z2 hc_4) (cwV 0 hts gX6_passWord_X7_advance rfl rfl rfl (by decide +kernel) ⟨Nat.le_of_ble_eq_true rfl, Nat.le_of_ble_eq_true rfl⟩) hK hP hD hS hA [1, 2] [0, 3, 4, 5, 6, 7, 8, 9, 10, 11] [0, 10, 11, 1, 2, 3, 4, 5, 6, 7, 8, 9] rfl (hP.sub [1, 2] rfl) (by decide) rfl (by decide) (by decide) (by decide) rfl (va_recv hK hP (ci := 6) (q0 := 1) rfl rfl) rfl hl.1 rfl (Nat.le_of_ble_eq_true rfl) dX6_passWord_17 ⟨Nat.zero_le _, Nat.zero_le _⟩ (fun H locs hP hD hS => ?_)
    refine lv_iload_n hx hb dX6_passWord_20 rfl (lv_at hl 0 rfl) ?_
    obtain ⟨hz, hf⟩ := gd_ob hf
    exact rW_z hx hb hr hlocks hP hD hS hz (congrArg (fun q9 => q9.1) (so_ob hf)) (congrArg (fun (q9 : Int32 × (OS)) => wS q (q2 0) (q3 0) (q4 0) (q5 0) z ++ wT cB q2 q9.2 ++ wC cI q3 z3 ++ wA q4 z4 ++ wP q5 z5) (so_ob hf)) dX6_passWord_21
def fX6_readValue (fu : Nat) (z : OS) (z2 : OS) (z3 : OS) (z4 : OS) (z5 : OS) : Option (Int32 × (OS) × (OS)) :=
  bd (fX6_readNumber fu z z2 z3 z4 z5 (0 : Int32) (9999 : Int32)) (fun (w_4 : Int32 × OS × OS) => nm w_4.1 (fun (r_1 : Int32) => nm w_4.2.1 (fun (z_2 : OS) => nm w_4.2.2 (fun (z_3 : OS) => some (r_1, z_2, z_3)))))
set_option maxRecDepth 100000 in
set_option maxHeartbeats 4000000 in
theorem mX6_readValue (l : Launch) (D : va_G) (cI cB cZ cO : ClassId) (q : Nat → Nat) (q2 : Nat → Nat) (q3 : Nat → Nat) (q4 : Nat → Nat) (q5 : Nat → Nat) (sz : Nat) (fu : Nat) (z : OS) (z2 : OS) (z3 : OS) (z4 : OS) (z5 : OS) {r : Int32} {y1 : OS} {y2 : OS} (hf : fX6_readValue fu z z2 z3 z4 z5 = some (r, y1, y2)) : Met l yX6_readValue wsX6_readValue ({ frames := 2, cells := 0, slots := 0, locals := 45 }) (va_Pc [.ref (q 0)] (Pw D (gT cI cB cZ cO) (wS q (q2 0) (q3 0) (q4 0) (q5 0) z ++ wT cB q2 z2 ++ wC cI q3 z3 ++ wA q4 z4 ++ wP q5 z5) sz)) (Qw D (va_A (wS q (q2 0) (q3 0) (q4 0) (q5 0) z ++ wT cB q2 z2 ++ wC cI q3 z3 ++ wA q4 z4 ++ wP q5 z5) sz) (some (.int r)) (wS q (q2 0) (q3 0) (q4 0) (q5 0) y1 ++ wT cB q2 y2 ++ wC cI q3 z3 ++ wA q4 z4 ++ wP q5 z5)) 0 0 (va_A (wS q (q2 0) (q3 0) (q4 0) (q5 0) z ++ wT cB q2 z2 ++ wC cI q3 z3 ++ wA q4 z4 ++ wP q5 z5) sz) := by
  unfold fX6_readValue at hf
  refine metW (ret := (some .int)) (own := RX6) rfl (by decide) rfl (Nat.le_of_ble_eq_true rfl) (fun p e s m args below meth c ls A hx hb hr hml hown hlocks hts hK hA hP hD hS hl => ?_)
  have hl : lv_has ls 1 [(0, .ref (q 0))] := hl
  refine lv_aload_n hx hb dX6_readValue_0 rfl (lv_at hl 0 rfl) ?_
  refine lv_iconst (v := 0) hx hb dX6_readValue_1 (by decide) ?_
  refine lv_sipush (v := 9999) hx hb dX6_readValue_2 (by decide) ?_
  obtain ⟨⟨r_1, z_2, z_3⟩, hc_5, hf⟩ := bd_ob hf
  have hf := nm_st hf
  have hf := nm_st hf
  have hf := nm_st hf
  refine weV (As := [.int (0 : Int32), .int (9999 : Int32)]) (rest := []) ⟨hx, hb, hml, hown, hts⟩ (mX6_readNumber l D cI cB cZ cO q q2 q3 q4 q5 _ fu z z2 z3 z4 z5 (0 : Int32) (9999 : Int32) hc_5) (cwV 2 hts gX6_readValue_X6_readNumber rfl rfl rfl (by decide +kernel) ⟨Nat.le_of_ble_eq_true rfl, Nat.le_of_ble_eq_true rfl⟩) hK hP hD hS hA (va_recv hK hP (ci := 5) (q0 := 0) rfl rfl) rfl hl.1 rfl (Nat.le_of_ble_eq_true rfl) dX6_readValue_5 ⟨Nat.zero_le _, Nat.zero_le _⟩ (fun H locs hP hD hS => ?_)
  exact rW_i hx hb hr hlocks hP hD hS (congrArg (fun q9 => q9.1) (so_ob hf)) (congrArg (fun (q9 : Int32 × (OS) × (OS)) => wS q (q2 0) (q3 0) (q4 0) (q5 0) q9.2.1 ++ wT cB q2 q9.2.2 ++ wC cI q3 z3 ++ wA q4 z4 ++ wP q5 z5) (so_ob hf)) dX6_readValue_8
def fX6_readFixed (fu : Nat) (z : OS) (z2 : OS) (z3 : OS) (z4 : OS) (z5 : OS) : Option (Int32 × (OS) × (OS) × (OS)) :=
  nm (sI z 7 (0 : Int32)) (fun (z_1 : OS) => nm (sI z_1 8 (0 : Int32)) (fun (z_2 : OS) => bd (fX6_readLiteral fu z_2 z2 z3 z4 z5) (fun (w_5 : OS × OS) => nm w_5.1 (fun (z_3 : OS) => nm w_5.2 (fun (z_4 : OS) => bd (fX4_run fu z5 z3) (fun (z_7 : OS) => (if ¬ ((z_3.1 7) &&& ((z_7.1 0) ^^^ (-1 : Int32))) = (0 : Int32) then gd (isZ (0 : Int32)) (some ((0 : Int32), z_3, z_4, z_7)) else (if ¬ ((z_3.1 8) &&& ((z_7.1 1) ^^^ (-1 : Int32))) = (0 : Int32) then gd (isZ (0 : Int32)) (some ((0 : Int32), z_3, z_4, z_7)) else gd (isZ (1 : Int32)) (some ((1 : Int32), z_3, z_4, z_7))))))))))
set_option maxRecDepth 100000 in
set_option maxHeartbeats 4000000 in
theorem mX6_readFixed (l : Launch) (D : va_G) (cI cB cZ cO : ClassId) (q : Nat → Nat) (q2 : Nat → Nat) (q3 : Nat → Nat) (q4 : Nat → Nat) (q5 : Nat → Nat) (sz : Nat) (fu : Nat) (z : OS) (z2 : OS) (z3 : OS) (z4 : OS) (z5 : OS) {r : Int32} {y1 : OS} {y2 : OS} {y5 : OS} (hf : fX6_readFixed fu z z2 z3 z4 z5 = some (r, y1, y2, y5)) : Met l yX6_readFixed wsX6_readFixed ({ frames := 4, cells := 0, slots := 0, locals := 89 }) (va_Pc [.ref (q 0)] (Pw D (gT cI cB cZ cO) (wS q (q2 0) (q3 0) (q4 0) (q5 0) z ++ wT cB q2 z2 ++ wC cI q3 z3 ++ wA q4 z4 ++ wP q5 z5) sz)) (Qw D (va_A (wS q (q2 0) (q3 0) (q4 0) (q5 0) z ++ wT cB q2 z2 ++ wC cI q3 z3 ++ wA q4 z4 ++ wP q5 z5) sz) (some (.int r)) (wS q (q2 0) (q3 0) (q4 0) (q5 0) y1 ++ wT cB q2 y2 ++ wC cI q3 z3 ++ wA q4 z4 ++ wP q5 y5)) 0 0 (va_A (wS q (q2 0) (q3 0) (q4 0) (q5 0) z ++ wT cB q2 z2 ++ wC cI q3 z3 ++ wA q4 z4 ++ wP q5 z5) sz) := by
  unfold fX6_readFixed at hf
  refine metW (ret := (some .boolean)) (own := RX6) rfl (by decide) rfl (Nat.le_of_ble_eq_true rfl) (fun p e s m args below meth c ls A hx hb hr hml hown hlocks hts hK hA hP hD hS hl => ?_)
  have k49 := (hts (.fieldLink RX6 49 "ResolutionProver$Script" "positive" "I") (List.mem_of_getElem? (i := 1) rfl))
  have k52 := (hts (.fieldLink RX6 52 "ResolutionProver$Script" "negative" "I") (List.mem_of_getElem? (i := 2) rfl))
  have k35 := (hts (.fieldLink RX6 35 "ResolutionProver$Script" "propagation" "LResolutionProver$Propagation;") (List.mem_of_getElem? (i := 3) rfl))
  have k21 := (hts (.fieldLink RX6 21 "ResolutionProver$Script" "draft" "LResolutionProver$Clauses;") (List.mem_of_getElem? (i := 4) rfl))
  have k238 := (hts (.fieldLink RX6 238 "ResolutionProver$Propagation" "trueMask" "I") (List.mem_of_getElem? (i := 5) rfl))
  have k241 := (hts (.fieldLink RX6 241 "ResolutionProver$Propagation" "falseMask" "I") (List.mem_of_getElem? (i := 6) rfl))
  have hiX6 : ∀ w ∈ wsX60, w ∈ wsX6_readFixed := (memIn_p [69, 70, 71, 72, 73, 74, 75, 76, 77] rfl)
  have hiX4 : ∀ w ∈ wsX40, w ∈ wsX6_readFixed := (memIn_p [78, 79] rfl)
  have hl : lv_has ls 1 [(0, .ref (q 0))] := hl
  refine lv_aload_n hx hb dX6_readFixed_0 rfl (lv_at hl 0 rfl) ?_
  refine lv_iconst (v := 0) hx hb dX6_readFixed_1 (by decide) ?_
  refine va_put (D := D) (ci := 5) (v := .int (0 : Int32)) (ty := .int) (C := RX6) (T := TX6) (N := 9) hx hb hts hiX6 tyX6 tyX6_ok nmX6 hown hK hP hD hS 0 rfl rfl 7 (by decide) k49 (fun _ h9 => h9) rfl (by decide +kernel) rfl rfl (Nat.le_of_ble_eq_true rfl) dX6_readFixed_2 (fun H locs hP hD hS => ?_)
  obtain ⟨z_1, ez_1, hf⟩ := nm_ob hf
  have hP : va_P D vwCl (wS q (q2 0) (q3 0) (q4 0) (q5 0) z_1 ++ wT cB q2 z2 ++ wC cI q3 z3 ++ wA q4 z4 ++ wP q5 z5) H := by rw [ez_1]; exact hP
  have hD : va_D A (wS q (q2 0) (q3 0) (q4 0) (q5 0) z_1 ++ wT cB q2 z2 ++ wC cI q3 z3 ++ wA q4 z4 ++ wP q5 z5) := by rw [ez_1]; exact hD
  refine lv_aload_n hx hb dX6_readFixed_5 rfl (lv_at hl 0 rfl) ?_
  refine lv_iconst (v := 0) hx hb dX6_readFixed_6 (by decide) ?_
  refine va_put (D := D) (ci := 5) (v := .int (0 : Int32)) (ty := .int) (C := RX6) (T := TX6) (N := 9) hx hb hts hiX6 tyX6 tyX6_ok nmX6 hown hK hP hD hS 0 rfl rfl 8 (by decide) k52 (fun _ h9 => h9) rfl (by decide +kernel) rfl rfl (Nat.le_of_ble_eq_true rfl) dX6_readFixed_7 (fun H locs hP hD hS => ?_)
  obtain ⟨z_2, ez_2, hf⟩ := nm_ob hf
  have hP : va_P D vwCl (wS q (q2 0) (q3 0) (q4 0) (q5 0) z_2 ++ wT cB q2 z2 ++ wC cI q3 z3 ++ wA q4 z4 ++ wP q5 z5) H := by rw [ez_2]; exact hP
  have hD : va_D A (wS q (q2 0) (q3 0) (q4 0) (q5 0) z_2 ++ wT cB q2 z2 ++ wC cI q3 z3 ++ wA q4 z4 ++ wP q5 z5) := by rw [ez_2]; exact hD
  refine lv_aload_n hx hb dX6_readFixed_10 rfl (lv_at hl 0 rfl) ?_
  obtain ⟨⟨z_3, z_4⟩, hc_6, hf⟩ := bd_ob hf
  have hf := nm_st hf
  have hf := nm_st hf
  refine weV (As := []) (rest := []) ⟨hx, hb, hml, hown, hts⟩ (mX6_readLiteral l D cI cB cZ cO q q2 q3 q4 q5 _ fu z_2 z2 z3 z4 z5 hc_6) (cwV 0 hts gX6_readFixed_X6_readLiteral rfl rfl rfl (by decide +kernel) ⟨Nat.le_of_ble_eq_true rfl, Nat.le_of_ble_eq_true rfl⟩) hK hP hD hS hA (va_recv hK hP (ci := 5) (q0 := 0) rfl rfl) rfl hl.1 rfl (Nat.le_of_ble_eq_true rfl) dX6_readFixed_11 ⟨Nat.zero_le _, Nat.zero_le _⟩ (fun H locs hP hD hS => ?_)
  refine lv_aload_n hx hb dX6_readFixed_14 rfl (lv_at hl 0 rfl) ?_
  refine va_get (D := D) (ci := 5) (v := .ref (q5 0)) (C := RX6) (T := TX6) (N := 9) hx hb hts hiX6 hown hK hP 0 rfl rfl 3 (by decide) k35 (fun _ h9 => h9) rfl dX6_readFixed_15 ?_
  refine lv_aload_n hx hb dX6_readFixed_18 rfl (lv_at hl 0 rfl) ?_
  refine va_get (D := D) (ci := 5) (v := .ref (q3 0)) (C := RX6) (T := TX6) (N := 9) hx hb hts hiX6 hown hK hP 0 rfl rfl 1 (by decide) k21 (fun _ h9 => h9) rfl dX6_readFixed_19 ?_
  obtain ⟨z_7, hc_8, hf⟩ := bd_ob hf
  refine wrV (As := [.ref (q3 0)]) (rest := []) (ws2 := wS q (q2 0) (q3 0) (q4 0) (q5 0) z_3 ++ wT cB q2 z_4 ++ wC cI q3 z3 ++ wA q4 z4 ++ wP q5 z_7) ⟨hx, hb, hml, hown, hts⟩ (mX4_run l D cI cB cZ cO q5 q3 _ fu z5 z3 hc_8) (cwV 1 hts gX6_readFixed_X4_run rfl rfl rfl (by decide +kernel) ⟨Nat.le_of_ble_eq_true rfl, Nat.le_of_ble_eq_true rfl⟩) hK hP hD hS hA [11, 3, 4, 5, 6, 7, 8, 9] [0, 1, 2, 10] [0, 1, 2, 5, 6, 7, 8, 9, 10, 11, 3, 4] rfl (hP.sub [11, 3, 4, 5, 6, 7, 8, 9] rfl) (by decide) rfl (by decide) (by decide) (by decide) rfl (va_recv hK hP (ci := 3) (q0 := 11) rfl rfl) rfl hl.1 rfl (Nat.le_of_ble_eq_true rfl) dX6_readFixed_22 ⟨Nat.zero_le _, Nat.zero_le _⟩ (fun H locs hP hD hS => ?_)
  refine lv_aload_n hx hb dX6_readFixed_25 rfl (lv_at hl 0 rfl) ?_
  refine va_get (D := D) (ci := 5) (v := .int (z_3.1 7)) (C := RX6) (T := TX6) (N := 9) hx hb hts hiX6 hown hK hP 0 rfl rfl 7 (by decide) k49 (fun _ h9 => h9) rfl dX6_readFixed_26 ?_
  refine lv_aload_n hx hb dX6_readFixed_29 rfl (lv_at hl 0 rfl) ?_
  refine va_get (D := D) (ci := 5) (v := .ref (q5 0)) (C := RX6) (T := TX6) (N := 9) hx hb hts hiX6 hown hK hP 0 rfl rfl 3 (by decide) k35 (fun _ h9 => h9) rfl dX6_readFixed_30 ?_
  refine va_get (D := D) (ci := 3) (v := .int (z_7.1 0)) (C := RX4) (T := TX4) (N := 2) hx hb hts hiX4 hown hK hP 11 rfl rfl 0 (by decide) k238 (fun _ h9 => h9) rfl dX6_readFixed_33 ?_
  refine lv_iconst (v := (-1)) hx hb dX6_readFixed_36 (by decide) ?_
  refine lv_ixor hx hb dX6_readFixed_37 ?_
  refine lv_iand hx hb dX6_readFixed_38 ?_
  refine lv_if_ne (tgt := 63) hx hb dX6_readFixed_39 (by decide) (fun c_39 => ?_) (fun c_39 => ?_)
  · have hf := ip c_39 hf
    refine lv_iconst (v := 0) hx hb dX6_readFixed_63 (by decide) ?_
    obtain ⟨hz, hf⟩ := gd_ob hf
    exact rW_z hx hb hr hlocks hP hD hS hz (congrArg (fun q9 => q9.1) (so_ob hf)) (congrArg (fun (q9 : Int32 × (OS) × (OS) × (OS)) => wS q (q2 0) (q3 0) (q4 0) (q5 0) q9.2.1 ++ wT cB q2 q9.2.2.1 ++ wC cI q3 z3 ++ wA q4 z4 ++ wP q5 q9.2.2.2) (so_ob hf)) dX6_readFixed_64
  · have hf := iqn c_39 hf
    refine lv_aload_n hx hb dX6_readFixed_42 rfl (lv_at hl 0 rfl) ?_
    refine va_get (D := D) (ci := 5) (v := .int (z_3.1 8)) (C := RX6) (T := TX6) (N := 9) hx hb hts hiX6 hown hK hP 0 rfl rfl 8 (by decide) k52 (fun _ h9 => h9) rfl dX6_readFixed_43 ?_
    refine lv_aload_n hx hb dX6_readFixed_46 rfl (lv_at hl 0 rfl) ?_
    refine va_get (D := D) (ci := 5) (v := .ref (q5 0)) (C := RX6) (T := TX6) (N := 9) hx hb hts hiX6 hown hK hP 0 rfl rfl 3 (by decide) k35 (fun _ h9 => h9) rfl dX6_readFixed_47 ?_
    refine va_get (D := D) (ci := 3) (v := .int (z_7.1 1)) (C := RX4) (T := TX4) (N := 2) hx hb hts hiX4 hown hK hP 11 rfl rfl 1 (by decide) k241 (fun _ h9 => h9) rfl dX6_readFixed_50 ?_
    refine lv_iconst (v := (-1)) hx hb dX6_readFixed_53 (by decide) ?_
    refine lv_ixor hx hb dX6_readFixed_54 ?_
    refine lv_iand hx hb dX6_readFixed_55 ?_
    refine lv_if_ne (tgt := 63) hx hb dX6_readFixed_56 (by decide) (fun c_56 => ?_) (fun c_56 => ?_)
    · have hf := ip c_56 hf
      refine lv_iconst (v := 0) hx hb dX6_readFixed_63 (by decide) ?_
      obtain ⟨hz, hf⟩ := gd_ob hf
      exact rW_z hx hb hr hlocks hP hD hS hz (congrArg (fun q9 => q9.1) (so_ob hf)) (congrArg (fun (q9 : Int32 × (OS) × (OS) × (OS)) => wS q (q2 0) (q3 0) (q4 0) (q5 0) q9.2.1 ++ wT cB q2 q9.2.2.1 ++ wC cI q3 z3 ++ wA q4 z4 ++ wP q5 q9.2.2.2) (so_ob hf)) dX6_readFixed_64
    · have hf := iqn c_56 hf
      refine lv_iconst (v := 1) hx hb dX6_readFixed_59 (by decide) ?_
      refine lv_goto (tgt := 64) hx hb dX6_readFixed_60 (by decide) ?_
      obtain ⟨hz, hf⟩ := gd_ob hf
      exact rW_z hx hb hr hlocks hP hD hS hz (congrArg (fun q9 => q9.1) (so_ob hf)) (congrArg (fun (q9 : Int32 × (OS) × (OS) × (OS)) => wS q (q2 0) (q3 0) (q4 0) (q5 0) q9.2.1 ++ wT cB q2 q9.2.2.1 ++ wC cI q3 z3 ++ wA q4 z4 ++ wP q5 q9.2.2.2) (so_ob hf)) dX6_readFixed_64
def fX6_readCondition (fu : Nat) (z : OS) (z2 : OS) (z3 : OS) (z4 : OS) (z5 : OS) : Option (Int32 × (OS) × (OS) × (OS)) :=
  bd (fX6_passWord fu z z2 z3 z4 z5 (lt 9)) (fun (w_3 : Int32 × OS) => nm w_3.1 (fun (r_1 : Int32) => nm w_3.2 (fun (z_2 : OS) => (if r_1 = (0 : Int32) then bd (fX6_passWord fu z z_2 z3 z4 z5 (lt 10)) (fun (w_7 : Int32 × OS) => nm w_7.1 (fun (r_5 : Int32) => nm w_7.2 (fun (z_6 : OS) => (if r_5 = (0 : Int32) then bd (fX6_passWord fu z z_6 z3 z4 z5 (lt 11)) (fun (w_11 : Int32 × OS) => nm w_11.1 (fun (r_9 : Int32) => nm w_11.2 (fun (z_10 : OS) => (if r_9 = (0 : Int32) then bd (fX6_passWord fu z z_10 z3 z4 z5 (lt 12)) (fun (w_15 : Int32 × OS) => nm w_15.1 (fun (r_13 : Int32) => nm w_15.2 (fun (z_14 : OS) => (if r_13 = (0 : Int32) then bd (fX6_passWord fu z z_14 z3 z4 z5 (lt 13)) (fun (w_19 : Int32 × OS) => nm w_19.1 (fun (r_17 : Int32) => nm w_19.2 (fun (z_18 : OS) => (if r_17 = (0 : Int32) then bd (fX6_passWord fu z z_18 z3 z4 z5 (lt 14)) (fun (w_23 : Int32 × OS) => nm w_23.1 (fun (r_21 : Int32) => nm w_23.2 (fun (z_22 : OS) => (if r_21 = (0 : Int32) then bd (fX6_passWord fu z z_22 z3 z4 z5 (lt 15)) (fun (w_27 : Int32 × OS) => nm w_27.1 (fun (r_25 : Int32) => nm w_27.2 (fun (z_26 : OS) => (if r_25 = (0 : Int32) then bd (fX6_passWord fu z z_26 z3 z4 z5 (lt 16)) (fun (w_31 : Int32 × OS) => nm w_31.1 (fun (r_29 : Int32) => nm w_31.2 (fun (z_30 : OS) => (if r_29 = (0 : Int32) then bd (fX6_passWord fu z z_30 z3 z4 z5 (lt 17)) (fun (w_35 : Int32 × OS) => nm w_35.1 (fun (r_33 : Int32) => nm w_35.2 (fun (z_34 : OS) => (if r_33 = (0 : Int32) then bd (fX6_fail fu z z_34 z3 z4 z5 (1 : Int32) (z_34.1 3)) (fun (z_37 : OS) => gd (isZ (0 : Int32)) (some ((0 : Int32), z_37, z_34, z5))) else bd (fX6_readClauseNumber fu z z_34 z3 z4 z5) (fun (w_42 : Int32 × OS × OS) => nm w_42.1 (fun (r_39 : Int32) => nm w_42.2.1 (fun (z_40 : OS) => nm w_42.2.2 (fun (z_41 : OS) => bd (fX6_readValue fu z_40 z_41 z3 z4 z5) (fun (w_47 : Int32 × OS × OS) => nm w_47.1 (fun (r_44 : Int32) => nm w_47.2.1 (fun (z_45 : OS) => nm w_47.2.2 (fun (z_46 : OS) => (if r_39 = (-1 : Int32) then gd (isZ (0 : Int32)) (some ((0 : Int32), z_45, z_46, z5)) else gd (inB r_39 60) ((if ¬ (z3.2 5 (r_39).toNatClampNeg) = r_44 then gd (isZ (0 : Int32)) (some ((0 : Int32), z_45, z_46, z5)) else gd (isZ (1 : Int32)) (some ((1 : Int32), z_45, z_46, z5))))))))))))))))) else bd (fX6_readClauseNumber fu z z_30 z3 z4 z5) (fun (w_52 : Int32 × OS × OS) => nm w_52.1 (fun (r_49 : Int32) => nm w_52.2.1 (fun (z_50 : OS) => nm w_52.2.2 (fun (z_51 : OS) => bd (fX6_readValue fu z_50 z_51 z3 z4 z5) (fun (w_57 : Int32 × OS × OS) => nm w_57.1 (fun (r_54 : Int32) => nm w_57.2.1 (fun (z_55 : OS) => nm w_57.2.2 (fun (z_56 : OS) => (if r_49 = (-1 : Int32) then gd (isZ (0 : Int32)) (some ((0 : Int32), z_55, z_56, z5)) else bd (fX0_literalsIn fu z3 r_49) (fun (r_59 : Int32) => (if ¬ r_59 = r_54 then gd (isZ (0 : Int32)) (some ((0 : Int32), z_55, z_56, z5)) else gd (isZ (1 : Int32)) (some ((1 : Int32), z_55, z_56, z5))))))))))))))))) else bd (fX6_readValue fu z z_26 z3 z4 z5) (fun (w_64 : Int32 × OS × OS) => nm w_64.1 (fun (r_61 : Int32) => nm w_64.2.1 (fun (z_62 : OS) => nm w_64.2.2 (fun (z_63 : OS) => bd (fX0_countSubsumed fu z3) (fun (r_66 : Int32) => (if ¬ r_61 = r_66 then gd (isZ (0 : Int32)) (some ((0 : Int32), z_62, z_63, z5)) else gd (isZ (1 : Int32)) (some ((1 : Int32), z_62, z_63, z5)))))))))))) else bd (fX6_readFixed fu z z_22 z3 z4 z5) (fun (w_72 : Int32 × OS × OS × OS) => nm w_72.1 (fun (r_68 : Int32) => nm w_72.2.1 (fun (z_69 : OS) => nm w_72.2.2.1 (fun (z_70 : OS) => nm w_72.2.2.2 (fun (z_71 : OS) => gd (isZ r_68) (some (r_68, z_69, z_70, z_71))))))))))) else bd (fX6_readLiterals fu z z_18 z3 z4 z5) (fun (w_76 : OS × OS) => nm w_76.1 (fun (z_74 : OS) => nm w_76.2 (fun (z_75 : OS) => bd (fX2_imply fu z3 (z_74.1 7) (z_74.1 8) (-1 : Int32)) (fun (r_78 : Int32) => gd (isZ r_78) (some (r_78, z_74, z_75, z5)))))))))) else bd (fX0_indexOf fu z3 (0 : Int32) (0 : Int32)) (fun (r_80 : Int32) => (if ¬ r_80 = (-1 : Int32) then gd (isZ (0 : Int32)) (some ((0 : Int32), z, z_14, z5)) else gd (isZ (1 : Int32)) (some ((1 : Int32), z, z_14, z5)))))))) else bd (fX0_indexOf fu z3 (0 : Int32) (0 : Int32)) (fun (r_82 : Int32) => (if r_82 = (-1 : Int32) then gd (isZ (0 : Int32)) (some ((0 : Int32), z, z_10, z5)) else gd (isZ (1 : Int32)) (some ((1 : Int32), z, z_10, z5)))))))) else bd (fX6_readValue fu z z_6 z3 z4 z5) (fun (w_87 : Int32 × OS × OS) => nm w_87.1 (fun (r_84 : Int32) => nm w_87.2.1 (fun (z_85 : OS) => nm w_87.2.2 (fun (z_86 : OS) => bd (fX2_count fu z3) (fun (r_89 : Int32) => (if ¬ r_84 = r_89 then gd (isZ (0 : Int32)) (some ((0 : Int32), z_85, z_86, z5)) else gd (isZ (1 : Int32)) (some ((1 : Int32), z_85, z_86, z5)))))))))))) else bd (fX6_readValue fu z z_2 z3 z4 z5) (fun (w_94 : Int32 × OS × OS) => nm w_94.1 (fun (r_91 : Int32) => nm w_94.2.1 (fun (z_92 : OS) => nm w_94.2.2 (fun (z_93 : OS) => (if ¬ r_91 = (z3.1 7) then gd (isZ (0 : Int32)) (some ((0 : Int32), z_92, z_93, z5)) else gd (isZ (1 : Int32)) (some ((1 : Int32), z_92, z_93, z5)))))))))))
set_option maxRecDepth 100000 in
set_option maxHeartbeats 4000000 in
theorem mX6_readCondition (l : Launch) (D : va_G) (cI cB cZ cO : ClassId) (aK aV : Nat → Nat) (q : Nat → Nat) (q2 : Nat → Nat) (q3 : Nat → Nat) (q4 : Nat → Nat) (q5 : Nat → Nat) (sz : Nat) (fu : Nat) (z : OS) (z2 : OS) (z3 : OS) (z4 : OS) (z5 : OS) {r : Int32} {y1 : OS} {y2 : OS} {y5 : OS} (hf : fX6_readCondition fu z z2 z3 z4 z5 = some (r, y1, y2, y5)) : Met l yX6_readCondition wsX6_readCondition ({ frames := 6, cells := 0, slots := 0, locals := 129 }) (va_Pc [.ref (q 0)] (PwX (EL aK aV) D (gT cI cB cZ cO) (wS q (q2 0) (q3 0) (q4 0) (q5 0) z ++ wT cB q2 z2 ++ wC cI q3 z3 ++ wA q4 z4 ++ wP q5 z5) sz)) (Qw D (va_A (wS q (q2 0) (q3 0) (q4 0) (q5 0) z ++ wT cB q2 z2 ++ wC cI q3 z3 ++ wA q4 z4 ++ wP q5 z5) sz) (some (.int r)) (wS q (q2 0) (q3 0) (q4 0) (q5 0) y1 ++ wT cB q2 y2 ++ wC cI q3 z3 ++ wA q4 z4 ++ wP q5 y5)) 0 0 (va_A (wS q (q2 0) (q3 0) (q4 0) (q5 0) z ++ wT cB q2 z2 ++ wC cI q3 z3 ++ wA q4 z4 ++ wP q5 z5) sz) := by
  unfold fX6_readCondition at hf
  refine metWX (ret := (some .boolean)) (own := RX6) rfl (by decide) rfl (Nat.le_of_ble_eq_true rfl) (fun p e s m args below meth c ls A hx hb hr hml hown hlocks hts hK hA hP hD hS hE hl => ?_)
  have k12 := (hts (.fieldLink RX6 12 "ResolutionProver$Script" "tokens" "LResolutionProver$Tokens;") (List.mem_of_getElem? (i := 6) rfl))
  have k67 := (hts (.fieldLink RX6 67 "ResolutionProver$Tokens" "start" "I") (List.mem_of_getElem? (i := 7) rfl))
  have k21 := (hts (.fieldLink RX6 21 "ResolutionProver$Script" "draft" "LResolutionProver$Clauses;") (List.mem_of_getElem? (i := 1) rfl))
  have k228 := (hts (.fieldLink RX6 228 "ResolutionProver$Clauses" "depth" "[I") (List.mem_of_getElem? (i := 5) rfl))
  have k49 := (hts (.fieldLink RX6 49 "ResolutionProver$Script" "positive" "I") (List.mem_of_getElem? (i := 3) rfl))
  have k52 := (hts (.fieldLink RX6 52 "ResolutionProver$Script" "negative" "I") (List.mem_of_getElem? (i := 4) rfl))
  have k190 := (hts (.fieldLink RX6 190 "ResolutionProver$Clauses" "count" "I") (List.mem_of_getElem? (i := 2) rfl))
  have hiX6 : ∀ w ∈ wsX60, w ∈ wsX6_readCondition := (memIn_p [194, 195, 196, 197, 198, 199, 200, 201, 202] rfl)
  have hiX7 : ∀ w ∈ wsX70, w ∈ wsX6_readCondition := (memIn_p [211, 212, 213, 214, 215] rfl)
  have hiX0 : ∀ w ∈ wsX00, w ∈ wsX6_readCondition := (memIn_p [203, 204, 205, 206, 207, 208, 209, 210] rfl)
  have hl : lv_has ls 3 [(0, .ref (q 0))] := hl
  refine lv_aload_n hx hb dX6_readCondition_0 rfl (lv_at hl 0 rfl) ?_
  refine va_ldcS hx hb hown (EL_s9 hE) dX6_readCondition_1 ?_
  obtain ⟨⟨r_1, z_2⟩, hc_4, hf⟩ := bd_ob hf
  have hf := nm_st hf
  have hf := nm_st hf
  refine weVX (As := [.ref (aK 9)]) (rest := []) ⟨hx, hb, hml, hown, hts⟩ (mX6_passWord l D cI cB cZ cO (aK 9) (aV 9) q q2 q3 q4 q5 _ fu z z2 z3 z4 z5 (lt 9) hc_4) (cwV 1 hts gX6_readCondition_X6_passWord rfl rfl rfl (by decide +kernel) ⟨Nat.le_of_ble_eq_true rfl, Nat.le_of_ble_eq_true rfl⟩) (ET_ok _ _ _) ((hE.1 9).kept hS.2.1) hK hP hD hS hA (va_recv hK hP (ci := 5) (q0 := 0) rfl rfl) rfl hl.1 rfl (Nat.le_of_ble_eq_true rfl) dX6_readCondition_3 ⟨Nat.zero_le _, Nat.zero_le _⟩ (fun H locs hP hD hS => ?_)
  refine lv_if_eq (tgt := 29) hx hb dX6_readCondition_6 (by decide) (fun c_6 => ?_) (fun c_6 => ?_)
  · have hf := ip c_6 hf
    refine lv_aload_n hx hb dX6_readCondition_29 rfl (lv_at hl 0 rfl) ?_
    refine va_ldcS hx hb hown (EL_s10 hE) dX6_readCondition_30 ?_
    obtain ⟨⟨r_5, z_6⟩, hc_8, hf⟩ := bd_ob hf
    have hf := nm_st hf
    have hf := nm_st hf
    refine weVX (As := [.ref (aK 10)]) (rest := []) ⟨hx, hb, hml, hown, hts⟩ (mX6_passWord l D cI cB cZ cO (aK 10) (aV 10) q q2 q3 q4 q5 _ fu z z_2 z3 z4 z5 (lt 10) hc_8) (cwV 1 hts gX6_readCondition_X6_passWord rfl rfl rfl (by decide +kernel) ⟨Nat.le_of_ble_eq_true rfl, Nat.le_of_ble_eq_true rfl⟩) (ET_ok _ _ _) ((hE.1 10).kept hS.2.1) hK hP hD hS hA (va_recv hK hP (ci := 5) (q0 := 0) rfl rfl) rfl hl.1 rfl (Nat.le_of_ble_eq_true rfl) dX6_readCondition_32 ⟨Nat.zero_le _, Nat.zero_le _⟩ (fun H locs hP hD hS => ?_)
    refine lv_if_eq (tgt := 58) hx hb dX6_readCondition_35 (by decide) (fun c_35 => ?_) (fun c_35 => ?_)
    · have hf := ip c_35 hf
      refine lv_aload_n hx hb dX6_readCondition_58 rfl (lv_at hl 0 rfl) ?_
      refine va_ldcS hx hb hown (EL_s11 hE) dX6_readCondition_59 ?_
      obtain ⟨⟨r_9, z_10⟩, hc_12, hf⟩ := bd_ob hf
      have hf := nm_st hf
      have hf := nm_st hf
      refine weVX (As := [.ref (aK 11)]) (rest := []) ⟨hx, hb, hml, hown, hts⟩ (mX6_passWord l D cI cB cZ cO (aK 11) (aV 11) q q2 q3 q4 q5 _ fu z z_6 z3 z4 z5 (lt 11) hc_12) (cwV 1 hts gX6_readCondition_X6_passWord rfl rfl rfl (by decide +kernel) ⟨Nat.le_of_ble_eq_true rfl, Nat.le_of_ble_eq_true rfl⟩) (ET_ok _ _ _) ((hE.1 11).kept hS.2.1) hK hP hD hS hA (va_recv hK hP (ci := 5) (q0 := 0) rfl rfl) rfl hl.1 rfl (Nat.le_of_ble_eq_true rfl) dX6_readCondition_61 ⟨Nat.zero_le _, Nat.zero_le _⟩ (fun H locs hP hD hS => ?_)
      refine lv_if_eq (tgt := 86) hx hb dX6_readCondition_64 (by decide) (fun c_64 => ?_) (fun c_64 => ?_)
      · have hf := ip c_64 hf
        refine lv_aload_n hx hb dX6_readCondition_86 rfl (lv_at hl 0 rfl) ?_
        refine va_ldcS hx hb hown (EL_s12 hE) dX6_readCondition_87 ?_
        obtain ⟨⟨r_13, z_14⟩, hc_16, hf⟩ := bd_ob hf
        have hf := nm_st hf
        have hf := nm_st hf
        refine weVX (As := [.ref (aK 12)]) (rest := []) ⟨hx, hb, hml, hown, hts⟩ (mX6_passWord l D cI cB cZ cO (aK 12) (aV 12) q q2 q3 q4 q5 _ fu z z_10 z3 z4 z5 (lt 12) hc_16) (cwV 1 hts gX6_readCondition_X6_passWord rfl rfl rfl (by decide +kernel) ⟨Nat.le_of_ble_eq_true rfl, Nat.le_of_ble_eq_true rfl⟩) (ET_ok _ _ _) ((hE.1 12).kept hS.2.1) hK hP hD hS hA (va_recv hK hP (ci := 5) (q0 := 0) rfl rfl) rfl hl.1 rfl (Nat.le_of_ble_eq_true rfl) dX6_readCondition_89 ⟨Nat.zero_le _, Nat.zero_le _⟩ (fun H locs hP hD hS => ?_)
        refine lv_if_eq (tgt := 114) hx hb dX6_readCondition_92 (by decide) (fun c_92 => ?_) (fun c_92 => ?_)
        · have hf := ip c_92 hf
          refine lv_aload_n hx hb dX6_readCondition_114 rfl (lv_at hl 0 rfl) ?_
          refine va_ldcS hx hb hown (EL_s13 hE) dX6_readCondition_115 ?_
          obtain ⟨⟨r_17, z_18⟩, hc_20, hf⟩ := bd_ob hf
          have hf := nm_st hf
          have hf := nm_st hf
          refine weVX (As := [.ref (aK 13)]) (rest := []) ⟨hx, hb, hml, hown, hts⟩ (mX6_passWord l D cI cB cZ cO (aK 13) (aV 13) q q2 q3 q4 q5 _ fu z z_14 z3 z4 z5 (lt 13) hc_20) (cwV 1 hts gX6_readCondition_X6_passWord rfl rfl rfl (by decide +kernel) ⟨Nat.le_of_ble_eq_true rfl, Nat.le_of_ble_eq_true rfl⟩) (ET_ok _ _ _) ((hE.1 13).kept hS.2.1) hK hP hD hS hA (va_recv hK hP (ci := 5) (q0 := 0) rfl rfl) rfl hl.1 rfl (Nat.le_of_ble_eq_true rfl) dX6_readCondition_117 ⟨Nat.zero_le _, Nat.zero_le _⟩ (fun H locs hP hD hS => ?_)
          refine lv_if_eq (tgt := 144) hx hb dX6_readCondition_120 (by decide) (fun c_120 => ?_) (fun c_120 => ?_)
          · have hf := ip c_120 hf
            refine lv_aload_n hx hb dX6_readCondition_144 rfl (lv_at hl 0 rfl) ?_
            refine va_ldcS hx hb hown (EL_s14 hE) dX6_readCondition_145 ?_
            obtain ⟨⟨r_21, z_22⟩, hc_24, hf⟩ := bd_ob hf
            have hf := nm_st hf
            have hf := nm_st hf
            refine weVX (As := [.ref (aK 14)]) (rest := []) ⟨hx, hb, hml, hown, hts⟩ (mX6_passWord l D cI cB cZ cO (aK 14) (aV 14) q q2 q3 q4 q5 _ fu z z_18 z3 z4 z5 (lt 14) hc_24) (cwV 1 hts gX6_readCondition_X6_passWord rfl rfl rfl (by decide +kernel) ⟨Nat.le_of_ble_eq_true rfl, Nat.le_of_ble_eq_true rfl⟩) (ET_ok _ _ _) ((hE.1 14).kept hS.2.1) hK hP hD hS hA (va_recv hK hP (ci := 5) (q0 := 0) rfl rfl) rfl hl.1 rfl (Nat.le_of_ble_eq_true rfl) dX6_readCondition_147 ⟨Nat.zero_le _, Nat.zero_le _⟩ (fun H locs hP hD hS => ?_)
            refine lv_if_eq (tgt := 158) hx hb dX6_readCondition_150 (by decide) (fun c_150 => ?_) (fun c_150 => ?_)
            · have hf := ip c_150 hf
              refine lv_aload_n hx hb dX6_readCondition_158 rfl (lv_at hl 0 rfl) ?_
              refine va_ldcS hx hb hown (EL_s15 hE) dX6_readCondition_159 ?_
              obtain ⟨⟨r_25, z_26⟩, hc_28, hf⟩ := bd_ob hf
              have hf := nm_st hf
              have hf := nm_st hf
              refine weVX (As := [.ref (aK 15)]) (rest := []) ⟨hx, hb, hml, hown, hts⟩ (mX6_passWord l D cI cB cZ cO (aK 15) (aV 15) q q2 q3 q4 q5 _ fu z z_22 z3 z4 z5 (lt 15) hc_28) (cwV 1 hts gX6_readCondition_X6_passWord rfl rfl rfl (by decide +kernel) ⟨Nat.le_of_ble_eq_true rfl, Nat.le_of_ble_eq_true rfl⟩) (ET_ok _ _ _) ((hE.1 15).kept hS.2.1) hK hP hD hS hA (va_recv hK hP (ci := 5) (q0 := 0) rfl rfl) rfl hl.1 rfl (Nat.le_of_ble_eq_true rfl) dX6_readCondition_161 ⟨Nat.zero_le _, Nat.zero_le _⟩ (fun H locs hP hD hS => ?_)
              refine lv_if_eq (tgt := 187) hx hb dX6_readCondition_164 (by decide) (fun c_164 => ?_) (fun c_164 => ?_)
              · have hf := ip c_164 hf
                refine lv_aload_n hx hb dX6_readCondition_187 rfl (lv_at hl 0 rfl) ?_
                refine va_ldcS hx hb hown (EL_s16 hE) dX6_readCondition_188 ?_
                obtain ⟨⟨r_29, z_30⟩, hc_32, hf⟩ := bd_ob hf
                have hf := nm_st hf
                have hf := nm_st hf
                refine weVX (As := [.ref (aK 16)]) (rest := []) ⟨hx, hb, hml, hown, hts⟩ (mX6_passWord l D cI cB cZ cO (aK 16) (aV 16) q q2 q3 q4 q5 _ fu z z_26 z3 z4 z5 (lt 16) hc_32) (cwV 1 hts gX6_readCondition_X6_passWord rfl rfl rfl (by decide +kernel) ⟨Nat.le_of_ble_eq_true rfl, Nat.le_of_ble_eq_true rfl⟩) (ET_ok _ _ _) ((hE.1 16).kept hS.2.1) hK hP hD hS hA (va_recv hK hP (ci := 5) (q0 := 0) rfl rfl) rfl hl.1 rfl (Nat.le_of_ble_eq_true rfl) dX6_readCondition_190 ⟨Nat.zero_le _, Nat.zero_le _⟩ (fun H locs hP hD hS => ?_)
                refine lv_if_eq (tgt := 229) hx hb dX6_readCondition_193 (by decide) (fun c_193 => ?_) (fun c_193 => ?_)
                · have hf := ip c_193 hf
                  refine lv_aload_n hx hb dX6_readCondition_229 rfl (lv_at hl 0 rfl) ?_
                  refine va_ldcS hx hb hown (EL_s17 hE) dX6_readCondition_230 ?_
                  obtain ⟨⟨r_33, z_34⟩, hc_36, hf⟩ := bd_ob hf
                  have hf := nm_st hf
                  have hf := nm_st hf
                  refine weVX (As := [.ref (aK 17)]) (rest := []) ⟨hx, hb, hml, hown, hts⟩ (mX6_passWord l D cI cB cZ cO (aK 17) (aV 17) q q2 q3 q4 q5 _ fu z z_30 z3 z4 z5 (lt 17) hc_36) (cwV 1 hts gX6_readCondition_X6_passWord rfl rfl rfl (by decide +kernel) ⟨Nat.le_of_ble_eq_true rfl, Nat.le_of_ble_eq_true rfl⟩) (ET_ok _ _ _) ((hE.1 17).kept hS.2.1) hK hP hD hS hA (va_recv hK hP (ci := 5) (q0 := 0) rfl rfl) rfl hl.1 rfl (Nat.le_of_ble_eq_true rfl) dX6_readCondition_232 ⟨Nat.zero_le _, Nat.zero_le _⟩ (fun H locs hP hD hS => ?_)
                  refine lv_if_eq (tgt := 272) hx hb dX6_readCondition_235 (by decide) (fun c_235 => ?_) (fun c_235 => ?_)
                  · have hf := ip c_235 hf
                    refine lv_aload_n hx hb dX6_readCondition_272 rfl (lv_at hl 0 rfl) ?_
                    refine lv_iconst (v := 1) hx hb dX6_readCondition_273 (by decide) ?_
                    refine lv_aload_n hx hb dX6_readCondition_274 rfl (lv_at hl 0 rfl) ?_
                    refine va_get (D := D) (ci := 5) (v := .ref (q2 0)) (C := RX6) (T := TX6) (N := 9) hx hb hts hiX6 hown hK hP 0 rfl rfl 0 (by decide) k12 (fun _ h9 => h9) rfl dX6_readCondition_275 ?_
                    refine va_get (D := D) (ci := 6) (v := .int (z_34.1 3)) (C := RX7) (T := TX7) (N := 5) hx hb hts hiX7 hown hK hP 1 rfl rfl 3 (by decide) k67 (fun _ h9 => h9) rfl dX6_readCondition_278 ?_
                    obtain ⟨z_37, hc_38, hf⟩ := bd_ob hf
                    refine weV (As := [.int (1 : Int32), .int (z_34.1 3)]) (rest := []) ⟨hx, hb, hml, hown, hts⟩ (mX6_fail l D cI cB cZ cO q q2 q3 q4 q5 _ fu z z_34 z3 z4 z5 (1 : Int32) (z_34.1 3) hc_38) (cwV 2 hts gX6_readCondition_X6_fail rfl rfl rfl (by decide +kernel) ⟨Nat.le_of_ble_eq_true rfl, Nat.le_of_ble_eq_true rfl⟩) hK hP hD hS hA (va_recv hK hP (ci := 5) (q0 := 0) rfl rfl) rfl hl.1 rfl (Nat.le_of_ble_eq_true rfl) dX6_readCondition_281 ⟨Nat.zero_le _, Nat.zero_le _⟩ (fun H locs hP hD hS => ?_)
                    refine lv_iconst (v := 0) hx hb dX6_readCondition_284 (by decide) ?_
                    obtain ⟨hz, hf⟩ := gd_ob hf
                    exact rW_z hx hb hr hlocks hP hD hS hz (congrArg (fun q9 => q9.1) (so_ob hf)) (congrArg (fun (q9 : Int32 × (OS) × (OS) × (OS)) => wS q (q2 0) (q3 0) (q4 0) (q5 0) q9.2.1 ++ wT cB q2 q9.2.2.1 ++ wC cI q3 z3 ++ wA q4 z4 ++ wP q5 q9.2.2.2) (so_ob hf)) dX6_readCondition_285
                  · have hf := iq c_235 hf
                    refine lv_aload_n hx hb dX6_readCondition_238 rfl (lv_at hl 0 rfl) ?_
                    obtain ⟨⟨r_39, z_40, z_41⟩, hc_43, hf⟩ := bd_ob hf
                    have hf := nm_st hf
                    have hf := nm_st hf
                    have hf := nm_st hf
                    refine weV (As := []) (rest := []) ⟨hx, hb, hml, hown, hts⟩ (mX6_readClauseNumber l D cI cB cZ cO q q2 q3 q4 q5 _ fu z z_34 z3 z4 z5 hc_43) (cwV 0 hts gX6_readCondition_X6_readClauseNumber rfl rfl rfl (by decide +kernel) ⟨Nat.le_of_ble_eq_true rfl, Nat.le_of_ble_eq_true rfl⟩) hK hP hD hS hA (va_recv hK hP (ci := 5) (q0 := 0) rfl rfl) rfl hl.1 rfl (Nat.le_of_ble_eq_true rfl) dX6_readCondition_239 ⟨Nat.zero_le _, Nat.zero_le _⟩ (fun H locs hP hD hS => ?_)
                    refine lv_istore_n (lv' := [(1, .int r_39), (0, .ref (q 0))]) hx hb dX6_readCondition_242 rfl hl (by decide) rfl (fun ls hl => ?_)
                    refine lv_aload_n hx hb dX6_readCondition_243 rfl (lv_at hl 1 rfl) ?_
                    obtain ⟨⟨r_44, z_45, z_46⟩, hc_48, hf⟩ := bd_ob hf
                    have hf := nm_st hf
                    have hf := nm_st hf
                    have hf := nm_st hf
                    refine weV (As := []) (rest := []) ⟨hx, hb, hml, hown, hts⟩ (mX6_readValue l D cI cB cZ cO q q2 q3 q4 q5 _ fu z_40 z_41 z3 z4 z5 hc_48) (cwV 0 hts gX6_readCondition_X6_readValue rfl rfl rfl (by decide +kernel) ⟨Nat.le_of_ble_eq_true rfl, Nat.le_of_ble_eq_true rfl⟩) hK hP hD hS hA (va_recv hK hP (ci := 5) (q0 := 0) rfl rfl) rfl hl.1 rfl (Nat.le_of_ble_eq_true rfl) dX6_readCondition_244 ⟨Nat.zero_le _, Nat.zero_le _⟩ (fun H locs hP hD hS => ?_)
                    refine lv_istore_n (lv' := [(2, .int r_44), (1, .int r_39), (0, .ref (q 0))]) hx hb dX6_readCondition_247 rfl hl (by decide) rfl (fun ls hl => ?_)
                    refine lv_iload_n hx hb dX6_readCondition_248 rfl (lv_at hl 1 rfl) ?_
                    refine lv_iconst (v := (-1)) hx hb dX6_readCondition_249 (by decide) ?_
                    refine lv_icmp_eq (tgt := 270) hx hb dX6_readCondition_250 (by decide) (fun c_250 => ?_) (fun c_250 => ?_)
                    · have hf := ip c_250 hf
                      refine lv_iconst (v := 0) hx hb dX6_readCondition_270 (by decide) ?_
                      obtain ⟨hz, hf⟩ := gd_ob hf
                      exact rW_z hx hb hr hlocks hP hD hS hz (congrArg (fun q9 => q9.1) (so_ob hf)) (congrArg (fun (q9 : Int32 × (OS) × (OS) × (OS)) => wS q (q2 0) (q3 0) (q4 0) (q5 0) q9.2.1 ++ wT cB q2 q9.2.2.1 ++ wC cI q3 z3 ++ wA q4 z4 ++ wP q5 q9.2.2.2) (so_ob hf)) dX6_readCondition_271
                    · have hf := iq c_250 hf
                      refine lv_aload_n hx hb dX6_readCondition_253 rfl (lv_at hl 2 rfl) ?_
                      refine va_get (D := D) (ci := 5) (v := .ref (q3 0)) (C := RX6) (T := TX6) (N := 9) hx hb hts hiX6 hown hK hP 0 rfl rfl 1 (by decide) k21 (fun _ h9 => h9) rfl dX6_readCondition_254 ?_
                      refine va_get (D := D) (ci := 0) (v := .ref (q3 6)) (C := RX0) (T := TX0) (N := 8) hx hb hts hiX0 hown hK hP 3 rfl rfl 5 (by decide) k228 (fun _ h9 => h9) rfl dX6_readCondition_257 ?_
                      refine lv_iload_n hx hb dX6_readCondition_260 rfl (lv_at hl 1 rfl) ?_
                      obtain ⟨hi_, hf⟩ := gd_ob hf
                      refine va_iald hx hb hK hP 9 0 rfl rfl (inB_in hi_) dX6_readCondition_261 ?_
                      refine lv_iload_n hx hb dX6_readCondition_262 rfl (lv_at hl 0 rfl) ?_
                      refine lv_icmp_ne (tgt := 270) hx hb dX6_readCondition_263 (by decide) (fun c_263 => ?_) (fun c_263 => ?_)
                      · have hf := ip c_263 hf
                        refine lv_iconst (v := 0) hx hb dX6_readCondition_270 (by decide) ?_
                        obtain ⟨hz, hf⟩ := gd_ob hf
                        exact rW_z hx hb hr hlocks hP hD hS hz (congrArg (fun q9 => q9.1) (so_ob hf)) (congrArg (fun (q9 : Int32 × (OS) × (OS) × (OS)) => wS q (q2 0) (q3 0) (q4 0) (q5 0) q9.2.1 ++ wT cB q2 q9.2.2.1 ++ wC cI q3 z3 ++ wA q4 z4 ++ wP q5 q9.2.2.2) (so_ob hf)) dX6_readCondition_271
                      · have hf := iqn c_263 hf
                        refine lv_iconst (v := 1) hx hb dX6_readCondition_266 (by decide) ?_
                        refine lv_goto (tgt := 271) hx hb dX6_readCondition_267 (by decide) ?_
                        obtain ⟨hz, hf⟩ := gd_ob hf
                        exact rW_z hx hb hr hlocks hP hD hS hz (congrArg (fun q9 => q9.1) (so_ob hf)) (congrArg (fun (q9 : Int32 × (OS) × (OS) × (OS)) => wS q (q2 0) (q3 0) (q4 0) (q5 0) q9.2.1 ++ wT cB q2 q9.2.2.1 ++ wC cI q3 z3 ++ wA q4 z4 ++ wP q5 q9.2.2.2) (so_ob hf)) dX6_readCondition_271
                · have hf := iq c_193 hf
                  refine lv_aload_n hx hb dX6_readCondition_196 rfl (lv_at hl 0 rfl) ?_
                  obtain ⟨⟨r_49, z_50, z_51⟩, hc_53, hf⟩ := bd_ob hf
                  have hf := nm_st hf
                  have hf := nm_st hf
                  have hf := nm_st hf
                  refine weV (As := []) (rest := []) ⟨hx, hb, hml, hown, hts⟩ (mX6_readClauseNumber l D cI cB cZ cO q q2 q3 q4 q5 _ fu z z_30 z3 z4 z5 hc_53) (cwV 0 hts gX6_readCondition_X6_readClauseNumber rfl rfl rfl (by decide +kernel) ⟨Nat.le_of_ble_eq_true rfl, Nat.le_of_ble_eq_true rfl⟩) hK hP hD hS hA (va_recv hK hP (ci := 5) (q0 := 0) rfl rfl) rfl hl.1 rfl (Nat.le_of_ble_eq_true rfl) dX6_readCondition_197 ⟨Nat.zero_le _, Nat.zero_le _⟩ (fun H locs hP hD hS => ?_)
                  refine lv_istore_n (lv' := [(1, .int r_49), (0, .ref (q 0))]) hx hb dX6_readCondition_200 rfl hl (by decide) rfl (fun ls hl => ?_)
                  refine lv_aload_n hx hb dX6_readCondition_201 rfl (lv_at hl 1 rfl) ?_
                  obtain ⟨⟨r_54, z_55, z_56⟩, hc_58, hf⟩ := bd_ob hf
                  have hf := nm_st hf
                  have hf := nm_st hf
                  have hf := nm_st hf
                  refine weV (As := []) (rest := []) ⟨hx, hb, hml, hown, hts⟩ (mX6_readValue l D cI cB cZ cO q q2 q3 q4 q5 _ fu z_50 z_51 z3 z4 z5 hc_58) (cwV 0 hts gX6_readCondition_X6_readValue rfl rfl rfl (by decide +kernel) ⟨Nat.le_of_ble_eq_true rfl, Nat.le_of_ble_eq_true rfl⟩) hK hP hD hS hA (va_recv hK hP (ci := 5) (q0 := 0) rfl rfl) rfl hl.1 rfl (Nat.le_of_ble_eq_true rfl) dX6_readCondition_202 ⟨Nat.zero_le _, Nat.zero_le _⟩ (fun H locs hP hD hS => ?_)
                  refine lv_istore_n (lv' := [(2, .int r_54), (1, .int r_49), (0, .ref (q 0))]) hx hb dX6_readCondition_205 rfl hl (by decide) rfl (fun ls hl => ?_)
                  refine lv_iload_n hx hb dX6_readCondition_206 rfl (lv_at hl 1 rfl) ?_
                  refine lv_iconst (v := (-1)) hx hb dX6_readCondition_207 (by decide) ?_
                  refine lv_icmp_eq (tgt := 227) hx hb dX6_readCondition_208 (by decide) (fun c_208 => ?_) (fun c_208 => ?_)
                  · have hf := ip c_208 hf
                    refine lv_iconst (v := 0) hx hb dX6_readCondition_227 (by decide) ?_
                    obtain ⟨hz, hf⟩ := gd_ob hf
                    exact rW_z hx hb hr hlocks hP hD hS hz (congrArg (fun q9 => q9.1) (so_ob hf)) (congrArg (fun (q9 : Int32 × (OS) × (OS) × (OS)) => wS q (q2 0) (q3 0) (q4 0) (q5 0) q9.2.1 ++ wT cB q2 q9.2.2.1 ++ wC cI q3 z3 ++ wA q4 z4 ++ wP q5 q9.2.2.2) (so_ob hf)) dX6_readCondition_228
                  · have hf := iq c_208 hf
                    refine lv_aload_n hx hb dX6_readCondition_211 rfl (lv_at hl 2 rfl) ?_
                    refine va_get (D := D) (ci := 5) (v := .ref (q3 0)) (C := RX6) (T := TX6) (N := 9) hx hb hts hiX6 hown hK hP 0 rfl rfl 1 (by decide) k21 (fun _ h9 => h9) rfl dX6_readCondition_212 ?_
                    refine lv_iload_n hx hb dX6_readCondition_215 rfl (lv_at hl 1 rfl) ?_
                    obtain ⟨r_59, hc_60, hf⟩ := bd_ob hf
                    refine rdV (As := [.int r_49]) (rest := []) ⟨hx, hb, hml, hown, hts⟩ (mX0_literalsIn l D cI cB cZ cO q3 fu z3 r_49 hc_60) (cwV 1 hts gX6_readCondition_X0_literalsIn rfl rfl rfl (by decide +kernel) ⟨Nat.le_of_ble_eq_true rfl, Nat.le_of_ble_eq_true rfl⟩) hK (hP.sub [3, 4, 5, 6, 7, 8, 9] rfl) (va_recv hK hP (ci := 0) (q0 := 3) rfl rfl) rfl hl.1 rfl (Nat.le_of_ble_eq_true rfl) dX6_readCondition_216 ⟨Nat.zero_le _, Nat.zero_le _⟩ ?_
                    refine lv_iload_n hx hb dX6_readCondition_219 rfl (lv_at hl 0 rfl) ?_
                    refine lv_icmp_ne (tgt := 227) hx hb dX6_readCondition_220 (by decide) (fun c_220 => ?_) (fun c_220 => ?_)
                    · have hf := ip c_220 hf
                      refine lv_iconst (v := 0) hx hb dX6_readCondition_227 (by decide) ?_
                      obtain ⟨hz, hf⟩ := gd_ob hf
                      exact rW_z hx hb hr hlocks hP hD hS hz (congrArg (fun q9 => q9.1) (so_ob hf)) (congrArg (fun (q9 : Int32 × (OS) × (OS) × (OS)) => wS q (q2 0) (q3 0) (q4 0) (q5 0) q9.2.1 ++ wT cB q2 q9.2.2.1 ++ wC cI q3 z3 ++ wA q4 z4 ++ wP q5 q9.2.2.2) (so_ob hf)) dX6_readCondition_228
                    · have hf := iqn c_220 hf
                      refine lv_iconst (v := 1) hx hb dX6_readCondition_223 (by decide) ?_
                      refine lv_goto (tgt := 228) hx hb dX6_readCondition_224 (by decide) ?_
                      obtain ⟨hz, hf⟩ := gd_ob hf
                      exact rW_z hx hb hr hlocks hP hD hS hz (congrArg (fun q9 => q9.1) (so_ob hf)) (congrArg (fun (q9 : Int32 × (OS) × (OS) × (OS)) => wS q (q2 0) (q3 0) (q4 0) (q5 0) q9.2.1 ++ wT cB q2 q9.2.2.1 ++ wC cI q3 z3 ++ wA q4 z4 ++ wP q5 q9.2.2.2) (so_ob hf)) dX6_readCondition_228
              · have hf := iq c_164 hf
                refine lv_aload_n hx hb dX6_readCondition_167 rfl (lv_at hl 0 rfl) ?_
                obtain ⟨⟨r_61, z_62, z_63⟩, hc_65, hf⟩ := bd_ob hf
                have hf := nm_st hf
                have hf := nm_st hf
                have hf := nm_st hf
                refine weV (As := []) (rest := []) ⟨hx, hb, hml, hown, hts⟩ (mX6_readValue l D cI cB cZ cO q q2 q3 q4 q5 _ fu z z_26 z3 z4 z5 hc_65) (cwV 0 hts gX6_readCondition_X6_readValue rfl rfl rfl (by decide +kernel) ⟨Nat.le_of_ble_eq_true rfl, Nat.le_of_ble_eq_true rfl⟩) hK hP hD hS hA (va_recv hK hP (ci := 5) (q0 := 0) rfl rfl) rfl hl.1 rfl (Nat.le_of_ble_eq_true rfl) dX6_readCondition_168 ⟨Nat.zero_le _, Nat.zero_le _⟩ (fun H locs hP hD hS => ?_)
                refine lv_aload_n hx hb dX6_readCondition_171 rfl (lv_at hl 0 rfl) ?_
                refine va_get (D := D) (ci := 5) (v := .ref (q3 0)) (C := RX6) (T := TX6) (N := 9) hx hb hts hiX6 hown hK hP 0 rfl rfl 1 (by decide) k21 (fun _ h9 => h9) rfl dX6_readCondition_172 ?_
                obtain ⟨r_66, hc_67, hf⟩ := bd_ob hf
                refine rdV (As := []) (rest := [.int r_61]) ⟨hx, hb, hml, hown, hts⟩ (mX0_countSubsumed l D cI cB cZ cO q3 fu z3 hc_67) (cwV 0 hts gX6_readCondition_X0_countSubsumed rfl rfl rfl (by decide +kernel) ⟨Nat.le_of_ble_eq_true rfl, Nat.le_of_ble_eq_true rfl⟩) hK (hP.sub [3, 4, 5, 6, 7, 8, 9] rfl) (va_recv hK hP (ci := 0) (q0 := 3) rfl rfl) rfl hl.1 rfl (Nat.le_of_ble_eq_true rfl) dX6_readCondition_175 ⟨Nat.zero_le _, Nat.zero_le _⟩ ?_
                refine lv_icmp_ne (tgt := 185) hx hb dX6_readCondition_178 (by decide) (fun c_178 => ?_) (fun c_178 => ?_)
                · have hf := ip c_178 hf
                  refine lv_iconst (v := 0) hx hb dX6_readCondition_185 (by decide) ?_
                  obtain ⟨hz, hf⟩ := gd_ob hf
                  exact rW_z hx hb hr hlocks hP hD hS hz (congrArg (fun q9 => q9.1) (so_ob hf)) (congrArg (fun (q9 : Int32 × (OS) × (OS) × (OS)) => wS q (q2 0) (q3 0) (q4 0) (q5 0) q9.2.1 ++ wT cB q2 q9.2.2.1 ++ wC cI q3 z3 ++ wA q4 z4 ++ wP q5 q9.2.2.2) (so_ob hf)) dX6_readCondition_186
                · have hf := iqn c_178 hf
                  refine lv_iconst (v := 1) hx hb dX6_readCondition_181 (by decide) ?_
                  refine lv_goto (tgt := 186) hx hb dX6_readCondition_182 (by decide) ?_
                  obtain ⟨hz, hf⟩ := gd_ob hf
                  exact rW_z hx hb hr hlocks hP hD hS hz (congrArg (fun q9 => q9.1) (so_ob hf)) (congrArg (fun (q9 : Int32 × (OS) × (OS) × (OS)) => wS q (q2 0) (q3 0) (q4 0) (q5 0) q9.2.1 ++ wT cB q2 q9.2.2.1 ++ wC cI q3 z3 ++ wA q4 z4 ++ wP q5 q9.2.2.2) (so_ob hf)) dX6_readCondition_186
            · have hf := iq c_150 hf
              refine lv_aload_n hx hb dX6_readCondition_153 rfl (lv_at hl 0 rfl) ?_
              obtain ⟨⟨r_68, z_69, z_70, z_71⟩, hc_73, hf⟩ := bd_ob hf
              have hf := nm_st hf
              have hf := nm_st hf
              have hf := nm_st hf
              have hf := nm_st hf
              refine weV (As := []) (rest := []) ⟨hx, hb, hml, hown, hts⟩ (mX6_readFixed l D cI cB cZ cO q q2 q3 q4 q5 _ fu z z_22 z3 z4 z5 hc_73) (cwV 0 hts gX6_readCondition_X6_readFixed rfl rfl rfl (by decide +kernel) ⟨Nat.le_of_ble_eq_true rfl, Nat.le_of_ble_eq_true rfl⟩) hK hP hD hS hA (va_recv hK hP (ci := 5) (q0 := 0) rfl rfl) rfl hl.1 rfl (Nat.le_of_ble_eq_true rfl) dX6_readCondition_154 ⟨Nat.zero_le _, Nat.zero_le _⟩ (fun H locs hP hD hS => ?_)
              obtain ⟨hz, hf⟩ := gd_ob hf
              exact rW_z hx hb hr hlocks hP hD hS hz (congrArg (fun q9 => q9.1) (so_ob hf)) (congrArg (fun (q9 : Int32 × (OS) × (OS) × (OS)) => wS q (q2 0) (q3 0) (q4 0) (q5 0) q9.2.1 ++ wT cB q2 q9.2.2.1 ++ wC cI q3 z3 ++ wA q4 z4 ++ wP q5 q9.2.2.2) (so_ob hf)) dX6_readCondition_157
          · have hf := iq c_120 hf
            refine lv_aload_n hx hb dX6_readCondition_123 rfl (lv_at hl 0 rfl) ?_
            obtain ⟨⟨z_74, z_75⟩, hc_77, hf⟩ := bd_ob hf
            have hf := nm_st hf
            have hf := nm_st hf
            refine weV (As := []) (rest := []) ⟨hx, hb, hml, hown, hts⟩ (mX6_readLiterals l D cI cB cZ cO q q2 q3 q4 q5 _ fu z z_18 z3 z4 z5 hc_77) (cwV 0 hts gX6_readCondition_X6_readLiterals rfl rfl rfl (by decide +kernel) ⟨Nat.le_of_ble_eq_true rfl, Nat.le_of_ble_eq_true rfl⟩) hK hP hD hS hA (va_recv hK hP (ci := 5) (q0 := 0) rfl rfl) rfl hl.1 rfl (Nat.le_of_ble_eq_true rfl) dX6_readCondition_124 ⟨Nat.zero_le _, Nat.zero_le _⟩ (fun H locs hP hD hS => ?_)
            refine lv_aload_n hx hb dX6_readCondition_127 rfl (lv_at hl 0 rfl) ?_
            refine va_get (D := D) (ci := 5) (v := .ref (q3 0)) (C := RX6) (T := TX6) (N := 9) hx hb hts hiX6 hown hK hP 0 rfl rfl 1 (by decide) k21 (fun _ h9 => h9) rfl dX6_readCondition_128 ?_
            refine lv_aload_n hx hb dX6_readCondition_131 rfl (lv_at hl 0 rfl) ?_
            refine va_get (D := D) (ci := 5) (v := .int (z_74.1 7)) (C := RX6) (T := TX6) (N := 9) hx hb hts hiX6 hown hK hP 0 rfl rfl 7 (by decide) k49 (fun _ h9 => h9) rfl dX6_readCondition_132 ?_
            refine lv_aload_n hx hb dX6_readCondition_135 rfl (lv_at hl 0 rfl) ?_
            refine va_get (D := D) (ci := 5) (v := .int (z_74.1 8)) (C := RX6) (T := TX6) (N := 9) hx hb hts hiX6 hown hK hP 0 rfl rfl 8 (by decide) k52 (fun _ h9 => h9) rfl dX6_readCondition_136 ?_
            refine lv_iconst (v := (-1)) hx hb dX6_readCondition_139 (by decide) ?_
            obtain ⟨r_78, hc_79, hf⟩ := bd_ob hf
            refine rdS (As := [.ref (q3 0), .int (z_74.1 7), .int (z_74.1 8), .int (-1 : Int32)]) (rest := []) ⟨hx, hb, hml, hown, hts⟩ (mX2_imply l D cI cB cZ cO q3 fu z3 (z_74.1 7) (z_74.1 8) (-1 : Int32) hc_79) (va_cwS 4 hts gX6_readCondition_X2_imply rfl rfl rfl (by decide +kernel) ⟨Nat.le_of_ble_eq_true rfl, Nat.le_of_ble_eq_true rfl⟩) hK (hP.sub [3, 4, 5, 6, 7, 8, 9] rfl)  rfl hl.1 rfl (Nat.le_of_ble_eq_true rfl) dX6_readCondition_140 ⟨Nat.zero_le _, Nat.zero_le _⟩ ?_
            obtain ⟨hz, hf⟩ := gd_ob hf
            exact rW_z hx hb hr hlocks hP hD hS hz (congrArg (fun q9 => q9.1) (so_ob hf)) (congrArg (fun (q9 : Int32 × (OS) × (OS) × (OS)) => wS q (q2 0) (q3 0) (q4 0) (q5 0) q9.2.1 ++ wT cB q2 q9.2.2.1 ++ wC cI q3 z3 ++ wA q4 z4 ++ wP q5 q9.2.2.2) (so_ob hf)) dX6_readCondition_143
        · have hf := iq c_92 hf
          refine lv_aload_n hx hb dX6_readCondition_95 rfl (lv_at hl 0 rfl) ?_
          refine va_get (D := D) (ci := 5) (v := .ref (q3 0)) (C := RX6) (T := TX6) (N := 9) hx hb hts hiX6 hown hK hP 0 rfl rfl 1 (by decide) k21 (fun _ h9 => h9) rfl dX6_readCondition_96 ?_
          refine lv_iconst (v := 0) hx hb dX6_readCondition_99 (by decide) ?_
          refine lv_iconst (v := 0) hx hb dX6_readCondition_100 (by decide) ?_
          obtain ⟨r_80, hc_81, hf⟩ := bd_ob hf
          refine rdV (As := [.int (0 : Int32), .int (0 : Int32)]) (rest := []) ⟨hx, hb, hml, hown, hts⟩ (mX0_indexOf l D cI cB cZ cO q3 fu z3 (0 : Int32) (0 : Int32) hc_81) (cwV 2 hts gX6_readCondition_X0_indexOf rfl rfl rfl (by decide +kernel) ⟨Nat.le_of_ble_eq_true rfl, Nat.le_of_ble_eq_true rfl⟩) hK (hP.sub [3, 4, 5, 6, 7, 8, 9] rfl) (va_recv hK hP (ci := 0) (q0 := 3) rfl rfl) rfl hl.1 rfl (Nat.le_of_ble_eq_true rfl) dX6_readCondition_101 ⟨Nat.zero_le _, Nat.zero_le _⟩ ?_
          refine lv_iconst (v := (-1)) hx hb dX6_readCondition_104 (by decide) ?_
          refine lv_icmp_ne (tgt := 112) hx hb dX6_readCondition_105 (by decide) (fun c_105 => ?_) (fun c_105 => ?_)
          · have hf := ip c_105 hf
            refine lv_iconst (v := 0) hx hb dX6_readCondition_112 (by decide) ?_
            obtain ⟨hz, hf⟩ := gd_ob hf
            exact rW_z hx hb hr hlocks hP hD hS hz (congrArg (fun q9 => q9.1) (so_ob hf)) (congrArg (fun (q9 : Int32 × (OS) × (OS) × (OS)) => wS q (q2 0) (q3 0) (q4 0) (q5 0) q9.2.1 ++ wT cB q2 q9.2.2.1 ++ wC cI q3 z3 ++ wA q4 z4 ++ wP q5 q9.2.2.2) (so_ob hf)) dX6_readCondition_113
          · have hf := iqn c_105 hf
            refine lv_iconst (v := 1) hx hb dX6_readCondition_108 (by decide) ?_
            refine lv_goto (tgt := 113) hx hb dX6_readCondition_109 (by decide) ?_
            obtain ⟨hz, hf⟩ := gd_ob hf
            exact rW_z hx hb hr hlocks hP hD hS hz (congrArg (fun q9 => q9.1) (so_ob hf)) (congrArg (fun (q9 : Int32 × (OS) × (OS) × (OS)) => wS q (q2 0) (q3 0) (q4 0) (q5 0) q9.2.1 ++ wT cB q2 q9.2.2.1 ++ wC cI q3 z3 ++ wA q4 z4 ++ wP q5 q9.2.2.2) (so_ob hf)) dX6_readCondition_113
      · have hf := iq c_64 hf
        refine lv_aload_n hx hb dX6_readCondition_67 rfl (lv_at hl 0 rfl) ?_
        refine va_get (D := D) (ci := 5) (v := .ref (q3 0)) (C := RX6) (T := TX6) (N := 9) hx hb hts hiX6 hown hK hP 0 rfl rfl 1 (by decide) k21 (fun _ h9 => h9) rfl dX6_readCondition_68 ?_
        refine lv_iconst (v := 0) hx hb dX6_readCondition_71 (by decide) ?_
        refine lv_iconst (v := 0) hx hb dX6_readCondition_72 (by decide) ?_
        obtain ⟨r_82, hc_83, hf⟩ := bd_ob hf
        refine rdV (As := [.int (0 : Int32), .int (0 : Int32)]) (rest := []) ⟨hx, hb, hml, hown, hts⟩ (mX0_indexOf l D cI cB cZ cO q3 fu z3 (0 : Int32) (0 : Int32) hc_83) (cwV 2 hts gX6_readCondition_X0_indexOf rfl rfl rfl (by decide +kernel) ⟨Nat.le_of_ble_eq_true rfl, Nat.le_of_ble_eq_true rfl⟩) hK (hP.sub [3, 4, 5, 6, 7, 8, 9] rfl) (va_recv hK hP (ci := 0) (q0 := 3) rfl rfl) rfl hl.1 rfl (Nat.le_of_ble_eq_true rfl) dX6_readCondition_73 ⟨Nat.zero_le _, Nat.zero_le _⟩ ?_
        refine lv_iconst (v := (-1)) hx hb dX6_readCondition_76 (by decide) ?_
        refine lv_icmp_eq (tgt := 84) hx hb dX6_readCondition_77 (by decide) (fun c_77 => ?_) (fun c_77 => ?_)
        · have hf := ip c_77 hf
          refine lv_iconst (v := 0) hx hb dX6_readCondition_84 (by decide) ?_
          obtain ⟨hz, hf⟩ := gd_ob hf
          exact rW_z hx hb hr hlocks hP hD hS hz (congrArg (fun q9 => q9.1) (so_ob hf)) (congrArg (fun (q9 : Int32 × (OS) × (OS) × (OS)) => wS q (q2 0) (q3 0) (q4 0) (q5 0) q9.2.1 ++ wT cB q2 q9.2.2.1 ++ wC cI q3 z3 ++ wA q4 z4 ++ wP q5 q9.2.2.2) (so_ob hf)) dX6_readCondition_85
        · have hf := iq c_77 hf
          refine lv_iconst (v := 1) hx hb dX6_readCondition_80 (by decide) ?_
          refine lv_goto (tgt := 85) hx hb dX6_readCondition_81 (by decide) ?_
          obtain ⟨hz, hf⟩ := gd_ob hf
          exact rW_z hx hb hr hlocks hP hD hS hz (congrArg (fun q9 => q9.1) (so_ob hf)) (congrArg (fun (q9 : Int32 × (OS) × (OS) × (OS)) => wS q (q2 0) (q3 0) (q4 0) (q5 0) q9.2.1 ++ wT cB q2 q9.2.2.1 ++ wC cI q3 z3 ++ wA q4 z4 ++ wP q5 q9.2.2.2) (so_ob hf)) dX6_readCondition_85
    · have hf := iq c_35 hf
      refine lv_aload_n hx hb dX6_readCondition_38 rfl (lv_at hl 0 rfl) ?_
      obtain ⟨⟨r_84, z_85, z_86⟩, hc_88, hf⟩ := bd_ob hf
      have hf := nm_st hf
      have hf := nm_st hf
      have hf := nm_st hf
      refine weV (As := []) (rest := []) ⟨hx, hb, hml, hown, hts⟩ (mX6_readValue l D cI cB cZ cO q q2 q3 q4 q5 _ fu z z_6 z3 z4 z5 hc_88) (cwV 0 hts gX6_readCondition_X6_readValue rfl rfl rfl (by decide +kernel) ⟨Nat.le_of_ble_eq_true rfl, Nat.le_of_ble_eq_true rfl⟩) hK hP hD hS hA (va_recv hK hP (ci := 5) (q0 := 0) rfl rfl) rfl hl.1 rfl (Nat.le_of_ble_eq_true rfl) dX6_readCondition_39 ⟨Nat.zero_le _, Nat.zero_le _⟩ (fun H locs hP hD hS => ?_)
      refine lv_aload_n hx hb dX6_readCondition_42 rfl (lv_at hl 0 rfl) ?_
      refine va_get (D := D) (ci := 5) (v := .ref (q3 0)) (C := RX6) (T := TX6) (N := 9) hx hb hts hiX6 hown hK hP 0 rfl rfl 1 (by decide) k21 (fun _ h9 => h9) rfl dX6_readCondition_43 ?_
      obtain ⟨r_89, hc_90, hf⟩ := bd_ob hf
      refine rdS (As := [.ref (q3 0)]) (rest := [.int r_84]) ⟨hx, hb, hml, hown, hts⟩ (mX2_count l D cI cB cZ cO q3 fu z3 hc_90) (va_cwS 1 hts gX6_readCondition_X2_count rfl rfl rfl (by decide +kernel) ⟨Nat.le_of_ble_eq_true rfl, Nat.le_of_ble_eq_true rfl⟩) hK (hP.sub [3, 4, 5, 6, 7, 8, 9] rfl)  rfl hl.1 rfl (Nat.le_of_ble_eq_true rfl) dX6_readCondition_46 ⟨Nat.zero_le _, Nat.zero_le _⟩ ?_
      refine lv_icmp_ne (tgt := 56) hx hb dX6_readCondition_49 (by decide) (fun c_49 => ?_) (fun c_49 => ?_)
      · have hf := ip c_49 hf
        refine lv_iconst (v := 0) hx hb dX6_readCondition_56 (by decide) ?_
        obtain ⟨hz, hf⟩ := gd_ob hf
        exact rW_z hx hb hr hlocks hP hD hS hz (congrArg (fun q9 => q9.1) (so_ob hf)) (congrArg (fun (q9 : Int32 × (OS) × (OS) × (OS)) => wS q (q2 0) (q3 0) (q4 0) (q5 0) q9.2.1 ++ wT cB q2 q9.2.2.1 ++ wC cI q3 z3 ++ wA q4 z4 ++ wP q5 q9.2.2.2) (so_ob hf)) dX6_readCondition_57
      · have hf := iqn c_49 hf
        refine lv_iconst (v := 1) hx hb dX6_readCondition_52 (by decide) ?_
        refine lv_goto (tgt := 57) hx hb dX6_readCondition_53 (by decide) ?_
        obtain ⟨hz, hf⟩ := gd_ob hf
        exact rW_z hx hb hr hlocks hP hD hS hz (congrArg (fun q9 => q9.1) (so_ob hf)) (congrArg (fun (q9 : Int32 × (OS) × (OS) × (OS)) => wS q (q2 0) (q3 0) (q4 0) (q5 0) q9.2.1 ++ wT cB q2 q9.2.2.1 ++ wC cI q3 z3 ++ wA q4 z4 ++ wP q5 q9.2.2.2) (so_ob hf)) dX6_readCondition_57
  · have hf := iq c_6 hf
    refine lv_aload_n hx hb dX6_readCondition_9 rfl (lv_at hl 0 rfl) ?_
    obtain ⟨⟨r_91, z_92, z_93⟩, hc_95, hf⟩ := bd_ob hf
    have hf := nm_st hf
    have hf := nm_st hf
    have hf := nm_st hf
    refine weV (As := []) (rest := []) ⟨hx, hb, hml, hown, hts⟩ (mX6_readValue l D cI cB cZ cO q q2 q3 q4 q5 _ fu z z_2 z3 z4 z5 hc_95) (cwV 0 hts gX6_readCondition_X6_readValue rfl rfl rfl (by decide +kernel) ⟨Nat.le_of_ble_eq_true rfl, Nat.le_of_ble_eq_true rfl⟩) hK hP hD hS hA (va_recv hK hP (ci := 5) (q0 := 0) rfl rfl) rfl hl.1 rfl (Nat.le_of_ble_eq_true rfl) dX6_readCondition_10 ⟨Nat.zero_le _, Nat.zero_le _⟩ (fun H locs hP hD hS => ?_)
    refine lv_aload_n hx hb dX6_readCondition_13 rfl (lv_at hl 0 rfl) ?_
    refine va_get (D := D) (ci := 5) (v := .ref (q3 0)) (C := RX6) (T := TX6) (N := 9) hx hb hts hiX6 hown hK hP 0 rfl rfl 1 (by decide) k21 (fun _ h9 => h9) rfl dX6_readCondition_14 ?_
    refine va_get (D := D) (ci := 0) (v := .int (z3.1 7)) (C := RX0) (T := TX0) (N := 8) hx hb hts hiX0 hown hK hP 3 rfl rfl 7 (by decide) k190 (fun _ h9 => h9) rfl dX6_readCondition_17 ?_
    refine lv_icmp_ne (tgt := 27) hx hb dX6_readCondition_20 (by decide) (fun c_20 => ?_) (fun c_20 => ?_)
    · have hf := ip c_20 hf
      refine lv_iconst (v := 0) hx hb dX6_readCondition_27 (by decide) ?_
      obtain ⟨hz, hf⟩ := gd_ob hf
      exact rW_z hx hb hr hlocks hP hD hS hz (congrArg (fun q9 => q9.1) (so_ob hf)) (congrArg (fun (q9 : Int32 × (OS) × (OS) × (OS)) => wS q (q2 0) (q3 0) (q4 0) (q5 0) q9.2.1 ++ wT cB q2 q9.2.2.1 ++ wC cI q3 z3 ++ wA q4 z4 ++ wP q5 q9.2.2.2) (so_ob hf)) dX6_readCondition_28
    · have hf := iqn c_20 hf
      refine lv_iconst (v := 1) hx hb dX6_readCondition_23 (by decide) ?_
      refine lv_goto (tgt := 28) hx hb dX6_readCondition_24 (by decide) ?_
      obtain ⟨hz, hf⟩ := gd_ob hf
      exact rW_z hx hb hr hlocks hP hD hS hz (congrArg (fun q9 => q9.1) (so_ob hf)) (congrArg (fun (q9 : Int32 × (OS) × (OS) × (OS)) => wS q (q2 0) (q3 0) (q4 0) (q5 0) q9.2.1 ++ wT cB q2 q9.2.2.1 ++ wC cI q3 z3 ++ wA q4 z4 ++ wP q5 q9.2.2.2) (so_ob hf)) dX6_readCondition_28
def lX6_readCommands_2 (fu : Nat) (j234 : OS → OS → OS → OS → OS → Option ((OS) × (OS) × (OS) × (OS) × (OS))) : Nat → Int32 → OS → OS → OS → OS → OS → Option ((OS) × (OS) × (OS) × (OS) × (OS))
  | 0, _, _, _, _, _, _ => none
  | n_2 + 1, v1_2, z1_2, z2_2, z3_2, z4_2, z5_2 => (if (500 : Int32) ≤ v1_2 then j234 z1_2 z2_2 z3_2 z4_2 z5_2 else bd (fX6_isFailed fu z1_2 z2_2 z3_2 z4_2 z5_2) (fun (r_1 : Int32) => (if ¬ r_1 = (0 : Int32) then j234 z1_2 z2_2 z3_2 z4_2 z5_2 else (if (z2_2.1 2) = (0 : Int32) then j234 z1_2 z2_2 z3_2 z4_2 z5_2 else bd (fX7_isWord fu z2_2 (lt 1)) (fun (r_3 : Int32) => jn (κ := OS → OS → OS → OS → OS → Option ((OS) × (OS) × (OS) × (OS) × (OS))) (fun (z1_214 : OS) (z2_214 : OS) (z3_214 : OS) (z4_214 : OS) (z5_214 : OS) => bd (fX6_readSemicolon fu z1_214 z2_214 z3_214 z4_214 z5_214) (fun (w_7 : OS × OS) => nm w_7.1 (fun (z_5 : OS) => nm w_7.2 (fun (z_6 : OS) => nm (sI z_5 6 ((z_5.1 6) + (1 : Int32))) (fun (z_9 : OS) => nm (v1_2 + (1 : Int32)) (fun (v1_10 : Int32) => lX6_readCommands_2 fu j234 n_2 v1_10 z_9 z_6 z3_214 z4_214 z5_214)))))) (fun j214 => (if r_3 = (0 : Int32) then bd (fX7_isWord fu z2_2 (lt 2)) (fun (r_11 : Int32) => (if r_11 = (0 : Int32) then bd (fX7_isWord fu z2_2 (lt 3)) (fun (r_13 : Int32) => (if r_13 = (0 : Int32) then bd (fX7_isWord fu z2_2 (lt 4)) (fun (r_15 : Int32) => (if r_15 = (0 : Int32) then bd (fX7_isWord fu z2_2 (lt 5)) (fun (r_17 : Int32) => (if r_17 = (0 : Int32) then bd (fX7_isWord fu z2_2 (lt 6)) (fun (r_19 : Int32) => (if r_19 = (0 : Int32) then bd (fX7_isWord fu z2_2 (lt 7)) (fun (r_21 : Int32) => (if r_21 = (0 : Int32) then bd (fX7_isWord fu z2_2 (lt 8)) (fun (r_23 : Int32) => (if r_23 = (0 : Int32) then bd (fX6_fail fu z1_2 z2_2 z3_2 z4_2 z5_2 (1 : Int32) (z2_2.1 3)) (fun (z_25 : OS) => j214 z_25 z2_2 z3_2 z4_2 z5_2) else nm (z2_2.1 3) (fun (v2_27 : Int32) => bd (fX7_advance fu z2_2) (fun (z_28 : OS) => bd (fX6_readCondition fu z1_2 z_28 z3_2 z4_2 z5_2) (fun (w_34 : Int32 × OS × OS × OS) => nm w_34.1 (fun (r_30 : Int32) => nm w_34.2.1 (fun (z_31 : OS) => nm w_34.2.2.1 (fun (z_32 : OS) => nm w_34.2.2.2 (fun (z_33 : OS) => jn (κ := OS → Option ((OS) × (OS) × (OS) × (OS) × (OS))) (fun (z1_199 : OS) => j214 z1_199 z_32 z3_2 z4_2 z_33) (fun j199 => (if ¬ r_30 = (0 : Int32) then j199 z_31 else bd (fX6_fail fu z_31 z_32 z3_2 z4_2 z_33 (5 : Int32) v2_27) (fun (z_36 : OS) => j199 z_36)))))))))))) else bd (fX6_readReduce fu z1_2 z2_2 z3_2 z4_2 z5_2) (fun (w_40 : OS × OS) => nm w_40.1 (fun (z_38 : OS) => nm w_40.2 (fun (z_39 : OS) => j214 z1_2 z_38 z_39 z4_2 z5_2))))) else bd (fX6_readInvert fu z1_2 z2_2 z3_2 z4_2 z5_2) (fun (w_44 : OS × OS) => nm w_44.1 (fun (z_42 : OS) => nm w_44.2 (fun (z_43 : OS) => j214 z1_2 z_42 z_43 z4_2 z5_2))))) else bd (fX6_readNegate fu z1_2 z2_2 z3_2 z4_2 z5_2) (fun (w_49 : OS × OS × OS) => nm w_49.1 (fun (z_46 : OS) => nm w_49.2.1 (fun (z_47 : OS) => nm w_49.2.2 (fun (z_48 : OS) => j214 z_46 z_47 z_48 z4_2 z5_2)))))) else bd (fX6_readDrop fu z1_2 z2_2 z3_2 z4_2 z5_2) (fun (w_54 : OS × OS × OS) => nm w_54.1 (fun (z_51 : OS) => nm w_54.2.1 (fun (z_52 : OS) => nm w_54.2.2 (fun (z_53 : OS) => j214 z_51 z_52 z_53 z4_2 z5_2)))))) else bd (fX6_readSaturate fu z1_2 z2_2 z3_2 z4_2 z5_2) (fun (w_60 : OS × OS × OS × OS) => nm w_60.1 (fun (z_56 : OS) => nm w_60.2.1 (fun (z_57 : OS) => nm w_60.2.2.1 (fun (z_58 : OS) => nm w_60.2.2.2 (fun (z_59 : OS) => j214 z_56 z_57 z_58 z_59 z5_2))))))) else bd (fX6_readResolve fu z1_2 z2_2 z3_2 z4_2 z5_2) (fun (w_65 : OS × OS × OS) => nm w_65.1 (fun (z_62 : OS) => nm w_65.2.1 (fun (z_63 : OS) => nm w_65.2.2 (fun (z_64 : OS) => j214 z_62 z_63 z_64 z4_2 z5_2)))))) else bd (fX6_readClause fu z1_2 z2_2 z3_2 z4_2 z5_2) (fun (w_70 : OS × OS × OS) => nm w_70.1 (fun (z_67 : OS) => nm w_70.2.1 (fun (z_68 : OS) => nm w_70.2.2 (fun (z_69 : OS) => j214 z_67 z_68 z_69 z4_2 z5_2)))))))))))
def fX6_readCommands (fu : Nat) (z : OS) (z2 : OS) (z3 : OS) (z4 : OS) (z5 : OS) : Option ((OS) × (OS) × (OS) × (OS) × (OS)) :=
  jn (κ := OS → OS → OS → OS → OS → Option ((OS) × (OS) × (OS) × (OS) × (OS))) (fun (z1_234 : OS) (z2_234 : OS) (z3_234 : OS) (z4_234 : OS) (z5_234 : OS) => some (z1_234, z2_234, z3_234, z4_234, z5_234)) (fun j234 => lX6_readCommands_2 fu j234 fu (0 : Int32) z z2 z3 z4 z5)
set_option maxRecDepth 100000 in
set_option maxHeartbeats 4000000 in
theorem mX6_readCommands (l : Launch) (D : va_G) (cI cB cZ cO : ClassId) (aK aV : Nat → Nat) (q : Nat → Nat) (q2 : Nat → Nat) (q3 : Nat → Nat) (q4 : Nat → Nat) (q5 : Nat → Nat) (sz : Nat) (fu : Nat) (z : OS) (z2 : OS) (z3 : OS) (z4 : OS) (z5 : OS) {y1 : OS} {y2 : OS} {y3 : OS} {y4 : OS} {y5 : OS} (hf : fX6_readCommands fu z z2 z3 z4 z5 = some (y1, y2, y3, y4, y5)) : Met l yX6_readCommands wsX6_readCommands ({ frames := 7, cells := 0, slots := 0, locals := 151 }) (va_Pc [.ref (q 0)] (PwX (EL aK aV) D (gT cI cB cZ cO) (wS q (q2 0) (q3 0) (q4 0) (q5 0) z ++ wT cB q2 z2 ++ wC cI q3 z3 ++ wA q4 z4 ++ wP q5 z5) sz)) (Qw D (va_A (wS q (q2 0) (q3 0) (q4 0) (q5 0) z ++ wT cB q2 z2 ++ wC cI q3 z3 ++ wA q4 z4 ++ wP q5 z5) sz) none (wS q (q2 0) (q3 0) (q4 0) (q5 0) y1 ++ wT cB q2 y2 ++ wC cI q3 y3 ++ wA q4 y4 ++ wP q5 y5)) 0 0 (va_A (wS q (q2 0) (q3 0) (q4 0) (q5 0) z ++ wT cB q2 z2 ++ wC cI q3 z3 ++ wA q4 z4 ++ wP q5 z5) sz) := by
  unfold fX6_readCommands at hf
  refine metWX (ret := none) (own := RX6) rfl (by decide) rfl (Nat.le_of_ble_eq_true rfl) (fun p e s m args below meth c ls A hx hb hr hml hown hlocks hts hK hA hP hD hS hE hl => ?_)
  have k12 := (hts (.fieldLink RX6 12 "ResolutionProver$Script" "tokens" "LResolutionProver$Tokens;") (List.mem_of_getElem? (i := 1) rfl))
  have k91 := (hts (.fieldLink RX6 91 "ResolutionProver$Tokens" "kind" "I") (List.mem_of_getElem? (i := 2) rfl))
  have k46 := (hts (.fieldLink RX6 46 "ResolutionProver$Script" "commands" "I") (List.mem_of_getElem? (i := 4) rfl))
  have k67 := (hts (.fieldLink RX6 67 "ResolutionProver$Tokens" "start" "I") (List.mem_of_getElem? (i := 3) rfl))
  have hiX6 : ∀ w ∈ wsX60, w ∈ wsX6_readCommands := (memIn_p [327, 328, 329, 330, 331, 332, 333, 334, 335] rfl)
  have hiX7 : ∀ w ∈ wsX70, w ∈ wsX6_readCommands := (memIn_p [336, 337, 338, 339, 340] rfl)
  have hl : lv_has ls 3 [(0, .ref (q 0))] := hl
  refine lv_iconst (v := 0) hx hb dX6_readCommands_0 (by decide) ?_
  refine lv_istore_n (lv' := [(1, .int (0 : Int32)), (0, .ref (q 0))]) hx hb dX6_readCommands_1 rfl hl (by decide) rfl (fun ls hl => ?_)
  obtain ⟨j234, ej234, hf⟩ := jn_ob hf
  have hp234 : ∀ (z1_234 : OS) (z2_234 : OS) (z3_234 : OS) (z4_234 : OS) (z5_234 : OS) (H : Heap) (locs : List Loc) (ls : Array Slot), j234 z1_234 z2_234 z3_234 z4_234 z5_234 = some (y1, y2, y3, y4, y5) → va_P D vwCl (wS q (q2 0) (q3 0) (q4 0) (q5 0) z1_234 ++ wT cB q2 z2_234 ++ wC cI q3 z3_234 ++ wA q4 z4_234 ++ wP q5 z5_234) H → va_D A (wS q (q2 0) (q3 0) (q4 0) (q5 0) z1_234 ++ wT cB q2 z2_234 ++ wC cI q3 z3_234 ++ wA q4 z4_234 ++ wP q5 z5_234) → va_S A s.heap H locs → lv_has ls 3 [] → W p l e (headSpec wsX6_readCommands { frames := 7, cells := 0, slots := 0, locals := 151 }).room s m args below meth c H locs 0 0 (MQ below (Qw D A none (wS q (q2 0) (q3 0) (q4 0) (q5 0) y1 ++ wT cB q2 y2 ++ wC cI q3 y3 ++ wA q4 y4 ++ wP q5 y5)) args s 0 0 A) (F0 m 234 ls []) := by
    intro z1_234 z2_234 z3_234 z4_234 z5_234 H locs ls hf hP hD hS hl
    rw [ej234] at hf
    exact rW_v hx hb hr hlocks hP hD hS (congrArg (fun (q9 : (OS) × (OS) × (OS) × (OS) × (OS)) => wS q (q2 0) (q3 0) (q4 0) (q5 0) q9.1 ++ wT cB q2 q9.2.1 ++ wC cI q3 q9.2.2.1 ++ wA q4 q9.2.2.2.1 ++ wP q5 q9.2.2.2.2) (so_ob hf)) dX6_readCommands_234
  have hL2 : ∀ (n_2 : Nat) (v1_2 : Int32) (z1_2 : OS) (z2_2 : OS) (z3_2 : OS) (z4_2 : OS) (z5_2 : OS) (H : Heap) (locs : List Loc) (ls : Array Slot), lX6_readCommands_2 fu j234 n_2 v1_2 z1_2 z2_2 z3_2 z4_2 z5_2 = some (y1, y2, y3, y4, y5) → va_P D vwCl (wS q (q2 0) (q3 0) (q4 0) (q5 0) z1_2 ++ wT cB q2 z2_2 ++ wC cI q3 z3_2 ++ wA q4 z4_2 ++ wP q5 z5_2) H → va_D A (wS q (q2 0) (q3 0) (q4 0) (q5 0) z1_2 ++ wT cB q2 z2_2 ++ wC cI q3 z3_2 ++ wA q4 z4_2 ++ wP q5 z5_2) → va_S A s.heap H locs → lv_has ls 3 [(0, .ref (q 0)), (1, .int v1_2)] → W p l e (headSpec wsX6_readCommands { frames := 7, cells := 0, slots := 0, locals := 151 }).room s m args below meth c H locs 0 0 (MQ below (Qw D A none (wS q (q2 0) (q3 0) (q4 0) (q5 0) y1 ++ wT cB q2 y2 ++ wC cI q3 y3 ++ wA q4 y4 ++ wP q5 y5)) args s 0 0 A) (F0 m 2 ls []) := by
    intro n_2
    induction n_2 with
    | zero =>
      intro v1_2 z1_2 z2_2 z3_2 z4_2 z5_2 H locs ls hf
      exact no_ob hf
    | succ n_2 ih2 =>
      intro v1_2 z1_2 z2_2 z3_2 z4_2 z5_2 H locs ls hf hP hD hS hl
      rw [lX6_readCommands_2] at hf
      refine lv_iload_n hx hb dX6_readCommands_2 rfl (lv_at hl 1 rfl) ?_
      refine lv_sipush (v := 500) hx hb dX6_readCommands_3 (by decide) ?_
      refine lv_icmp_ge (tgt := 234) hx hb dX6_readCommands_6 (by decide) (fun c_6 => ?_) (fun c_6 => ?_)
      · have hf := ip c_6 hf
        exact hp234 z1_2 z2_2 z3_2 z4_2 z5_2 _ _ _ hf hP hD hS (lv_sub hl [] rfl)
      · have hf := iq c_6 hf
        refine lv_aload_n hx hb dX6_readCommands_9 rfl (lv_at hl 0 rfl) ?_
        obtain ⟨r_1, hc_2, hf⟩ := bd_ob hf
        refine rdV (As := []) (rest := []) ⟨hx, hb, hml, hown, hts⟩ (mX6_isFailed l D cI cB cZ cO q q2 q3 q4 q5 fu z1_2 z2_2 z3_2 z4_2 z5_2 hc_2) (cwV 0 hts gX6_readCommands_X6_isFailed rfl rfl rfl (by decide +kernel) ⟨Nat.le_of_ble_eq_true rfl, Nat.le_of_ble_eq_true rfl⟩) hK hP (va_recv hK hP (ci := 5) (q0 := 0) rfl rfl) rfl hl.1 rfl (Nat.le_of_ble_eq_true rfl) dX6_readCommands_10 ⟨Nat.zero_le _, Nat.zero_le _⟩ ?_
        refine lv_if_ne (tgt := 234) hx hb dX6_readCommands_13 (by decide) (fun c_13 => ?_) (fun c_13 => ?_)
        · have hf := ip c_13 hf
          exact hp234 z1_2 z2_2 z3_2 z4_2 z5_2 _ _ _ hf hP hD hS (lv_sub hl [] rfl)
        · have hf := iqn c_13 hf
          refine lv_aload_n hx hb dX6_readCommands_16 rfl (lv_at hl 0 rfl) ?_
          refine va_get (D := D) (ci := 5) (v := .ref (q2 0)) (C := RX6) (T := TX6) (N := 9) hx hb hts hiX6 hown hK hP 0 rfl rfl 0 (by decide) k12 (fun _ h9 => h9) rfl dX6_readCommands_17 ?_
          refine va_get (D := D) (ci := 6) (v := .int (z2_2.1 2)) (C := RX7) (T := TX7) (N := 5) hx hb hts hiX7 hown hK hP 1 rfl rfl 2 (by decide) k91 (fun _ h9 => h9) rfl dX6_readCommands_20 ?_
          refine lv_if_eq (tgt := 234) hx hb dX6_readCommands_23 (by decide) (fun c_23 => ?_) (fun c_23 => ?_)
          · have hf := ip c_23 hf
            exact hp234 z1_2 z2_2 z3_2 z4_2 z5_2 _ _ _ hf hP hD hS (lv_sub hl [] rfl)
          · have hf := iq c_23 hf
            refine lv_aload_n hx hb dX6_readCommands_26 rfl (lv_at hl 0 rfl) ?_
            refine va_get (D := D) (ci := 5) (v := .ref (q2 0)) (C := RX6) (T := TX6) (N := 9) hx hb hts hiX6 hown hK hP 0 rfl rfl 0 (by decide) k12 (fun _ h9 => h9) rfl dX6_readCommands_27 ?_
            refine va_ldcS hx hb hown (EL_s1 hE) dX6_readCommands_30 ?_
            obtain ⟨r_3, hc_4, hf⟩ := bd_ob hf
            refine rdVX (As := [.ref (aK 1)]) (rest := []) ⟨hx, hb, hml, hown, hts⟩ (mX7_isWord l D cI cB cZ cO (aK 1) (aV 1) q2 fu z2_2 (lt 1) hc_4) (cwV 1 hts gX6_readCommands_X7_isWord rfl rfl rfl (by decide +kernel) ⟨Nat.le_of_ble_eq_true rfl, Nat.le_of_ble_eq_true rfl⟩) (ET_ok _ _ _) ((hE.1 1).kept hS.2.1) hK (hP.sub [1, 2] rfl) (va_recv hK hP (ci := 6) (q0 := 1) rfl rfl) rfl hl.1 rfl (Nat.le_of_ble_eq_true rfl) dX6_readCommands_32 ⟨Nat.zero_le _, Nat.zero_le _⟩ ?_
            obtain ⟨j214, ej214, hf⟩ := jn_ob hf
            have hp214 : ∀ (z1_214 : OS) (z2_214 : OS) (z3_214 : OS) (z4_214 : OS) (z5_214 : OS) (H : Heap) (locs : List Loc) (ls : Array Slot), j214 z1_214 z2_214 z3_214 z4_214 z5_214 = some (y1, y2, y3, y4, y5) → va_P D vwCl (wS q (q2 0) (q3 0) (q4 0) (q5 0) z1_214 ++ wT cB q2 z2_214 ++ wC cI q3 z3_214 ++ wA q4 z4_214 ++ wP q5 z5_214) H → va_D A (wS q (q2 0) (q3 0) (q4 0) (q5 0) z1_214 ++ wT cB q2 z2_214 ++ wC cI q3 z3_214 ++ wA q4 z4_214 ++ wP q5 z5_214) → va_S A s.heap H locs → lv_has ls 3 [(0, .ref (q 0)), (1, .int v1_2)] → W p l e (headSpec wsX6_readCommands { frames := 7, cells := 0, slots := 0, locals := 151 }).room s m args below meth c H locs 0 0 (MQ below (Qw D A none (wS q (q2 0) (q3 0) (q4 0) (q5 0) y1 ++ wT cB q2 y2 ++ wC cI q3 y3 ++ wA q4 y4 ++ wP q5 y5)) args s 0 0 A) (F0 m 214 ls []) := by
              intro z1_214 z2_214 z3_214 z4_214 z5_214 H locs ls hf hP hD hS hl
              rw [ej214] at hf
              refine lv_aload_n hx hb dX6_readCommands_214 rfl (lv_at hl 0 rfl) ?_
              obtain ⟨⟨z_5, z_6⟩, hc_8, hf⟩ := bd_ob hf
              have hf := nm_st hf
              have hf := nm_st hf
              refine weV (As := []) (rest := []) ⟨hx, hb, hml, hown, hts⟩ (mX6_readSemicolon l D cI cB cZ cO q q2 q3 q4 q5 _ fu z1_214 z2_214 z3_214 z4_214 z5_214 hc_8) (cwV 0 hts gX6_readCommands_X6_readSemicolon rfl rfl rfl (by decide +kernel) ⟨Nat.le_of_ble_eq_true rfl, Nat.le_of_ble_eq_true rfl⟩) hK hP hD hS hA (va_recv hK hP (ci := 5) (q0 := 0) rfl rfl) rfl hl.1 rfl (Nat.le_of_ble_eq_true rfl) dX6_readCommands_215 ⟨Nat.zero_le _, Nat.zero_le _⟩ (fun H locs hP hD hS => ?_)
              refine lv_aload_n hx hb dX6_readCommands_218 rfl (lv_at hl 0 rfl) ?_
              refine lv_dup hx hb dX6_readCommands_219 rfl ?_
              refine va_get (D := D) (ci := 5) (v := .int (z_5.1 6)) (C := RX6) (T := TX6) (N := 9) hx hb hts hiX6 hown hK hP 0 rfl rfl 6 (by decide) k46 (fun _ h9 => h9) rfl dX6_readCommands_220 ?_
              refine lv_iconst (v := 1) hx hb dX6_readCommands_223 (by decide) ?_
              refine lv_iadd hx hb dX6_readCommands_224 ?_
              refine va_put (D := D) (ci := 5) (v := .int ((z_5.1 6) + (1 : Int32))) (ty := .int) (C := RX6) (T := TX6) (N := 9) hx hb hts hiX6 tyX6 tyX6_ok nmX6 hown hK hP hD hS 0 rfl rfl 6 (by decide) k46 (fun _ h9 => h9) rfl (by decide +kernel) rfl rfl (Nat.le_of_ble_eq_true rfl) dX6_readCommands_225 (fun H locs hP hD hS => ?_)
              obtain ⟨z_9, ez_9, hf⟩ := nm_ob hf
              have hP : va_P D vwCl (wS q (q2 0) (q3 0) (q4 0) (q5 0) z_9 ++ wT cB q2 z_6 ++ wC cI q3 z3_214 ++ wA q4 z4_214 ++ wP q5 z5_214) H := by rw [ez_9]; exact hP
              have hD : va_D A (wS q (q2 0) (q3 0) (q4 0) (q5 0) z_9 ++ wT cB q2 z_6 ++ wC cI q3 z3_214 ++ wA q4 z4_214 ++ wP q5 z5_214) := by rw [ez_9]; exact hD
              obtain ⟨v1_10, ev1_10, hf⟩ := nm_ob hf
              refine lv_iinc (v := v1_10) (lv' := [(1, .int v1_10), (0, .ref (q 0))]) hx hb dX6_readCommands_228 hl (k := 1) rfl (by rw [ev1_10]; rfl) (by decide) rfl (fun ls hl => ?_)
              refine lv_goto (tgt := 2) hx hb dX6_readCommands_231 (by decide) ?_
              exact ih2 v1_10 z_9 z_6 z3_214 z4_214 z5_214 _ _ _ hf hP hD hS (lv_sub hl [1, 0] rfl)
            refine lv_if_eq (tgt := 45) hx hb dX6_readCommands_35 (by decide) (fun c_35 => ?_) (fun c_35 => ?_)
            · have hf := ip c_35 hf
              refine lv_aload_n hx hb dX6_readCommands_45 rfl (lv_at hl 0 rfl) ?_
              refine va_get (D := D) (ci := 5) (v := .ref (q2 0)) (C := RX6) (T := TX6) (N := 9) hx hb hts hiX6 hown hK hP 0 rfl rfl 0 (by decide) k12 (fun _ h9 => h9) rfl dX6_readCommands_46 ?_
              refine va_ldcS hx hb hown (EL_s2 hE) dX6_readCommands_49 ?_
              obtain ⟨r_11, hc_12, hf⟩ := bd_ob hf
              refine rdVX (As := [.ref (aK 2)]) (rest := []) ⟨hx, hb, hml, hown, hts⟩ (mX7_isWord l D cI cB cZ cO (aK 2) (aV 2) q2 fu z2_2 (lt 2) hc_12) (cwV 1 hts gX6_readCommands_X7_isWord rfl rfl rfl (by decide +kernel) ⟨Nat.le_of_ble_eq_true rfl, Nat.le_of_ble_eq_true rfl⟩) (ET_ok _ _ _) ((hE.1 2).kept hS.2.1) hK (hP.sub [1, 2] rfl) (va_recv hK hP (ci := 6) (q0 := 1) rfl rfl) rfl hl.1 rfl (Nat.le_of_ble_eq_true rfl) dX6_readCommands_51 ⟨Nat.zero_le _, Nat.zero_le _⟩ ?_
              refine lv_if_eq (tgt := 64) hx hb dX6_readCommands_54 (by decide) (fun c_54 => ?_) (fun c_54 => ?_)
              · have hf := ip c_54 hf
                refine lv_aload_n hx hb dX6_readCommands_64 rfl (lv_at hl 0 rfl) ?_
                refine va_get (D := D) (ci := 5) (v := .ref (q2 0)) (C := RX6) (T := TX6) (N := 9) hx hb hts hiX6 hown hK hP 0 rfl rfl 0 (by decide) k12 (fun _ h9 => h9) rfl dX6_readCommands_65 ?_
                refine va_ldcS hx hb hown (EL_s3 hE) dX6_readCommands_68 ?_
                obtain ⟨r_13, hc_14, hf⟩ := bd_ob hf
                refine rdVX (As := [.ref (aK 3)]) (rest := []) ⟨hx, hb, hml, hown, hts⟩ (mX7_isWord l D cI cB cZ cO (aK 3) (aV 3) q2 fu z2_2 (lt 3) hc_14) (cwV 1 hts gX6_readCommands_X7_isWord rfl rfl rfl (by decide +kernel) ⟨Nat.le_of_ble_eq_true rfl, Nat.le_of_ble_eq_true rfl⟩) (ET_ok _ _ _) ((hE.1 3).kept hS.2.1) hK (hP.sub [1, 2] rfl) (va_recv hK hP (ci := 6) (q0 := 1) rfl rfl) rfl hl.1 rfl (Nat.le_of_ble_eq_true rfl) dX6_readCommands_70 ⟨Nat.zero_le _, Nat.zero_le _⟩ ?_
                refine lv_if_eq (tgt := 83) hx hb dX6_readCommands_73 (by decide) (fun c_73 => ?_) (fun c_73 => ?_)
                · have hf := ip c_73 hf
                  refine lv_aload_n hx hb dX6_readCommands_83 rfl (lv_at hl 0 rfl) ?_
                  refine va_get (D := D) (ci := 5) (v := .ref (q2 0)) (C := RX6) (T := TX6) (N := 9) hx hb hts hiX6 hown hK hP 0 rfl rfl 0 (by decide) k12 (fun _ h9 => h9) rfl dX6_readCommands_84 ?_
                  refine va_ldcS hx hb hown (EL_s4 hE) dX6_readCommands_87 ?_
                  obtain ⟨r_15, hc_16, hf⟩ := bd_ob hf
                  refine rdVX (As := [.ref (aK 4)]) (rest := []) ⟨hx, hb, hml, hown, hts⟩ (mX7_isWord l D cI cB cZ cO (aK 4) (aV 4) q2 fu z2_2 (lt 4) hc_16) (cwV 1 hts gX6_readCommands_X7_isWord rfl rfl rfl (by decide +kernel) ⟨Nat.le_of_ble_eq_true rfl, Nat.le_of_ble_eq_true rfl⟩) (ET_ok _ _ _) ((hE.1 4).kept hS.2.1) hK (hP.sub [1, 2] rfl) (va_recv hK hP (ci := 6) (q0 := 1) rfl rfl) rfl hl.1 rfl (Nat.le_of_ble_eq_true rfl) dX6_readCommands_89 ⟨Nat.zero_le _, Nat.zero_le _⟩ ?_
                  refine lv_if_eq (tgt := 102) hx hb dX6_readCommands_92 (by decide) (fun c_92 => ?_) (fun c_92 => ?_)
                  · have hf := ip c_92 hf
                    refine lv_aload_n hx hb dX6_readCommands_102 rfl (lv_at hl 0 rfl) ?_
                    refine va_get (D := D) (ci := 5) (v := .ref (q2 0)) (C := RX6) (T := TX6) (N := 9) hx hb hts hiX6 hown hK hP 0 rfl rfl 0 (by decide) k12 (fun _ h9 => h9) rfl dX6_readCommands_103 ?_
                    refine va_ldcS hx hb hown (EL_s5 hE) dX6_readCommands_106 ?_
                    obtain ⟨r_17, hc_18, hf⟩ := bd_ob hf
                    refine rdVX (As := [.ref (aK 5)]) (rest := []) ⟨hx, hb, hml, hown, hts⟩ (mX7_isWord l D cI cB cZ cO (aK 5) (aV 5) q2 fu z2_2 (lt 5) hc_18) (cwV 1 hts gX6_readCommands_X7_isWord rfl rfl rfl (by decide +kernel) ⟨Nat.le_of_ble_eq_true rfl, Nat.le_of_ble_eq_true rfl⟩) (ET_ok _ _ _) ((hE.1 5).kept hS.2.1) hK (hP.sub [1, 2] rfl) (va_recv hK hP (ci := 6) (q0 := 1) rfl rfl) rfl hl.1 rfl (Nat.le_of_ble_eq_true rfl) dX6_readCommands_108 ⟨Nat.zero_le _, Nat.zero_le _⟩ ?_
                    refine lv_if_eq (tgt := 121) hx hb dX6_readCommands_111 (by decide) (fun c_111 => ?_) (fun c_111 => ?_)
                    · have hf := ip c_111 hf
                      refine lv_aload_n hx hb dX6_readCommands_121 rfl (lv_at hl 0 rfl) ?_
                      refine va_get (D := D) (ci := 5) (v := .ref (q2 0)) (C := RX6) (T := TX6) (N := 9) hx hb hts hiX6 hown hK hP 0 rfl rfl 0 (by decide) k12 (fun _ h9 => h9) rfl dX6_readCommands_122 ?_
                      refine va_ldcS hx hb hown (EL_s6 hE) dX6_readCommands_125 ?_
                      obtain ⟨r_19, hc_20, hf⟩ := bd_ob hf
                      refine rdVX (As := [.ref (aK 6)]) (rest := []) ⟨hx, hb, hml, hown, hts⟩ (mX7_isWord l D cI cB cZ cO (aK 6) (aV 6) q2 fu z2_2 (lt 6) hc_20) (cwV 1 hts gX6_readCommands_X7_isWord rfl rfl rfl (by decide +kernel) ⟨Nat.le_of_ble_eq_true rfl, Nat.le_of_ble_eq_true rfl⟩) (ET_ok _ _ _) ((hE.1 6).kept hS.2.1) hK (hP.sub [1, 2] rfl) (va_recv hK hP (ci := 6) (q0 := 1) rfl rfl) rfl hl.1 rfl (Nat.le_of_ble_eq_true rfl) dX6_readCommands_127 ⟨Nat.zero_le _, Nat.zero_le _⟩ ?_
                      refine lv_if_eq (tgt := 140) hx hb dX6_readCommands_130 (by decide) (fun c_130 => ?_) (fun c_130 => ?_)
                      · have hf := ip c_130 hf
                        refine lv_aload_n hx hb dX6_readCommands_140 rfl (lv_at hl 0 rfl) ?_
                        refine va_get (D := D) (ci := 5) (v := .ref (q2 0)) (C := RX6) (T := TX6) (N := 9) hx hb hts hiX6 hown hK hP 0 rfl rfl 0 (by decide) k12 (fun _ h9 => h9) rfl dX6_readCommands_141 ?_
                        refine va_ldcS hx hb hown (EL_s7 hE) dX6_readCommands_144 ?_
                        obtain ⟨r_21, hc_22, hf⟩ := bd_ob hf
                        refine rdVX (As := [.ref (aK 7)]) (rest := []) ⟨hx, hb, hml, hown, hts⟩ (mX7_isWord l D cI cB cZ cO (aK 7) (aV 7) q2 fu z2_2 (lt 7) hc_22) (cwV 1 hts gX6_readCommands_X7_isWord rfl rfl rfl (by decide +kernel) ⟨Nat.le_of_ble_eq_true rfl, Nat.le_of_ble_eq_true rfl⟩) (ET_ok _ _ _) ((hE.1 7).kept hS.2.1) hK (hP.sub [1, 2] rfl) (va_recv hK hP (ci := 6) (q0 := 1) rfl rfl) rfl hl.1 rfl (Nat.le_of_ble_eq_true rfl) dX6_readCommands_146 ⟨Nat.zero_le _, Nat.zero_le _⟩ ?_
                        refine lv_if_eq (tgt := 159) hx hb dX6_readCommands_149 (by decide) (fun c_149 => ?_) (fun c_149 => ?_)
                        · have hf := ip c_149 hf
                          refine lv_aload_n hx hb dX6_readCommands_159 rfl (lv_at hl 0 rfl) ?_
                          refine va_get (D := D) (ci := 5) (v := .ref (q2 0)) (C := RX6) (T := TX6) (N := 9) hx hb hts hiX6 hown hK hP 0 rfl rfl 0 (by decide) k12 (fun _ h9 => h9) rfl dX6_readCommands_160 ?_
                          refine va_ldcS hx hb hown (EL_s8 hE) dX6_readCommands_163 ?_
                          obtain ⟨r_23, hc_24, hf⟩ := bd_ob hf
                          refine rdVX (As := [.ref (aK 8)]) (rest := []) ⟨hx, hb, hml, hown, hts⟩ (mX7_isWord l D cI cB cZ cO (aK 8) (aV 8) q2 fu z2_2 (lt 8) hc_24) (cwV 1 hts gX6_readCommands_X7_isWord rfl rfl rfl (by decide +kernel) ⟨Nat.le_of_ble_eq_true rfl, Nat.le_of_ble_eq_true rfl⟩) (ET_ok _ _ _) ((hE.1 8).kept hS.2.1) hK (hP.sub [1, 2] rfl) (va_recv hK hP (ci := 6) (q0 := 1) rfl rfl) rfl hl.1 rfl (Nat.le_of_ble_eq_true rfl) dX6_readCommands_165 ⟨Nat.zero_le _, Nat.zero_le _⟩ ?_
                          refine lv_if_eq (tgt := 202) hx hb dX6_readCommands_168 (by decide) (fun c_168 => ?_) (fun c_168 => ?_)
                          · have hf := ip c_168 hf
                            refine lv_aload_n hx hb dX6_readCommands_202 rfl (lv_at hl 0 rfl) ?_
                            refine lv_iconst (v := 1) hx hb dX6_readCommands_203 (by decide) ?_
                            refine lv_aload_n hx hb dX6_readCommands_204 rfl (lv_at hl 0 rfl) ?_
                            refine va_get (D := D) (ci := 5) (v := .ref (q2 0)) (C := RX6) (T := TX6) (N := 9) hx hb hts hiX6 hown hK hP 0 rfl rfl 0 (by decide) k12 (fun _ h9 => h9) rfl dX6_readCommands_205 ?_
                            refine va_get (D := D) (ci := 6) (v := .int (z2_2.1 3)) (C := RX7) (T := TX7) (N := 5) hx hb hts hiX7 hown hK hP 1 rfl rfl 3 (by decide) k67 (fun _ h9 => h9) rfl dX6_readCommands_208 ?_
                            obtain ⟨z_25, hc_26, hf⟩ := bd_ob hf
                            refine weV (As := [.int (1 : Int32), .int (z2_2.1 3)]) (rest := []) ⟨hx, hb, hml, hown, hts⟩ (mX6_fail l D cI cB cZ cO q q2 q3 q4 q5 _ fu z1_2 z2_2 z3_2 z4_2 z5_2 (1 : Int32) (z2_2.1 3) hc_26) (cwV 2 hts gX6_readCommands_X6_fail rfl rfl rfl (by decide +kernel) ⟨Nat.le_of_ble_eq_true rfl, Nat.le_of_ble_eq_true rfl⟩) hK hP hD hS hA (va_recv hK hP (ci := 5) (q0 := 0) rfl rfl) rfl hl.1 rfl (Nat.le_of_ble_eq_true rfl) dX6_readCommands_211 ⟨Nat.zero_le _, Nat.zero_le _⟩ (fun H locs hP hD hS => ?_)
                            exact hp214 z_25 z2_2 z3_2 z4_2 z5_2 _ _ _ hf hP hD hS hl
                          · have hf := iq c_168 hf
                            refine lv_aload_n hx hb dX6_readCommands_171 rfl (lv_at hl 0 rfl) ?_
                            refine va_get (D := D) (ci := 5) (v := .ref (q2 0)) (C := RX6) (T := TX6) (N := 9) hx hb hts hiX6 hown hK hP 0 rfl rfl 0 (by decide) k12 (fun _ h9 => h9) rfl dX6_readCommands_172 ?_
                            refine va_get (D := D) (ci := 6) (v := .int (z2_2.1 3)) (C := RX7) (T := TX7) (N := 5) hx hb hts hiX7 hown hK hP 1 rfl rfl 3 (by decide) k67 (fun _ h9 => h9) rfl dX6_readCommands_175 ?_
                            obtain ⟨v2_27, ev2_27, hf⟩ := nm_ob hf
                            refine lv_nmi ev2_27 ?_
                            refine lv_istore_n (lv' := [(2, .int v2_27), (0, .ref (q 0)), (1, .int v1_2)]) hx hb dX6_readCommands_178 rfl hl (by decide) rfl (fun ls hl => ?_)
                            refine lv_aload_n hx hb dX6_readCommands_179 rfl (lv_at hl 1 rfl) ?_
                            refine va_get (D := D) (ci := 5) (v := .ref (q2 0)) (C := RX6) (T := TX6) (N := 9) hx hb hts hiX6 hown hK hP 0 rfl rfl 0 (by decide) k12 (fun _ h9 => h9) rfl dX6_readCommands_180 ?_
                            obtain ⟨z_28, hc_29, hf⟩ := bd_ob hf
                            refine wrV (As := []) (rest := []) (ws2 := wS q (q2 0) (q3 0) (q4 0) (q5 0) z1_2 ++ wT cB q2 z_28 ++ wC cI q3 z3_2 ++ wA q4 z4_2 ++ wP q5 z5_2) ⟨hx, hb, hml, hown, hts⟩ (mX7_advance l D cI cB cZ cO q2 _ fu z2_2 hc_29) (cwV 0 hts gX6_readCommands_X7_advance rfl rfl rfl (by decide +kernel) ⟨Nat.le_of_ble_eq_true rfl, Nat.le_of_ble_eq_true rfl⟩) hK hP hD hS hA [1, 2] [0, 3, 4, 5, 6, 7, 8, 9, 10, 11] [0, 10, 11, 1, 2, 3, 4, 5, 6, 7, 8, 9] rfl (hP.sub [1, 2] rfl) (by decide) rfl (by decide) (by decide) (by decide) rfl (va_recv hK hP (ci := 6) (q0 := 1) rfl rfl) rfl hl.1 rfl (Nat.le_of_ble_eq_true rfl) dX6_readCommands_183 ⟨Nat.zero_le _, Nat.zero_le _⟩ (fun H locs hP hD hS => ?_)
                            refine lv_aload_n hx hb dX6_readCommands_186 rfl (lv_at hl 1 rfl) ?_
                            obtain ⟨⟨r_30, z_31, z_32, z_33⟩, hc_35, hf⟩ := bd_ob hf
                            have hf := nm_st hf
                            have hf := nm_st hf
                            have hf := nm_st hf
                            have hf := nm_st hf
                            refine weVX (As := []) (rest := []) ⟨hx, hb, hml, hown, hts⟩ (mX6_readCondition l D cI cB cZ cO aK aV q q2 q3 q4 q5 _ fu z1_2 z_28 z3_2 z4_2 z5_2 hc_35) (cwV 0 hts gX6_readCommands_X6_readCondition rfl rfl rfl (by decide +kernel) ⟨Nat.le_of_ble_eq_true rfl, Nat.le_of_ble_eq_true rfl⟩) (EL_ok aK aV) ((EL_ok aK aV).2.2.1 _ _ _ _ hS.2.1 hE) hK hP hD hS hA (va_recv hK hP (ci := 5) (q0 := 0) rfl rfl) rfl hl.1 rfl (Nat.le_of_ble_eq_true rfl) dX6_readCommands_187 ⟨Nat.zero_le _, Nat.zero_le _⟩ (fun H locs hP hD hS => ?_)
                            obtain ⟨j199, ej199, hf⟩ := jn_ob hf
                            have hp199 : ∀ (z1_199 : OS) (H : Heap) (locs : List Loc) (ls : Array Slot), j199 z1_199 = some (y1, y2, y3, y4, y5) → va_P D vwCl (wS q (q2 0) (q3 0) (q4 0) (q5 0) z1_199 ++ wT cB q2 z_32 ++ wC cI q3 z3_2 ++ wA q4 z4_2 ++ wP q5 z_33) H → va_D A (wS q (q2 0) (q3 0) (q4 0) (q5 0) z1_199 ++ wT cB q2 z_32 ++ wC cI q3 z3_2 ++ wA q4 z4_2 ++ wP q5 z_33) → va_S A s.heap H locs → lv_has ls 3 [(0, .ref (q 0)), (1, .int v1_2)] → W p l e (headSpec wsX6_readCommands { frames := 7, cells := 0, slots := 0, locals := 151 }).room s m args below meth c H locs 0 0 (MQ below (Qw D A none (wS q (q2 0) (q3 0) (q4 0) (q5 0) y1 ++ wT cB q2 y2 ++ wC cI q3 y3 ++ wA q4 y4 ++ wP q5 y5)) args s 0 0 A) (F0 m 199 ls []) := by
                              intro z1_199 H locs ls hf hP hD hS hl
                              rw [ej199] at hf
                              refine lv_goto (tgt := 214) hx hb dX6_readCommands_199 (by decide) ?_
                              exact hp214 z1_199 z_32 z3_2 z4_2 z_33 _ _ _ hf hP hD hS hl
                            refine lv_if_ne (tgt := 199) hx hb dX6_readCommands_190 (by decide) (fun c_190 => ?_) (fun c_190 => ?_)
                            · have hf := ip c_190 hf
                              exact hp199 z_31 _ _ _ hf hP hD hS (lv_sub hl [1, 2] rfl)
                            · have hf := iqn c_190 hf
                              refine lv_aload_n hx hb dX6_readCommands_193 rfl (lv_at hl 1 rfl) ?_
                              refine lv_iconst (v := 5) hx hb dX6_readCommands_194 (by decide) ?_
                              refine lv_iload_n hx hb dX6_readCommands_195 rfl (lv_at hl 0 rfl) ?_
                              obtain ⟨z_36, hc_37, hf⟩ := bd_ob hf
                              refine weV (As := [.int (5 : Int32), .int v2_27]) (rest := []) ⟨hx, hb, hml, hown, hts⟩ (mX6_fail l D cI cB cZ cO q q2 q3 q4 q5 _ fu z_31 z_32 z3_2 z4_2 z_33 (5 : Int32) v2_27 hc_37) (cwV 2 hts gX6_readCommands_X6_fail rfl rfl rfl (by decide +kernel) ⟨Nat.le_of_ble_eq_true rfl, Nat.le_of_ble_eq_true rfl⟩) hK hP hD hS hA (va_recv hK hP (ci := 5) (q0 := 0) rfl rfl) rfl hl.1 rfl (Nat.le_of_ble_eq_true rfl) dX6_readCommands_196 ⟨Nat.zero_le _, Nat.zero_le _⟩ (fun H locs hP hD hS => ?_)
                              exact hp199 z_36 _ _ _ hf hP hD hS (lv_sub hl [1, 2] rfl)
                        · have hf := iq c_149 hf
                          refine lv_aload_n hx hb dX6_readCommands_152 rfl (lv_at hl 0 rfl) ?_
                          obtain ⟨⟨z_38, z_39⟩, hc_41, hf⟩ := bd_ob hf
                          have hf := nm_st hf
                          have hf := nm_st hf
                          refine weV (As := []) (rest := []) ⟨hx, hb, hml, hown, hts⟩ (mX6_readReduce l D cI cB cZ cO q q2 q3 q4 q5 _ fu z1_2 z2_2 z3_2 z4_2 z5_2 hc_41) (cwV 0 hts gX6_readCommands_X6_readReduce rfl rfl rfl (by decide +kernel) ⟨Nat.le_of_ble_eq_true rfl, Nat.le_of_ble_eq_true rfl⟩) hK hP hD hS hA (va_recv hK hP (ci := 5) (q0 := 0) rfl rfl) rfl hl.1 rfl (Nat.le_of_ble_eq_true rfl) dX6_readCommands_153 ⟨Nat.zero_le _, Nat.zero_le _⟩ (fun H locs hP hD hS => ?_)
                          refine lv_goto (tgt := 214) hx hb dX6_readCommands_156 (by decide) ?_
                          exact hp214 z1_2 z_38 z_39 z4_2 z5_2 _ _ _ hf hP hD hS hl
                      · have hf := iq c_130 hf
                        refine lv_aload_n hx hb dX6_readCommands_133 rfl (lv_at hl 0 rfl) ?_
                        obtain ⟨⟨z_42, z_43⟩, hc_45, hf⟩ := bd_ob hf
                        have hf := nm_st hf
                        have hf := nm_st hf
                        refine weV (As := []) (rest := []) ⟨hx, hb, hml, hown, hts⟩ (mX6_readInvert l D cI cB cZ cO q q2 q3 q4 q5 _ fu z1_2 z2_2 z3_2 z4_2 z5_2 hc_45) (cwV 0 hts gX6_readCommands_X6_readInvert rfl rfl rfl (by decide +kernel) ⟨Nat.le_of_ble_eq_true rfl, Nat.le_of_ble_eq_true rfl⟩) hK hP hD hS hA (va_recv hK hP (ci := 5) (q0 := 0) rfl rfl) rfl hl.1 rfl (Nat.le_of_ble_eq_true rfl) dX6_readCommands_134 ⟨Nat.zero_le _, Nat.zero_le _⟩ (fun H locs hP hD hS => ?_)
                        refine lv_goto (tgt := 214) hx hb dX6_readCommands_137 (by decide) ?_
                        exact hp214 z1_2 z_42 z_43 z4_2 z5_2 _ _ _ hf hP hD hS hl
                    · have hf := iq c_111 hf
                      refine lv_aload_n hx hb dX6_readCommands_114 rfl (lv_at hl 0 rfl) ?_
                      obtain ⟨⟨z_46, z_47, z_48⟩, hc_50, hf⟩ := bd_ob hf
                      have hf := nm_st hf
                      have hf := nm_st hf
                      have hf := nm_st hf
                      refine weV (As := []) (rest := []) ⟨hx, hb, hml, hown, hts⟩ (mX6_readNegate l D cI cB cZ cO q q2 q3 q4 q5 _ fu z1_2 z2_2 z3_2 z4_2 z5_2 hc_50) (cwV 0 hts gX6_readCommands_X6_readNegate rfl rfl rfl (by decide +kernel) ⟨Nat.le_of_ble_eq_true rfl, Nat.le_of_ble_eq_true rfl⟩) hK hP hD hS hA (va_recv hK hP (ci := 5) (q0 := 0) rfl rfl) rfl hl.1 rfl (Nat.le_of_ble_eq_true rfl) dX6_readCommands_115 ⟨Nat.zero_le _, Nat.zero_le _⟩ (fun H locs hP hD hS => ?_)
                      refine lv_goto (tgt := 214) hx hb dX6_readCommands_118 (by decide) ?_
                      exact hp214 z_46 z_47 z_48 z4_2 z5_2 _ _ _ hf hP hD hS hl
                  · have hf := iq c_92 hf
                    refine lv_aload_n hx hb dX6_readCommands_95 rfl (lv_at hl 0 rfl) ?_
                    obtain ⟨⟨z_51, z_52, z_53⟩, hc_55, hf⟩ := bd_ob hf
                    have hf := nm_st hf
                    have hf := nm_st hf
                    have hf := nm_st hf
                    refine weV (As := []) (rest := []) ⟨hx, hb, hml, hown, hts⟩ (mX6_readDrop l D cI cB cZ cO q q2 q3 q4 q5 _ fu z1_2 z2_2 z3_2 z4_2 z5_2 hc_55) (cwV 0 hts gX6_readCommands_X6_readDrop rfl rfl rfl (by decide +kernel) ⟨Nat.le_of_ble_eq_true rfl, Nat.le_of_ble_eq_true rfl⟩) hK hP hD hS hA (va_recv hK hP (ci := 5) (q0 := 0) rfl rfl) rfl hl.1 rfl (Nat.le_of_ble_eq_true rfl) dX6_readCommands_96 ⟨Nat.zero_le _, Nat.zero_le _⟩ (fun H locs hP hD hS => ?_)
                    refine lv_goto (tgt := 214) hx hb dX6_readCommands_99 (by decide) ?_
                    exact hp214 z_51 z_52 z_53 z4_2 z5_2 _ _ _ hf hP hD hS hl
                · have hf := iq c_73 hf
                  refine lv_aload_n hx hb dX6_readCommands_76 rfl (lv_at hl 0 rfl) ?_
                  obtain ⟨⟨z_56, z_57, z_58, z_59⟩, hc_61, hf⟩ := bd_ob hf
                  have hf := nm_st hf
                  have hf := nm_st hf
                  have hf := nm_st hf
                  have hf := nm_st hf
                  refine weV (As := []) (rest := []) ⟨hx, hb, hml, hown, hts⟩ (mX6_readSaturate l D cI cB cZ cO q q2 q3 q4 q5 _ fu z1_2 z2_2 z3_2 z4_2 z5_2 hc_61) (cwV 0 hts gX6_readCommands_X6_readSaturate rfl rfl rfl (by decide +kernel) ⟨Nat.le_of_ble_eq_true rfl, Nat.le_of_ble_eq_true rfl⟩) hK hP hD hS hA (va_recv hK hP (ci := 5) (q0 := 0) rfl rfl) rfl hl.1 rfl (Nat.le_of_ble_eq_true rfl) dX6_readCommands_77 ⟨Nat.zero_le _, Nat.zero_le _⟩ (fun H locs hP hD hS => ?_)
                  refine lv_goto (tgt := 214) hx hb dX6_readCommands_80 (by decide) ?_
                  exact hp214 z_56 z_57 z_58 z_59 z5_2 _ _ _ hf hP hD hS hl
              · have hf := iq c_54 hf
                refine lv_aload_n hx hb dX6_readCommands_57 rfl (lv_at hl 0 rfl) ?_
                obtain ⟨⟨z_62, z_63, z_64⟩, hc_66, hf⟩ := bd_ob hf
                have hf := nm_st hf
                have hf := nm_st hf
                have hf := nm_st hf
                refine weV (As := []) (rest := []) ⟨hx, hb, hml, hown, hts⟩ (mX6_readResolve l D cI cB cZ cO q q2 q3 q4 q5 _ fu z1_2 z2_2 z3_2 z4_2 z5_2 hc_66) (cwV 0 hts gX6_readCommands_X6_readResolve rfl rfl rfl (by decide +kernel) ⟨Nat.le_of_ble_eq_true rfl, Nat.le_of_ble_eq_true rfl⟩) hK hP hD hS hA (va_recv hK hP (ci := 5) (q0 := 0) rfl rfl) rfl hl.1 rfl (Nat.le_of_ble_eq_true rfl) dX6_readCommands_58 ⟨Nat.zero_le _, Nat.zero_le _⟩ (fun H locs hP hD hS => ?_)
                refine lv_goto (tgt := 214) hx hb dX6_readCommands_61 (by decide) ?_
                exact hp214 z_62 z_63 z_64 z4_2 z5_2 _ _ _ hf hP hD hS hl
            · have hf := iq c_35 hf
              refine lv_aload_n hx hb dX6_readCommands_38 rfl (lv_at hl 0 rfl) ?_
              obtain ⟨⟨z_67, z_68, z_69⟩, hc_71, hf⟩ := bd_ob hf
              have hf := nm_st hf
              have hf := nm_st hf
              have hf := nm_st hf
              refine weV (As := []) (rest := []) ⟨hx, hb, hml, hown, hts⟩ (mX6_readClause l D cI cB cZ cO q q2 q3 q4 q5 _ fu z1_2 z2_2 z3_2 z4_2 z5_2 hc_71) (cwV 0 hts gX6_readCommands_X6_readClause rfl rfl rfl (by decide +kernel) ⟨Nat.le_of_ble_eq_true rfl, Nat.le_of_ble_eq_true rfl⟩) hK hP hD hS hA (va_recv hK hP (ci := 5) (q0 := 0) rfl rfl) rfl hl.1 rfl (Nat.le_of_ble_eq_true rfl) dX6_readCommands_39 ⟨Nat.zero_le _, Nat.zero_le _⟩ (fun H locs hP hD hS => ?_)
              refine lv_goto (tgt := 214) hx hb dX6_readCommands_42 (by decide) ?_
              exact hp214 z_67 z_68 z_69 z4_2 z5_2 _ _ _ hf hP hD hS hl
  exact hL2 fu (0 : Int32) z z2 z3 z4 z5 _ _ _ hf hP hD hS (lv_sub hl [1, 0] rfl)
