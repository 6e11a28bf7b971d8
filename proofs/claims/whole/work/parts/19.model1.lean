def fX9_thrown (fu : Nat) (z : OS) : Option (Int32) :=
  some (z.1 0)
set_option maxRecDepth 100000 in
set_option maxHeartbeats 4000000 in
theorem mX9_thrown (l : Launch) (D : va_G) (cI cB cZ cO : ClassId) (q : Nat → Nat) (fu : Nat) (z : OS) {r : Int32} (hf : fX9_thrown fu z = some r) : Met l yX9_thrown wsX9_thrown ({ frames := 0, cells := 0, slots := 0, locals := 0 }) (va_Pc [.ref (q 0)] (Pr D (gT cI cB cZ cO) (wM cI cB cZ q z))) (Qr (some (.int r))) 0 0 (fun _ => False) := by
  unfold fX9_thrown at hf
  refine metR (ret := (some .int)) (own := RX9) rfl (by decide) rfl (Nat.le_of_ble_eq_true rfl) (fun p e s m args below meth c ls hx hb hr hml hown hlocks hts hP hK hl => ?_)
  have k46 := (hts (.fieldLink RX9 46 "ResolutionProverModel" "thrown" "I") (List.mem_of_getElem? (i := 1) rfl))
  have hiX9 : ∀ w ∈ wsX90, w ∈ wsX9_thrown := (memIn_p [2, 3, 4, 5, 6, 7, 8, 9, 10, 11, 12, 13, 14, 15, 16, 17, 18, 19, 20, 21, 22, 23, 24, 25, 26, 27, 28] rfl)
  have hl : lv_has ls 1 [(0, .ref (q 0))] := hl
  refine lv_aload_n hx hb dX9_thrown_0 rfl (lv_at hl 0 rfl) ?_
  refine va_get (D := D) (ci := 8) (v := .int (z.1 0)) (C := RX9) (T := TX9) (N := 27) hx hb hts hiX9 hown hK hP 0 rfl rfl 0 (by decide) k46 (fun _ h9 => h9) rfl dX9_thrown_1 ?_
  exact rR_i hx hb hr hlocks (so_ob hf) dX9_thrown_4

def fX9_throwsIf (fu : Nat) (z : OS) (p1 : Int32) (p2 : Int32) : Option (Int32 × (OS)) :=
  jn (κ := OS → Option (Int32 × (OS))) (fun (z1_16 : OS) => (if (z1_16.1 0) = (0 : Int32) then gd (isZ (0 : Int32)) (some ((0 : Int32), z1_16)) else gd (isZ (1 : Int32)) (some ((1 : Int32), z1_16)))) (fun j16 => (if p1 = (0 : Int32) then j16 z else (if ¬ (z.1 0) = (0 : Int32) then j16 z else nm (sI z 0 p2) (fun (z_1 : OS) => j16 z_1))))
set_option maxRecDepth 100000 in
set_option maxHeartbeats 4000000 in
theorem mX9_throwsIf (l : Launch) (D : va_G) (cI cB cZ cO : ClassId) (q : Nat → Nat) (sz : Nat) (fu : Nat) (z : OS) (p1 : Int32) (p2 : Int32) {r : Int32} {y1 : OS} (hf : fX9_throwsIf fu z p1 p2 = some (r, y1)) : Met l yX9_throwsIf wsX9_throwsIf ({ frames := 0, cells := 0, slots := 0, locals := 0 }) (va_Pc [.ref (q 0), .int p1, .int p2] (Pw D (gT cI cB cZ cO) (wM cI cB cZ q z) sz)) (Qw D (va_A (wM cI cB cZ q z) sz) (some (.int r)) (wM cI cB cZ q y1)) 0 0 (va_A (wM cI cB cZ q z) sz) := by
  unfold fX9_throwsIf at hf
  refine metW (ret := (some .boolean)) (own := RX9) rfl (by decide) rfl (Nat.le_of_ble_eq_true rfl) (fun p e s m args below meth c ls A hx hb hr hml hown hlocks hts hK hA hP hD hS hl => ?_)
  have k46 := (hts (.fieldLink RX9 46 "ResolutionProverModel" "thrown" "I") (List.mem_of_getElem? (i := 1) rfl))
  have hiX9 : ∀ w ∈ wsX90, w ∈ wsX9_throwsIf := (memIn_p [2, 3, 4, 5, 6, 7, 8, 9, 10, 11, 12, 13, 14, 15, 16, 17, 18, 19, 20, 21, 22, 23, 24, 25, 26, 27, 28] rfl)
  have hl : lv_has ls 3 [(0, .ref (q 0)), (1, .int p1), (2, .int p2)] := hl
  refine lv_iload_n hx hb dX9_throwsIf_0 rfl (lv_at hl 1 rfl) ?_
  obtain ⟨j16, ej16, hf⟩ := jn_ob hf
  have hp16 : ∀ (z1_16 : OS) (H : Heap) (locs : List Loc) (ls : Array Slot), j16 z1_16 = some (r, y1) → va_P D vwCl (wM cI cB cZ q z1_16) H → va_D A (wM cI cB cZ q z1_16) → va_S A s.heap H locs → lv_has ls 3 [(0, .ref (q 0))] → W p l e (headSpec wsX9_throwsIf { frames := 0, cells := 0, slots := 0, locals := 0 }).room s m args below meth c H locs 0 0 (MQ below (Qw D A (some (.int r)) (wM cI cB cZ q y1)) args s 0 0 A) (F0 m 16 ls []) := by
    intro z1_16 H locs ls hf hP hD hS hl
    rw [ej16] at hf
    refine lv_aload_n hx hb dX9_throwsIf_16 rfl (lv_at hl 0 rfl) ?_
    refine va_get (D := D) (ci := 8) (v := .int (z1_16.1 0)) (C := RX9) (T := TX9) (N := 27) hx hb hts hiX9 hown hK hP 0 rfl rfl 0 (by decide) k46 (fun _ h9 => h9) rfl dX9_throwsIf_17 ?_
    refine lv_if_eq (tgt := 27) hx hb dX9_throwsIf_20 (by decide) (fun c_20 => ?_) (fun c_20 => ?_)
    · have hf := ip c_20 hf
      refine lv_iconst (v := 0) hx hb dX9_throwsIf_27 (by decide) ?_
      obtain ⟨hz, hf⟩ := gd_ob hf
      exact rW_z hx hb hr hlocks hP hD hS hz (congrArg (fun q9 => q9.1) (so_ob hf)) (congrArg (fun (q9 : Int32 × (OS)) => wM cI cB cZ q q9.2) (so_ob hf)) dX9_throwsIf_28
    · have hf := iq c_20 hf
      refine lv_iconst (v := 1) hx hb dX9_throwsIf_23 (by decide) ?_
      refine lv_goto (tgt := 28) hx hb dX9_throwsIf_24 (by decide) ?_
      obtain ⟨hz, hf⟩ := gd_ob hf
      exact rW_z hx hb hr hlocks hP hD hS hz (congrArg (fun q9 => q9.1) (so_ob hf)) (congrArg (fun (q9 : Int32 × (OS)) => wM cI cB cZ q q9.2) (so_ob hf)) dX9_throwsIf_28
  refine lv_if_eq (tgt := 16) hx hb dX9_throwsIf_1 (by decide) (fun c_1 => ?_) (fun c_1 => ?_)
  · have hf := ip c_1 hf
    exact hp16 z _ _ _ hf hP hD hS (lv_sub hl [0] rfl)
  · have hf := iq c_1 hf
    refine lv_aload_n hx hb dX9_throwsIf_4 rfl (lv_at hl 0 rfl) ?_
    refine va_get (D := D) (ci := 8) (v := .int (z.1 0)) (C := RX9) (T := TX9) (N := 27) hx hb hts hiX9 hown hK hP 0 rfl rfl 0 (by decide) k46 (fun _ h9 => h9) rfl dX9_throwsIf_5 ?_
    refine lv_if_ne (tgt := 16) hx hb dX9_throwsIf_8 (by decide) (fun c_8 => ?_) (fun c_8 => ?_)
    · have hf := ip c_8 hf
      exact hp16 z _ _ _ hf hP hD hS (lv_sub hl [0] rfl)
    · have hf := iqn c_8 hf
      refine lv_aload_n hx hb dX9_throwsIf_11 rfl (lv_at hl 0 rfl) ?_
      refine lv_iload_n hx hb dX9_throwsIf_12 rfl (lv_at hl 2 rfl) ?_
      refine va_put (D := D) (ci := 8) (v := .int p2) (ty := .int) (C := RX9) (T := TX9) (N := 27) hx hb hts hiX9 tyX9 tyX9_ok nmX9 hown hK hP hD hS 0 rfl rfl 0 (by decide) k46 (fun _ h9 => h9) rfl (by decide +kernel) rfl rfl (Nat.le_of_ble_eq_true rfl) dX9_throwsIf_13 (fun H locs hP hD hS => ?_)
      obtain ⟨z_1, ez_1, hf⟩ := nm_ob hf
      have hP : va_P D vwCl (wM cI cB cZ q z_1) H := by rw [ez_1]; exact hP
      have hD : va_D A (wM cI cB cZ q z_1) := by rw [ez_1]; exact hD
      exact hp16 z_1 _ _ _ hf hP hD hS (lv_sub hl [0] rfl)

def fX9_in (fu : Nat) (p1 : Int64) (p2 : Int64) (p3 : Int64) : Option (Int32) :=
  (if (lg_cmp p1 p2) < (0 : Int32) then gd (isZ (0 : Int32)) (some (0 : Int32)) else (if (0 : Int32) < (lg_cmp p1 p3) then gd (isZ (0 : Int32)) (some (0 : Int32)) else gd (isZ (1 : Int32)) (some (1 : Int32))))
set_option maxRecDepth 100000 in
set_option maxHeartbeats 4000000 in
theorem mX9_in (l : Launch) (D : va_G) (cI cB cZ cO : ClassId) (fu : Nat) (p1 : Int64) (p2 : Int64) (p3 : Int64) {r : Int32} (hf : fX9_in fu p1 p2 p3 = some r) : Met l yX9_in wsX9_in ({ frames := 0, cells := 0, slots := 0, locals := 0 }) (va_Pc [.long p1, .long p2, .long p3] (fun _ => True)) (Qr (some (.int r))) 0 0 (fun _ => False) := by
  unfold fX9_in at hf
  refine metN (ret := (some .boolean)) (own := RX9) rfl (by decide) rfl (Nat.le_of_ble_eq_true rfl) (fun p e s m args below meth c ls hx hb hr hml hown hlocks hts hl => ?_)
  have hl : lv_has ls 6 [(0, .long p1), (2, .long p2), (4, .long p3)] := hl
  refine lv_lload_n hx hb dX9_in_0 rfl (lv_at hl 0 rfl) ?_
  refine lv_lload_n hx hb dX9_in_1 rfl (lv_at hl 1 rfl) ?_
  refine W.lcmp hx hb dX9_in_2 ?_
  refine lv_if_lt (tgt := 17) hx hb dX9_in_3 (by decide) (fun c_3 => ?_) (fun c_3 => ?_)
  · have hf := ip c_3 hf
    refine lv_iconst (v := 0) hx hb dX9_in_17 (by decide) ?_
    obtain ⟨hz, hf⟩ := gd_ob hf
    exact rR_z hx hb hr hlocks hz (so_ob hf) dX9_in_18
  · have hf := iq c_3 hf
    refine lv_lload_n hx hb dX9_in_6 rfl (lv_at hl 0 rfl) ?_
    refine lv_lload hx hb dX9_in_7 (lv_at hl 2 rfl) ?_
    refine W.lcmp hx hb dX9_in_9 ?_
    refine lv_if_gt (tgt := 17) hx hb dX9_in_10 (by decide) (fun c_10 => ?_) (fun c_10 => ?_)
    · have hf := ip c_10 hf
      refine lv_iconst (v := 0) hx hb dX9_in_17 (by decide) ?_
      obtain ⟨hz, hf⟩ := gd_ob hf
      exact rR_z hx hb hr hlocks hz (so_ob hf) dX9_in_18
    · have hf := iq c_10 hf
      refine lv_iconst (v := 1) hx hb dX9_in_13 (by decide) ?_
      refine lv_goto (tgt := 18) hx hb dX9_in_14 (by decide) ?_
      obtain ⟨hz, hf⟩ := gd_ob hf
      exact rR_z hx hb hr hlocks hz (so_ob hf) dX9_in_18

def fX9_wide (fu : Nat) (z : OS) : Option (Int32) :=
  gd (inB (0 : Int32) 917) (some (z.2 1 ((0 : Int32)).toNatClampNeg))
set_option maxRecDepth 100000 in
set_option maxHeartbeats 4000000 in
theorem mX9_wide (l : Launch) (D : va_G) (cI cB cZ cO : ClassId) (q : Nat → Nat) (fu : Nat) (z : OS) {r : Int32} (hf : fX9_wide fu z = some r) : Met l yX9_wide wsX9_wide ({ frames := 0, cells := 0, slots := 0, locals := 0 }) (va_Pc [.ref (q 0)] (Pr D (gT cI cB cZ cO) (wM cI cB cZ q z))) (Qr (some (.int r))) 0 0 (fun _ => False) := by
  unfold fX9_wide at hf
  refine metR (ret := (some .int)) (own := RX9) rfl (by decide) rfl (Nat.le_of_ble_eq_true rfl) (fun p e s m args below meth c ls hx hb hr hml hown hlocks hts hP hK hl => ?_)
  have k9 := (hts (.fieldLink RX9 9 "ResolutionProverModel" "now" "[I") (List.mem_of_getElem? (i := 1) rfl))
  have hiX9 : ∀ w ∈ wsX90, w ∈ wsX9_wide := (memIn_p [2, 3, 4, 5, 6, 7, 8, 9, 10, 11, 12, 13, 14, 15, 16, 17, 18, 19, 20, 21, 22, 23, 24, 25, 26, 27, 28] rfl)
  have hl : lv_has ls 1 [(0, .ref (q 0))] := hl
  refine lv_aload_n hx hb dX9_wide_0 rfl (lv_at hl 0 rfl) ?_
  refine va_get (D := D) (ci := 8) (v := .ref (q 1)) (C := RX9) (T := TX9) (N := 27) hx hb hts hiX9 hown hK hP 0 rfl rfl 1 (by decide) k9 (fun _ h9 => h9) rfl dX9_wide_1 ?_
  refine lv_iconst (v := 0) hx hb dX9_wide_4 (by decide) ?_
  obtain ⟨hi_, hf⟩ := gd_ob hf
  refine va_iald hx hb hK hP 1 0 rfl rfl (inB_in hi_) dX9_wide_5 ?_
  exact rR_i hx hb hr hlocks (so_ob hf) dX9_wide_6

def fX9_many (fu : Nat) (z : OS) : Option (Int32) :=
  gd (inB (1 : Int32) 917) (some (z.2 1 ((1 : Int32)).toNatClampNeg))
set_option maxRecDepth 100000 in
set_option maxHeartbeats 4000000 in
theorem mX9_many (l : Launch) (D : va_G) (cI cB cZ cO : ClassId) (q : Nat → Nat) (fu : Nat) (z : OS) {r : Int32} (hf : fX9_many fu z = some r) : Met l yX9_many wsX9_many ({ frames := 0, cells := 0, slots := 0, locals := 0 }) (va_Pc [.ref (q 0)] (Pr D (gT cI cB cZ cO) (wM cI cB cZ q z))) (Qr (some (.int r))) 0 0 (fun _ => False) := by
  unfold fX9_many at hf
  refine metR (ret := (some .int)) (own := RX9) rfl (by decide) rfl (Nat.le_of_ble_eq_true rfl) (fun p e s m args below meth c ls hx hb hr hml hown hlocks hts hP hK hl => ?_)
  have k9 := (hts (.fieldLink RX9 9 "ResolutionProverModel" "now" "[I") (List.mem_of_getElem? (i := 1) rfl))
  have hiX9 : ∀ w ∈ wsX90, w ∈ wsX9_many := (memIn_p [2, 3, 4, 5, 6, 7, 8, 9, 10, 11, 12, 13, 14, 15, 16, 17, 18, 19, 20, 21, 22, 23, 24, 25, 26, 27, 28] rfl)
  have hl : lv_has ls 1 [(0, .ref (q 0))] := hl
  refine lv_aload_n hx hb dX9_many_0 rfl (lv_at hl 0 rfl) ?_
  refine va_get (D := D) (ci := 8) (v := .ref (q 1)) (C := RX9) (T := TX9) (N := 27) hx hb hts hiX9 hown hK hP 0 rfl rfl 1 (by decide) k9 (fun _ h9 => h9) rfl dX9_many_1 ?_
  refine lv_iconst (v := 1) hx hb dX9_many_4 (by decide) ?_
  obtain ⟨hi_, hf⟩ := gd_ob hf
  refine va_iald hx hb hK hP 1 0 rfl rfl (inB_in hi_) dX9_many_5 ?_
  exact rR_i hx hb hr hlocks (so_ob hf) dX9_many_6

def fX9_sign (fu : Nat) (z : OS) (p1 : Int32) (p2 : Int32) : Option (Int32) :=
  gd (inB (((2 : Int32) + (p1 * (12 : Int32))) + p2) 917) (some (z.2 1 ((((2 : Int32) + (p1 * (12 : Int32))) + p2)).toNatClampNeg))
set_option maxRecDepth 100000 in
set_option maxHeartbeats 4000000 in
theorem mX9_sign (l : Launch) (D : va_G) (cI cB cZ cO : ClassId) (q : Nat → Nat) (fu : Nat) (z : OS) (p1 : Int32) (p2 : Int32) {r : Int32} (hf : fX9_sign fu z p1 p2 = some r) : Met l yX9_sign wsX9_sign ({ frames := 0, cells := 0, slots := 0, locals := 0 }) (va_Pc [.ref (q 0), .int p1, .int p2] (Pr D (gT cI cB cZ cO) (wM cI cB cZ q z))) (Qr (some (.int r))) 0 0 (fun _ => False) := by
  unfold fX9_sign at hf
  refine metR (ret := (some .int)) (own := RX9) rfl (by decide) rfl (Nat.le_of_ble_eq_true rfl) (fun p e s m args below meth c ls hx hb hr hml hown hlocks hts hP hK hl => ?_)
  have k9 := (hts (.fieldLink RX9 9 "ResolutionProverModel" "now" "[I") (List.mem_of_getElem? (i := 1) rfl))
  have hiX9 : ∀ w ∈ wsX90, w ∈ wsX9_sign := (memIn_p [2, 3, 4, 5, 6, 7, 8, 9, 10, 11, 12, 13, 14, 15, 16, 17, 18, 19, 20, 21, 22, 23, 24, 25, 26, 27, 28] rfl)
  have hl : lv_has ls 3 [(0, .ref (q 0)), (1, .int p1), (2, .int p2)] := hl
  refine lv_aload_n hx hb dX9_sign_0 rfl (lv_at hl 0 rfl) ?_
  refine va_get (D := D) (ci := 8) (v := .ref (q 1)) (C := RX9) (T := TX9) (N := 27) hx hb hts hiX9 hown hK hP 0 rfl rfl 1 (by decide) k9 (fun _ h9 => h9) rfl dX9_sign_1 ?_
  refine lv_iconst (v := 2) hx hb dX9_sign_4 (by decide) ?_
  refine lv_iload_n hx hb dX9_sign_5 rfl (lv_at hl 1 rfl) ?_
  refine lv_bipush (v := 12) hx hb dX9_sign_6 (by decide) ?_
  refine lv_imul hx hb dX9_sign_8 ?_
  refine lv_iadd hx hb dX9_sign_9 ?_
  refine lv_iload_n hx hb dX9_sign_10 rfl (lv_at hl 2 rfl) ?_
  refine lv_iadd hx hb dX9_sign_11 ?_
  obtain ⟨hi_, hf⟩ := gd_ob hf
  refine va_iald hx hb hK hP 1 0 rfl rfl (inB_in hi_) dX9_sign_12 ?_
  exact rR_i hx hb hr hlocks (so_ob hf) dX9_sign_13

def fX9_puts (fu : Nat) (z : OS) (p1 : Int32) (p2 : Int32) (p3 : Int32) : Option ((OS)) :=
  gd (inB (((2 : Int32) + (p1 * (12 : Int32))) + p2) 917) (nm (sA z 1 (upd (z.2 1) ((((2 : Int32) + (p1 * (12 : Int32))) + p2)).toNatClampNeg p3)) (fun (z_1 : OS) => some z_1))
set_option maxRecDepth 100000 in
set_option maxHeartbeats 4000000 in
theorem mX9_puts (l : Launch) (D : va_G) (cI cB cZ cO : ClassId) (q : Nat → Nat) (sz : Nat) (fu : Nat) (z : OS) (p1 : Int32) (p2 : Int32) (p3 : Int32) {y1 : OS} (hf : fX9_puts fu z p1 p2 p3 = some y1) : Met l yX9_puts wsX9_puts ({ frames := 0, cells := 0, slots := 0, locals := 0 }) (va_Pc [.ref (q 0), .int p1, .int p2, .int p3] (Pw D (gT cI cB cZ cO) (wM cI cB cZ q z) sz)) (Qw D (va_A (wM cI cB cZ q z) sz) none (wM cI cB cZ q y1)) 0 0 (va_A (wM cI cB cZ q z) sz) := by
  unfold fX9_puts at hf
  refine metW (ret := none) (own := RX9) rfl (by decide) rfl (Nat.le_of_ble_eq_true rfl) (fun p e s m args below meth c ls A hx hb hr hml hown hlocks hts hK hA hP hD hS hl => ?_)
  have k9 := (hts (.fieldLink RX9 9 "ResolutionProverModel" "now" "[I") (List.mem_of_getElem? (i := 1) rfl))
  have hiX9 : ∀ w ∈ wsX90, w ∈ wsX9_puts := (memIn_p [2, 3, 4, 5, 6, 7, 8, 9, 10, 11, 12, 13, 14, 15, 16, 17, 18, 19, 20, 21, 22, 23, 24, 25, 26, 27, 28] rfl)
  have hl : lv_has ls 4 [(0, .ref (q 0)), (1, .int p1), (2, .int p2), (3, .int p3)] := hl
  refine lv_aload_n hx hb dX9_puts_0 rfl (lv_at hl 0 rfl) ?_
  refine va_get (D := D) (ci := 8) (v := .ref (q 1)) (C := RX9) (T := TX9) (N := 27) hx hb hts hiX9 hown hK hP 0 rfl rfl 1 (by decide) k9 (fun _ h9 => h9) rfl dX9_puts_1 ?_
  refine lv_iconst (v := 2) hx hb dX9_puts_4 (by decide) ?_
  refine lv_iload_n hx hb dX9_puts_5 rfl (lv_at hl 1 rfl) ?_
  refine lv_bipush (v := 12) hx hb dX9_puts_6 (by decide) ?_
  refine lv_imul hx hb dX9_puts_8 ?_
  refine lv_iadd hx hb dX9_puts_9 ?_
  refine lv_iload_n hx hb dX9_puts_10 rfl (lv_at hl 2 rfl) ?_
  refine lv_iadd hx hb dX9_puts_11 ?_
  refine lv_iload_n hx hb dX9_puts_12 rfl (lv_at hl 3 rfl) ?_
  obtain ⟨hi_, hf⟩ := gd_ob hf
  refine va_iast hx hb hK hP hD hS 1 0 rfl rfl (inB_in hi_) dX9_puts_13 (fun H locs hP hD hS => ?_)
  obtain ⟨z_1, ez_1, hf⟩ := nm_ob hf
  have hP : va_P D vwCl (wM cI cB cZ q z_1) H := by rw [ez_1]; exact hP
  have hD : va_D A (wM cI cB cZ q z_1) := by rw [ez_1]; exact hD
  exact rW_v hx hb hr hlocks hP hD hS (congrArg (fun (q9 : (OS)) => wM cI cB cZ q q9) (so_ob hf)) dX9_puts_14

def lX9_copies_two_3 (x1 : Nat → Int32) (m1 : Nat) (m2 : Nat) (p1 : Int32) (p2 : Int32) (j37 : (Nat → Int32) → Option ((Nat → Int32))) : Nat → Int32 → (Nat → Int32) → Option ((Nat → Int32))
  | 0, _, _ => none
  | n_3 + 1, v4_3, z2_3 => (if (917 : Int32) ≤ v4_3 then j37 z2_3 else gd (inB ((p1 * (917 : Int32)) + v4_3) m1) (gd (inB ((p2 * (917 : Int32)) + v4_3) m2) (nm (upd z2_3 (((p2 * (917 : Int32)) + v4_3)).toNatClampNeg (x1 (((p1 * (917 : Int32)) + v4_3)).toNatClampNeg)) (fun (z_1 : Nat → Int32) => nm (v4_3 + (1 : Int32)) (fun (v4_2 : Int32) => lX9_copies_two_3 x1 m1 m2 p1 p2 j37 n_3 v4_2 z_1)))))
def fX9_copies_two (fu : Nat) (m1 : Nat) (x1 : Nat → Int32) (m2 : Nat) (x2 : Nat → Int32) (p1 : Int32) (p2 : Int32) : Option ((Nat → Int32)) :=
  jn (κ := (Nat → Int32) → Option ((Nat → Int32))) (fun (z2_37 : Nat → Int32) => some z2_37) (fun j37 => lX9_copies_two_3 x1 m1 m2 p1 p2 j37 fu (0 : Int32) x2)
set_option maxRecDepth 100000 in
set_option maxHeartbeats 4000000 in
theorem mX9_copies_two (l : Launch) (D : va_G) (cI cB cZ cO : ClassId) (a1 : Nat) (a2 : Nat) (sz : Nat) (fu : Nat) (m1 : Nat) (x1 : Nat → Int32) (m2 : Nat) (x2 : Nat → Int32) (p1 : Int32) (p2 : Int32) {y2 : Nat → Int32} (hf : fX9_copies_two fu m1 x1 m2 x2 p1 p2 = some y2) : Met l yX9_copies wsX9_copies ({ frames := 0, cells := 0, slots := 0, locals := 0 }) (va_Pc [.ref a1, .int p1, .ref a2, .int p2] (Pw D (gT cI cB cZ cO) (wR cI a1 m1 x1 ++ wR cI a2 m2 x2) sz)) (Qw D (va_A (wR cI a1 m1 x1 ++ wR cI a2 m2 x2) sz) none (wR cI a1 m1 x1 ++ wR cI a2 m2 y2)) 0 0 (va_A (wR cI a1 m1 x1 ++ wR cI a2 m2 x2) sz) := by
  unfold fX9_copies_two at hf
  refine metW (ret := none) (own := RX9) rfl (by decide) rfl (Nat.le_of_ble_eq_true rfl) (fun p e s m args below meth c ls A hx hb hr hml hown hlocks hts hK hA hP hD hS hl => ?_)
  have hl : lv_has ls 5 [(0, .ref a1), (1, .int p1), (2, .ref a2), (3, .int p2)] := hl
  refine lv_iconst (v := 0) hx hb dX9_copies_0 (by decide) ?_
  refine lv_istore (lv' := [(4, .int (0 : Int32)), (0, .ref a1), (1, .int p1), (2, .ref a2), (3, .int p2)]) hx hb dX9_copies_1 hl (by decide) rfl (fun ls hl => ?_)
  obtain ⟨j37, ej37, hf⟩ := jn_ob hf
  have hp37 : ∀ (z2_37 : Nat → Int32) (H : Heap) (locs : List Loc) (ls : Array Slot), j37 z2_37 = some y2 → va_P D vwCl (wR cI a1 m1 x1 ++ wR cI a2 m2 z2_37) H → va_D A (wR cI a1 m1 x1 ++ wR cI a2 m2 z2_37) → va_S A s.heap H locs → lv_has ls 5 [] → W p l e (headSpec wsX9_copies { frames := 0, cells := 0, slots := 0, locals := 0 }).room s m args below meth c H locs 0 0 (MQ below (Qw D A none (wR cI a1 m1 x1 ++ wR cI a2 m2 y2)) args s 0 0 A) (F0 m 37 ls []) := by
    intro z2_37 H locs ls hf hP hD hS hl
    rw [ej37] at hf
    exact rW_v hx hb hr hlocks hP hD hS (congrArg (fun (q9 : (Nat → Int32)) => wR cI a1 m1 x1 ++ wR cI a2 m2 q9) (so_ob hf)) dX9_copies_37
  have hL3 : ∀ (n_3 : Nat) (v4_3 : Int32) (z2_3 : Nat → Int32) (H : Heap) (locs : List Loc) (ls : Array Slot), lX9_copies_two_3 x1 m1 m2 p1 p2 j37 n_3 v4_3 z2_3 = some y2 → va_P D vwCl (wR cI a1 m1 x1 ++ wR cI a2 m2 z2_3) H → va_D A (wR cI a1 m1 x1 ++ wR cI a2 m2 z2_3) → va_S A s.heap H locs → lv_has ls 5 [(0, .ref a1), (1, .int p1), (2, .ref a2), (3, .int p2), (4, .int v4_3)] → W p l e (headSpec wsX9_copies { frames := 0, cells := 0, slots := 0, locals := 0 }).room s m args below meth c H locs 0 0 (MQ below (Qw D A none (wR cI a1 m1 x1 ++ wR cI a2 m2 y2)) args s 0 0 A) (F0 m 3 ls []) := by
    intro n_3
    induction n_3 with
    | zero =>
      intro v4_3 z2_3 H locs ls hf
      exact no_ob hf
    | succ n_3 ih3 =>
      intro v4_3 z2_3 H locs ls hf hP hD hS hl
      rw [lX9_copies_two_3] at hf
      refine lv_iload hx hb dX9_copies_3 (lv_at hl 4 rfl) ?_
      refine lv_sipush (v := 917) hx hb dX9_copies_5 (by decide) ?_
      refine lv_icmp_ge (tgt := 37) hx hb dX9_copies_8 (by decide) (fun c_8 => ?_) (fun c_8 => ?_)
      · have hf := ip c_8 hf
        exact hp37 z2_3 _ _ _ hf hP hD hS (lv_sub hl [] rfl)
      · have hf := iq c_8 hf
        refine lv_aload_n hx hb dX9_copies_11 rfl (lv_at hl 2 rfl) ?_
        refine lv_iload_n hx hb dX9_copies_12 rfl (lv_at hl 3 rfl) ?_
        refine lv_sipush (v := 917) hx hb dX9_copies_13 (by decide) ?_
        refine lv_imul hx hb dX9_copies_16 ?_
        refine lv_iload hx hb dX9_copies_17 (lv_at hl 4 rfl) ?_
        refine lv_iadd hx hb dX9_copies_19 ?_
        refine lv_aload_n hx hb dX9_copies_20 rfl (lv_at hl 0 rfl) ?_
        refine lv_iload_n hx hb dX9_copies_21 rfl (lv_at hl 1 rfl) ?_
        refine lv_sipush (v := 917) hx hb dX9_copies_22 (by decide) ?_
        refine lv_imul hx hb dX9_copies_25 ?_
        refine lv_iload hx hb dX9_copies_26 (lv_at hl 4 rfl) ?_
        refine lv_iadd hx hb dX9_copies_28 ?_
        obtain ⟨hi_, hf⟩ := gd_ob hf
        refine va_iald hx hb hK hP 0 0 rfl rfl (inB_in hi_) dX9_copies_29 ?_
        obtain ⟨hi_, hf⟩ := gd_ob hf
        refine va_iast hx hb hK hP hD hS 1 0 rfl rfl (inB_in hi_) dX9_copies_30 (fun H locs hP hD hS => ?_)
        obtain ⟨z_1, ez_1, hf⟩ := nm_ob hf
        have hP : va_P D vwCl (wR cI a1 m1 x1 ++ wR cI a2 m2 z_1) H := by rw [ez_1]; exact hP
        have hD : va_D A (wR cI a1 m1 x1 ++ wR cI a2 m2 z_1) := by rw [ez_1]; exact hD
        obtain ⟨v4_2, ev4_2, hf⟩ := nm_ob hf
        refine lv_iinc (v := v4_2) (lv' := [(4, .int v4_2), (0, .ref a1), (1, .int p1), (2, .ref a2), (3, .int p2)]) hx hb dX9_copies_31 hl (k := 4) rfl (by rw [ev4_2]; rfl) (by decide) rfl (fun ls hl => ?_)
        refine lv_goto (tgt := 3) hx hb dX9_copies_34 (by decide) ?_
        exact ih3 v4_2 z_1 _ _ _ hf hP hD hS (lv_sub hl [1, 2, 3, 4, 0] rfl)
  exact hL3 fu (0 : Int32) x2 _ _ _ hf hP hD hS (lv_sub hl [1, 2, 3, 4, 0] rfl)

def lX9_copies_same_3 (m1 : Nat) (p1 : Int32) (p2 : Int32) (j37 : (Nat → Int32) → Option ((Nat → Int32))) : Nat → Int32 → (Nat → Int32) → Option ((Nat → Int32))
  | 0, _, _ => none
  | n_3 + 1, v4_3, z1_3 => (if (917 : Int32) ≤ v4_3 then j37 z1_3 else gd (inB ((p1 * (917 : Int32)) + v4_3) m1) (gd (inB ((p2 * (917 : Int32)) + v4_3) m1) (nm (upd z1_3 (((p2 * (917 : Int32)) + v4_3)).toNatClampNeg (z1_3 (((p1 * (917 : Int32)) + v4_3)).toNatClampNeg)) (fun (z_1 : Nat → Int32) => nm (v4_3 + (1 : Int32)) (fun (v4_2 : Int32) => lX9_copies_same_3 m1 p1 p2 j37 n_3 v4_2 z_1)))))
def fX9_copies_same (fu : Nat) (m1 : Nat) (x1 : Nat → Int32) (p1 : Int32) (p2 : Int32) : Option ((Nat → Int32)) :=
  jn (κ := (Nat → Int32) → Option ((Nat → Int32))) (fun (z1_37 : Nat → Int32) => some z1_37) (fun j37 => lX9_copies_same_3 m1 p1 p2 j37 fu (0 : Int32) x1)
set_option maxRecDepth 100000 in
set_option maxHeartbeats 4000000 in
theorem mX9_copies_same (l : Launch) (D : va_G) (cI cB cZ cO : ClassId) (a1 : Nat) (sz : Nat) (fu : Nat) (m1 : Nat) (x1 : Nat → Int32) (p1 : Int32) (p2 : Int32) {y1 : Nat → Int32} (hf : fX9_copies_same fu m1 x1 p1 p2 = some y1) : Met l yX9_copies wsX9_copies ({ frames := 0, cells := 0, slots := 0, locals := 0 }) (va_Pc [.ref a1, .int p1, .ref a1, .int p2] (Pw D (gT cI cB cZ cO) (wR cI a1 m1 x1) sz)) (Qw D (va_A (wR cI a1 m1 x1) sz) none (wR cI a1 m1 y1)) 0 0 (va_A (wR cI a1 m1 x1) sz) := by
  unfold fX9_copies_same at hf
  refine metW (ret := none) (own := RX9) rfl (by decide) rfl (Nat.le_of_ble_eq_true rfl) (fun p e s m args below meth c ls A hx hb hr hml hown hlocks hts hK hA hP hD hS hl => ?_)
  have hl : lv_has ls 5 [(0, .ref a1), (1, .int p1), (2, .ref a1), (3, .int p2)] := hl
  refine lv_iconst (v := 0) hx hb dX9_copies_0 (by decide) ?_
  refine lv_istore (lv' := [(4, .int (0 : Int32)), (0, .ref a1), (1, .int p1), (2, .ref a1), (3, .int p2)]) hx hb dX9_copies_1 hl (by decide) rfl (fun ls hl => ?_)
  obtain ⟨j37, ej37, hf⟩ := jn_ob hf
  have hp37 : ∀ (z1_37 : Nat → Int32) (H : Heap) (locs : List Loc) (ls : Array Slot), j37 z1_37 = some y1 → va_P D vwCl (wR cI a1 m1 z1_37) H → va_D A (wR cI a1 m1 z1_37) → va_S A s.heap H locs → lv_has ls 5 [] → W p l e (headSpec wsX9_copies { frames := 0, cells := 0, slots := 0, locals := 0 }).room s m args below meth c H locs 0 0 (MQ below (Qw D A none (wR cI a1 m1 y1)) args s 0 0 A) (F0 m 37 ls []) := by
    intro z1_37 H locs ls hf hP hD hS hl
    rw [ej37] at hf
    exact rW_v hx hb hr hlocks hP hD hS (congrArg (fun (q9 : (Nat → Int32)) => wR cI a1 m1 q9) (so_ob hf)) dX9_copies_37
  have hL3 : ∀ (n_3 : Nat) (v4_3 : Int32) (z1_3 : Nat → Int32) (H : Heap) (locs : List Loc) (ls : Array Slot), lX9_copies_same_3 m1 p1 p2 j37 n_3 v4_3 z1_3 = some y1 → va_P D vwCl (wR cI a1 m1 z1_3) H → va_D A (wR cI a1 m1 z1_3) → va_S A s.heap H locs → lv_has ls 5 [(0, .ref a1), (1, .int p1), (2, .ref a1), (3, .int p2), (4, .int v4_3)] → W p l e (headSpec wsX9_copies { frames := 0, cells := 0, slots := 0, locals := 0 }).room s m args below meth c H locs 0 0 (MQ below (Qw D A none (wR cI a1 m1 y1)) args s 0 0 A) (F0 m 3 ls []) := by
    intro n_3
    induction n_3 with
    | zero =>
      intro v4_3 z1_3 H locs ls hf
      exact no_ob hf
    | succ n_3 ih3 =>
      intro v4_3 z1_3 H locs ls hf hP hD hS hl
      rw [lX9_copies_same_3] at hf
      refine lv_iload hx hb dX9_copies_3 (lv_at hl 4 rfl) ?_
      refine lv_sipush (v := 917) hx hb dX9_copies_5 (by decide) ?_
      refine lv_icmp_ge (tgt := 37) hx hb dX9_copies_8 (by decide) (fun c_8 => ?_) (fun c_8 => ?_)
      · have hf := ip c_8 hf
        exact hp37 z1_3 _ _ _ hf hP hD hS (lv_sub hl [] rfl)
      · have hf := iq c_8 hf
        refine lv_aload_n hx hb dX9_copies_11 rfl (lv_at hl 2 rfl) ?_
        refine lv_iload_n hx hb dX9_copies_12 rfl (lv_at hl 3 rfl) ?_
        refine lv_sipush (v := 917) hx hb dX9_copies_13 (by decide) ?_
        refine lv_imul hx hb dX9_copies_16 ?_
        refine lv_iload hx hb dX9_copies_17 (lv_at hl 4 rfl) ?_
        refine lv_iadd hx hb dX9_copies_19 ?_
        refine lv_aload_n hx hb dX9_copies_20 rfl (lv_at hl 0 rfl) ?_
        refine lv_iload_n hx hb dX9_copies_21 rfl (lv_at hl 1 rfl) ?_
        refine lv_sipush (v := 917) hx hb dX9_copies_22 (by decide) ?_
        refine lv_imul hx hb dX9_copies_25 ?_
        refine lv_iload hx hb dX9_copies_26 (lv_at hl 4 rfl) ?_
        refine lv_iadd hx hb dX9_copies_28 ?_
        obtain ⟨hi_, hf⟩ := gd_ob hf
        refine va_iald hx hb hK hP 0 0 rfl rfl (inB_in hi_) dX9_copies_29 ?_
        obtain ⟨hi_, hf⟩ := gd_ob hf
        refine va_iast hx hb hK hP hD hS 0 0 rfl rfl (inB_in hi_) dX9_copies_30 (fun H locs hP hD hS => ?_)
        obtain ⟨z_1, ez_1, hf⟩ := nm_ob hf
        have hP : va_P D vwCl (wR cI a1 m1 z_1) H := by rw [ez_1]; exact hP
        have hD : va_D A (wR cI a1 m1 z_1) := by rw [ez_1]; exact hD
        obtain ⟨v4_2, ev4_2, hf⟩ := nm_ob hf
        refine lv_iinc (v := v4_2) (lv' := [(4, .int v4_2), (0, .ref a1), (1, .int p1), (2, .ref a1), (3, .int p2)]) hx hb dX9_copies_31 hl (k := 4) rfl (by rw [ev4_2]; rfl) (by decide) rfl (fun ls hl => ?_)
        refine lv_goto (tgt := 3) hx hb dX9_copies_34 (by decide) ?_
        exact ih3 v4_2 z_1 _ _ _ hf hP hD hS (lv_sub hl [1, 2, 3, 4, 0] rfl)
  exact hL3 fu (0 : Int32) x1 _ _ _ hf hP hD hS (lv_sub hl [1, 2, 3, 4, 0] rfl)

def fX9_keeps (fu : Nat) (z : OS) : Option ((OS)) :=
  bd (fX9_copies_two fu 917 (z.2 1) 917 (z.2 2) (0 : Int32) (0 : Int32)) (fun (x_1 : (Nat → Int32)) => nm (sA z 2 x_1) (fun (z_3 : OS) => some z_3))
set_option maxRecDepth 100000 in
set_option maxHeartbeats 4000000 in
theorem mX9_keeps (l : Launch) (D : va_G) (cI cB cZ cO : ClassId) (q : Nat → Nat) (sz : Nat) (fu : Nat) (z : OS) {y1 : OS} (hf : fX9_keeps fu z = some y1) : Met l yX9_keeps wsX9_keeps ({ frames := 1, cells := 0, slots := 0, locals := 24 }) (va_Pc [.ref (q 0)] (Pw D (gT cI cB cZ cO) (wM cI cB cZ q z) sz)) (Qw D (va_A (wM cI cB cZ q z) sz) none (wM cI cB cZ q y1)) 0 0 (va_A (wM cI cB cZ q z) sz) := by
  unfold fX9_keeps at hf
  refine metW (ret := none) (own := RX9) rfl (by decide) rfl (Nat.le_of_ble_eq_true rfl) (fun p e s m args below meth c ls A hx hb hr hml hown hlocks hts hK hA hP hD hS hl => ?_)
  have k9 := (hts (.fieldLink RX9 9 "ResolutionProverModel" "now" "[I") (List.mem_of_getElem? (i := 1) rfl))
  have k13 := (hts (.fieldLink RX9 13 "ResolutionProverModel" "kept" "[I") (List.mem_of_getElem? (i := 2) rfl))
  have hiX9 : ∀ w ∈ wsX90, w ∈ wsX9_keeps := (memIn_p [7, 8, 9, 10, 11, 12, 13, 14, 15, 16, 17, 18, 19, 20, 21, 22, 23, 24, 25, 26, 27, 28, 29, 30, 31, 32, 33] rfl)
  have hl : lv_has ls 1 [(0, .ref (q 0))] := hl
  refine lv_aload_n hx hb dX9_keeps_0 rfl (lv_at hl 0 rfl) ?_
  refine va_get (D := D) (ci := 8) (v := .ref (q 1)) (C := RX9) (T := TX9) (N := 27) hx hb hts hiX9 hown hK hP 0 rfl rfl 1 (by decide) k9 (fun _ h9 => h9) rfl dX9_keeps_1 ?_
  refine lv_iconst (v := 0) hx hb dX9_keeps_4 (by decide) ?_
  refine lv_aload_n hx hb dX9_keeps_5 rfl (lv_at hl 0 rfl) ?_
  refine va_get (D := D) (ci := 8) (v := .ref (q 2)) (C := RX9) (T := TX9) (N := 27) hx hb hts hiX9 hown hK hP 0 rfl rfl 2 (by decide) k13 (fun _ h9 => h9) rfl dX9_keeps_6 ?_
  refine lv_iconst (v := 0) hx hb dX9_keeps_9 (by decide) ?_
  obtain ⟨x_1, hc_2, hf⟩ := bd_ob hf
  refine wrS (As := [.ref (q 1), .int (0 : Int32), .ref (q 2), .int (0 : Int32)]) (rest := []) (ws2 := wM cI cB cZ q (sA z 2 x_1)) ⟨hx, hb, hml, hown, hts⟩ (mX9_copies_two l D cI cB cZ cO (q 1) (q 2) _ fu 917 (z.2 1) 917 (z.2 2) (0 : Int32) (0 : Int32) hc_2) (va_cwS 4 hts gX9_keeps_X9_copies rfl rfl rfl (by decide +kernel) ⟨Nat.le_of_ble_eq_true rfl, Nat.le_of_ble_eq_true rfl⟩) hK hP hD hS hA [1, 2] [0, 3, 4, 5, 6, 7, 8, 9, 10] [0, 9, 10, 1, 2, 3, 4, 5, 6, 7, 8] rfl (hP.sub [1, 2] rfl) (by decide) rfl (by decide) (by decide) (by decide) rfl  rfl hl.1 rfl (Nat.le_of_ble_eq_true rfl) dX9_keeps_10 ⟨Nat.zero_le _, Nat.zero_le _⟩ (fun H locs hP hD hS => ?_)
  obtain ⟨z_3, ez_3, hf⟩ := nm_ob hf
  have hP : va_P D vwCl (wM cI cB cZ q z_3) H := by rw [ez_3]; exact hP
  have hD : va_D A (wM cI cB cZ q z_3) := by rw [ez_3]; exact hD
  exact rW_v hx hb hr hlocks hP hD hS (congrArg (fun (q9 : (OS)) => wM cI cB cZ q q9) (so_ob hf)) dX9_keeps_13

def lX9_records_11 (fu : Nat) (j38 : OS → Option (Int32 × (OS))) : Nat → Int32 → OS → Option (Int32 × (OS))
  | 0, _, _ => none
  | n_11 + 1, v2_11, z1_11 => (if (8 : Int32) ≤ v2_11 then j38 z1_11 else bd (fX9_copies_same fu 7336 (z1_11.2 4) v2_11 (v2_11 - (1 : Int32))) (fun (x_6 : (Nat → Int32)) => nm (sA z1_11 4 x_6) (fun (z_8 : OS) => nm (v2_11 + (1 : Int32)) (fun (v2_9 : Int32) => lX9_records_11 fu j38 n_11 v2_9 z_8))))
def fX9_records (fu : Nat) (z : OS) (p1 : Int32) : Option (Int32 × (OS)) :=
  jn (κ := OS → Option (Int32 × (OS))) (fun (z1_48 : OS) => bd (fX9_copies_two fu 917 (z1_48.2 2) 7336 (z1_48.2 4) (0 : Int32) (z1_48.1 7)) (fun (x_1 : (Nat → Int32)) => nm (sA z1_48 4 x_1) (fun (z_3 : OS) => nm (sI z_3 7 ((z_3.1 7) + (1 : Int32))) (fun (z_4 : OS) => some (p1, z_4))))) (fun j48 => (if ¬ (z.1 7) = (8 : Int32) then j48 z else jn (κ := OS → Option (Int32 × (OS))) (fun (z1_38 : OS) => nm (sI z1_38 7 ((z1_38.1 7) - (1 : Int32))) (fun (z_5 : OS) => j48 z_5)) (fun j38 => lX9_records_11 fu j38 fu (1 : Int32) z)))
set_option maxRecDepth 100000 in
set_option maxHeartbeats 4000000 in
theorem mX9_records (l : Launch) (D : va_G) (cI cB cZ cO : ClassId) (q : Nat → Nat) (sz : Nat) (fu : Nat) (z : OS) (p1 : Int32) {r : Int32} {y1 : OS} (hf : fX9_records fu z p1 = some (r, y1)) : Met l yX9_records wsX9_records ({ frames := 1, cells := 0, slots := 0, locals := 24 }) (va_Pc [.ref (q 0), .int p1] (Pw D (gT cI cB cZ cO) (wM cI cB cZ q z) sz)) (Qw D (va_A (wM cI cB cZ q z) sz) (some (.int r)) (wM cI cB cZ q y1)) 0 0 (va_A (wM cI cB cZ q z) sz) := by
  unfold fX9_records at hf
  refine metW (ret := (some .int)) (own := RX9) rfl (by decide) rfl (Nat.le_of_ble_eq_true rfl) (fun p e s m args below meth c ls A hx hb hr hml hown hlocks hts hK hA hP hD hS hl => ?_)
  have k53 := (hts (.fieldLink RX9 53 "ResolutionProverModel" "depth" "I") (List.mem_of_getElem? (i := 1) rfl))
  have k13 := (hts (.fieldLink RX9 13 "ResolutionProverModel" "kept" "[I") (List.mem_of_getElem? (i := 3) rfl))
  have k19 := (hts (.fieldLink RX9 19 "ResolutionProverModel" "past" "[I") (List.mem_of_getElem? (i := 2) rfl))
  have hiX9 : ∀ w ∈ wsX90, w ∈ wsX9_records := (memIn_p [8, 9, 10, 11, 12, 13, 14, 15, 16, 17, 18, 19, 20, 21, 22, 23, 24, 25, 26, 27, 28, 29, 30, 31, 32, 33, 34] rfl)
  have hl : lv_has ls 3 [(0, .ref (q 0)), (1, .int p1)] := hl
  refine lv_aload_n hx hb dX9_records_0 rfl (lv_at hl 0 rfl) ?_
  refine va_get (D := D) (ci := 8) (v := .int (z.1 7)) (C := RX9) (T := TX9) (N := 27) hx hb hts hiX9 hown hK hP 0 rfl rfl 7 (by decide) k53 (fun _ h9 => h9) rfl dX9_records_1 ?_
  refine lv_bipush (v := 8) hx hb dX9_records_4 (by decide) ?_
  obtain ⟨j48, ej48, hf⟩ := jn_ob hf
  have hp48 : ∀ (z1_48 : OS) (H : Heap) (locs : List Loc) (ls : Array Slot), j48 z1_48 = some (r, y1) → va_P D vwCl (wM cI cB cZ q z1_48) H → va_D A (wM cI cB cZ q z1_48) → va_S A s.heap H locs → lv_has ls 3 [(0, .ref (q 0)), (1, .int p1)] → W p l e (headSpec wsX9_records { frames := 1, cells := 0, slots := 0, locals := 24 }).room s m args below meth c H locs 0 0 (MQ below (Qw D A (some (.int r)) (wM cI cB cZ q y1)) args s 0 0 A) (F0 m 48 ls []) := by
    intro z1_48 H locs ls hf hP hD hS hl
    rw [ej48] at hf
    refine lv_aload_n hx hb dX9_records_48 rfl (lv_at hl 0 rfl) ?_
    refine va_get (D := D) (ci := 8) (v := .ref (q 2)) (C := RX9) (T := TX9) (N := 27) hx hb hts hiX9 hown hK hP 0 rfl rfl 2 (by decide) k13 (fun _ h9 => h9) rfl dX9_records_49 ?_
    refine lv_iconst (v := 0) hx hb dX9_records_52 (by decide) ?_
    refine lv_aload_n hx hb dX9_records_53 rfl (lv_at hl 0 rfl) ?_
    refine va_get (D := D) (ci := 8) (v := .ref (q 4)) (C := RX9) (T := TX9) (N := 27) hx hb hts hiX9 hown hK hP 0 rfl rfl 4 (by decide) k19 (fun _ h9 => h9) rfl dX9_records_54 ?_
    refine lv_aload_n hx hb dX9_records_57 rfl (lv_at hl 0 rfl) ?_
    refine va_get (D := D) (ci := 8) (v := .int (z1_48.1 7)) (C := RX9) (T := TX9) (N := 27) hx hb hts hiX9 hown hK hP 0 rfl rfl 7 (by decide) k53 (fun _ h9 => h9) rfl dX9_records_58 ?_
    obtain ⟨x_1, hc_2, hf⟩ := bd_ob hf
    refine wrS (As := [.ref (q 2), .int (0 : Int32), .ref (q 4), .int (z1_48.1 7)]) (rest := []) (ws2 := wM cI cB cZ q (sA z1_48 4 x_1)) ⟨hx, hb, hml, hown, hts⟩ (mX9_copies_two l D cI cB cZ cO (q 2) (q 4) _ fu 917 (z1_48.2 2) 7336 (z1_48.2 4) (0 : Int32) (z1_48.1 7) hc_2) (va_cwS 4 hts gX9_records_X9_copies rfl rfl rfl (by decide +kernel) ⟨Nat.le_of_ble_eq_true rfl, Nat.le_of_ble_eq_true rfl⟩) hK hP hD hS hA [2, 4] [0, 1, 3, 5, 6, 7, 8, 9, 10] [0, 1, 9, 2, 10, 3, 4, 5, 6, 7, 8] rfl (hP.sub [2, 4] rfl) (by decide) rfl (by decide) (by decide) (by decide) rfl  rfl hl.1 rfl (Nat.le_of_ble_eq_true rfl) dX9_records_61 ⟨Nat.zero_le _, Nat.zero_le _⟩ (fun H locs hP hD hS => ?_)
    obtain ⟨z_3, ez_3, hf⟩ := nm_ob hf
    have hP : va_P D vwCl (wM cI cB cZ q z_3) H := by rw [ez_3]; exact hP
    have hD : va_D A (wM cI cB cZ q z_3) := by rw [ez_3]; exact hD
    refine lv_aload_n hx hb dX9_records_64 rfl (lv_at hl 0 rfl) ?_
    refine lv_dup hx hb dX9_records_65 rfl ?_
    refine va_get (D := D) (ci := 8) (v := .int (z_3.1 7)) (C := RX9) (T := TX9) (N := 27) hx hb hts hiX9 hown hK hP 0 rfl rfl 7 (by decide) k53 (fun _ h9 => h9) rfl dX9_records_66 ?_
    refine lv_iconst (v := 1) hx hb dX9_records_69 (by decide) ?_
    refine lv_iadd hx hb dX9_records_70 ?_
    refine va_put (D := D) (ci := 8) (v := .int ((z_3.1 7) + (1 : Int32))) (ty := .int) (C := RX9) (T := TX9) (N := 27) hx hb hts hiX9 tyX9 tyX9_ok nmX9 hown hK hP hD hS 0 rfl rfl 7 (by decide) k53 (fun _ h9 => h9) rfl (by decide +kernel) rfl rfl (Nat.le_of_ble_eq_true rfl) dX9_records_71 (fun H locs hP hD hS => ?_)
    obtain ⟨z_4, ez_4, hf⟩ := nm_ob hf
    have hP : va_P D vwCl (wM cI cB cZ q z_4) H := by rw [ez_4]; exact hP
    have hD : va_D A (wM cI cB cZ q z_4) := by rw [ez_4]; exact hD
    refine lv_iload_n hx hb dX9_records_74 rfl (lv_at hl 1 rfl) ?_
    exact rW_i hx hb hr hlocks hP hD hS (congrArg (fun q9 => q9.1) (so_ob hf)) (congrArg (fun (q9 : Int32 × (OS)) => wM cI cB cZ q q9.2) (so_ob hf)) dX9_records_75
  refine lv_icmp_ne (tgt := 48) hx hb dX9_records_6 (by decide) (fun c_6 => ?_) (fun c_6 => ?_)
  · have hf := ip c_6 hf
    exact hp48 z _ _ _ hf hP hD hS hl
  · have hf := iqn c_6 hf
    refine lv_iconst (v := 1) hx hb dX9_records_9 (by decide) ?_
    refine lv_istore_n (lv' := [(2, .int (1 : Int32)), (0, .ref (q 0)), (1, .int p1)]) hx hb dX9_records_10 rfl hl (by decide) rfl (fun ls hl => ?_)
    obtain ⟨j38, ej38, hf⟩ := jn_ob hf
    have hp38 : ∀ (z1_38 : OS) (H : Heap) (locs : List Loc) (ls : Array Slot), j38 z1_38 = some (r, y1) → va_P D vwCl (wM cI cB cZ q z1_38) H → va_D A (wM cI cB cZ q z1_38) → va_S A s.heap H locs → lv_has ls 3 [(0, .ref (q 0)), (1, .int p1)] → W p l e (headSpec wsX9_records { frames := 1, cells := 0, slots := 0, locals := 24 }).room s m args below meth c H locs 0 0 (MQ below (Qw D A (some (.int r)) (wM cI cB cZ q y1)) args s 0 0 A) (F0 m 38 ls []) := by
      intro z1_38 H locs ls hf hP hD hS hl
      rw [ej38] at hf
      refine lv_aload_n hx hb dX9_records_38 rfl (lv_at hl 0 rfl) ?_
      refine lv_dup hx hb dX9_records_39 rfl ?_
      refine va_get (D := D) (ci := 8) (v := .int (z1_38.1 7)) (C := RX9) (T := TX9) (N := 27) hx hb hts hiX9 hown hK hP 0 rfl rfl 7 (by decide) k53 (fun _ h9 => h9) rfl dX9_records_40 ?_
      refine lv_iconst (v := 1) hx hb dX9_records_43 (by decide) ?_
      refine lv_isub hx hb dX9_records_44 ?_
      refine va_put (D := D) (ci := 8) (v := .int ((z1_38.1 7) - (1 : Int32))) (ty := .int) (C := RX9) (T := TX9) (N := 27) hx hb hts hiX9 tyX9 tyX9_ok nmX9 hown hK hP hD hS 0 rfl rfl 7 (by decide) k53 (fun _ h9 => h9) rfl (by decide +kernel) rfl rfl (Nat.le_of_ble_eq_true rfl) dX9_records_45 (fun H locs hP hD hS => ?_)
      obtain ⟨z_5, ez_5, hf⟩ := nm_ob hf
      have hP : va_P D vwCl (wM cI cB cZ q z_5) H := by rw [ez_5]; exact hP
      have hD : va_D A (wM cI cB cZ q z_5) := by rw [ez_5]; exact hD
      exact hp48 z_5 _ _ _ hf hP hD hS hl
    have hL11 : ∀ (n_11 : Nat) (v2_11 : Int32) (z1_11 : OS) (H : Heap) (locs : List Loc) (ls : Array Slot), lX9_records_11 fu j38 n_11 v2_11 z1_11 = some (r, y1) → va_P D vwCl (wM cI cB cZ q z1_11) H → va_D A (wM cI cB cZ q z1_11) → va_S A s.heap H locs → lv_has ls 3 [(0, .ref (q 0)), (1, .int p1), (2, .int v2_11)] → W p l e (headSpec wsX9_records { frames := 1, cells := 0, slots := 0, locals := 24 }).room s m args below meth c H locs 0 0 (MQ below (Qw D A (some (.int r)) (wM cI cB cZ q y1)) args s 0 0 A) (F0 m 11 ls []) := by
      intro n_11
      induction n_11 with
      | zero =>
        intro v2_11 z1_11 H locs ls hf
        exact no_ob hf
      | succ n_11 ih11 =>
        intro v2_11 z1_11 H locs ls hf hP hD hS hl
        rw [lX9_records_11] at hf
        refine lv_iload_n hx hb dX9_records_11 rfl (lv_at hl 2 rfl) ?_
        refine lv_bipush (v := 8) hx hb dX9_records_12 (by decide) ?_
        refine lv_icmp_ge (tgt := 38) hx hb dX9_records_14 (by decide) (fun c_14 => ?_) (fun c_14 => ?_)
        · have hf := ip c_14 hf
          exact hp38 z1_11 _ _ _ hf hP hD hS (lv_sub hl [0, 1] rfl)
        · have hf := iq c_14 hf
          refine lv_aload_n hx hb dX9_records_17 rfl (lv_at hl 0 rfl) ?_
          refine va_get (D := D) (ci := 8) (v := .ref (q 4)) (C := RX9) (T := TX9) (N := 27) hx hb hts hiX9 hown hK hP 0 rfl rfl 4 (by decide) k19 (fun _ h9 => h9) rfl dX9_records_18 ?_
          refine lv_iload_n hx hb dX9_records_21 rfl (lv_at hl 2 rfl) ?_
          refine lv_aload_n hx hb dX9_records_22 rfl (lv_at hl 0 rfl) ?_
          refine va_get (D := D) (ci := 8) (v := .ref (q 4)) (C := RX9) (T := TX9) (N := 27) hx hb hts hiX9 hown hK hP 0 rfl rfl 4 (by decide) k19 (fun _ h9 => h9) rfl dX9_records_23 ?_
          refine lv_iload_n hx hb dX9_records_26 rfl (lv_at hl 2 rfl) ?_
          refine lv_iconst (v := 1) hx hb dX9_records_27 (by decide) ?_
          refine lv_isub hx hb dX9_records_28 ?_
          obtain ⟨x_6, hc_7, hf⟩ := bd_ob hf
          refine wrS (As := [.ref (q 4), .int v2_11, .ref (q 4), .int (v2_11 - (1 : Int32))]) (rest := []) (ws2 := wM cI cB cZ q (sA z1_11 4 x_6)) ⟨hx, hb, hml, hown, hts⟩ (mX9_copies_same l D cI cB cZ cO (q 4) _ fu 7336 (z1_11.2 4) v2_11 (v2_11 - (1 : Int32)) hc_7) (va_cwS 4 hts gX9_records_X9_copies rfl rfl rfl (by decide +kernel) ⟨Nat.le_of_ble_eq_true rfl, Nat.le_of_ble_eq_true rfl⟩) hK hP hD hS hA [4] [0, 1, 2, 3, 5, 6, 7, 8, 9, 10] [0, 1, 2, 3, 10, 4, 5, 6, 7, 8, 9] rfl (hP.sub [4] rfl) (by decide) rfl (by decide) (by decide) (by decide) rfl  rfl hl.1 rfl (Nat.le_of_ble_eq_true rfl) dX9_records_29 ⟨Nat.zero_le _, Nat.zero_le _⟩ (fun H locs hP hD hS => ?_)
          obtain ⟨z_8, ez_8, hf⟩ := nm_ob hf
          have hP : va_P D vwCl (wM cI cB cZ q z_8) H := by rw [ez_8]; exact hP
          have hD : va_D A (wM cI cB cZ q z_8) := by rw [ez_8]; exact hD
          obtain ⟨v2_9, ev2_9, hf⟩ := nm_ob hf
          refine lv_iinc (v := v2_9) (lv' := [(2, .int v2_9), (0, .ref (q 0)), (1, .int p1)]) hx hb dX9_records_32 hl (k := 2) rfl (by rw [ev2_9]; rfl) (by decide) rfl (fun ls hl => ?_)
          refine lv_goto (tgt := 11) hx hb dX9_records_35 (by decide) ?_
          exact ih11 v2_9 z_8 _ _ _ hf hP hD hS (lv_sub hl [1, 2, 0] rfl)
    exact hL11 fu (1 : Int32) z _ _ _ hf hP hD hS (lv_sub hl [1, 2, 0] rfl)

def lX9_lays_2 (fu : Nat) (p1 : Int32) (p2 : Int32) (j54 : OS → Option ((OS))) : Nat → Int32 → OS → Option ((OS))
  | 0, _, _ => none
  | n_2 + 1, v3_2, z1_2 => (if (12 : Int32) ≤ v3_2 then j54 z1_2 else jn (κ := Int32 → Option ((OS))) (fun (t0_35 : Int32) => bd (fX9_many fu z1_2) (fun (r_1 : Int32) => bd (fX9_puts fu z1_2 r_1 v3_2 t0_35) (fun (z_3 : OS) => nm (v3_2 + (1 : Int32)) (fun (v3_5 : Int32) => lX9_lays_2 fu p1 p2 j54 n_2 v3_5 z_3)))) (fun j35 => (if ¬ ((p1 >>> (v3_2 &&& (31 : Int32))) &&& (1 : Int32)) = (1 : Int32) then (if ¬ ((p2 >>> (v3_2 &&& (31 : Int32))) &&& (1 : Int32)) = (1 : Int32) then j35 (0 : Int32) else j35 (2 : Int32)) else j35 (1 : Int32))))
def fX9_lays (fu : Nat) (z : OS) (p1 : Int32) (p2 : Int32) : Option ((OS)) :=
  jn (κ := OS → Option ((OS))) (fun (z1_54 : OS) => some z1_54) (fun j54 => lX9_lays_2 fu p1 p2 j54 fu (0 : Int32) z)
set_option maxRecDepth 100000 in
set_option maxHeartbeats 4000000 in
theorem mX9_lays (l : Launch) (D : va_G) (cI cB cZ cO : ClassId) (q : Nat → Nat) (sz : Nat) (fu : Nat) (z : OS) (p1 : Int32) (p2 : Int32) {y1 : OS} (hf : fX9_lays fu z p1 p2 = some y1) : Met l yX9_lays wsX9_lays ({ frames := 1, cells := 0, slots := 0, locals := 23 }) (va_Pc [.ref (q 0), .int p1, .int p2] (Pw D (gT cI cB cZ cO) (wM cI cB cZ q z) sz)) (Qw D (va_A (wM cI cB cZ q z) sz) none (wM cI cB cZ q y1)) 0 0 (va_A (wM cI cB cZ q z) sz) := by
  unfold fX9_lays at hf
  refine metW (ret := none) (own := RX9) rfl (by decide) rfl (Nat.le_of_ble_eq_true rfl) (fun p e s m args below meth c ls A hx hb hr hml hown hlocks hts hK hA hP hD hS hl => ?_)
  have hl : lv_has ls 5 [(0, .ref (q 0)), (1, .int p1), (2, .int p2)] := hl
  refine lv_iconst (v := 0) hx hb dX9_lays_0 (by decide) ?_
  refine lv_istore_n (lv' := [(3, .int (0 : Int32)), (0, .ref (q 0)), (1, .int p1), (2, .int p2)]) hx hb dX9_lays_1 rfl hl (by decide) rfl (fun ls hl => ?_)
  obtain ⟨j54, ej54, hf⟩ := jn_ob hf
  have hp54 : ∀ (z1_54 : OS) (H : Heap) (locs : List Loc) (ls : Array Slot), j54 z1_54 = some y1 → va_P D vwCl (wM cI cB cZ q z1_54) H → va_D A (wM cI cB cZ q z1_54) → va_S A s.heap H locs → lv_has ls 5 [] → W p l e (headSpec wsX9_lays { frames := 1, cells := 0, slots := 0, locals := 23 }).room s m args below meth c H locs 0 0 (MQ below (Qw D A none (wM cI cB cZ q y1)) args s 0 0 A) (F0 m 54 ls []) := by
    intro z1_54 H locs ls hf hP hD hS hl
    rw [ej54] at hf
    exact rW_v hx hb hr hlocks hP hD hS (congrArg (fun (q9 : (OS)) => wM cI cB cZ q q9) (so_ob hf)) dX9_lays_54
  have hL2 : ∀ (n_2 : Nat) (v3_2 : Int32) (z1_2 : OS) (H : Heap) (locs : List Loc) (ls : Array Slot), lX9_lays_2 fu p1 p2 j54 n_2 v3_2 z1_2 = some y1 → va_P D vwCl (wM cI cB cZ q z1_2) H → va_D A (wM cI cB cZ q z1_2) → va_S A s.heap H locs → lv_has ls 5 [(0, .ref (q 0)), (1, .int p1), (2, .int p2), (3, .int v3_2)] → W p l e (headSpec wsX9_lays { frames := 1, cells := 0, slots := 0, locals := 23 }).room s m args below meth c H locs 0 0 (MQ below (Qw D A none (wM cI cB cZ q y1)) args s 0 0 A) (F0 m 2 ls []) := by
    intro n_2
    induction n_2 with
    | zero =>
      intro v3_2 z1_2 H locs ls hf
      exact no_ob hf
    | succ n_2 ih2 =>
      intro v3_2 z1_2 H locs ls hf hP hD hS hl
      rw [lX9_lays_2] at hf
      refine lv_iload_n hx hb dX9_lays_2 rfl (lv_at hl 3 rfl) ?_
      refine lv_bipush (v := 12) hx hb dX9_lays_3 (by decide) ?_
      refine lv_icmp_ge (tgt := 54) hx hb dX9_lays_5 (by decide) (fun c_5 => ?_) (fun c_5 => ?_)
      · have hf := ip c_5 hf
        exact hp54 z1_2 _ _ _ hf hP hD hS (lv_sub hl [] rfl)
      · have hf := iq c_5 hf
        refine lv_iload_n hx hb dX9_lays_8 rfl (lv_at hl 1 rfl) ?_
        refine lv_iload_n hx hb dX9_lays_9 rfl (lv_at hl 3 rfl) ?_
        refine lv_ishr hx hb dX9_lays_10 ?_
        refine lv_iconst (v := 1) hx hb dX9_lays_11 (by decide) ?_
        refine lv_iand hx hb dX9_lays_12 ?_
        refine lv_iconst (v := 1) hx hb dX9_lays_13 (by decide) ?_
        obtain ⟨j35, ej35, hf⟩ := jn_ob hf
        have hp35 : ∀ (t0_35 : Int32) (H : Heap) (locs : List Loc) (ls : Array Slot), j35 t0_35 = some y1 → va_P D vwCl (wM cI cB cZ q z1_2) H → va_D A (wM cI cB cZ q z1_2) → va_S A s.heap H locs → lv_has ls 5 [(0, .ref (q 0)), (1, .int p1), (2, .int p2), (3, .int v3_2)] → W p l e (headSpec wsX9_lays { frames := 1, cells := 0, slots := 0, locals := 23 }).room s m args below meth c H locs 0 0 (MQ below (Qw D A none (wM cI cB cZ q y1)) args s 0 0 A) (F0 m 35 ls [.int t0_35]) := by
          intro t0_35 H locs ls hf hP hD hS hl
          rw [ej35] at hf
          refine lv_istore (lv' := [(4, .int t0_35), (0, .ref (q 0)), (1, .int p1), (2, .int p2), (3, .int v3_2)]) hx hb dX9_lays_35 hl (by decide) rfl (fun ls hl => ?_)
          refine lv_aload_n hx hb dX9_lays_37 rfl (lv_at hl 1 rfl) ?_
          refine lv_aload_n hx hb dX9_lays_38 rfl (lv_at hl 1 rfl) ?_
          obtain ⟨r_1, hc_2, hf⟩ := bd_ob hf
          refine rdV (As := []) (rest := [.ref (q 0)]) ⟨hx, hb, hml, hown, hts⟩ (mX9_many l D cI cB cZ cO q fu z1_2 hc_2) (cwV 0 hts gX9_lays_X9_many rfl rfl rfl (by decide +kernel) ⟨Nat.le_of_ble_eq_true rfl, Nat.le_of_ble_eq_true rfl⟩) hK hP (va_recv hK hP (ci := 8) (q0 := 0) rfl rfl) rfl hl.1 rfl (Nat.le_of_ble_eq_true rfl) dX9_lays_39 ⟨Nat.zero_le _, Nat.zero_le _⟩ ?_
          refine lv_iload_n hx hb dX9_lays_42 rfl (lv_at hl 4 rfl) ?_
          refine lv_iload hx hb dX9_lays_43 (lv_at hl 0 rfl) ?_
          obtain ⟨z_3, hc_4, hf⟩ := bd_ob hf
          refine weV (As := [.int r_1, .int v3_2, .int t0_35]) (rest := []) ⟨hx, hb, hml, hown, hts⟩ (mX9_puts l D cI cB cZ cO q _ fu z1_2 r_1 v3_2 t0_35 hc_4) (cwV 3 hts gX9_lays_X9_puts rfl rfl rfl (by decide +kernel) ⟨Nat.le_of_ble_eq_true rfl, Nat.le_of_ble_eq_true rfl⟩) hK hP hD hS hA (va_recv hK hP (ci := 8) (q0 := 0) rfl rfl) rfl hl.1 rfl (Nat.le_of_ble_eq_true rfl) dX9_lays_45 ⟨Nat.zero_le _, Nat.zero_le _⟩ (fun H locs hP hD hS => ?_)
          obtain ⟨v3_5, ev3_5, hf⟩ := nm_ob hf
          refine lv_iinc (v := v3_5) (lv' := [(3, .int v3_5), (4, .int t0_35), (0, .ref (q 0)), (1, .int p1), (2, .int p2)]) hx hb dX9_lays_48 hl (k := 4) rfl (by rw [ev3_5]; rfl) (by decide) rfl (fun ls hl => ?_)
          refine lv_goto (tgt := 2) hx hb dX9_lays_51 (by decide) ?_
          exact ih2 v3_5 z_3 _ _ _ hf hP hD hS (lv_sub hl [2, 3, 4, 0] rfl)
        refine lv_icmp_ne (tgt := 21) hx hb dX9_lays_14 (by decide) (fun c_14 => ?_) (fun c_14 => ?_)
        · have hf := ip c_14 hf
          refine lv_iload_n hx hb dX9_lays_21 rfl (lv_at hl 2 rfl) ?_
          refine lv_iload_n hx hb dX9_lays_22 rfl (lv_at hl 3 rfl) ?_
          refine lv_ishr hx hb dX9_lays_23 ?_
          refine lv_iconst (v := 1) hx hb dX9_lays_24 (by decide) ?_
          refine lv_iand hx hb dX9_lays_25 ?_
          refine lv_iconst (v := 1) hx hb dX9_lays_26 (by decide) ?_
          refine lv_icmp_ne (tgt := 34) hx hb dX9_lays_27 (by decide) (fun c_27 => ?_) (fun c_27 => ?_)
          · have hf := ip c_27 hf
            refine lv_iconst (v := 0) hx hb dX9_lays_34 (by decide) ?_
            exact hp35 (0 : Int32) _ _ _ hf hP hD hS hl
          · have hf := iqn c_27 hf
            refine lv_iconst (v := 2) hx hb dX9_lays_30 (by decide) ?_
            refine lv_goto (tgt := 35) hx hb dX9_lays_31 (by decide) ?_
            exact hp35 (2 : Int32) _ _ _ hf hP hD hS hl
        · have hf := iqn c_14 hf
          refine lv_iconst (v := 1) hx hb dX9_lays_17 (by decide) ?_
          refine lv_goto (tgt := 35) hx hb dX9_lays_18 (by decide) ?_
          exact hp35 (1 : Int32) _ _ _ hf hP hD hS hl
  exact hL2 fu (0 : Int32) z _ _ _ hf hP hD hS (lv_sub hl [1, 2, 3, 0] rfl)

def fX9_adds (fu : Nat) (z : OS) (p1 : Int32) (p2 : Int32) (p3 : Int32) : Option (Int32 × (OS)) :=
  bd (fX9_many fu z) (fun (r_1 : Int32) => gd (inB ((734 : Int32) + r_1) 917) (nm (sA z 1 (upd (z.2 1) (((734 : Int32) + r_1)).toNatClampNeg p1)) (fun (z_3 : OS) => bd (fX9_many fu z_3) (fun (r_4 : Int32) => gd (inB ((795 : Int32) + r_4) 917) (nm (sA z_3 1 (upd (z_3.2 1) (((795 : Int32) + r_4)).toNatClampNeg p2)) (fun (z_6 : OS) => bd (fX9_many fu z_6) (fun (r_7 : Int32) => gd (inB ((856 : Int32) + r_7) 917) (nm (sA z_6 1 (upd (z_6.2 1) (((856 : Int32) + r_7)).toNatClampNeg p3)) (fun (z_9 : OS) => gd (inB (1 : Int32) 917) (gd (inB (1 : Int32) 917) (nm (sA z_9 1 (upd (z_9.2 1) ((1 : Int32)).toNatClampNeg ((z_9.2 1 ((1 : Int32)).toNatClampNeg) + (1 : Int32)))) (fun (z_10 : OS) => bd (fX9_many fu z_10) (fun (r_11 : Int32) => some ((r_11 - (1 : Int32)), z_10))))))))))))))
set_option maxRecDepth 100000 in
set_option maxHeartbeats 4000000 in
theorem mX9_adds (l : Launch) (D : va_G) (cI cB cZ cO : ClassId) (q : Nat → Nat) (sz : Nat) (fu : Nat) (z : OS) (p1 : Int32) (p2 : Int32) (p3 : Int32) {r : Int32} {y1 : OS} (hf : fX9_adds fu z p1 p2 p3 = some (r, y1)) : Met l yX9_adds wsX9_adds ({ frames := 1, cells := 0, slots := 0, locals := 20 }) (va_Pc [.ref (q 0), .int p1, .int p2, .int p3] (Pw D (gT cI cB cZ cO) (wM cI cB cZ q z) sz)) (Qw D (va_A (wM cI cB cZ q z) sz) (some (.int r)) (wM cI cB cZ q y1)) 0 0 (va_A (wM cI cB cZ q z) sz) := by
  unfold fX9_adds at hf
  refine metW (ret := (some .int)) (own := RX9) rfl (by decide) rfl (Nat.le_of_ble_eq_true rfl) (fun p e s m args below meth c ls A hx hb hr hml hown hlocks hts hK hA hP hD hS hl => ?_)
  have k9 := (hts (.fieldLink RX9 9 "ResolutionProverModel" "now" "[I") (List.mem_of_getElem? (i := 1) rfl))
  have hiX9 : ∀ w ∈ wsX90, w ∈ wsX9_adds := (memIn_p [7, 8, 9, 10, 11, 12, 13, 14, 15, 16, 17, 18, 19, 20, 21, 22, 23, 24, 25, 26, 27, 28, 29, 30, 31, 32, 33] rfl)
  have hl : lv_has ls 4 [(0, .ref (q 0)), (1, .int p1), (2, .int p2), (3, .int p3)] := hl
  refine lv_aload_n hx hb dX9_adds_0 rfl (lv_at hl 0 rfl) ?_
  refine va_get (D := D) (ci := 8) (v := .ref (q 1)) (C := RX9) (T := TX9) (N := 27) hx hb hts hiX9 hown hK hP 0 rfl rfl 1 (by decide) k9 (fun _ h9 => h9) rfl dX9_adds_1 ?_
  refine lv_sipush (v := 734) hx hb dX9_adds_4 (by decide) ?_
  refine lv_aload_n hx hb dX9_adds_7 rfl (lv_at hl 0 rfl) ?_
  obtain ⟨r_1, hc_2, hf⟩ := bd_ob hf
  refine rdV (As := []) (rest := [.int (734 : Int32), .ref (q 1)]) ⟨hx, hb, hml, hown, hts⟩ (mX9_many l D cI cB cZ cO q fu z hc_2) (cwV 0 hts gX9_adds_X9_many rfl rfl rfl (by decide +kernel) ⟨Nat.le_of_ble_eq_true rfl, Nat.le_of_ble_eq_true rfl⟩) hK hP (va_recv hK hP (ci := 8) (q0 := 0) rfl rfl) rfl hl.1 rfl (Nat.le_of_ble_eq_true rfl) dX9_adds_8 ⟨Nat.zero_le _, Nat.zero_le _⟩ ?_
  refine lv_iadd hx hb dX9_adds_11 ?_
  refine lv_iload_n hx hb dX9_adds_12 rfl (lv_at hl 1 rfl) ?_
  obtain ⟨hi_, hf⟩ := gd_ob hf
  refine va_iast hx hb hK hP hD hS 1 0 rfl rfl (inB_in hi_) dX9_adds_13 (fun H locs hP hD hS => ?_)
  obtain ⟨z_3, ez_3, hf⟩ := nm_ob hf
  have hP : va_P D vwCl (wM cI cB cZ q z_3) H := by rw [ez_3]; exact hP
  have hD : va_D A (wM cI cB cZ q z_3) := by rw [ez_3]; exact hD
  refine lv_aload_n hx hb dX9_adds_14 rfl (lv_at hl 0 rfl) ?_
  refine va_get (D := D) (ci := 8) (v := .ref (q 1)) (C := RX9) (T := TX9) (N := 27) hx hb hts hiX9 hown hK hP 0 rfl rfl 1 (by decide) k9 (fun _ h9 => h9) rfl dX9_adds_15 ?_
  refine lv_sipush (v := 795) hx hb dX9_adds_18 (by decide) ?_
  refine lv_aload_n hx hb dX9_adds_21 rfl (lv_at hl 0 rfl) ?_
  obtain ⟨r_4, hc_5, hf⟩ := bd_ob hf
  refine rdV (As := []) (rest := [.int (795 : Int32), .ref (q 1)]) ⟨hx, hb, hml, hown, hts⟩ (mX9_many l D cI cB cZ cO q fu z_3 hc_5) (cwV 0 hts gX9_adds_X9_many rfl rfl rfl (by decide +kernel) ⟨Nat.le_of_ble_eq_true rfl, Nat.le_of_ble_eq_true rfl⟩) hK hP (va_recv hK hP (ci := 8) (q0 := 0) rfl rfl) rfl hl.1 rfl (Nat.le_of_ble_eq_true rfl) dX9_adds_22 ⟨Nat.zero_le _, Nat.zero_le _⟩ ?_
  refine lv_iadd hx hb dX9_adds_25 ?_
  refine lv_iload_n hx hb dX9_adds_26 rfl (lv_at hl 2 rfl) ?_
  obtain ⟨hi_, hf⟩ := gd_ob hf
  refine va_iast hx hb hK hP hD hS 1 0 rfl rfl (inB_in hi_) dX9_adds_27 (fun H locs hP hD hS => ?_)
  obtain ⟨z_6, ez_6, hf⟩ := nm_ob hf
  have hP : va_P D vwCl (wM cI cB cZ q z_6) H := by rw [ez_6]; exact hP
  have hD : va_D A (wM cI cB cZ q z_6) := by rw [ez_6]; exact hD
  refine lv_aload_n hx hb dX9_adds_28 rfl (lv_at hl 0 rfl) ?_
  refine va_get (D := D) (ci := 8) (v := .ref (q 1)) (C := RX9) (T := TX9) (N := 27) hx hb hts hiX9 hown hK hP 0 rfl rfl 1 (by decide) k9 (fun _ h9 => h9) rfl dX9_adds_29 ?_
  refine lv_sipush (v := 856) hx hb dX9_adds_32 (by decide) ?_
  refine lv_aload_n hx hb dX9_adds_35 rfl (lv_at hl 0 rfl) ?_
  obtain ⟨r_7, hc_8, hf⟩ := bd_ob hf
  refine rdV (As := []) (rest := [.int (856 : Int32), .ref (q 1)]) ⟨hx, hb, hml, hown, hts⟩ (mX9_many l D cI cB cZ cO q fu z_6 hc_8) (cwV 0 hts gX9_adds_X9_many rfl rfl rfl (by decide +kernel) ⟨Nat.le_of_ble_eq_true rfl, Nat.le_of_ble_eq_true rfl⟩) hK hP (va_recv hK hP (ci := 8) (q0 := 0) rfl rfl) rfl hl.1 rfl (Nat.le_of_ble_eq_true rfl) dX9_adds_36 ⟨Nat.zero_le _, Nat.zero_le _⟩ ?_
  refine lv_iadd hx hb dX9_adds_39 ?_
  refine lv_iload_n hx hb dX9_adds_40 rfl (lv_at hl 3 rfl) ?_
  obtain ⟨hi_, hf⟩ := gd_ob hf
  refine va_iast hx hb hK hP hD hS 1 0 rfl rfl (inB_in hi_) dX9_adds_41 (fun H locs hP hD hS => ?_)
  obtain ⟨z_9, ez_9, hf⟩ := nm_ob hf
  have hP : va_P D vwCl (wM cI cB cZ q z_9) H := by rw [ez_9]; exact hP
  have hD : va_D A (wM cI cB cZ q z_9) := by rw [ez_9]; exact hD
  refine lv_aload_n hx hb dX9_adds_42 rfl (lv_at hl 0 rfl) ?_
  refine va_get (D := D) (ci := 8) (v := .ref (q 1)) (C := RX9) (T := TX9) (N := 27) hx hb hts hiX9 hown hK hP 0 rfl rfl 1 (by decide) k9 (fun _ h9 => h9) rfl dX9_adds_43 ?_
  refine lv_iconst (v := 1) hx hb dX9_adds_46 (by decide) ?_
  refine lv_dup2_11 hx hb dX9_adds_47 rfl rfl ?_
  obtain ⟨hi_, hf⟩ := gd_ob hf
  refine va_iald hx hb hK hP 1 0 rfl rfl (inB_in hi_) dX9_adds_48 ?_
  refine lv_iconst (v := 1) hx hb dX9_adds_49 (by decide) ?_
  refine lv_iadd hx hb dX9_adds_50 ?_
  obtain ⟨hi_, hf⟩ := gd_ob hf
  refine va_iast hx hb hK hP hD hS 1 0 rfl rfl (inB_in hi_) dX9_adds_51 (fun H locs hP hD hS => ?_)
  obtain ⟨z_10, ez_10, hf⟩ := nm_ob hf
  have hP : va_P D vwCl (wM cI cB cZ q z_10) H := by rw [ez_10]; exact hP
  have hD : va_D A (wM cI cB cZ q z_10) := by rw [ez_10]; exact hD
  refine lv_aload_n hx hb dX9_adds_52 rfl (lv_at hl 0 rfl) ?_
  obtain ⟨r_11, hc_12, hf⟩ := bd_ob hf
  refine rdV (As := []) (rest := []) ⟨hx, hb, hml, hown, hts⟩ (mX9_many l D cI cB cZ cO q fu z_10 hc_12) (cwV 0 hts gX9_adds_X9_many rfl rfl rfl (by decide +kernel) ⟨Nat.le_of_ble_eq_true rfl, Nat.le_of_ble_eq_true rfl⟩) hK hP (va_recv hK hP (ci := 8) (q0 := 0) rfl rfl) rfl hl.1 rfl (Nat.le_of_ble_eq_true rfl) dX9_adds_53 ⟨Nat.zero_le _, Nat.zero_le _⟩ ?_
  refine lv_iconst (v := 1) hx hb dX9_adds_56 (by decide) ?_
  refine lv_isub hx hb dX9_adds_57 ?_
  exact rW_i hx hb hr hlocks hP hD hS (congrArg (fun q9 => q9.1) (so_ob hf)) (congrArg (fun (q9 : Int32 × (OS)) => wM cI cB cZ q q9.2) (so_ob hf)) dX9_adds_58

def lX9_mask_5 (fu : Nat) (z : OS) (p1 : Int32) (p2 : Int32) (j42 : Int32 → Option (Int32)) : Nat → Int32 → Int32 → Option (Int32)
  | 0, _, _ => none
  | n_5 + 1, v3_5, v4_5 => bd (fX9_wide fu z) (fun (r_1 : Int32) => (if r_1 ≤ v4_5 then j42 v3_5 else bd (fX9_sign fu z p1 v4_5) (fun (r_3 : Int32) => jn (κ := Int32 → Int32 → Option (Int32)) (fun (t0_34 : Int32) (t1_34 : Int32) => nm (t0_34 ||| t1_34) (fun (v3_5 : Int32) => nm (v4_5 + (1 : Int32)) (fun (v4_6 : Int32) => lX9_mask_5 fu z p1 p2 j42 n_5 v3_5 v4_6))) (fun j34 => (if ¬ r_3 = p2 then j34 v3_5 (0 : Int32) else j34 v3_5 ((1 : Int32) <<< (v4_5 &&& (31 : Int32))))))))
def fX9_mask (fu : Nat) (z : OS) (p1 : Int32) (p2 : Int32) : Option (Int32) :=
  jn (κ := Int32 → Option (Int32)) (fun (v3_42 : Int32) => some v3_42) (fun j42 => lX9_mask_5 fu z p1 p2 j42 fu (0 : Int32) (0 : Int32))
set_option maxRecDepth 100000 in
set_option maxHeartbeats 4000000 in
theorem mX9_mask (l : Launch) (D : va_G) (cI cB cZ cO : ClassId) (q : Nat → Nat) (fu : Nat) (z : OS) (p1 : Int32) (p2 : Int32) {r : Int32} (hf : fX9_mask fu z p1 p2 = some r) : Met l yX9_mask wsX9_mask ({ frames := 1, cells := 0, slots := 0, locals := 22 }) (va_Pc [.ref (q 0), .int p1, .int p2] (Pr D (gT cI cB cZ cO) (wM cI cB cZ q z))) (Qr (some (.int r))) 0 0 (fun _ => False) := by
  unfold fX9_mask at hf
  refine metR (ret := (some .int)) (own := RX9) rfl (by decide) rfl (Nat.le_of_ble_eq_true rfl) (fun p e s m args below meth c ls hx hb hr hml hown hlocks hts hP hK hl => ?_)
  have hl : lv_has ls 5 [(0, .ref (q 0)), (1, .int p1), (2, .int p2)] := hl
  refine lv_iconst (v := 0) hx hb dX9_mask_0 (by decide) ?_
  refine lv_istore_n (lv' := [(3, .int (0 : Int32)), (0, .ref (q 0)), (1, .int p1), (2, .int p2)]) hx hb dX9_mask_1 rfl hl (by decide) rfl (fun ls hl => ?_)
  refine lv_iconst (v := 0) hx hb dX9_mask_2 (by decide) ?_
  refine lv_istore (lv' := [(4, .int (0 : Int32)), (3, .int (0 : Int32)), (0, .ref (q 0)), (1, .int p1), (2, .int p2)]) hx hb dX9_mask_3 hl (by decide) rfl (fun ls hl => ?_)
  obtain ⟨j42, ej42, hf⟩ := jn_ob hf
  have hp42 : ∀ (v3_42 : Int32) (ls : Array Slot), j42 v3_42 = some r → lv_has ls 5 [(3, .int v3_42)] → W p l e (headSpec wsX9_mask { frames := 1, cells := 0, slots := 0, locals := 22 }).room s m args below meth c s.heap [] 0 0 (MQ below (Qr (some (.int r))) args s 0 0 (fun _ => False)) (F0 m 42 ls []) := by
    intro v3_42 ls hf hl
    rw [ej42] at hf
    refine lv_iload_n hx hb dX9_mask_42 rfl (lv_at hl 0 rfl) ?_
    exact rR_i hx hb hr hlocks (so_ob hf) dX9_mask_43
  have hL5 : ∀ (n_5 : Nat) (v3_5 : Int32) (v4_5 : Int32) (ls : Array Slot), lX9_mask_5 fu z p1 p2 j42 n_5 v3_5 v4_5 = some r → lv_has ls 5 [(0, .ref (q 0)), (1, .int p1), (2, .int p2), (3, .int v3_5), (4, .int v4_5)] → W p l e (headSpec wsX9_mask { frames := 1, cells := 0, slots := 0, locals := 22 }).room s m args below meth c s.heap [] 0 0 (MQ below (Qr (some (.int r))) args s 0 0 (fun _ => False)) (F0 m 5 ls []) := by
    intro n_5
    induction n_5 with
    | zero =>
      intro v3_5 v4_5 ls hf
      exact no_ob hf
    | succ n_5 ih5 =>
      intro v3_5 v4_5 ls hf hl
      rw [lX9_mask_5] at hf
      refine lv_iload hx hb dX9_mask_5 (lv_at hl 4 rfl) ?_
      refine lv_aload_n hx hb dX9_mask_7 rfl (lv_at hl 0 rfl) ?_
      obtain ⟨r_1, hc_2, hf⟩ := bd_ob hf
      refine rdV (As := []) (rest := [.int v4_5]) ⟨hx, hb, hml, hown, hts⟩ (mX9_wide l D cI cB cZ cO q fu z hc_2) (cwV 0 hts gX9_mask_X9_wide rfl rfl rfl (by decide +kernel) ⟨Nat.le_of_ble_eq_true rfl, Nat.le_of_ble_eq_true rfl⟩) hK hP (va_recv hK hP (ci := 8) (q0 := 0) rfl rfl) rfl hl.1 rfl (Nat.le_of_ble_eq_true rfl) dX9_mask_8 ⟨Nat.zero_le _, Nat.zero_le _⟩ ?_
      refine lv_icmp_ge (tgt := 42) hx hb dX9_mask_11 (by decide) (fun c_11 => ?_) (fun c_11 => ?_)
      · have hf := ip c_11 hf
        exact hp42 v3_5 _ hf (lv_sub hl [3] rfl)
      · have hf := iq c_11 hf
        refine lv_iload_n hx hb dX9_mask_14 rfl (lv_at hl 3 rfl) ?_
        refine lv_aload_n hx hb dX9_mask_15 rfl (lv_at hl 0 rfl) ?_
        refine lv_iload_n hx hb dX9_mask_16 rfl (lv_at hl 1 rfl) ?_
        refine lv_iload hx hb dX9_mask_17 (lv_at hl 4 rfl) ?_
        obtain ⟨r_3, hc_4, hf⟩ := bd_ob hf
        refine rdV (As := [.int p1, .int v4_5]) (rest := [.int v3_5]) ⟨hx, hb, hml, hown, hts⟩ (mX9_sign l D cI cB cZ cO q fu z p1 v4_5 hc_4) (cwV 2 hts gX9_mask_X9_sign rfl rfl rfl (by decide +kernel) ⟨Nat.le_of_ble_eq_true rfl, Nat.le_of_ble_eq_true rfl⟩) hK hP (va_recv hK hP (ci := 8) (q0 := 0) rfl rfl) rfl hl.1 rfl (Nat.le_of_ble_eq_true rfl) dX9_mask_19 ⟨Nat.zero_le _, Nat.zero_le _⟩ ?_
        refine lv_iload_n hx hb dX9_mask_22 rfl (lv_at hl 2 rfl) ?_
        obtain ⟨j34, ej34, hf⟩ := jn_ob hf
        have hp34 : ∀ (t0_34 : Int32) (t1_34 : Int32) (ls : Array Slot), j34 t0_34 t1_34 = some r → lv_has ls 5 [(0, .ref (q 0)), (1, .int p1), (2, .int p2), (4, .int v4_5)] → W p l e (headSpec wsX9_mask { frames := 1, cells := 0, slots := 0, locals := 22 }).room s m args below meth c s.heap [] 0 0 (MQ below (Qr (some (.int r))) args s 0 0 (fun _ => False)) (F0 m 34 ls [.int t1_34, .int t0_34]) := by
          intro t0_34 t1_34 ls hf hl
          rw [ej34] at hf
          refine lv_ior hx hb dX9_mask_34 ?_
          obtain ⟨v3_5, ev3_5, hf⟩ := nm_ob hf
          refine lv_nmi ev3_5 ?_
          refine lv_istore_n (lv' := [(3, .int v3_5), (0, .ref (q 0)), (1, .int p1), (2, .int p2), (4, .int v4_5)]) hx hb dX9_mask_35 rfl hl (by decide) rfl (fun ls hl => ?_)
          obtain ⟨v4_6, ev4_6, hf⟩ := nm_ob hf
          refine lv_iinc (v := v4_6) (lv' := [(4, .int v4_6), (3, .int v3_5), (0, .ref (q 0)), (1, .int p1), (2, .int p2)]) hx hb dX9_mask_36 hl (k := 4) rfl (by rw [ev4_6]; rfl) (by decide) rfl (fun ls hl => ?_)
          refine lv_goto (tgt := 5) hx hb dX9_mask_39 (by decide) ?_
          exact ih5 v3_5 v4_6 _ hf (lv_sub hl [2, 3, 4, 1, 0] rfl)
        refine lv_icmp_ne (tgt := 33) hx hb dX9_mask_23 (by decide) (fun c_23 => ?_) (fun c_23 => ?_)
        · have hf := ip c_23 hf
          refine lv_iconst (v := 0) hx hb dX9_mask_33 (by decide) ?_
          exact hp34 v3_5 (0 : Int32) _ hf (lv_sub hl [0, 1, 2, 4] rfl)
        · have hf := iqn c_23 hf
          refine lv_iconst (v := 1) hx hb dX9_mask_26 (by decide) ?_
          refine lv_iload hx hb dX9_mask_27 (lv_at hl 4 rfl) ?_
          refine lv_ishl hx hb dX9_mask_29 ?_
          refine lv_goto (tgt := 34) hx hb dX9_mask_30 (by decide) ?_
          exact hp34 v3_5 ((1 : Int32) <<< (v4_5 &&& (31 : Int32))) _ hf (lv_sub hl [0, 1, 2, 4] rfl)
  exact hL5 fu (0 : Int32) (0 : Int32) _ hf (lv_sub hl [2, 3, 4, 1, 0] rfl)

def lX9_literals_4 (fu : Nat) (z : OS) (p1 : Int32) (j35 : Int32 → Option (Int32)) : Nat → Int32 → Int32 → Option (Int32)
  | 0, _, _ => none
  | n_4 + 1, v2_4, v3_4 => bd (fX9_wide fu z) (fun (r_1 : Int32) => (if r_1 ≤ v3_4 then j35 v2_4 else bd (fX9_sign fu z p1 v3_4) (fun (r_3 : Int32) => jn (κ := Int32 → Int32 → Option (Int32)) (fun (t0_27 : Int32) (t1_27 : Int32) => nm (t0_27 + t1_27) (fun (v2_5 : Int32) => nm (v3_4 + (1 : Int32)) (fun (v3_6 : Int32) => lX9_literals_4 fu z p1 j35 n_4 v2_5 v3_6))) (fun j27 => (if ¬ r_3 = (0 : Int32) then j27 v2_4 (1 : Int32) else j27 v2_4 (0 : Int32))))))
def fX9_literals (fu : Nat) (z : OS) (p1 : Int32) : Option (Int32) :=
  jn (κ := Int32 → Option (Int32)) (fun (v2_35 : Int32) => some v2_35) (fun j35 => lX9_literals_4 fu z p1 j35 fu (0 : Int32) (0 : Int32))
set_option maxRecDepth 100000 in
set_option maxHeartbeats 4000000 in
theorem mX9_literals (l : Launch) (D : va_G) (cI cB cZ cO : ClassId) (q : Nat → Nat) (fu : Nat) (z : OS) (p1 : Int32) {r : Int32} (hf : fX9_literals fu z p1 = some r) : Met l yX9_literals wsX9_literals ({ frames := 1, cells := 0, slots := 0, locals := 22 }) (va_Pc [.ref (q 0), .int p1] (Pr D (gT cI cB cZ cO) (wM cI cB cZ q z))) (Qr (some (.int r))) 0 0 (fun _ => False) := by
  unfold fX9_literals at hf
  refine metR (ret := (some .int)) (own := RX9) rfl (by decide) rfl (Nat.le_of_ble_eq_true rfl) (fun p e s m args below meth c ls hx hb hr hml hown hlocks hts hP hK hl => ?_)
  have hl : lv_has ls 4 [(0, .ref (q 0)), (1, .int p1)] := hl
  refine lv_iconst (v := 0) hx hb dX9_literals_0 (by decide) ?_
  refine lv_istore_n (lv' := [(2, .int (0 : Int32)), (0, .ref (q 0)), (1, .int p1)]) hx hb dX9_literals_1 rfl hl (by decide) rfl (fun ls hl => ?_)
  refine lv_iconst (v := 0) hx hb dX9_literals_2 (by decide) ?_
  refine lv_istore_n (lv' := [(3, .int (0 : Int32)), (2, .int (0 : Int32)), (0, .ref (q 0)), (1, .int p1)]) hx hb dX9_literals_3 rfl hl (by decide) rfl (fun ls hl => ?_)
  obtain ⟨j35, ej35, hf⟩ := jn_ob hf
  have hp35 : ∀ (v2_35 : Int32) (ls : Array Slot), j35 v2_35 = some r → lv_has ls 4 [(2, .int v2_35)] → W p l e (headSpec wsX9_literals { frames := 1, cells := 0, slots := 0, locals := 22 }).room s m args below meth c s.heap [] 0 0 (MQ below (Qr (some (.int r))) args s 0 0 (fun _ => False)) (F0 m 35 ls []) := by
    intro v2_35 ls hf hl
    rw [ej35] at hf
    refine lv_iload_n hx hb dX9_literals_35 rfl (lv_at hl 0 rfl) ?_
    exact rR_i hx hb hr hlocks (so_ob hf) dX9_literals_36
  have hL4 : ∀ (n_4 : Nat) (v2_4 : Int32) (v3_4 : Int32) (ls : Array Slot), lX9_literals_4 fu z p1 j35 n_4 v2_4 v3_4 = some r → lv_has ls 4 [(0, .ref (q 0)), (1, .int p1), (2, .int v2_4), (3, .int v3_4)] → W p l e (headSpec wsX9_literals { frames := 1, cells := 0, slots := 0, locals := 22 }).room s m args below meth c s.heap [] 0 0 (MQ below (Qr (some (.int r))) args s 0 0 (fun _ => False)) (F0 m 4 ls []) := by
    intro n_4
    induction n_4 with
    | zero =>
      intro v2_4 v3_4 ls hf
      exact no_ob hf
    | succ n_4 ih4 =>
      intro v2_4 v3_4 ls hf hl
      rw [lX9_literals_4] at hf
      refine lv_iload_n hx hb dX9_literals_4 rfl (lv_at hl 3 rfl) ?_
      refine lv_aload_n hx hb dX9_literals_5 rfl (lv_at hl 0 rfl) ?_
      obtain ⟨r_1, hc_2, hf⟩ := bd_ob hf
      refine rdV (As := []) (rest := [.int v3_4]) ⟨hx, hb, hml, hown, hts⟩ (mX9_wide l D cI cB cZ cO q fu z hc_2) (cwV 0 hts gX9_literals_X9_wide rfl rfl rfl (by decide +kernel) ⟨Nat.le_of_ble_eq_true rfl, Nat.le_of_ble_eq_true rfl⟩) hK hP (va_recv hK hP (ci := 8) (q0 := 0) rfl rfl) rfl hl.1 rfl (Nat.le_of_ble_eq_true rfl) dX9_literals_6 ⟨Nat.zero_le _, Nat.zero_le _⟩ ?_
      refine lv_icmp_ge (tgt := 35) hx hb dX9_literals_9 (by decide) (fun c_9 => ?_) (fun c_9 => ?_)
      · have hf := ip c_9 hf
        exact hp35 v2_4 _ hf (lv_sub hl [2] rfl)
      · have hf := iq c_9 hf
        refine lv_iload_n hx hb dX9_literals_12 rfl (lv_at hl 2 rfl) ?_
        refine lv_aload_n hx hb dX9_literals_13 rfl (lv_at hl 0 rfl) ?_
        refine lv_iload_n hx hb dX9_literals_14 rfl (lv_at hl 1 rfl) ?_
        refine lv_iload_n hx hb dX9_literals_15 rfl (lv_at hl 3 rfl) ?_
        obtain ⟨r_3, hc_4, hf⟩ := bd_ob hf
        refine rdV (As := [.int p1, .int v3_4]) (rest := [.int v2_4]) ⟨hx, hb, hml, hown, hts⟩ (mX9_sign l D cI cB cZ cO q fu z p1 v3_4 hc_4) (cwV 2 hts gX9_literals_X9_sign rfl rfl rfl (by decide +kernel) ⟨Nat.le_of_ble_eq_true rfl, Nat.le_of_ble_eq_true rfl⟩) hK hP (va_recv hK hP (ci := 8) (q0 := 0) rfl rfl) rfl hl.1 rfl (Nat.le_of_ble_eq_true rfl) dX9_literals_16 ⟨Nat.zero_le _, Nat.zero_le _⟩ ?_
        obtain ⟨j27, ej27, hf⟩ := jn_ob hf
        have hp27 : ∀ (t0_27 : Int32) (t1_27 : Int32) (ls : Array Slot), j27 t0_27 t1_27 = some r → lv_has ls 4 [(0, .ref (q 0)), (1, .int p1), (3, .int v3_4)] → W p l e (headSpec wsX9_literals { frames := 1, cells := 0, slots := 0, locals := 22 }).room s m args below meth c s.heap [] 0 0 (MQ below (Qr (some (.int r))) args s 0 0 (fun _ => False)) (F0 m 27 ls [.int t1_27, .int t0_27]) := by
          intro t0_27 t1_27 ls hf hl
          rw [ej27] at hf
          refine lv_iadd hx hb dX9_literals_27 ?_
          obtain ⟨v2_5, ev2_5, hf⟩ := nm_ob hf
          refine lv_nmi ev2_5 ?_
          refine lv_istore_n (lv' := [(2, .int v2_5), (0, .ref (q 0)), (1, .int p1), (3, .int v3_4)]) hx hb dX9_literals_28 rfl hl (by decide) rfl (fun ls hl => ?_)
          obtain ⟨v3_6, ev3_6, hf⟩ := nm_ob hf
          refine lv_iinc (v := v3_6) (lv' := [(3, .int v3_6), (2, .int v2_5), (0, .ref (q 0)), (1, .int p1)]) hx hb dX9_literals_29 hl (k := 3) rfl (by rw [ev3_6]; rfl) (by decide) rfl (fun ls hl => ?_)
          refine lv_goto (tgt := 4) hx hb dX9_literals_32 (by decide) ?_
          exact ih4 v2_5 v3_6 _ hf (lv_sub hl [2, 3, 1, 0] rfl)
        refine lv_if_ne (tgt := 26) hx hb dX9_literals_19 (by decide) (fun c_19 => ?_) (fun c_19 => ?_)
        · have hf := ip c_19 hf
          refine lv_iconst (v := 1) hx hb dX9_literals_26 (by decide) ?_
          exact hp27 v2_4 (1 : Int32) _ hf (lv_sub hl [0, 1, 3] rfl)
        · have hf := iqn c_19 hf
          refine lv_iconst (v := 0) hx hb dX9_literals_22 (by decide) ?_
          refine lv_goto (tgt := 27) hx hb dX9_literals_23 (by decide) ?_
          exact hp27 v2_4 (0 : Int32) _ hf (lv_sub hl [0, 1, 3] rfl)
  exact hL4 fu (0 : Int32) (0 : Int32) _ hf (lv_sub hl [2, 3, 1, 0] rfl)

def lX9_isWithin_2 (fu : Nat) (z : OS) (p1 : Int32) (p2 : Int32) (j42 : Option (Int32)) : Nat → Int32 → Option (Int32)
  | 0, _ => none
  | n_2 + 1, v3_2 => bd (fX9_wide fu z) (fun (r_1 : Int32) => (if r_1 ≤ v3_2 then j42 else bd (fX9_sign fu z p1 v3_2) (fun (r_3 : Int32) => jn (κ := Option (Int32)) (nm (v3_2 + (1 : Int32)) (fun (v3_5 : Int32) => lX9_isWithin_2 fu z p1 p2 j42 n_2 v3_5)) (fun j36 => (if r_3 = (0 : Int32) then j36 else bd (fX9_sign fu z p1 v3_2) (fun (r_6 : Int32) => bd (fX9_sign fu z p2 v3_2) (fun (r_8 : Int32) => (if r_6 = r_8 then j36 else gd (isZ (0 : Int32)) (some (0 : Int32))))))))))
def fX9_isWithin (fu : Nat) (z : OS) (p1 : Int32) (p2 : Int32) : Option (Int32) :=
  jn (κ := Option (Int32)) (gd (isZ (1 : Int32)) (some (1 : Int32))) (fun j42 => lX9_isWithin_2 fu z p1 p2 j42 fu (0 : Int32))
set_option maxRecDepth 100000 in
set_option maxHeartbeats 4000000 in
theorem mX9_isWithin (l : Launch) (D : va_G) (cI cB cZ cO : ClassId) (q : Nat → Nat) (fu : Nat) (z : OS) (p1 : Int32) (p2 : Int32) {r : Int32} (hf : fX9_isWithin fu z p1 p2 = some r) : Met l yX9_isWithin wsX9_isWithin ({ frames := 1, cells := 0, slots := 0, locals := 22 }) (va_Pc [.ref (q 0), .int p1, .int p2] (Pr D (gT cI cB cZ cO) (wM cI cB cZ q z))) (Qr (some (.int r))) 0 0 (fun _ => False) := by
  unfold fX9_isWithin at hf
  refine metR (ret := (some .boolean)) (own := RX9) rfl (by decide) rfl (Nat.le_of_ble_eq_true rfl) (fun p e s m args below meth c ls hx hb hr hml hown hlocks hts hP hK hl => ?_)
  have hl : lv_has ls 4 [(0, .ref (q 0)), (1, .int p1), (2, .int p2)] := hl
  refine lv_iconst (v := 0) hx hb dX9_isWithin_0 (by decide) ?_
  refine lv_istore_n (lv' := [(3, .int (0 : Int32)), (0, .ref (q 0)), (1, .int p1), (2, .int p2)]) hx hb dX9_isWithin_1 rfl hl (by decide) rfl (fun ls hl => ?_)
  obtain ⟨j42, ej42, hf⟩ := jn_ob hf
  have hp42 : ∀  (ls : Array Slot), j42 = some r → lv_has ls 4 [] → W p l e (headSpec wsX9_isWithin { frames := 1, cells := 0, slots := 0, locals := 22 }).room s m args below meth c s.heap [] 0 0 (MQ below (Qr (some (.int r))) args s 0 0 (fun _ => False)) (F0 m 42 ls []) := by
    intro ls hf hl
    rw [ej42] at hf
    refine lv_iconst (v := 1) hx hb dX9_isWithin_42 (by decide) ?_
    obtain ⟨hz, hf⟩ := gd_ob hf
    exact rR_z hx hb hr hlocks hz (so_ob hf) dX9_isWithin_43
  have hL2 : ∀ (n_2 : Nat) (v3_2 : Int32) (ls : Array Slot), lX9_isWithin_2 fu z p1 p2 j42 n_2 v3_2 = some r → lv_has ls 4 [(0, .ref (q 0)), (1, .int p1), (2, .int p2), (3, .int v3_2)] → W p l e (headSpec wsX9_isWithin { frames := 1, cells := 0, slots := 0, locals := 22 }).room s m args below meth c s.heap [] 0 0 (MQ below (Qr (some (.int r))) args s 0 0 (fun _ => False)) (F0 m 2 ls []) := by
    intro n_2
    induction n_2 with
    | zero =>
      intro v3_2 ls hf
      exact no_ob hf
    | succ n_2 ih2 =>
      intro v3_2 ls hf hl
      rw [lX9_isWithin_2] at hf
      refine lv_iload_n hx hb dX9_isWithin_2 rfl (lv_at hl 3 rfl) ?_
      refine lv_aload_n hx hb dX9_isWithin_3 rfl (lv_at hl 0 rfl) ?_
      obtain ⟨r_1, hc_2, hf⟩ := bd_ob hf
      refine rdV (As := []) (rest := [.int v3_2]) ⟨hx, hb, hml, hown, hts⟩ (mX9_wide l D cI cB cZ cO q fu z hc_2) (cwV 0 hts gX9_isWithin_X9_wide rfl rfl rfl (by decide +kernel) ⟨Nat.le_of_ble_eq_true rfl, Nat.le_of_ble_eq_true rfl⟩) hK hP (va_recv hK hP (ci := 8) (q0 := 0) rfl rfl) rfl hl.1 rfl (Nat.le_of_ble_eq_true rfl) dX9_isWithin_4 ⟨Nat.zero_le _, Nat.zero_le _⟩ ?_
      refine lv_icmp_ge (tgt := 42) hx hb dX9_isWithin_7 (by decide) (fun c_7 => ?_) (fun c_7 => ?_)
      · have hf := ip c_7 hf
        exact hp42 _ hf (lv_sub hl [] rfl)
      · have hf := iq c_7 hf
        refine lv_aload_n hx hb dX9_isWithin_10 rfl (lv_at hl 0 rfl) ?_
        refine lv_iload_n hx hb dX9_isWithin_11 rfl (lv_at hl 1 rfl) ?_
        refine lv_iload_n hx hb dX9_isWithin_12 rfl (lv_at hl 3 rfl) ?_
        obtain ⟨r_3, hc_4, hf⟩ := bd_ob hf
        refine rdV (As := [.int p1, .int v3_2]) (rest := []) ⟨hx, hb, hml, hown, hts⟩ (mX9_sign l D cI cB cZ cO q fu z p1 v3_2 hc_4) (cwV 2 hts gX9_isWithin_X9_sign rfl rfl rfl (by decide +kernel) ⟨Nat.le_of_ble_eq_true rfl, Nat.le_of_ble_eq_true rfl⟩) hK hP (va_recv hK hP (ci := 8) (q0 := 0) rfl rfl) rfl hl.1 rfl (Nat.le_of_ble_eq_true rfl) dX9_isWithin_13 ⟨Nat.zero_le _, Nat.zero_le _⟩ ?_
        obtain ⟨j36, ej36, hf⟩ := jn_ob hf
        have hp36 : ∀  (ls : Array Slot), j36 = some r → lv_has ls 4 [(0, .ref (q 0)), (1, .int p1), (2, .int p2), (3, .int v3_2)] → W p l e (headSpec wsX9_isWithin { frames := 1, cells := 0, slots := 0, locals := 22 }).room s m args below meth c s.heap [] 0 0 (MQ below (Qr (some (.int r))) args s 0 0 (fun _ => False)) (F0 m 36 ls []) := by
          intro ls hf hl
          rw [ej36] at hf
          obtain ⟨v3_5, ev3_5, hf⟩ := nm_ob hf
          refine lv_iinc (v := v3_5) (lv' := [(3, .int v3_5), (0, .ref (q 0)), (1, .int p1), (2, .int p2)]) hx hb dX9_isWithin_36 hl (k := 3) rfl (by rw [ev3_5]; rfl) (by decide) rfl (fun ls hl => ?_)
          refine lv_goto (tgt := 2) hx hb dX9_isWithin_39 (by decide) ?_
          exact ih2 v3_5 _ hf (lv_sub hl [1, 2, 3, 0] rfl)
        refine lv_if_eq (tgt := 36) hx hb dX9_isWithin_16 (by decide) (fun c_16 => ?_) (fun c_16 => ?_)
        · have hf := ip c_16 hf
          exact hp36 _ hf hl
        · have hf := iq c_16 hf
          refine lv_aload_n hx hb dX9_isWithin_19 rfl (lv_at hl 0 rfl) ?_
          refine lv_iload_n hx hb dX9_isWithin_20 rfl (lv_at hl 1 rfl) ?_
          refine lv_iload_n hx hb dX9_isWithin_21 rfl (lv_at hl 3 rfl) ?_
          obtain ⟨r_6, hc_7, hf⟩ := bd_ob hf
          refine rdV (As := [.int p1, .int v3_2]) (rest := []) ⟨hx, hb, hml, hown, hts⟩ (mX9_sign l D cI cB cZ cO q fu z p1 v3_2 hc_7) (cwV 2 hts gX9_isWithin_X9_sign rfl rfl rfl (by decide +kernel) ⟨Nat.le_of_ble_eq_true rfl, Nat.le_of_ble_eq_true rfl⟩) hK hP (va_recv hK hP (ci := 8) (q0 := 0) rfl rfl) rfl hl.1 rfl (Nat.le_of_ble_eq_true rfl) dX9_isWithin_22 ⟨Nat.zero_le _, Nat.zero_le _⟩ ?_
          refine lv_aload_n hx hb dX9_isWithin_25 rfl (lv_at hl 0 rfl) ?_
          refine lv_iload_n hx hb dX9_isWithin_26 rfl (lv_at hl 2 rfl) ?_
          refine lv_iload_n hx hb dX9_isWithin_27 rfl (lv_at hl 3 rfl) ?_
          obtain ⟨r_8, hc_9, hf⟩ := bd_ob hf
          refine rdV (As := [.int p2, .int v3_2]) (rest := [.int r_6]) ⟨hx, hb, hml, hown, hts⟩ (mX9_sign l D cI cB cZ cO q fu z p2 v3_2 hc_9) (cwV 2 hts gX9_isWithin_X9_sign rfl rfl rfl (by decide +kernel) ⟨Nat.le_of_ble_eq_true rfl, Nat.le_of_ble_eq_true rfl⟩) hK hP (va_recv hK hP (ci := 8) (q0 := 0) rfl rfl) rfl hl.1 rfl (Nat.le_of_ble_eq_true rfl) dX9_isWithin_28 ⟨Nat.zero_le _, Nat.zero_le _⟩ ?_
          refine lv_icmp_eq (tgt := 36) hx hb dX9_isWithin_31 (by decide) (fun c_31 => ?_) (fun c_31 => ?_)
          · have hf := ip c_31 hf
            exact hp36 _ hf hl
          · have hf := iq c_31 hf
            refine lv_iconst (v := 0) hx hb dX9_isWithin_34 (by decide) ?_
            obtain ⟨hz, hf⟩ := gd_ob hf
            exact rR_z hx hb hr hlocks hz (so_ob hf) dX9_isWithin_35
  exact hL2 fu (0 : Int32) _ hf (lv_sub hl [1, 2, 3, 0] rfl)

def lX9_same_2 (fu : Nat) (z : OS) (j42 : Option (Int32)) : Nat → Int32 → Option (Int32)
  | 0, _ => none
  | n_2 + 1, v1_2 => bd (fX9_many fu z) (fun (r_1 : Int32) => (if r_1 ≤ v1_2 then j42 else bd (fX9_many fu z) (fun (r_3 : Int32) => bd (fX9_isWithin fu z v1_2 r_3) (fun (r_5 : Int32) => jn (κ := Option (Int32)) (nm (v1_2 + (1 : Int32)) (fun (v1_7 : Int32) => lX9_same_2 fu z j42 n_2 v1_7)) (fun j36 => (if r_5 = (0 : Int32) then j36 else bd (fX9_many fu z) (fun (r_8 : Int32) => bd (fX9_isWithin fu z r_8 v1_2) (fun (r_10 : Int32) => (if r_10 = (0 : Int32) then j36 else some v1_2)))))))))
def fX9_same (fu : Nat) (z : OS) : Option (Int32) :=
  jn (κ := Option (Int32)) (some (-1 : Int32)) (fun j42 => lX9_same_2 fu z j42 fu (0 : Int32))
set_option maxRecDepth 100000 in
set_option maxHeartbeats 4000000 in
theorem mX9_same (l : Launch) (D : va_G) (cI cB cZ cO : ClassId) (q : Nat → Nat) (fu : Nat) (z : OS) {r : Int32} (hf : fX9_same fu z = some r) : Met l yX9_same wsX9_same ({ frames := 2, cells := 0, slots := 0, locals := 45 }) (va_Pc [.ref (q 0)] (Pr D (gT cI cB cZ cO) (wM cI cB cZ q z))) (Qr (some (.int r))) 0 0 (fun _ => False) := by
  unfold fX9_same at hf
  refine metR (ret := (some .int)) (own := RX9) rfl (by decide) rfl (Nat.le_of_ble_eq_true rfl) (fun p e s m args below meth c ls hx hb hr hml hown hlocks hts hP hK hl => ?_)
  have hl : lv_has ls 2 [(0, .ref (q 0))] := hl
  refine lv_iconst (v := 0) hx hb dX9_same_0 (by decide) ?_
  refine lv_istore_n (lv' := [(1, .int (0 : Int32)), (0, .ref (q 0))]) hx hb dX9_same_1 rfl hl (by decide) rfl (fun ls hl => ?_)
  obtain ⟨j42, ej42, hf⟩ := jn_ob hf
  have hp42 : ∀  (ls : Array Slot), j42 = some r → lv_has ls 2 [] → W p l e (headSpec wsX9_same { frames := 2, cells := 0, slots := 0, locals := 45 }).room s m args below meth c s.heap [] 0 0 (MQ below (Qr (some (.int r))) args s 0 0 (fun _ => False)) (F0 m 42 ls []) := by
    intro ls hf hl
    rw [ej42] at hf
    refine lv_iconst (v := (-1)) hx hb dX9_same_42 (by decide) ?_
    exact rR_i hx hb hr hlocks (so_ob hf) dX9_same_43
  have hL2 : ∀ (n_2 : Nat) (v1_2 : Int32) (ls : Array Slot), lX9_same_2 fu z j42 n_2 v1_2 = some r → lv_has ls 2 [(0, .ref (q 0)), (1, .int v1_2)] → W p l e (headSpec wsX9_same { frames := 2, cells := 0, slots := 0, locals := 45 }).room s m args below meth c s.heap [] 0 0 (MQ below (Qr (some (.int r))) args s 0 0 (fun _ => False)) (F0 m 2 ls []) := by
    intro n_2
    induction n_2 with
    | zero =>
      intro v1_2 ls hf
      exact no_ob hf
    | succ n_2 ih2 =>
      intro v1_2 ls hf hl
      rw [lX9_same_2] at hf
      refine lv_iload_n hx hb dX9_same_2 rfl (lv_at hl 1 rfl) ?_
      refine lv_aload_n hx hb dX9_same_3 rfl (lv_at hl 0 rfl) ?_
      obtain ⟨r_1, hc_2, hf⟩ := bd_ob hf
      refine rdV (As := []) (rest := [.int v1_2]) ⟨hx, hb, hml, hown, hts⟩ (mX9_many l D cI cB cZ cO q fu z hc_2) (cwV 0 hts gX9_same_X9_many rfl rfl rfl (by decide +kernel) ⟨Nat.le_of_ble_eq_true rfl, Nat.le_of_ble_eq_true rfl⟩) hK hP (va_recv hK hP (ci := 8) (q0 := 0) rfl rfl) rfl hl.1 rfl (Nat.le_of_ble_eq_true rfl) dX9_same_4 ⟨Nat.zero_le _, Nat.zero_le _⟩ ?_
      refine lv_icmp_ge (tgt := 42) hx hb dX9_same_7 (by decide) (fun c_7 => ?_) (fun c_7 => ?_)
      · have hf := ip c_7 hf
        exact hp42 _ hf (lv_sub hl [] rfl)
      · have hf := iq c_7 hf
        refine lv_aload_n hx hb dX9_same_10 rfl (lv_at hl 0 rfl) ?_
        refine lv_iload_n hx hb dX9_same_11 rfl (lv_at hl 1 rfl) ?_
        refine lv_aload_n hx hb dX9_same_12 rfl (lv_at hl 0 rfl) ?_
        obtain ⟨r_3, hc_4, hf⟩ := bd_ob hf
        refine rdV (As := []) (rest := [.int v1_2, .ref (q 0)]) ⟨hx, hb, hml, hown, hts⟩ (mX9_many l D cI cB cZ cO q fu z hc_4) (cwV 0 hts gX9_same_X9_many rfl rfl rfl (by decide +kernel) ⟨Nat.le_of_ble_eq_true rfl, Nat.le_of_ble_eq_true rfl⟩) hK hP (va_recv hK hP (ci := 8) (q0 := 0) rfl rfl) rfl hl.1 rfl (Nat.le_of_ble_eq_true rfl) dX9_same_13 ⟨Nat.zero_le _, Nat.zero_le _⟩ ?_
        obtain ⟨r_5, hc_6, hf⟩ := bd_ob hf
        refine rdV (As := [.int v1_2, .int r_3]) (rest := []) ⟨hx, hb, hml, hown, hts⟩ (mX9_isWithin l D cI cB cZ cO q fu z v1_2 r_3 hc_6) (cwV 2 hts gX9_same_X9_isWithin rfl rfl rfl (by decide +kernel) ⟨Nat.le_of_ble_eq_true rfl, Nat.le_of_ble_eq_true rfl⟩) hK hP (va_recv hK hP (ci := 8) (q0 := 0) rfl rfl) rfl hl.1 rfl (Nat.le_of_ble_eq_true rfl) dX9_same_16 ⟨Nat.zero_le _, Nat.zero_le _⟩ ?_
        obtain ⟨j36, ej36, hf⟩ := jn_ob hf
        have hp36 : ∀  (ls : Array Slot), j36 = some r → lv_has ls 2 [(0, .ref (q 0)), (1, .int v1_2)] → W p l e (headSpec wsX9_same { frames := 2, cells := 0, slots := 0, locals := 45 }).room s m args below meth c s.heap [] 0 0 (MQ below (Qr (some (.int r))) args s 0 0 (fun _ => False)) (F0 m 36 ls []) := by
          intro ls hf hl
          rw [ej36] at hf
          obtain ⟨v1_7, ev1_7, hf⟩ := nm_ob hf
          refine lv_iinc (v := v1_7) (lv' := [(1, .int v1_7), (0, .ref (q 0))]) hx hb dX9_same_36 hl (k := 1) rfl (by rw [ev1_7]; rfl) (by decide) rfl (fun ls hl => ?_)
          refine lv_goto (tgt := 2) hx hb dX9_same_39 (by decide) ?_
          exact ih2 v1_7 _ hf (lv_sub hl [1, 0] rfl)
        refine lv_if_eq (tgt := 36) hx hb dX9_same_19 (by decide) (fun c_19 => ?_) (fun c_19 => ?_)
        · have hf := ip c_19 hf
          exact hp36 _ hf hl
        · have hf := iq c_19 hf
          refine lv_aload_n hx hb dX9_same_22 rfl (lv_at hl 0 rfl) ?_
          refine lv_aload_n hx hb dX9_same_23 rfl (lv_at hl 0 rfl) ?_
          obtain ⟨r_8, hc_9, hf⟩ := bd_ob hf
          refine rdV (As := []) (rest := [.ref (q 0)]) ⟨hx, hb, hml, hown, hts⟩ (mX9_many l D cI cB cZ cO q fu z hc_9) (cwV 0 hts gX9_same_X9_many rfl rfl rfl (by decide +kernel) ⟨Nat.le_of_ble_eq_true rfl, Nat.le_of_ble_eq_true rfl⟩) hK hP (va_recv hK hP (ci := 8) (q0 := 0) rfl rfl) rfl hl.1 rfl (Nat.le_of_ble_eq_true rfl) dX9_same_24 ⟨Nat.zero_le _, Nat.zero_le _⟩ ?_
          refine lv_iload_n hx hb dX9_same_27 rfl (lv_at hl 1 rfl) ?_
          obtain ⟨r_10, hc_11, hf⟩ := bd_ob hf
          refine rdV (As := [.int r_8, .int v1_2]) (rest := []) ⟨hx, hb, hml, hown, hts⟩ (mX9_isWithin l D cI cB cZ cO q fu z r_8 v1_2 hc_11) (cwV 2 hts gX9_same_X9_isWithin rfl rfl rfl (by decide +kernel) ⟨Nat.le_of_ble_eq_true rfl, Nat.le_of_ble_eq_true rfl⟩) hK hP (va_recv hK hP (ci := 8) (q0 := 0) rfl rfl) rfl hl.1 rfl (Nat.le_of_ble_eq_true rfl) dX9_same_28 ⟨Nat.zero_le _, Nat.zero_le _⟩ ?_
          refine lv_if_eq (tgt := 36) hx hb dX9_same_31 (by decide) (fun c_31 => ?_) (fun c_31 => ?_)
          · have hf := ip c_31 hf
            exact hp36 _ hf hl
          · have hf := iq c_31 hf
            refine lv_iload_n hx hb dX9_same_34 rfl (lv_at hl 1 rfl) ?_
            exact rR_i hx hb hr hlocks (so_ob hf) dX9_same_35
  exact hL2 fu (0 : Int32) _ hf (lv_sub hl [1, 0] rfl)

def lX9_isAnyWithinTried_2 (fu : Nat) (z : OS) (j30 : Option (Int32)) : Nat → Int32 → Option (Int32)
  | 0, _ => none
  | n_2 + 1, v1_2 => bd (fX9_many fu z) (fun (r_1 : Int32) => (if r_1 ≤ v1_2 then j30 else bd (fX9_many fu z) (fun (r_3 : Int32) => bd (fX9_isWithin fu z v1_2 r_3) (fun (r_5 : Int32) => (if r_5 = (0 : Int32) then nm (v1_2 + (1 : Int32)) (fun (v1_7 : Int32) => lX9_isAnyWithinTried_2 fu z j30 n_2 v1_7) else gd (isZ (1 : Int32)) (some (1 : Int32)))))))
def fX9_isAnyWithinTried (fu : Nat) (z : OS) : Option (Int32) :=
  jn (κ := Option (Int32)) (gd (isZ (0 : Int32)) (some (0 : Int32))) (fun j30 => lX9_isAnyWithinTried_2 fu z j30 fu (0 : Int32))
set_option maxRecDepth 100000 in
set_option maxHeartbeats 4000000 in
theorem mX9_isAnyWithinTried (l : Launch) (D : va_G) (cI cB cZ cO : ClassId) (q : Nat → Nat) (fu : Nat) (z : OS) {r : Int32} (hf : fX9_isAnyWithinTried fu z = some r) : Met l yX9_isAnyWithinTried wsX9_isAnyWithinTried ({ frames := 2, cells := 0, slots := 0, locals := 45 }) (va_Pc [.ref (q 0)] (Pr D (gT cI cB cZ cO) (wM cI cB cZ q z))) (Qr (some (.int r))) 0 0 (fun _ => False) := by
  unfold fX9_isAnyWithinTried at hf
  refine metR (ret := (some .boolean)) (own := RX9) rfl (by decide) rfl (Nat.le_of_ble_eq_true rfl) (fun p e s m args below meth c ls hx hb hr hml hown hlocks hts hP hK hl => ?_)
  have hl : lv_has ls 2 [(0, .ref (q 0))] := hl
  refine lv_iconst (v := 0) hx hb dX9_isAnyWithinTried_0 (by decide) ?_
  refine lv_istore_n (lv' := [(1, .int (0 : Int32)), (0, .ref (q 0))]) hx hb dX9_isAnyWithinTried_1 rfl hl (by decide) rfl (fun ls hl => ?_)
  obtain ⟨j30, ej30, hf⟩ := jn_ob hf
  have hp30 : ∀  (ls : Array Slot), j30 = some r → lv_has ls 2 [] → W p l e (headSpec wsX9_isAnyWithinTried { frames := 2, cells := 0, slots := 0, locals := 45 }).room s m args below meth c s.heap [] 0 0 (MQ below (Qr (some (.int r))) args s 0 0 (fun _ => False)) (F0 m 30 ls []) := by
    intro ls hf hl
    rw [ej30] at hf
    refine lv_iconst (v := 0) hx hb dX9_isAnyWithinTried_30 (by decide) ?_
    obtain ⟨hz, hf⟩ := gd_ob hf
    exact rR_z hx hb hr hlocks hz (so_ob hf) dX9_isAnyWithinTried_31
  have hL2 : ∀ (n_2 : Nat) (v1_2 : Int32) (ls : Array Slot), lX9_isAnyWithinTried_2 fu z j30 n_2 v1_2 = some r → lv_has ls 2 [(0, .ref (q 0)), (1, .int v1_2)] → W p l e (headSpec wsX9_isAnyWithinTried { frames := 2, cells := 0, slots := 0, locals := 45 }).room s m args below meth c s.heap [] 0 0 (MQ below (Qr (some (.int r))) args s 0 0 (fun _ => False)) (F0 m 2 ls []) := by
    intro n_2
    induction n_2 with
    | zero =>
      intro v1_2 ls hf
      exact no_ob hf
    | succ n_2 ih2 =>
      intro v1_2 ls hf hl
      rw [lX9_isAnyWithinTried_2] at hf
      refine lv_iload_n hx hb dX9_isAnyWithinTried_2 rfl (lv_at hl 1 rfl) ?_
      refine lv_aload_n hx hb dX9_isAnyWithinTried_3 rfl (lv_at hl 0 rfl) ?_
      obtain ⟨r_1, hc_2, hf⟩ := bd_ob hf
      refine rdV (As := []) (rest := [.int v1_2]) ⟨hx, hb, hml, hown, hts⟩ (mX9_many l D cI cB cZ cO q fu z hc_2) (cwV 0 hts gX9_isAnyWithinTried_X9_many rfl rfl rfl (by decide +kernel) ⟨Nat.le_of_ble_eq_true rfl, Nat.le_of_ble_eq_true rfl⟩) hK hP (va_recv hK hP (ci := 8) (q0 := 0) rfl rfl) rfl hl.1 rfl (Nat.le_of_ble_eq_true rfl) dX9_isAnyWithinTried_4 ⟨Nat.zero_le _, Nat.zero_le _⟩ ?_
      refine lv_icmp_ge (tgt := 30) hx hb dX9_isAnyWithinTried_7 (by decide) (fun c_7 => ?_) (fun c_7 => ?_)
      · have hf := ip c_7 hf
        exact hp30 _ hf (lv_sub hl [] rfl)
      · have hf := iq c_7 hf
        refine lv_aload_n hx hb dX9_isAnyWithinTried_10 rfl (lv_at hl 0 rfl) ?_
        refine lv_iload_n hx hb dX9_isAnyWithinTried_11 rfl (lv_at hl 1 rfl) ?_
        refine lv_aload_n hx hb dX9_isAnyWithinTried_12 rfl (lv_at hl 0 rfl) ?_
        obtain ⟨r_3, hc_4, hf⟩ := bd_ob hf
        refine rdV (As := []) (rest := [.int v1_2, .ref (q 0)]) ⟨hx, hb, hml, hown, hts⟩ (mX9_many l D cI cB cZ cO q fu z hc_4) (cwV 0 hts gX9_isAnyWithinTried_X9_many rfl rfl rfl (by decide +kernel) ⟨Nat.le_of_ble_eq_true rfl, Nat.le_of_ble_eq_true rfl⟩) hK hP (va_recv hK hP (ci := 8) (q0 := 0) rfl rfl) rfl hl.1 rfl (Nat.le_of_ble_eq_true rfl) dX9_isAnyWithinTried_13 ⟨Nat.zero_le _, Nat.zero_le _⟩ ?_
        obtain ⟨r_5, hc_6, hf⟩ := bd_ob hf
        refine rdV (As := [.int v1_2, .int r_3]) (rest := []) ⟨hx, hb, hml, hown, hts⟩ (mX9_isWithin l D cI cB cZ cO q fu z v1_2 r_3 hc_6) (cwV 2 hts gX9_isAnyWithinTried_X9_isWithin rfl rfl rfl (by decide +kernel) ⟨Nat.le_of_ble_eq_true rfl, Nat.le_of_ble_eq_true rfl⟩) hK hP (va_recv hK hP (ci := 8) (q0 := 0) rfl rfl) rfl hl.1 rfl (Nat.le_of_ble_eq_true rfl) dX9_isAnyWithinTried_16 ⟨Nat.zero_le _, Nat.zero_le _⟩ ?_
        refine lv_if_eq (tgt := 24) hx hb dX9_isAnyWithinTried_19 (by decide) (fun c_19 => ?_) (fun c_19 => ?_)
        · have hf := ip c_19 hf
          obtain ⟨v1_7, ev1_7, hf⟩ := nm_ob hf
          refine lv_iinc (v := v1_7) (lv' := [(1, .int v1_7), (0, .ref (q 0))]) hx hb dX9_isAnyWithinTried_24 hl (k := 1) rfl (by rw [ev1_7]; rfl) (by decide) rfl (fun ls hl => ?_)
          refine lv_goto (tgt := 2) hx hb dX9_isAnyWithinTried_27 (by decide) ?_
          exact ih2 v1_7 _ hf (lv_sub hl [1, 0] rfl)
        · have hf := iq c_19 hf
          refine lv_iconst (v := 1) hx hb dX9_isAnyWithinTried_22 (by decide) ?_
          obtain ⟨hz, hf⟩ := gd_ob hf
          exact rR_z hx hb hr hlocks hz (so_ob hf) dX9_isAnyWithinTried_23
  exact hL2 fu (0 : Int32) _ hf (lv_sub hl [1, 0] rfl)

def lX9_clashing_5 (fu : Nat) (z : OS) (p1 : Int32) (p2 : Int32) (j67 : Int32 → Option (Int32)) : Nat → Int32 → Int32 → Option (Int32)
  | 0, _, _ => none
  | n_5 + 1, v3_5, v4_5 => bd (fX9_wide fu z) (fun (r_1 : Int32) => (if r_1 ≤ v4_5 then j67 v3_5 else bd (fX9_sign fu z p1 v4_5) (fun (r_3 : Int32) => bd (fX9_sign fu z p2 v4_5) (fun (r_5 : Int32) => jn (κ := Int32 → Int32 → Option (Int32)) (fun (t0_59 : Int32) (t1_59 : Int32) => nm (t0_59 + t1_59) (fun (v3_7 : Int32) => nm (v4_5 + (1 : Int32)) (fun (v4_8 : Int32) => lX9_clashing_5 fu z p1 p2 j67 n_5 v3_7 v4_8))) (fun j59 => jn (κ := Int32 → Option (Int32)) (fun (t0_58 : Int32) => j59 t0_58 (0 : Int32)) (fun j58 => (if ¬ (r_3 + r_5) = (3 : Int32) then j58 v3_5 else bd (fX9_sign fu z p1 v4_5) (fun (r_9 : Int32) => (if r_9 = (0 : Int32) then j58 v3_5 else bd (fX9_sign fu z p2 v4_5) (fun (r_11 : Int32) => (if r_11 = (0 : Int32) then j58 v3_5 else j59 v3_5 (1 : Int32))))))))))))
def fX9_clashing (fu : Nat) (z : OS) (p1 : Int32) (p2 : Int32) : Option (Int32) :=
  jn (κ := Int32 → Option (Int32)) (fun (v3_67 : Int32) => some v3_67) (fun j67 => lX9_clashing_5 fu z p1 p2 j67 fu (0 : Int32) (0 : Int32))
set_option maxRecDepth 100000 in
set_option maxHeartbeats 4000000 in
theorem mX9_clashing (l : Launch) (D : va_G) (cI cB cZ cO : ClassId) (q : Nat → Nat) (fu : Nat) (z : OS) (p1 : Int32) (p2 : Int32) {r : Int32} (hf : fX9_clashing fu z p1 p2 = some r) : Met l yX9_clashing wsX9_clashing ({ frames := 1, cells := 0, slots := 0, locals := 22 }) (va_Pc [.ref (q 0), .int p1, .int p2] (Pr D (gT cI cB cZ cO) (wM cI cB cZ q z))) (Qr (some (.int r))) 0 0 (fun _ => False) := by
  unfold fX9_clashing at hf
  refine metR (ret := (some .int)) (own := RX9) rfl (by decide) rfl (Nat.le_of_ble_eq_true rfl) (fun p e s m args below meth c ls hx hb hr hml hown hlocks hts hP hK hl => ?_)
  have hl : lv_has ls 5 [(0, .ref (q 0)), (1, .int p1), (2, .int p2)] := hl
  refine lv_iconst (v := 0) hx hb dX9_clashing_0 (by decide) ?_
  refine lv_istore_n (lv' := [(3, .int (0 : Int32)), (0, .ref (q 0)), (1, .int p1), (2, .int p2)]) hx hb dX9_clashing_1 rfl hl (by decide) rfl (fun ls hl => ?_)
  refine lv_iconst (v := 0) hx hb dX9_clashing_2 (by decide) ?_
  refine lv_istore (lv' := [(4, .int (0 : Int32)), (3, .int (0 : Int32)), (0, .ref (q 0)), (1, .int p1), (2, .int p2)]) hx hb dX9_clashing_3 hl (by decide) rfl (fun ls hl => ?_)
  obtain ⟨j67, ej67, hf⟩ := jn_ob hf
  have hp67 : ∀ (v3_67 : Int32) (ls : Array Slot), j67 v3_67 = some r → lv_has ls 5 [(3, .int v3_67)] → W p l e (headSpec wsX9_clashing { frames := 1, cells := 0, slots := 0, locals := 22 }).room s m args below meth c s.heap [] 0 0 (MQ below (Qr (some (.int r))) args s 0 0 (fun _ => False)) (F0 m 67 ls []) := by
    intro v3_67 ls hf hl
    rw [ej67] at hf
    refine lv_iload_n hx hb dX9_clashing_67 rfl (lv_at hl 0 rfl) ?_
    exact rR_i hx hb hr hlocks (so_ob hf) dX9_clashing_68
  have hL5 : ∀ (n_5 : Nat) (v3_5 : Int32) (v4_5 : Int32) (ls : Array Slot), lX9_clashing_5 fu z p1 p2 j67 n_5 v3_5 v4_5 = some r → lv_has ls 5 [(0, .ref (q 0)), (1, .int p1), (2, .int p2), (3, .int v3_5), (4, .int v4_5)] → W p l e (headSpec wsX9_clashing { frames := 1, cells := 0, slots := 0, locals := 22 }).room s m args below meth c s.heap [] 0 0 (MQ below (Qr (some (.int r))) args s 0 0 (fun _ => False)) (F0 m 5 ls []) := by
    intro n_5
    induction n_5 with
    | zero =>
      intro v3_5 v4_5 ls hf
      exact no_ob hf
    | succ n_5 ih5 =>
      intro v3_5 v4_5 ls hf hl
      rw [lX9_clashing_5] at hf
      refine lv_iload hx hb dX9_clashing_5 (lv_at hl 4 rfl) ?_
      refine lv_aload_n hx hb dX9_clashing_7 rfl (lv_at hl 0 rfl) ?_
      obtain ⟨r_1, hc_2, hf⟩ := bd_ob hf
      refine rdV (As := []) (rest := [.int v4_5]) ⟨hx, hb, hml, hown, hts⟩ (mX9_wide l D cI cB cZ cO q fu z hc_2) (cwV 0 hts gX9_clashing_X9_wide rfl rfl rfl (by decide +kernel) ⟨Nat.le_of_ble_eq_true rfl, Nat.le_of_ble_eq_true rfl⟩) hK hP (va_recv hK hP (ci := 8) (q0 := 0) rfl rfl) rfl hl.1 rfl (Nat.le_of_ble_eq_true rfl) dX9_clashing_8 ⟨Nat.zero_le _, Nat.zero_le _⟩ ?_
      refine lv_icmp_ge (tgt := 67) hx hb dX9_clashing_11 (by decide) (fun c_11 => ?_) (fun c_11 => ?_)
      · have hf := ip c_11 hf
        exact hp67 v3_5 _ hf (lv_sub hl [3] rfl)
      · have hf := iq c_11 hf
        refine lv_iload_n hx hb dX9_clashing_14 rfl (lv_at hl 3 rfl) ?_
        refine lv_aload_n hx hb dX9_clashing_15 rfl (lv_at hl 0 rfl) ?_
        refine lv_iload_n hx hb dX9_clashing_16 rfl (lv_at hl 1 rfl) ?_
        refine lv_iload hx hb dX9_clashing_17 (lv_at hl 4 rfl) ?_
        obtain ⟨r_3, hc_4, hf⟩ := bd_ob hf
        refine rdV (As := [.int p1, .int v4_5]) (rest := [.int v3_5]) ⟨hx, hb, hml, hown, hts⟩ (mX9_sign l D cI cB cZ cO q fu z p1 v4_5 hc_4) (cwV 2 hts gX9_clashing_X9_sign rfl rfl rfl (by decide +kernel) ⟨Nat.le_of_ble_eq_true rfl, Nat.le_of_ble_eq_true rfl⟩) hK hP (va_recv hK hP (ci := 8) (q0 := 0) rfl rfl) rfl hl.1 rfl (Nat.le_of_ble_eq_true rfl) dX9_clashing_19 ⟨Nat.zero_le _, Nat.zero_le _⟩ ?_
        refine lv_aload_n hx hb dX9_clashing_22 rfl (lv_at hl 0 rfl) ?_
        refine lv_iload_n hx hb dX9_clashing_23 rfl (lv_at hl 2 rfl) ?_
        refine lv_iload hx hb dX9_clashing_24 (lv_at hl 4 rfl) ?_
        obtain ⟨r_5, hc_6, hf⟩ := bd_ob hf
        refine rdV (As := [.int p2, .int v4_5]) (rest := [.int r_3, .int v3_5]) ⟨hx, hb, hml, hown, hts⟩ (mX9_sign l D cI cB cZ cO q fu z p2 v4_5 hc_6) (cwV 2 hts gX9_clashing_X9_sign rfl rfl rfl (by decide +kernel) ⟨Nat.le_of_ble_eq_true rfl, Nat.le_of_ble_eq_true rfl⟩) hK hP (va_recv hK hP (ci := 8) (q0 := 0) rfl rfl) rfl hl.1 rfl (Nat.le_of_ble_eq_true rfl) dX9_clashing_26 ⟨Nat.zero_le _, Nat.zero_le _⟩ ?_
        refine lv_iadd hx hb dX9_clashing_29 ?_
        refine lv_iconst (v := 3) hx hb dX9_clashing_30 (by decide) ?_
        obtain ⟨j59, ej59, hf⟩ := jn_ob hf
        have hp59 : ∀ (t0_59 : Int32) (t1_59 : Int32) (ls : Array Slot), j59 t0_59 t1_59 = some r → lv_has ls 5 [(0, .ref (q 0)), (1, .int p1), (2, .int p2), (4, .int v4_5)] → W p l e (headSpec wsX9_clashing { frames := 1, cells := 0, slots := 0, locals := 22 }).room s m args below meth c s.heap [] 0 0 (MQ below (Qr (some (.int r))) args s 0 0 (fun _ => False)) (F0 m 59 ls [.int t1_59, .int t0_59]) := by
          intro t0_59 t1_59 ls hf hl
          rw [ej59] at hf
          refine lv_iadd hx hb dX9_clashing_59 ?_
          obtain ⟨v3_7, ev3_7, hf⟩ := nm_ob hf
          refine lv_nmi ev3_7 ?_
          refine lv_istore_n (lv' := [(3, .int v3_7), (0, .ref (q 0)), (1, .int p1), (2, .int p2), (4, .int v4_5)]) hx hb dX9_clashing_60 rfl hl (by decide) rfl (fun ls hl => ?_)
          obtain ⟨v4_8, ev4_8, hf⟩ := nm_ob hf
          refine lv_iinc (v := v4_8) (lv' := [(4, .int v4_8), (3, .int v3_7), (0, .ref (q 0)), (1, .int p1), (2, .int p2)]) hx hb dX9_clashing_61 hl (k := 4) rfl (by rw [ev4_8]; rfl) (by decide) rfl (fun ls hl => ?_)
          refine lv_goto (tgt := 5) hx hb dX9_clashing_64 (by decide) ?_
          exact ih5 v3_7 v4_8 _ hf (lv_sub hl [2, 3, 4, 1, 0] rfl)
        obtain ⟨j58, ej58, hf⟩ := jn_ob hf
        have hp58 : ∀ (t0_58 : Int32) (ls : Array Slot), j58 t0_58 = some r → lv_has ls 5 [(0, .ref (q 0)), (1, .int p1), (2, .int p2), (4, .int v4_5)] → W p l e (headSpec wsX9_clashing { frames := 1, cells := 0, slots := 0, locals := 22 }).room s m args below meth c s.heap [] 0 0 (MQ below (Qr (some (.int r))) args s 0 0 (fun _ => False)) (F0 m 58 ls [.int t0_58]) := by
          intro t0_58 ls hf hl
          rw [ej58] at hf
          refine lv_iconst (v := 0) hx hb dX9_clashing_58 (by decide) ?_
          exact hp59 t0_58 (0 : Int32) _ hf hl
        refine lv_icmp_ne (tgt := 58) hx hb dX9_clashing_31 (by decide) (fun c_31 => ?_) (fun c_31 => ?_)
        · have hf := ip c_31 hf
          exact hp58 v3_5 _ hf (lv_sub hl [0, 1, 2, 4] rfl)
        · have hf := iqn c_31 hf
          refine lv_aload_n hx hb dX9_clashing_34 rfl (lv_at hl 0 rfl) ?_
          refine lv_iload_n hx hb dX9_clashing_35 rfl (lv_at hl 1 rfl) ?_
          refine lv_iload hx hb dX9_clashing_36 (lv_at hl 4 rfl) ?_
          obtain ⟨r_9, hc_10, hf⟩ := bd_ob hf
          refine rdV (As := [.int p1, .int v4_5]) (rest := [.int v3_5]) ⟨hx, hb, hml, hown, hts⟩ (mX9_sign l D cI cB cZ cO q fu z p1 v4_5 hc_10) (cwV 2 hts gX9_clashing_X9_sign rfl rfl rfl (by decide +kernel) ⟨Nat.le_of_ble_eq_true rfl, Nat.le_of_ble_eq_true rfl⟩) hK hP (va_recv hK hP (ci := 8) (q0 := 0) rfl rfl) rfl hl.1 rfl (Nat.le_of_ble_eq_true rfl) dX9_clashing_38 ⟨Nat.zero_le _, Nat.zero_le _⟩ ?_
          refine lv_if_eq (tgt := 58) hx hb dX9_clashing_41 (by decide) (fun c_41 => ?_) (fun c_41 => ?_)
          · have hf := ip c_41 hf
            exact hp58 v3_5 _ hf (lv_sub hl [0, 1, 2, 4] rfl)
          · have hf := iq c_41 hf
            refine lv_aload_n hx hb dX9_clashing_44 rfl (lv_at hl 0 rfl) ?_
            refine lv_iload_n hx hb dX9_clashing_45 rfl (lv_at hl 2 rfl) ?_
            refine lv_iload hx hb dX9_clashing_46 (lv_at hl 4 rfl) ?_
            obtain ⟨r_11, hc_12, hf⟩ := bd_ob hf
            refine rdV (As := [.int p2, .int v4_5]) (rest := [.int v3_5]) ⟨hx, hb, hml, hown, hts⟩ (mX9_sign l D cI cB cZ cO q fu z p2 v4_5 hc_12) (cwV 2 hts gX9_clashing_X9_sign rfl rfl rfl (by decide +kernel) ⟨Nat.le_of_ble_eq_true rfl, Nat.le_of_ble_eq_true rfl⟩) hK hP (va_recv hK hP (ci := 8) (q0 := 0) rfl rfl) rfl hl.1 rfl (Nat.le_of_ble_eq_true rfl) dX9_clashing_48 ⟨Nat.zero_le _, Nat.zero_le _⟩ ?_
            refine lv_if_eq (tgt := 58) hx hb dX9_clashing_51 (by decide) (fun c_51 => ?_) (fun c_51 => ?_)
            · have hf := ip c_51 hf
              exact hp58 v3_5 _ hf (lv_sub hl [0, 1, 2, 4] rfl)
            · have hf := iq c_51 hf
              refine lv_iconst (v := 1) hx hb dX9_clashing_54 (by decide) ?_
              refine lv_goto (tgt := 59) hx hb dX9_clashing_55 (by decide) ?_
              exact hp59 v3_5 (1 : Int32) _ hf (lv_sub hl [0, 1, 2, 4] rfl)
  exact hL5 fu (0 : Int32) (0 : Int32) _ hf (lv_sub hl [2, 3, 4, 1, 0] rfl)

def lX9_clashOf_2 (fu : Nat) (z : OS) (p1 : Int32) (p2 : Int32) (j43 : Int32 → Option (Int32)) : Nat → Int32 → Option (Int32)
  | 0, _ => none
  | n_2 + 1, v3_2 => bd (fX9_sign fu z p1 v3_2) (fun (r_1 : Int32) => bd (fX9_sign fu z p2 v3_2) (fun (r_3 : Int32) => jn (κ := Option (Int32)) (nm (v3_2 + (1 : Int32)) (fun (v3_5 : Int32) => lX9_clashOf_2 fu z p1 p2 j43 n_2 v3_5)) (fun j37 => (if ¬ (r_1 + r_3) = (3 : Int32) then j37 else bd (fX9_sign fu z p1 v3_2) (fun (r_6 : Int32) => (if r_6 = (0 : Int32) then j37 else bd (fX9_sign fu z p2 v3_2) (fun (r_8 : Int32) => (if ¬ r_8 = (0 : Int32) then j43 v3_2 else j37))))))))
def fX9_clashOf (fu : Nat) (z : OS) (p1 : Int32) (p2 : Int32) : Option (Int32) :=
  jn (κ := Int32 → Option (Int32)) (fun (v3_43 : Int32) => some v3_43) (fun j43 => lX9_clashOf_2 fu z p1 p2 j43 fu (0 : Int32))
set_option maxRecDepth 100000 in
set_option maxHeartbeats 4000000 in
theorem mX9_clashOf (l : Launch) (D : va_G) (cI cB cZ cO : ClassId) (q : Nat → Nat) (fu : Nat) (z : OS) (p1 : Int32) (p2 : Int32) {r : Int32} (hf : fX9_clashOf fu z p1 p2 = some r) : Met l yX9_clashOf wsX9_clashOf ({ frames := 1, cells := 0, slots := 0, locals := 22 }) (va_Pc [.ref (q 0), .int p1, .int p2] (Pr D (gT cI cB cZ cO) (wM cI cB cZ q z))) (Qr (some (.int r))) 0 0 (fun _ => False) := by
  unfold fX9_clashOf at hf
  refine metR (ret := (some .int)) (own := RX9) rfl (by decide) rfl (Nat.le_of_ble_eq_true rfl) (fun p e s m args below meth c ls hx hb hr hml hown hlocks hts hP hK hl => ?_)
  have hl : lv_has ls 4 [(0, .ref (q 0)), (1, .int p1), (2, .int p2)] := hl
  refine lv_iconst (v := 0) hx hb dX9_clashOf_0 (by decide) ?_
  refine lv_istore_n (lv' := [(3, .int (0 : Int32)), (0, .ref (q 0)), (1, .int p1), (2, .int p2)]) hx hb dX9_clashOf_1 rfl hl (by decide) rfl (fun ls hl => ?_)
  obtain ⟨j43, ej43, hf⟩ := jn_ob hf
  have hp43 : ∀ (v3_43 : Int32) (ls : Array Slot), j43 v3_43 = some r → lv_has ls 4 [(3, .int v3_43)] → W p l e (headSpec wsX9_clashOf { frames := 1, cells := 0, slots := 0, locals := 22 }).room s m args below meth c s.heap [] 0 0 (MQ below (Qr (some (.int r))) args s 0 0 (fun _ => False)) (F0 m 43 ls []) := by
    intro v3_43 ls hf hl
    rw [ej43] at hf
    refine lv_iload_n hx hb dX9_clashOf_43 rfl (lv_at hl 0 rfl) ?_
    exact rR_i hx hb hr hlocks (so_ob hf) dX9_clashOf_44
  have hL2 : ∀ (n_2 : Nat) (v3_2 : Int32) (ls : Array Slot), lX9_clashOf_2 fu z p1 p2 j43 n_2 v3_2 = some r → lv_has ls 4 [(0, .ref (q 0)), (1, .int p1), (2, .int p2), (3, .int v3_2)] → W p l e (headSpec wsX9_clashOf { frames := 1, cells := 0, slots := 0, locals := 22 }).room s m args below meth c s.heap [] 0 0 (MQ below (Qr (some (.int r))) args s 0 0 (fun _ => False)) (F0 m 2 ls []) := by
    intro n_2
    induction n_2 with
    | zero =>
      intro v3_2 ls hf
      exact no_ob hf
    | succ n_2 ih2 =>
      intro v3_2 ls hf hl
      rw [lX9_clashOf_2] at hf
      refine lv_aload_n hx hb dX9_clashOf_2 rfl (lv_at hl 0 rfl) ?_
      refine lv_iload_n hx hb dX9_clashOf_3 rfl (lv_at hl 1 rfl) ?_
      refine lv_iload_n hx hb dX9_clashOf_4 rfl (lv_at hl 3 rfl) ?_
      obtain ⟨r_1, hc_2, hf⟩ := bd_ob hf
      refine rdV (As := [.int p1, .int v3_2]) (rest := []) ⟨hx, hb, hml, hown, hts⟩ (mX9_sign l D cI cB cZ cO q fu z p1 v3_2 hc_2) (cwV 2 hts gX9_clashOf_X9_sign rfl rfl rfl (by decide +kernel) ⟨Nat.le_of_ble_eq_true rfl, Nat.le_of_ble_eq_true rfl⟩) hK hP (va_recv hK hP (ci := 8) (q0 := 0) rfl rfl) rfl hl.1 rfl (Nat.le_of_ble_eq_true rfl) dX9_clashOf_5 ⟨Nat.zero_le _, Nat.zero_le _⟩ ?_
      refine lv_aload_n hx hb dX9_clashOf_8 rfl (lv_at hl 0 rfl) ?_
      refine lv_iload_n hx hb dX9_clashOf_9 rfl (lv_at hl 2 rfl) ?_
      refine lv_iload_n hx hb dX9_clashOf_10 rfl (lv_at hl 3 rfl) ?_
      obtain ⟨r_3, hc_4, hf⟩ := bd_ob hf
      refine rdV (As := [.int p2, .int v3_2]) (rest := [.int r_1]) ⟨hx, hb, hml, hown, hts⟩ (mX9_sign l D cI cB cZ cO q fu z p2 v3_2 hc_4) (cwV 2 hts gX9_clashOf_X9_sign rfl rfl rfl (by decide +kernel) ⟨Nat.le_of_ble_eq_true rfl, Nat.le_of_ble_eq_true rfl⟩) hK hP (va_recv hK hP (ci := 8) (q0 := 0) rfl rfl) rfl hl.1 rfl (Nat.le_of_ble_eq_true rfl) dX9_clashOf_11 ⟨Nat.zero_le _, Nat.zero_le _⟩ ?_
      refine lv_iadd hx hb dX9_clashOf_14 ?_
      refine lv_iconst (v := 3) hx hb dX9_clashOf_15 (by decide) ?_
      obtain ⟨j37, ej37, hf⟩ := jn_ob hf
      have hp37 : ∀  (ls : Array Slot), j37 = some r → lv_has ls 4 [(0, .ref (q 0)), (1, .int p1), (2, .int p2), (3, .int v3_2)] → W p l e (headSpec wsX9_clashOf { frames := 1, cells := 0, slots := 0, locals := 22 }).room s m args below meth c s.heap [] 0 0 (MQ below (Qr (some (.int r))) args s 0 0 (fun _ => False)) (F0 m 37 ls []) := by
        intro ls hf hl
        rw [ej37] at hf
        obtain ⟨v3_5, ev3_5, hf⟩ := nm_ob hf
        refine lv_iinc (v := v3_5) (lv' := [(3, .int v3_5), (0, .ref (q 0)), (1, .int p1), (2, .int p2)]) hx hb dX9_clashOf_37 hl (k := 3) rfl (by rw [ev3_5]; rfl) (by decide) rfl (fun ls hl => ?_)
        refine lv_goto (tgt := 2) hx hb dX9_clashOf_40 (by decide) ?_
        exact ih2 v3_5 _ hf (lv_sub hl [1, 2, 3, 0] rfl)
      refine lv_icmp_ne (tgt := 37) hx hb dX9_clashOf_16 (by decide) (fun c_16 => ?_) (fun c_16 => ?_)
      · have hf := ip c_16 hf
        exact hp37 _ hf hl
      · have hf := iqn c_16 hf
        refine lv_aload_n hx hb dX9_clashOf_19 rfl (lv_at hl 0 rfl) ?_
        refine lv_iload_n hx hb dX9_clashOf_20 rfl (lv_at hl 1 rfl) ?_
        refine lv_iload_n hx hb dX9_clashOf_21 rfl (lv_at hl 3 rfl) ?_
        obtain ⟨r_6, hc_7, hf⟩ := bd_ob hf
        refine rdV (As := [.int p1, .int v3_2]) (rest := []) ⟨hx, hb, hml, hown, hts⟩ (mX9_sign l D cI cB cZ cO q fu z p1 v3_2 hc_7) (cwV 2 hts gX9_clashOf_X9_sign rfl rfl rfl (by decide +kernel) ⟨Nat.le_of_ble_eq_true rfl, Nat.le_of_ble_eq_true rfl⟩) hK hP (va_recv hK hP (ci := 8) (q0 := 0) rfl rfl) rfl hl.1 rfl (Nat.le_of_ble_eq_true rfl) dX9_clashOf_22 ⟨Nat.zero_le _, Nat.zero_le _⟩ ?_
        refine lv_if_eq (tgt := 37) hx hb dX9_clashOf_25 (by decide) (fun c_25 => ?_) (fun c_25 => ?_)
        · have hf := ip c_25 hf
          exact hp37 _ hf hl
        · have hf := iq c_25 hf
          refine lv_aload_n hx hb dX9_clashOf_28 rfl (lv_at hl 0 rfl) ?_
          refine lv_iload_n hx hb dX9_clashOf_29 rfl (lv_at hl 2 rfl) ?_
          refine lv_iload_n hx hb dX9_clashOf_30 rfl (lv_at hl 3 rfl) ?_
          obtain ⟨r_8, hc_9, hf⟩ := bd_ob hf
          refine rdV (As := [.int p2, .int v3_2]) (rest := []) ⟨hx, hb, hml, hown, hts⟩ (mX9_sign l D cI cB cZ cO q fu z p2 v3_2 hc_9) (cwV 2 hts gX9_clashOf_X9_sign rfl rfl rfl (by decide +kernel) ⟨Nat.le_of_ble_eq_true rfl, Nat.le_of_ble_eq_true rfl⟩) hK hP (va_recv hK hP (ci := 8) (q0 := 0) rfl rfl) rfl hl.1 rfl (Nat.le_of_ble_eq_true rfl) dX9_clashOf_31 ⟨Nat.zero_le _, Nat.zero_le _⟩ ?_
          refine lv_if_ne (tgt := 43) hx hb dX9_clashOf_34 (by decide) (fun c_34 => ?_) (fun c_34 => ?_)
          · have hf := ip c_34 hf
            exact hp43 v3_2 _ hf (lv_sub hl [3] rfl)
          · have hf := iqn c_34 hf
            exact hp37 _ hf hl
  exact hL2 fu (0 : Int32) _ hf (lv_sub hl [1, 2, 3, 0] rfl)

def lX9_resolves_10 (fu : Nat) (p1 : Int32) (p2 : Int32) (r_1 : Int32) (j71 : OS → Option ((OS))) : Nat → Int32 → OS → Option ((OS))
  | 0, _, _ => none
  | n_10 + 1, v4_10, z1_10 => (if (12 : Int32) ≤ v4_10 then j71 z1_10 else bd (fX9_wide fu z1_10) (fun (r_3 : Int32) => jn (κ := Int32 → Option ((OS))) (fun (t0_51 : Int32) => bd (fX9_many fu z1_10) (fun (r_5 : Int32) => bd (fX9_puts fu z1_10 r_5 v4_10 t0_51) (fun (z_7 : OS) => nm (v4_10 + (1 : Int32)) (fun (v4_9 : Int32) => lX9_resolves_10 fu p1 p2 r_1 j71 n_10 v4_9 z_7)))) (fun j51 => jn (κ := Option ((OS))) (j51 (0 : Int32)) (fun j32 => (if r_3 ≤ v4_10 then j32 else (if ¬ v4_10 = r_1 then bd (fX9_sign fu z1_10 p1 v4_10) (fun (r_10 : Int32) => bd (fX9_sign fu z1_10 p2 v4_10) (fun (r_12 : Int32) => j51 (r_10 ||| r_12))) else j32))))))
def fX9_resolves (fu : Nat) (z : OS) (p1 : Int32) (p2 : Int32) : Option ((OS)) :=
  bd (fX9_clashOf fu z p1 p2) (fun (r_1 : Int32) => jn (κ := OS → Option ((OS))) (fun (z1_71 : OS) => some z1_71) (fun j71 => lX9_resolves_10 fu p1 p2 r_1 j71 fu (0 : Int32) z))
set_option maxRecDepth 100000 in
set_option maxHeartbeats 4000000 in
theorem mX9_resolves (l : Launch) (D : va_G) (cI cB cZ cO : ClassId) (q : Nat → Nat) (sz : Nat) (fu : Nat) (z : OS) (p1 : Int32) (p2 : Int32) {y1 : OS} (hf : fX9_resolves fu z p1 p2 = some y1) : Met l yX9_resolves wsX9_resolves ({ frames := 2, cells := 0, slots := 0, locals := 45 }) (va_Pc [.ref (q 0), .int p1, .int p2] (Pw D (gT cI cB cZ cO) (wM cI cB cZ q z) sz)) (Qw D (va_A (wM cI cB cZ q z) sz) none (wM cI cB cZ q y1)) 0 0 (va_A (wM cI cB cZ q z) sz) := by
  unfold fX9_resolves at hf
  refine metW (ret := none) (own := RX9) rfl (by decide) rfl (Nat.le_of_ble_eq_true rfl) (fun p e s m args below meth c ls A hx hb hr hml hown hlocks hts hK hA hP hD hS hl => ?_)
  have hl : lv_has ls 6 [(0, .ref (q 0)), (1, .int p1), (2, .int p2)] := hl
  refine lv_aload_n hx hb dX9_resolves_0 rfl (lv_at hl 0 rfl) ?_
  refine lv_iload_n hx hb dX9_resolves_1 rfl (lv_at hl 1 rfl) ?_
  refine lv_iload_n hx hb dX9_resolves_2 rfl (lv_at hl 2 rfl) ?_
  obtain ⟨r_1, hc_2, hf⟩ := bd_ob hf
  refine rdV (As := [.int p1, .int p2]) (rest := []) ⟨hx, hb, hml, hown, hts⟩ (mX9_clashOf l D cI cB cZ cO q fu z p1 p2 hc_2) (cwV 2 hts gX9_resolves_X9_clashOf rfl rfl rfl (by decide +kernel) ⟨Nat.le_of_ble_eq_true rfl, Nat.le_of_ble_eq_true rfl⟩) hK hP (va_recv hK hP (ci := 8) (q0 := 0) rfl rfl) rfl hl.1 rfl (Nat.le_of_ble_eq_true rfl) dX9_resolves_3 ⟨Nat.zero_le _, Nat.zero_le _⟩ ?_
  refine lv_istore_n (lv' := [(3, .int r_1), (0, .ref (q 0)), (1, .int p1), (2, .int p2)]) hx hb dX9_resolves_6 rfl hl (by decide) rfl (fun ls hl => ?_)
  refine lv_iconst (v := 0) hx hb dX9_resolves_7 (by decide) ?_
  refine lv_istore (lv' := [(4, .int (0 : Int32)), (3, .int r_1), (0, .ref (q 0)), (1, .int p1), (2, .int p2)]) hx hb dX9_resolves_8 hl (by decide) rfl (fun ls hl => ?_)
  obtain ⟨j71, ej71, hf⟩ := jn_ob hf
  have hp71 : ∀ (z1_71 : OS) (H : Heap) (locs : List Loc) (ls : Array Slot), j71 z1_71 = some y1 → va_P D vwCl (wM cI cB cZ q z1_71) H → va_D A (wM cI cB cZ q z1_71) → va_S A s.heap H locs → lv_has ls 6 [] → W p l e (headSpec wsX9_resolves { frames := 2, cells := 0, slots := 0, locals := 45 }).room s m args below meth c H locs 0 0 (MQ below (Qw D A none (wM cI cB cZ q y1)) args s 0 0 A) (F0 m 71 ls []) := by
    intro z1_71 H locs ls hf hP hD hS hl
    rw [ej71] at hf
    exact rW_v hx hb hr hlocks hP hD hS (congrArg (fun (q9 : (OS)) => wM cI cB cZ q q9) (so_ob hf)) dX9_resolves_71
  have hL10 : ∀ (n_10 : Nat) (v4_10 : Int32) (z1_10 : OS) (H : Heap) (locs : List Loc) (ls : Array Slot), lX9_resolves_10 fu p1 p2 r_1 j71 n_10 v4_10 z1_10 = some y1 → va_P D vwCl (wM cI cB cZ q z1_10) H → va_D A (wM cI cB cZ q z1_10) → va_S A s.heap H locs → lv_has ls 6 [(0, .ref (q 0)), (1, .int p1), (2, .int p2), (3, .int r_1), (4, .int v4_10)] → W p l e (headSpec wsX9_resolves { frames := 2, cells := 0, slots := 0, locals := 45 }).room s m args below meth c H locs 0 0 (MQ below (Qw D A none (wM cI cB cZ q y1)) args s 0 0 A) (F0 m 10 ls []) := by
    intro n_10
    induction n_10 with
    | zero =>
      intro v4_10 z1_10 H locs ls hf
      exact no_ob hf
    | succ n_10 ih10 =>
      intro v4_10 z1_10 H locs ls hf hP hD hS hl
      rw [lX9_resolves_10] at hf
      refine lv_iload hx hb dX9_resolves_10 (lv_at hl 4 rfl) ?_
      refine lv_bipush (v := 12) hx hb dX9_resolves_12 (by decide) ?_
      refine lv_icmp_ge (tgt := 71) hx hb dX9_resolves_14 (by decide) (fun c_14 => ?_) (fun c_14 => ?_)
      · have hf := ip c_14 hf
        exact hp71 z1_10 _ _ _ hf hP hD hS (lv_sub hl [] rfl)
      · have hf := iq c_14 hf
        refine lv_iload hx hb dX9_resolves_17 (lv_at hl 4 rfl) ?_
        refine lv_aload_n hx hb dX9_resolves_19 rfl (lv_at hl 0 rfl) ?_
        obtain ⟨r_3, hc_4, hf⟩ := bd_ob hf
        refine rdV (As := []) (rest := [.int v4_10]) ⟨hx, hb, hml, hown, hts⟩ (mX9_wide l D cI cB cZ cO q fu z1_10 hc_4) (cwV 0 hts gX9_resolves_X9_wide rfl rfl rfl (by decide +kernel) ⟨Nat.le_of_ble_eq_true rfl, Nat.le_of_ble_eq_true rfl⟩) hK hP (va_recv hK hP (ci := 8) (q0 := 0) rfl rfl) rfl hl.1 rfl (Nat.le_of_ble_eq_true rfl) dX9_resolves_20 ⟨Nat.zero_le _, Nat.zero_le _⟩ ?_
        obtain ⟨j51, ej51, hf⟩ := jn_ob hf
        have hp51 : ∀ (t0_51 : Int32) (H : Heap) (locs : List Loc) (ls : Array Slot), j51 t0_51 = some y1 → va_P D vwCl (wM cI cB cZ q z1_10) H → va_D A (wM cI cB cZ q z1_10) → va_S A s.heap H locs → lv_has ls 6 [(0, .ref (q 0)), (1, .int p1), (2, .int p2), (3, .int r_1), (4, .int v4_10)] → W p l e (headSpec wsX9_resolves { frames := 2, cells := 0, slots := 0, locals := 45 }).room s m args below meth c H locs 0 0 (MQ below (Qw D A none (wM cI cB cZ q y1)) args s 0 0 A) (F0 m 51 ls [.int t0_51]) := by
          intro t0_51 H locs ls hf hP hD hS hl
          rw [ej51] at hf
          refine lv_istore (lv' := [(5, .int t0_51), (0, .ref (q 0)), (1, .int p1), (2, .int p2), (3, .int r_1), (4, .int v4_10)]) hx hb dX9_resolves_51 hl (by decide) rfl (fun ls hl => ?_)
          refine lv_aload_n hx hb dX9_resolves_53 rfl (lv_at hl 1 rfl) ?_
          refine lv_aload_n hx hb dX9_resolves_54 rfl (lv_at hl 1 rfl) ?_
          obtain ⟨r_5, hc_6, hf⟩ := bd_ob hf
          refine rdV (As := []) (rest := [.ref (q 0)]) ⟨hx, hb, hml, hown, hts⟩ (mX9_many l D cI cB cZ cO q fu z1_10 hc_6) (cwV 0 hts gX9_resolves_X9_many rfl rfl rfl (by decide +kernel) ⟨Nat.le_of_ble_eq_true rfl, Nat.le_of_ble_eq_true rfl⟩) hK hP (va_recv hK hP (ci := 8) (q0 := 0) rfl rfl) rfl hl.1 rfl (Nat.le_of_ble_eq_true rfl) dX9_resolves_55 ⟨Nat.zero_le _, Nat.zero_le _⟩ ?_
          refine lv_iload hx hb dX9_resolves_58 (lv_at hl 5 rfl) ?_
          refine lv_iload hx hb dX9_resolves_60 (lv_at hl 0 rfl) ?_
          obtain ⟨z_7, hc_8, hf⟩ := bd_ob hf
          refine weV (As := [.int r_5, .int v4_10, .int t0_51]) (rest := []) ⟨hx, hb, hml, hown, hts⟩ (mX9_puts l D cI cB cZ cO q _ fu z1_10 r_5 v4_10 t0_51 hc_8) (cwV 3 hts gX9_resolves_X9_puts rfl rfl rfl (by decide +kernel) ⟨Nat.le_of_ble_eq_true rfl, Nat.le_of_ble_eq_true rfl⟩) hK hP hD hS hA (va_recv hK hP (ci := 8) (q0 := 0) rfl rfl) rfl hl.1 rfl (Nat.le_of_ble_eq_true rfl) dX9_resolves_62 ⟨Nat.zero_le _, Nat.zero_le _⟩ (fun H locs hP hD hS => ?_)
          obtain ⟨v4_9, ev4_9, hf⟩ := nm_ob hf
          refine lv_iinc (v := v4_9) (lv' := [(4, .int v4_9), (5, .int t0_51), (0, .ref (q 0)), (1, .int p1), (2, .int p2), (3, .int r_1)]) hx hb dX9_resolves_65 hl (k := 5) rfl (by rw [ev4_9]; rfl) (by decide) rfl (fun ls hl => ?_)
          refine lv_goto (tgt := 10) hx hb dX9_resolves_68 (by decide) ?_
          exact ih10 v4_9 z_7 _ _ _ hf hP hD hS (lv_sub hl [2, 3, 4, 5, 0] rfl)
        obtain ⟨j32, ej32, hf⟩ := jn_ob hf
        have hp32 : ∀  (H : Heap) (locs : List Loc) (ls : Array Slot), j32 = some y1 → va_P D vwCl (wM cI cB cZ q z1_10) H → va_D A (wM cI cB cZ q z1_10) → va_S A s.heap H locs → lv_has ls 6 [(0, .ref (q 0)), (1, .int p1), (2, .int p2), (3, .int r_1), (4, .int v4_10)] → W p l e (headSpec wsX9_resolves { frames := 2, cells := 0, slots := 0, locals := 45 }).room s m args below meth c H locs 0 0 (MQ below (Qw D A none (wM cI cB cZ q y1)) args s 0 0 A) (F0 m 32 ls []) := by
          intro H locs ls hf hP hD hS hl
          rw [ej32] at hf
          refine lv_iconst (v := 0) hx hb dX9_resolves_32 (by decide) ?_
          refine lv_goto (tgt := 51) hx hb dX9_resolves_33 (by decide) ?_
          exact hp51 (0 : Int32) _ _ _ hf hP hD hS hl
        refine lv_icmp_ge (tgt := 32) hx hb dX9_resolves_23 (by decide) (fun c_23 => ?_) (fun c_23 => ?_)
        · have hf := ip c_23 hf
          exact hp32 _ _ _ hf hP hD hS hl
        · have hf := iq c_23 hf
          refine lv_iload hx hb dX9_resolves_26 (lv_at hl 4 rfl) ?_
          refine lv_iload_n hx hb dX9_resolves_28 rfl (lv_at hl 3 rfl) ?_
          refine lv_icmp_ne (tgt := 36) hx hb dX9_resolves_29 (by decide) (fun c_29 => ?_) (fun c_29 => ?_)
          · have hf := ip c_29 hf
            refine lv_aload_n hx hb dX9_resolves_36 rfl (lv_at hl 0 rfl) ?_
            refine lv_iload_n hx hb dX9_resolves_37 rfl (lv_at hl 1 rfl) ?_
            refine lv_iload hx hb dX9_resolves_38 (lv_at hl 4 rfl) ?_
            obtain ⟨r_10, hc_11, hf⟩ := bd_ob hf
            refine rdV (As := [.int p1, .int v4_10]) (rest := []) ⟨hx, hb, hml, hown, hts⟩ (mX9_sign l D cI cB cZ cO q fu z1_10 p1 v4_10 hc_11) (cwV 2 hts gX9_resolves_X9_sign rfl rfl rfl (by decide +kernel) ⟨Nat.le_of_ble_eq_true rfl, Nat.le_of_ble_eq_true rfl⟩) hK hP (va_recv hK hP (ci := 8) (q0 := 0) rfl rfl) rfl hl.1 rfl (Nat.le_of_ble_eq_true rfl) dX9_resolves_40 ⟨Nat.zero_le _, Nat.zero_le _⟩ ?_
            refine lv_aload_n hx hb dX9_resolves_43 rfl (lv_at hl 0 rfl) ?_
            refine lv_iload_n hx hb dX9_resolves_44 rfl (lv_at hl 2 rfl) ?_
            refine lv_iload hx hb dX9_resolves_45 (lv_at hl 4 rfl) ?_
            obtain ⟨r_12, hc_13, hf⟩ := bd_ob hf
            refine rdV (As := [.int p2, .int v4_10]) (rest := [.int r_10]) ⟨hx, hb, hml, hown, hts⟩ (mX9_sign l D cI cB cZ cO q fu z1_10 p2 v4_10 hc_13) (cwV 2 hts gX9_resolves_X9_sign rfl rfl rfl (by decide +kernel) ⟨Nat.le_of_ble_eq_true rfl, Nat.le_of_ble_eq_true rfl⟩) hK hP (va_recv hK hP (ci := 8) (q0 := 0) rfl rfl) rfl hl.1 rfl (Nat.le_of_ble_eq_true rfl) dX9_resolves_47 ⟨Nat.zero_le _, Nat.zero_le _⟩ ?_
            refine lv_ior hx hb dX9_resolves_50 ?_
            exact hp51 (r_10 ||| r_12) _ _ _ hf hP hD hS hl
          · have hf := iqn c_29 hf
            exact hp32 _ _ _ hf hP hD hS hl
  exact hL10 fu (0 : Int32) z _ _ _ hf hP hD hS (lv_sub hl [2, 3, 4, 1, 0] rfl)

def fX9_addsResolvent (fu : Nat) (z : OS) (p1 : Int32) (p2 : Int32) : Option (Int32 × (OS)) :=
  bd (fX9_clashOf fu z p1 p2) (fun (r_1 : Int32) => bd (fX9_sign fu z p1 r_1) (fun (r_3 : Int32) => jn (κ := Int32 → Option (Int32 × (OS))) (fun (t0_22 : Int32) => bd (fX9_resolves fu z p1 p2) (fun (z_5 : OS) => jn (κ := Int32 → Option (Int32 × (OS))) (fun (t1_41 : Int32) => jn (κ := Int32 → Int32 → Option (Int32 × (OS))) (fun (t1_51 : Int32) (t2_51 : Int32) => bd (fX9_adds fu z_5 t1_51 t2_51 r_1) (fun (w_9 : Int32 × OS) => nm w_9.1 (fun (r_7 : Int32) => nm w_9.2 (fun (z_8 : OS) => some (r_7, z_8))))) (fun j51 => (if t0_22 = (0 : Int32) then j51 t1_41 p1 else j51 t1_41 p2))) (fun j41 => (if t0_22 = (0 : Int32) then j41 p2 else j41 p1)))) (fun j22 => (if ¬ r_3 = (1 : Int32) then j22 (0 : Int32) else j22 (1 : Int32)))))
set_option maxRecDepth 100000 in
set_option maxHeartbeats 4000000 in
theorem mX9_addsResolvent (l : Launch) (D : va_G) (cI cB cZ cO : ClassId) (q : Nat → Nat) (sz : Nat) (fu : Nat) (z : OS) (p1 : Int32) (p2 : Int32) {r : Int32} {y1 : OS} (hf : fX9_addsResolvent fu z p1 p2 = some (r, y1)) : Met l yX9_addsResolvent wsX9_addsResolvent ({ frames := 3, cells := 0, slots := 0, locals := 70 }) (va_Pc [.ref (q 0), .int p1, .int p2] (Pw D (gT cI cB cZ cO) (wM cI cB cZ q z) sz)) (Qw D (va_A (wM cI cB cZ q z) sz) (some (.int r)) (wM cI cB cZ q y1)) 0 0 (va_A (wM cI cB cZ q z) sz) := by
  unfold fX9_addsResolvent at hf
  refine metW (ret := (some .int)) (own := RX9) rfl (by decide) rfl (Nat.le_of_ble_eq_true rfl) (fun p e s m args below meth c ls A hx hb hr hml hown hlocks hts hK hA hP hD hS hl => ?_)
  have hl : lv_has ls 5 [(0, .ref (q 0)), (1, .int p1), (2, .int p2)] := hl
  refine lv_aload_n hx hb dX9_addsResolvent_0 rfl (lv_at hl 0 rfl) ?_
  refine lv_iload_n hx hb dX9_addsResolvent_1 rfl (lv_at hl 1 rfl) ?_
  refine lv_iload_n hx hb dX9_addsResolvent_2 rfl (lv_at hl 2 rfl) ?_
  obtain ⟨r_1, hc_2, hf⟩ := bd_ob hf
  refine rdV (As := [.int p1, .int p2]) (rest := []) ⟨hx, hb, hml, hown, hts⟩ (mX9_clashOf l D cI cB cZ cO q fu z p1 p2 hc_2) (cwV 2 hts gX9_addsResolvent_X9_clashOf rfl rfl rfl (by decide +kernel) ⟨Nat.le_of_ble_eq_true rfl, Nat.le_of_ble_eq_true rfl⟩) hK hP (va_recv hK hP (ci := 8) (q0 := 0) rfl rfl) rfl hl.1 rfl (Nat.le_of_ble_eq_true rfl) dX9_addsResolvent_3 ⟨Nat.zero_le _, Nat.zero_le _⟩ ?_
  refine lv_istore_n (lv' := [(3, .int r_1), (0, .ref (q 0)), (1, .int p1), (2, .int p2)]) hx hb dX9_addsResolvent_6 rfl hl (by decide) rfl (fun ls hl => ?_)
  refine lv_aload_n hx hb dX9_addsResolvent_7 rfl (lv_at hl 1 rfl) ?_
  refine lv_iload_n hx hb dX9_addsResolvent_8 rfl (lv_at hl 2 rfl) ?_
  refine lv_iload_n hx hb dX9_addsResolvent_9 rfl (lv_at hl 0 rfl) ?_
  obtain ⟨r_3, hc_4, hf⟩ := bd_ob hf
  refine rdV (As := [.int p1, .int r_1]) (rest := []) ⟨hx, hb, hml, hown, hts⟩ (mX9_sign l D cI cB cZ cO q fu z p1 r_1 hc_4) (cwV 2 hts gX9_addsResolvent_X9_sign rfl rfl rfl (by decide +kernel) ⟨Nat.le_of_ble_eq_true rfl, Nat.le_of_ble_eq_true rfl⟩) hK hP (va_recv hK hP (ci := 8) (q0 := 0) rfl rfl) rfl hl.1 rfl (Nat.le_of_ble_eq_true rfl) dX9_addsResolvent_10 ⟨Nat.zero_le _, Nat.zero_le _⟩ ?_
  refine lv_iconst (v := 1) hx hb dX9_addsResolvent_13 (by decide) ?_
  obtain ⟨j22, ej22, hf⟩ := jn_ob hf
  have hp22 : ∀ (t0_22 : Int32) (H : Heap) (locs : List Loc) (ls : Array Slot), j22 t0_22 = some (r, y1) → va_P D vwCl (wM cI cB cZ q z) H → va_D A (wM cI cB cZ q z) → va_S A s.heap H locs → lv_has ls 5 [(0, .ref (q 0)), (1, .int p1), (2, .int p2), (3, .int r_1)] → W p l e (headSpec wsX9_addsResolvent { frames := 3, cells := 0, slots := 0, locals := 70 }).room s m args below meth c H locs 0 0 (MQ below (Qw D A (some (.int r)) (wM cI cB cZ q y1)) args s 0 0 A) (F0 m 22 ls [.int t0_22]) := by
    intro t0_22 H locs ls hf hP hD hS hl
    rw [ej22] at hf
    refine lv_istore (lv' := [(4, .int t0_22), (0, .ref (q 0)), (1, .int p1), (2, .int p2), (3, .int r_1)]) hx hb dX9_addsResolvent_22 hl (by decide) rfl (fun ls hl => ?_)
    refine lv_aload_n hx hb dX9_addsResolvent_24 rfl (lv_at hl 1 rfl) ?_
    refine lv_iload_n hx hb dX9_addsResolvent_25 rfl (lv_at hl 2 rfl) ?_
    refine lv_iload_n hx hb dX9_addsResolvent_26 rfl (lv_at hl 3 rfl) ?_
    obtain ⟨z_5, hc_6, hf⟩ := bd_ob hf
    refine weV (As := [.int p1, .int p2]) (rest := []) ⟨hx, hb, hml, hown, hts⟩ (mX9_resolves l D cI cB cZ cO q _ fu z p1 p2 hc_6) (cwV 2 hts gX9_addsResolvent_X9_resolves rfl rfl rfl (by decide +kernel) ⟨Nat.le_of_ble_eq_true rfl, Nat.le_of_ble_eq_true rfl⟩) hK hP hD hS hA (va_recv hK hP (ci := 8) (q0 := 0) rfl rfl) rfl hl.1 rfl (Nat.le_of_ble_eq_true rfl) dX9_addsResolvent_27 ⟨Nat.zero_le _, Nat.zero_le _⟩ (fun H locs hP hD hS => ?_)
    refine lv_aload_n hx hb dX9_addsResolvent_30 rfl (lv_at hl 1 rfl) ?_
    refine lv_iload hx hb dX9_addsResolvent_31 (lv_at hl 0 rfl) ?_
    obtain ⟨j41, ej41, hf⟩ := jn_ob hf
    have hp41 : ∀ (t1_41 : Int32) (H : Heap) (locs : List Loc) (ls : Array Slot), j41 t1_41 = some (r, y1) → va_P D vwCl (wM cI cB cZ q z_5) H → va_D A (wM cI cB cZ q z_5) → va_S A s.heap H locs → lv_has ls 5 [(1, .int p1), (2, .int p2), (3, .int r_1), (4, .int t0_22)] → W p l e (headSpec wsX9_addsResolvent { frames := 3, cells := 0, slots := 0, locals := 70 }).room s m args below meth c H locs 0 0 (MQ below (Qw D A (some (.int r)) (wM cI cB cZ q y1)) args s 0 0 A) (F0 m 41 ls [.int t1_41, .ref (q 0)]) := by
      intro t1_41 H locs ls hf hP hD hS hl
      rw [ej41] at hf
      refine lv_iload hx hb dX9_addsResolvent_41 (lv_at hl 3 rfl) ?_
      obtain ⟨j51, ej51, hf⟩ := jn_ob hf
      have hp51 : ∀ (t1_51 : Int32) (t2_51 : Int32) (H : Heap) (locs : List Loc) (ls : Array Slot), j51 t1_51 t2_51 = some (r, y1) → va_P D vwCl (wM cI cB cZ q z_5) H → va_D A (wM cI cB cZ q z_5) → va_S A s.heap H locs → lv_has ls 5 [(3, .int r_1)] → W p l e (headSpec wsX9_addsResolvent { frames := 3, cells := 0, slots := 0, locals := 70 }).room s m args below meth c H locs 0 0 (MQ below (Qw D A (some (.int r)) (wM cI cB cZ q y1)) args s 0 0 A) (F0 m 51 ls [.int t2_51, .int t1_51, .ref (q 0)]) := by
        intro t1_51 t2_51 H locs ls hf hP hD hS hl
        rw [ej51] at hf
        refine lv_iload_n hx hb dX9_addsResolvent_51 rfl (lv_at hl 0 rfl) ?_
        obtain ⟨⟨r_7, z_8⟩, hc_10, hf⟩ := bd_ob hf
        have hf := nm_st hf
        have hf := nm_st hf
        refine weV (As := [.int t1_51, .int t2_51, .int r_1]) (rest := []) ⟨hx, hb, hml, hown, hts⟩ (mX9_adds l D cI cB cZ cO q _ fu z_5 t1_51 t2_51 r_1 hc_10) (cwV 3 hts gX9_addsResolvent_X9_adds rfl rfl rfl (by decide +kernel) ⟨Nat.le_of_ble_eq_true rfl, Nat.le_of_ble_eq_true rfl⟩) hK hP hD hS hA (va_recv hK hP (ci := 8) (q0 := 0) rfl rfl) rfl hl.1 rfl (Nat.le_of_ble_eq_true rfl) dX9_addsResolvent_52 ⟨Nat.zero_le _, Nat.zero_le _⟩ (fun H locs hP hD hS => ?_)
        exact rW_i hx hb hr hlocks hP hD hS (congrArg (fun q9 => q9.1) (so_ob hf)) (congrArg (fun (q9 : Int32 × (OS)) => wM cI cB cZ q q9.2) (so_ob hf)) dX9_addsResolvent_55
      refine lv_if_eq (tgt := 50) hx hb dX9_addsResolvent_43 (by decide) (fun c_43 => ?_) (fun c_43 => ?_)
      · have hf := ip c_43 hf
        refine lv_iload_n hx hb dX9_addsResolvent_50 rfl (lv_at hl 0 rfl) ?_
        exact hp51 t1_41 p1 _ _ _ hf hP hD hS (lv_sub hl [2] rfl)
      · have hf := iq c_43 hf
        refine lv_iload_n hx hb dX9_addsResolvent_46 rfl (lv_at hl 1 rfl) ?_
        refine lv_goto (tgt := 51) hx hb dX9_addsResolvent_47 (by decide) ?_
        exact hp51 t1_41 p2 _ _ _ hf hP hD hS (lv_sub hl [2] rfl)
    refine lv_if_eq (tgt := 40) hx hb dX9_addsResolvent_33 (by decide) (fun c_33 => ?_) (fun c_33 => ?_)
    · have hf := ip c_33 hf
      refine lv_iload_n hx hb dX9_addsResolvent_40 rfl (lv_at hl 3 rfl) ?_
      exact hp41 p2 _ _ _ hf hP hD hS (lv_sub hl [2, 3, 4, 0] rfl)
    · have hf := iq c_33 hf
      refine lv_iload_n hx hb dX9_addsResolvent_36 rfl (lv_at hl 2 rfl) ?_
      refine lv_goto (tgt := 41) hx hb dX9_addsResolvent_37 (by decide) ?_
      exact hp41 p1 _ _ _ hf hP hD hS (lv_sub hl [2, 3, 4, 0] rfl)
  refine lv_icmp_ne (tgt := 21) hx hb dX9_addsResolvent_14 (by decide) (fun c_14 => ?_) (fun c_14 => ?_)
  · have hf := ip c_14 hf
    refine lv_iconst (v := 0) hx hb dX9_addsResolvent_21 (by decide) ?_
    exact hp22 (0 : Int32) _ _ _ hf hP hD hS (lv_sub hl [1, 2, 3, 0] rfl)
  · have hf := iqn c_14 hf
    refine lv_iconst (v := 1) hx hb dX9_addsResolvent_17 (by decide) ?_
    refine lv_goto (tgt := 22) hx hb dX9_addsResolvent_18 (by decide) ?_
    exact hp22 (1 : Int32) _ _ _ hf hP hD hS (lv_sub hl [1, 2, 3, 0] rfl)

def lX9_empty_2 (fu : Nat) (z : OS) (j26 : Option (Int32)) : Nat → Int32 → Option (Int32)
  | 0, _ => none
  | n_2 + 1, v1_2 => bd (fX9_many fu z) (fun (r_1 : Int32) => (if r_1 ≤ v1_2 then j26 else bd (fX9_literals fu z v1_2) (fun (r_3 : Int32) => (if ¬ r_3 = (0 : Int32) then nm (v1_2 + (1 : Int32)) (fun (v1_5 : Int32) => lX9_empty_2 fu z j26 n_2 v1_5) else some v1_2))))
def fX9_empty (fu : Nat) (z : OS) : Option (Int32) :=
  jn (κ := Option (Int32)) (some (-1 : Int32)) (fun j26 => lX9_empty_2 fu z j26 fu (0 : Int32))
set_option maxRecDepth 100000 in
set_option maxHeartbeats 4000000 in
theorem mX9_empty (l : Launch) (D : va_G) (cI cB cZ cO : ClassId) (q : Nat → Nat) (fu : Nat) (z : OS) {r : Int32} (hf : fX9_empty fu z = some r) : Met l yX9_empty wsX9_empty ({ frames := 2, cells := 0, slots := 0, locals := 45 }) (va_Pc [.ref (q 0)] (Pr D (gT cI cB cZ cO) (wM cI cB cZ q z))) (Qr (some (.int r))) 0 0 (fun _ => False) := by
  unfold fX9_empty at hf
  refine metR (ret := (some .int)) (own := RX9) rfl (by decide) rfl (Nat.le_of_ble_eq_true rfl) (fun p e s m args below meth c ls hx hb hr hml hown hlocks hts hP hK hl => ?_)
  have hl : lv_has ls 2 [(0, .ref (q 0))] := hl
  refine lv_iconst (v := 0) hx hb dX9_empty_0 (by decide) ?_
  refine lv_istore_n (lv' := [(1, .int (0 : Int32)), (0, .ref (q 0))]) hx hb dX9_empty_1 rfl hl (by decide) rfl (fun ls hl => ?_)
  obtain ⟨j26, ej26, hf⟩ := jn_ob hf
  have hp26 : ∀  (ls : Array Slot), j26 = some r → lv_has ls 2 [] → W p l e (headSpec wsX9_empty { frames := 2, cells := 0, slots := 0, locals := 45 }).room s m args below meth c s.heap [] 0 0 (MQ below (Qr (some (.int r))) args s 0 0 (fun _ => False)) (F0 m 26 ls []) := by
    intro ls hf hl
    rw [ej26] at hf
    refine lv_iconst (v := (-1)) hx hb dX9_empty_26 (by decide) ?_
    exact rR_i hx hb hr hlocks (so_ob hf) dX9_empty_27
  have hL2 : ∀ (n_2 : Nat) (v1_2 : Int32) (ls : Array Slot), lX9_empty_2 fu z j26 n_2 v1_2 = some r → lv_has ls 2 [(0, .ref (q 0)), (1, .int v1_2)] → W p l e (headSpec wsX9_empty { frames := 2, cells := 0, slots := 0, locals := 45 }).room s m args below meth c s.heap [] 0 0 (MQ below (Qr (some (.int r))) args s 0 0 (fun _ => False)) (F0 m 2 ls []) := by
    intro n_2
    induction n_2 with
    | zero =>
      intro v1_2 ls hf
      exact no_ob hf
    | succ n_2 ih2 =>
      intro v1_2 ls hf hl
      rw [lX9_empty_2] at hf
      refine lv_iload_n hx hb dX9_empty_2 rfl (lv_at hl 1 rfl) ?_
      refine lv_aload_n hx hb dX9_empty_3 rfl (lv_at hl 0 rfl) ?_
      obtain ⟨r_1, hc_2, hf⟩ := bd_ob hf
      refine rdV (As := []) (rest := [.int v1_2]) ⟨hx, hb, hml, hown, hts⟩ (mX9_many l D cI cB cZ cO q fu z hc_2) (cwV 0 hts gX9_empty_X9_many rfl rfl rfl (by decide +kernel) ⟨Nat.le_of_ble_eq_true rfl, Nat.le_of_ble_eq_true rfl⟩) hK hP (va_recv hK hP (ci := 8) (q0 := 0) rfl rfl) rfl hl.1 rfl (Nat.le_of_ble_eq_true rfl) dX9_empty_4 ⟨Nat.zero_le _, Nat.zero_le _⟩ ?_
      refine lv_icmp_ge (tgt := 26) hx hb dX9_empty_7 (by decide) (fun c_7 => ?_) (fun c_7 => ?_)
      · have hf := ip c_7 hf
        exact hp26 _ hf (lv_sub hl [] rfl)
      · have hf := iq c_7 hf
        refine lv_aload_n hx hb dX9_empty_10 rfl (lv_at hl 0 rfl) ?_
        refine lv_iload_n hx hb dX9_empty_11 rfl (lv_at hl 1 rfl) ?_
        obtain ⟨r_3, hc_4, hf⟩ := bd_ob hf
        refine rdV (As := [.int v1_2]) (rest := []) ⟨hx, hb, hml, hown, hts⟩ (mX9_literals l D cI cB cZ cO q fu z v1_2 hc_4) (cwV 1 hts gX9_empty_X9_literals rfl rfl rfl (by decide +kernel) ⟨Nat.le_of_ble_eq_true rfl, Nat.le_of_ble_eq_true rfl⟩) hK hP (va_recv hK hP (ci := 8) (q0 := 0) rfl rfl) rfl hl.1 rfl (Nat.le_of_ble_eq_true rfl) dX9_empty_12 ⟨Nat.zero_le _, Nat.zero_le _⟩ ?_
        refine lv_if_ne (tgt := 20) hx hb dX9_empty_15 (by decide) (fun c_15 => ?_) (fun c_15 => ?_)
        · have hf := ip c_15 hf
          obtain ⟨v1_5, ev1_5, hf⟩ := nm_ob hf
          refine lv_iinc (v := v1_5) (lv' := [(1, .int v1_5), (0, .ref (q 0))]) hx hb dX9_empty_20 hl (k := 1) rfl (by rw [ev1_5]; rfl) (by decide) rfl (fun ls hl => ?_)
          refine lv_goto (tgt := 2) hx hb dX9_empty_23 (by decide) ?_
          exact ih2 v1_5 _ hf (lv_sub hl [1, 0] rfl)
        · have hf := iqn c_15 hf
          refine lv_iload_n hx hb dX9_empty_18 rfl (lv_at hl 1 rfl) ?_
          exact rR_i hx hb hr hlocks (so_ob hf) dX9_empty_19
  exact hL2 fu (0 : Int32) _ hf (lv_sub hl [1, 0] rfl)

def lX9_hasStep_41 (fu : Nat) (v1_31 : Int32) (j90 : OS → Option (Int32 × (OS))) : Nat → Int32 → OS → Option (Int32 × (OS))
  | 0, _, _ => none
  | n_41 + 1, v2_41, z1_41 => (if v1_31 ≤ v2_41 then j90 z1_41 else bd (fX9_clashing fu z1_41 v2_41 v1_31) (fun (r_10 : Int32) => jn (κ := OS → Option (Int32 × (OS))) (fun (z1_84 : OS) => nm (v2_41 + (1 : Int32)) (fun (v2_12 : Int32) => lX9_hasStep_41 fu v1_31 j90 n_41 v2_12 z1_84)) (fun j84 => (if r_10 = (1 : Int32) then bd (fX9_resolves fu z1_41 v2_41 v1_31) (fun (z_13 : OS) => bd (fX9_isAnyWithinTried fu z_13) (fun (r_15 : Int32) => (if ¬ r_15 = (0 : Int32) then j84 z_13 else nm (sI z_13 8 v2_41) (fun (z_17 : OS) => nm (sI z_17 9 v1_31) (fun (z_18 : OS) => gd (isZ (1 : Int32)) (some ((1 : Int32), z_18))))))) else j84 z1_41))))
def lX9_hasStep_31 (fu : Nat) (j96 : OS → Option (Int32 × (OS))) : Nat → Int32 → OS → Option (Int32 × (OS))
  | 0, _, _ => none
  | n_31 + 1, v1_31, z1_31 => bd (fX9_many fu z1_31) (fun (r_7 : Int32) => (if r_7 ≤ v1_31 then j96 z1_31 else jn (κ := OS → Option (Int32 × (OS))) (fun (z1_90 : OS) => nm (v1_31 + (1 : Int32)) (fun (v1_9 : Int32) => lX9_hasStep_31 fu j96 n_31 v1_9 z1_90)) (fun j90 => lX9_hasStep_41 fu v1_31 j90 fu (0 : Int32) z1_31)))
def fX9_hasStep (fu : Nat) (z : OS) : Option (Int32 × (OS)) :=
  nm (sI z 8 (-1 : Int32)) (fun (z_1 : OS) => nm (sI z_1 9 (-1 : Int32)) (fun (z_2 : OS) => bd (fX9_empty fu z_2) (fun (r_3 : Int32) => (if ¬ r_3 = (-1 : Int32) then gd (isZ (0 : Int32)) (some ((0 : Int32), z_2)) else bd (fX9_many fu z_2) (fun (r_5 : Int32) => (if ¬ r_5 = (60 : Int32) then jn (κ := OS → Option (Int32 × (OS))) (fun (z1_96 : OS) => gd (isZ (0 : Int32)) (some ((0 : Int32), z1_96))) (fun j96 => lX9_hasStep_31 fu j96 fu (1 : Int32) z_2) else gd (isZ (0 : Int32)) (some ((0 : Int32), z_2))))))))
set_option maxRecDepth 100000 in
set_option maxHeartbeats 4000000 in
theorem mX9_hasStep (l : Launch) (D : va_G) (cI cB cZ cO : ClassId) (q : Nat → Nat) (sz : Nat) (fu : Nat) (z : OS) {r : Int32} {y1 : OS} (hf : fX9_hasStep fu z = some (r, y1)) : Met l yX9_hasStep wsX9_hasStep ({ frames := 3, cells := 0, slots := 0, locals := 70 }) (va_Pc [.ref (q 0)] (Pw D (gT cI cB cZ cO) (wM cI cB cZ q z) sz)) (Qw D (va_A (wM cI cB cZ q z) sz) (some (.int r)) (wM cI cB cZ q y1)) 0 0 (va_A (wM cI cB cZ q z) sz) := by
  unfold fX9_hasStep at hf
  refine metW (ret := (some .boolean)) (own := RX9) rfl (by decide) rfl (Nat.le_of_ble_eq_true rfl) (fun p e s m args below meth c ls A hx hb hr hml hown hlocks hts hK hA hP hD hS hl => ?_)
  have k90 := (hts (.fieldLink RX9 90 "ResolutionProverModel" "stepFirst" "I") (List.mem_of_getElem? (i := 1) rfl))
  have k93 := (hts (.fieldLink RX9 93 "ResolutionProverModel" "stepSecond" "I") (List.mem_of_getElem? (i := 2) rfl))
  have hiX9 : ∀ w ∈ wsX90, w ∈ wsX9_hasStep := (memIn_p [49, 50, 51, 52, 53, 54, 55, 56, 57, 58, 59, 60, 61, 62, 63, 64, 65, 66, 67, 68, 69, 70, 71, 72, 73, 74, 75] rfl)
  have hl : lv_has ls 3 [(0, .ref (q 0))] := hl
  refine lv_aload_n hx hb dX9_hasStep_0 rfl (lv_at hl 0 rfl) ?_
  refine lv_iconst (v := (-1)) hx hb dX9_hasStep_1 (by decide) ?_
  refine va_put (D := D) (ci := 8) (v := .int (-1 : Int32)) (ty := .int) (C := RX9) (T := TX9) (N := 27) hx hb hts hiX9 tyX9 tyX9_ok nmX9 hown hK hP hD hS 0 rfl rfl 8 (by decide) k90 (fun _ h9 => h9) rfl (by decide +kernel) rfl rfl (Nat.le_of_ble_eq_true rfl) dX9_hasStep_2 (fun H locs hP hD hS => ?_)
  obtain ⟨z_1, ez_1, hf⟩ := nm_ob hf
  have hP : va_P D vwCl (wM cI cB cZ q z_1) H := by rw [ez_1]; exact hP
  have hD : va_D A (wM cI cB cZ q z_1) := by rw [ez_1]; exact hD
  refine lv_aload_n hx hb dX9_hasStep_5 rfl (lv_at hl 0 rfl) ?_
  refine lv_iconst (v := (-1)) hx hb dX9_hasStep_6 (by decide) ?_
  refine va_put (D := D) (ci := 8) (v := .int (-1 : Int32)) (ty := .int) (C := RX9) (T := TX9) (N := 27) hx hb hts hiX9 tyX9 tyX9_ok nmX9 hown hK hP hD hS 0 rfl rfl 9 (by decide) k93 (fun _ h9 => h9) rfl (by decide +kernel) rfl rfl (Nat.le_of_ble_eq_true rfl) dX9_hasStep_7 (fun H locs hP hD hS => ?_)
  obtain ⟨z_2, ez_2, hf⟩ := nm_ob hf
  have hP : va_P D vwCl (wM cI cB cZ q z_2) H := by rw [ez_2]; exact hP
  have hD : va_D A (wM cI cB cZ q z_2) := by rw [ez_2]; exact hD
  refine lv_aload_n hx hb dX9_hasStep_10 rfl (lv_at hl 0 rfl) ?_
  obtain ⟨r_3, hc_4, hf⟩ := bd_ob hf
  refine rdV (As := []) (rest := []) ⟨hx, hb, hml, hown, hts⟩ (mX9_empty l D cI cB cZ cO q fu z_2 hc_4) (cwV 0 hts gX9_hasStep_X9_empty rfl rfl rfl (by decide +kernel) ⟨Nat.le_of_ble_eq_true rfl, Nat.le_of_ble_eq_true rfl⟩) hK hP (va_recv hK hP (ci := 8) (q0 := 0) rfl rfl) rfl hl.1 rfl (Nat.le_of_ble_eq_true rfl) dX9_hasStep_11 ⟨Nat.zero_le _, Nat.zero_le _⟩ ?_
  refine lv_iconst (v := (-1)) hx hb dX9_hasStep_14 (by decide) ?_
  refine lv_icmp_ne (tgt := 27) hx hb dX9_hasStep_15 (by decide) (fun c_15 => ?_) (fun c_15 => ?_)
  · have hf := ip c_15 hf
    refine lv_iconst (v := 0) hx hb dX9_hasStep_27 (by decide) ?_
    obtain ⟨hz, hf⟩ := gd_ob hf
    exact rW_z hx hb hr hlocks hP hD hS hz (congrArg (fun q9 => q9.1) (so_ob hf)) (congrArg (fun (q9 : Int32 × (OS)) => wM cI cB cZ q q9.2) (so_ob hf)) dX9_hasStep_28
  · have hf := iqn c_15 hf
    refine lv_aload_n hx hb dX9_hasStep_18 rfl (lv_at hl 0 rfl) ?_
    obtain ⟨r_5, hc_6, hf⟩ := bd_ob hf
    refine rdV (As := []) (rest := []) ⟨hx, hb, hml, hown, hts⟩ (mX9_many l D cI cB cZ cO q fu z_2 hc_6) (cwV 0 hts gX9_hasStep_X9_many rfl rfl rfl (by decide +kernel) ⟨Nat.le_of_ble_eq_true rfl, Nat.le_of_ble_eq_true rfl⟩) hK hP (va_recv hK hP (ci := 8) (q0 := 0) rfl rfl) rfl hl.1 rfl (Nat.le_of_ble_eq_true rfl) dX9_hasStep_19 ⟨Nat.zero_le _, Nat.zero_le _⟩ ?_
    refine lv_bipush (v := 60) hx hb dX9_hasStep_22 (by decide) ?_
    refine lv_icmp_ne (tgt := 29) hx hb dX9_hasStep_24 (by decide) (fun c_24 => ?_) (fun c_24 => ?_)
    · have hf := ip c_24 hf
      refine lv_iconst (v := 1) hx hb dX9_hasStep_29 (by decide) ?_
      refine lv_istore_n (lv' := [(1, .int (1 : Int32)), (0, .ref (q 0))]) hx hb dX9_hasStep_30 rfl hl (by decide) rfl (fun ls hl => ?_)
      obtain ⟨j96, ej96, hf⟩ := jn_ob hf
      have hp96 : ∀ (z1_96 : OS) (H : Heap) (locs : List Loc) (ls : Array Slot), j96 z1_96 = some (r, y1) → va_P D vwCl (wM cI cB cZ q z1_96) H → va_D A (wM cI cB cZ q z1_96) → va_S A s.heap H locs → lv_has ls 3 [] → W p l e (headSpec wsX9_hasStep { frames := 3, cells := 0, slots := 0, locals := 70 }).room s m args below meth c H locs 0 0 (MQ below (Qw D A (some (.int r)) (wM cI cB cZ q y1)) args s 0 0 A) (F0 m 96 ls []) := by
        intro z1_96 H locs ls hf hP hD hS hl
        rw [ej96] at hf
        refine lv_iconst (v := 0) hx hb dX9_hasStep_96 (by decide) ?_
        obtain ⟨hz, hf⟩ := gd_ob hf
        exact rW_z hx hb hr hlocks hP hD hS hz (congrArg (fun q9 => q9.1) (so_ob hf)) (congrArg (fun (q9 : Int32 × (OS)) => wM cI cB cZ q q9.2) (so_ob hf)) dX9_hasStep_97
      have hL31 : ∀ (n_31 : Nat) (v1_31 : Int32) (z1_31 : OS) (H : Heap) (locs : List Loc) (ls : Array Slot), lX9_hasStep_31 fu j96 n_31 v1_31 z1_31 = some (r, y1) → va_P D vwCl (wM cI cB cZ q z1_31) H → va_D A (wM cI cB cZ q z1_31) → va_S A s.heap H locs → lv_has ls 3 [(0, .ref (q 0)), (1, .int v1_31)] → W p l e (headSpec wsX9_hasStep { frames := 3, cells := 0, slots := 0, locals := 70 }).room s m args below meth c H locs 0 0 (MQ below (Qw D A (some (.int r)) (wM cI cB cZ q y1)) args s 0 0 A) (F0 m 31 ls []) := by
        intro n_31
        induction n_31 with
        | zero =>
          intro v1_31 z1_31 H locs ls hf
          exact no_ob hf
        | succ n_31 ih31 =>
          intro v1_31 z1_31 H locs ls hf hP hD hS hl
          rw [lX9_hasStep_31] at hf
          refine lv_iload_n hx hb dX9_hasStep_31 rfl (lv_at hl 1 rfl) ?_
          refine lv_aload_n hx hb dX9_hasStep_32 rfl (lv_at hl 0 rfl) ?_
          obtain ⟨r_7, hc_8, hf⟩ := bd_ob hf
          refine rdV (As := []) (rest := [.int v1_31]) ⟨hx, hb, hml, hown, hts⟩ (mX9_many l D cI cB cZ cO q fu z1_31 hc_8) (cwV 0 hts gX9_hasStep_X9_many rfl rfl rfl (by decide +kernel) ⟨Nat.le_of_ble_eq_true rfl, Nat.le_of_ble_eq_true rfl⟩) hK hP (va_recv hK hP (ci := 8) (q0 := 0) rfl rfl) rfl hl.1 rfl (Nat.le_of_ble_eq_true rfl) dX9_hasStep_33 ⟨Nat.zero_le _, Nat.zero_le _⟩ ?_
          refine lv_icmp_ge (tgt := 96) hx hb dX9_hasStep_36 (by decide) (fun c_36 => ?_) (fun c_36 => ?_)
          · have hf := ip c_36 hf
            exact hp96 z1_31 _ _ _ hf hP hD hS (lv_sub hl [] rfl)
          · have hf := iq c_36 hf
            refine lv_iconst (v := 0) hx hb dX9_hasStep_39 (by decide) ?_
            refine lv_istore_n (lv' := [(2, .int (0 : Int32)), (0, .ref (q 0)), (1, .int v1_31)]) hx hb dX9_hasStep_40 rfl hl (by decide) rfl (fun ls hl => ?_)
            obtain ⟨j90, ej90, hf⟩ := jn_ob hf
            have hp90 : ∀ (z1_90 : OS) (H : Heap) (locs : List Loc) (ls : Array Slot), j90 z1_90 = some (r, y1) → va_P D vwCl (wM cI cB cZ q z1_90) H → va_D A (wM cI cB cZ q z1_90) → va_S A s.heap H locs → lv_has ls 3 [(0, .ref (q 0)), (1, .int v1_31)] → W p l e (headSpec wsX9_hasStep { frames := 3, cells := 0, slots := 0, locals := 70 }).room s m args below meth c H locs 0 0 (MQ below (Qw D A (some (.int r)) (wM cI cB cZ q y1)) args s 0 0 A) (F0 m 90 ls []) := by
              intro z1_90 H locs ls hf hP hD hS hl
              rw [ej90] at hf
              obtain ⟨v1_9, ev1_9, hf⟩ := nm_ob hf
              refine lv_iinc (v := v1_9) (lv' := [(1, .int v1_9), (0, .ref (q 0))]) hx hb dX9_hasStep_90 hl (k := 1) rfl (by rw [ev1_9]; rfl) (by decide) rfl (fun ls hl => ?_)
              refine lv_goto (tgt := 31) hx hb dX9_hasStep_93 (by decide) ?_
              exact ih31 v1_9 z1_90 _ _ _ hf hP hD hS (lv_sub hl [1, 0] rfl)
            have hL41 : ∀ (n_41 : Nat) (v2_41 : Int32) (z1_41 : OS) (H : Heap) (locs : List Loc) (ls : Array Slot), lX9_hasStep_41 fu v1_31 j90 n_41 v2_41 z1_41 = some (r, y1) → va_P D vwCl (wM cI cB cZ q z1_41) H → va_D A (wM cI cB cZ q z1_41) → va_S A s.heap H locs → lv_has ls 3 [(0, .ref (q 0)), (1, .int v1_31), (2, .int v2_41)] → W p l e (headSpec wsX9_hasStep { frames := 3, cells := 0, slots := 0, locals := 70 }).room s m args below meth c H locs 0 0 (MQ below (Qw D A (some (.int r)) (wM cI cB cZ q y1)) args s 0 0 A) (F0 m 41 ls []) := by
              intro n_41
              induction n_41 with
              | zero =>
                intro v2_41 z1_41 H locs ls hf
                exact no_ob hf
              | succ n_41 ih41 =>
                intro v2_41 z1_41 H locs ls hf hP hD hS hl
                rw [lX9_hasStep_41] at hf
                refine lv_iload_n hx hb dX9_hasStep_41 rfl (lv_at hl 2 rfl) ?_
                refine lv_iload_n hx hb dX9_hasStep_42 rfl (lv_at hl 1 rfl) ?_
                refine lv_icmp_ge (tgt := 90) hx hb dX9_hasStep_43 (by decide) (fun c_43 => ?_) (fun c_43 => ?_)
                · have hf := ip c_43 hf
                  exact hp90 z1_41 _ _ _ hf hP hD hS (lv_sub hl [0, 1] rfl)
                · have hf := iq c_43 hf
                  refine lv_aload_n hx hb dX9_hasStep_46 rfl (lv_at hl 0 rfl) ?_
                  refine lv_iload_n hx hb dX9_hasStep_47 rfl (lv_at hl 2 rfl) ?_
                  refine lv_iload_n hx hb dX9_hasStep_48 rfl (lv_at hl 1 rfl) ?_
                  obtain ⟨r_10, hc_11, hf⟩ := bd_ob hf
                  refine rdV (As := [.int v2_41, .int v1_31]) (rest := []) ⟨hx, hb, hml, hown, hts⟩ (mX9_clashing l D cI cB cZ cO q fu z1_41 v2_41 v1_31 hc_11) (cwV 2 hts gX9_hasStep_X9_clashing rfl rfl rfl (by decide +kernel) ⟨Nat.le_of_ble_eq_true rfl, Nat.le_of_ble_eq_true rfl⟩) hK hP (va_recv hK hP (ci := 8) (q0 := 0) rfl rfl) rfl hl.1 rfl (Nat.le_of_ble_eq_true rfl) dX9_hasStep_49 ⟨Nat.zero_le _, Nat.zero_le _⟩ ?_
                  refine lv_iconst (v := 1) hx hb dX9_hasStep_52 (by decide) ?_
                  obtain ⟨j84, ej84, hf⟩ := jn_ob hf
                  have hp84 : ∀ (z1_84 : OS) (H : Heap) (locs : List Loc) (ls : Array Slot), j84 z1_84 = some (r, y1) → va_P D vwCl (wM cI cB cZ q z1_84) H → va_D A (wM cI cB cZ q z1_84) → va_S A s.heap H locs → lv_has ls 3 [(0, .ref (q 0)), (1, .int v1_31), (2, .int v2_41)] → W p l e (headSpec wsX9_hasStep { frames := 3, cells := 0, slots := 0, locals := 70 }).room s m args below meth c H locs 0 0 (MQ below (Qw D A (some (.int r)) (wM cI cB cZ q y1)) args s 0 0 A) (F0 m 84 ls []) := by
                    intro z1_84 H locs ls hf hP hD hS hl
                    rw [ej84] at hf
                    obtain ⟨v2_12, ev2_12, hf⟩ := nm_ob hf
                    refine lv_iinc (v := v2_12) (lv' := [(2, .int v2_12), (0, .ref (q 0)), (1, .int v1_31)]) hx hb dX9_hasStep_84 hl (k := 2) rfl (by rw [ev2_12]; rfl) (by decide) rfl (fun ls hl => ?_)
                    refine lv_goto (tgt := 41) hx hb dX9_hasStep_87 (by decide) ?_
                    exact ih41 v2_12 z1_84 _ _ _ hf hP hD hS (lv_sub hl [1, 2, 0] rfl)
                  refine lv_icmp_eq (tgt := 59) hx hb dX9_hasStep_53 (by decide) (fun c_53 => ?_) (fun c_53 => ?_)
                  · have hf := ip c_53 hf
                    refine lv_aload_n hx hb dX9_hasStep_59 rfl (lv_at hl 0 rfl) ?_
                    refine lv_iload_n hx hb dX9_hasStep_60 rfl (lv_at hl 2 rfl) ?_
                    refine lv_iload_n hx hb dX9_hasStep_61 rfl (lv_at hl 1 rfl) ?_
                    obtain ⟨z_13, hc_14, hf⟩ := bd_ob hf
                    refine weV (As := [.int v2_41, .int v1_31]) (rest := []) ⟨hx, hb, hml, hown, hts⟩ (mX9_resolves l D cI cB cZ cO q _ fu z1_41 v2_41 v1_31 hc_14) (cwV 2 hts gX9_hasStep_X9_resolves rfl rfl rfl (by decide +kernel) ⟨Nat.le_of_ble_eq_true rfl, Nat.le_of_ble_eq_true rfl⟩) hK hP hD hS hA (va_recv hK hP (ci := 8) (q0 := 0) rfl rfl) rfl hl.1 rfl (Nat.le_of_ble_eq_true rfl) dX9_hasStep_62 ⟨Nat.zero_le _, Nat.zero_le _⟩ (fun H locs hP hD hS => ?_)
                    refine lv_aload_n hx hb dX9_hasStep_65 rfl (lv_at hl 0 rfl) ?_
                    obtain ⟨r_15, hc_16, hf⟩ := bd_ob hf
                    refine rdV (As := []) (rest := []) ⟨hx, hb, hml, hown, hts⟩ (mX9_isAnyWithinTried l D cI cB cZ cO q fu z_13 hc_16) (cwV 0 hts gX9_hasStep_X9_isAnyWithinTried rfl rfl rfl (by decide +kernel) ⟨Nat.le_of_ble_eq_true rfl, Nat.le_of_ble_eq_true rfl⟩) hK hP (va_recv hK hP (ci := 8) (q0 := 0) rfl rfl) rfl hl.1 rfl (Nat.le_of_ble_eq_true rfl) dX9_hasStep_66 ⟨Nat.zero_le _, Nat.zero_le _⟩ ?_
                    refine lv_if_ne (tgt := 84) hx hb dX9_hasStep_69 (by decide) (fun c_69 => ?_) (fun c_69 => ?_)
                    · have hf := ip c_69 hf
                      exact hp84 z_13 _ _ _ hf hP hD hS hl
                    · have hf := iqn c_69 hf
                      refine lv_aload_n hx hb dX9_hasStep_72 rfl (lv_at hl 0 rfl) ?_
                      refine lv_iload_n hx hb dX9_hasStep_73 rfl (lv_at hl 2 rfl) ?_
                      refine va_put (D := D) (ci := 8) (v := .int v2_41) (ty := .int) (C := RX9) (T := TX9) (N := 27) hx hb hts hiX9 tyX9 tyX9_ok nmX9 hown hK hP hD hS 0 rfl rfl 8 (by decide) k90 (fun _ h9 => h9) rfl (by decide +kernel) rfl rfl (Nat.le_of_ble_eq_true rfl) dX9_hasStep_74 (fun H locs hP hD hS => ?_)
                      obtain ⟨z_17, ez_17, hf⟩ := nm_ob hf
                      have hP : va_P D vwCl (wM cI cB cZ q z_17) H := by rw [ez_17]; exact hP
                      have hD : va_D A (wM cI cB cZ q z_17) := by rw [ez_17]; exact hD
                      refine lv_aload_n hx hb dX9_hasStep_77 rfl (lv_at hl 0 rfl) ?_
                      refine lv_iload_n hx hb dX9_hasStep_78 rfl (lv_at hl 1 rfl) ?_
                      refine va_put (D := D) (ci := 8) (v := .int v1_31) (ty := .int) (C := RX9) (T := TX9) (N := 27) hx hb hts hiX9 tyX9 tyX9_ok nmX9 hown hK hP hD hS 0 rfl rfl 9 (by decide) k93 (fun _ h9 => h9) rfl (by decide +kernel) rfl rfl (Nat.le_of_ble_eq_true rfl) dX9_hasStep_79 (fun H locs hP hD hS => ?_)
                      obtain ⟨z_18, ez_18, hf⟩ := nm_ob hf
                      have hP : va_P D vwCl (wM cI cB cZ q z_18) H := by rw [ez_18]; exact hP
                      have hD : va_D A (wM cI cB cZ q z_18) := by rw [ez_18]; exact hD
                      refine lv_iconst (v := 1) hx hb dX9_hasStep_82 (by decide) ?_
                      obtain ⟨hz, hf⟩ := gd_ob hf
                      exact rW_z hx hb hr hlocks hP hD hS hz (congrArg (fun q9 => q9.1) (so_ob hf)) (congrArg (fun (q9 : Int32 × (OS)) => wM cI cB cZ q q9.2) (so_ob hf)) dX9_hasStep_83
                  · have hf := iq c_53 hf
                    refine lv_goto (tgt := 84) hx hb dX9_hasStep_56 (by decide) ?_
                    exact hp84 z1_41 _ _ _ hf hP hD hS hl
            exact hL41 fu (0 : Int32) z1_31 _ _ _ hf hP hD hS (lv_sub hl [1, 2, 0] rfl)
      exact hL31 fu (1 : Int32) z_2 _ _ _ hf hP hD hS (lv_sub hl [1, 0] rfl)
    · have hf := iqn c_24 hf
      refine lv_iconst (v := 0) hx hb dX9_hasStep_27 (by decide) ?_
      obtain ⟨hz, hf⟩ := gd_ob hf
      exact rW_z hx hb hr hlocks hP hD hS hz (congrArg (fun q9 => q9.1) (so_ob hf)) (congrArg (fun (q9 : Int32 × (OS)) => wM cI cB cZ q q9.2) (so_ob hf)) dX9_hasStep_28

def lX9_steps_2 (fu : Nat) (p1 : Int32) (j33 : Int32 → OS → Option (Int32 × (OS))) : Nat → Int32 → OS → Option (Int32 × (OS))
  | 0, _, _ => none
  | n_2 + 1, v2_2, z1_2 => (if p1 ≤ v2_2 then j33 v2_2 z1_2 else bd (fX9_hasStep fu z1_2) (fun (w_3 : Int32 × OS) => nm w_3.1 (fun (r_1 : Int32) => nm w_3.2 (fun (z_2 : OS) => (if r_1 = (0 : Int32) then j33 v2_2 z_2 else bd (fX9_addsResolvent fu z_2 (z_2.1 8) (z_2.1 9)) (fun (w_7 : Int32 × OS) => nm w_7.1 (fun (r_5 : Int32) => nm w_7.2 (fun (z_6 : OS) => nm (v2_2 + (1 : Int32)) (fun (v2_9 : Int32) => lX9_steps_2 fu p1 j33 n_2 v2_9 z_6)))))))))
def fX9_steps (fu : Nat) (z : OS) (p1 : Int32) : Option (Int32 × (OS)) :=
  jn (κ := Int32 → OS → Option (Int32 × (OS))) (fun (v2_33 : Int32) (z1_33 : OS) => some (v2_33, z1_33)) (fun j33 => lX9_steps_2 fu p1 j33 fu (0 : Int32) z)
set_option maxRecDepth 100000 in
set_option maxHeartbeats 4000000 in
theorem mX9_steps (l : Launch) (D : va_G) (cI cB cZ cO : ClassId) (q : Nat → Nat) (sz : Nat) (fu : Nat) (z : OS) (p1 : Int32) {r : Int32} {y1 : OS} (hf : fX9_steps fu z p1 = some (r, y1)) : Met l yX9_steps wsX9_steps ({ frames := 4, cells := 0, slots := 0, locals := 94 }) (va_Pc [.ref (q 0), .int p1] (Pw D (gT cI cB cZ cO) (wM cI cB cZ q z) sz)) (Qw D (va_A (wM cI cB cZ q z) sz) (some (.int r)) (wM cI cB cZ q y1)) 0 0 (va_A (wM cI cB cZ q z) sz) := by
  unfold fX9_steps at hf
  refine metW (ret := (some .int)) (own := RX9) rfl (by decide) rfl (Nat.le_of_ble_eq_true rfl) (fun p e s m args below meth c ls A hx hb hr hml hown hlocks hts hK hA hP hD hS hl => ?_)
  have k90 := (hts (.fieldLink RX9 90 "ResolutionProverModel" "stepFirst" "I") (List.mem_of_getElem? (i := 1) rfl))
  have k93 := (hts (.fieldLink RX9 93 "ResolutionProverModel" "stepSecond" "I") (List.mem_of_getElem? (i := 2) rfl))
  have hiX9 : ∀ w ∈ wsX90, w ∈ wsX9_steps := (memIn_p [61, 62, 63, 64, 65, 66, 67, 68, 69, 70, 71, 72, 73, 74, 75, 76, 77, 78, 79, 80, 81, 82, 83, 84, 85, 86, 87] rfl)
  have hl : lv_has ls 4 [(0, .ref (q 0)), (1, .int p1)] := hl
  refine lv_iconst (v := 0) hx hb dX9_steps_0 (by decide) ?_
  refine lv_istore_n (lv' := [(2, .int (0 : Int32)), (0, .ref (q 0)), (1, .int p1)]) hx hb dX9_steps_1 rfl hl (by decide) rfl (fun ls hl => ?_)
  obtain ⟨j33, ej33, hf⟩ := jn_ob hf
  have hp33 : ∀ (v2_33 : Int32) (z1_33 : OS) (H : Heap) (locs : List Loc) (ls : Array Slot), j33 v2_33 z1_33 = some (r, y1) → va_P D vwCl (wM cI cB cZ q z1_33) H → va_D A (wM cI cB cZ q z1_33) → va_S A s.heap H locs → lv_has ls 4 [(2, .int v2_33)] → W p l e (headSpec wsX9_steps { frames := 4, cells := 0, slots := 0, locals := 94 }).room s m args below meth c H locs 0 0 (MQ below (Qw D A (some (.int r)) (wM cI cB cZ q y1)) args s 0 0 A) (F0 m 33 ls []) := by
    intro v2_33 z1_33 H locs ls hf hP hD hS hl
    rw [ej33] at hf
    refine lv_iload_n hx hb dX9_steps_33 rfl (lv_at hl 0 rfl) ?_
    exact rW_i hx hb hr hlocks hP hD hS (congrArg (fun q9 => q9.1) (so_ob hf)) (congrArg (fun (q9 : Int32 × (OS)) => wM cI cB cZ q q9.2) (so_ob hf)) dX9_steps_34
  have hL2 : ∀ (n_2 : Nat) (v2_2 : Int32) (z1_2 : OS) (H : Heap) (locs : List Loc) (ls : Array Slot), lX9_steps_2 fu p1 j33 n_2 v2_2 z1_2 = some (r, y1) → va_P D vwCl (wM cI cB cZ q z1_2) H → va_D A (wM cI cB cZ q z1_2) → va_S A s.heap H locs → lv_has ls 4 [(0, .ref (q 0)), (1, .int p1), (2, .int v2_2)] → W p l e (headSpec wsX9_steps { frames := 4, cells := 0, slots := 0, locals := 94 }).room s m args below meth c H locs 0 0 (MQ below (Qw D A (some (.int r)) (wM cI cB cZ q y1)) args s 0 0 A) (F0 m 2 ls []) := by
    intro n_2
    induction n_2 with
    | zero =>
      intro v2_2 z1_2 H locs ls hf
      exact no_ob hf
    | succ n_2 ih2 =>
      intro v2_2 z1_2 H locs ls hf hP hD hS hl
      rw [lX9_steps_2] at hf
      refine lv_iload_n hx hb dX9_steps_2 rfl (lv_at hl 2 rfl) ?_
      refine lv_iload_n hx hb dX9_steps_3 rfl (lv_at hl 1 rfl) ?_
      refine lv_icmp_ge (tgt := 33) hx hb dX9_steps_4 (by decide) (fun c_4 => ?_) (fun c_4 => ?_)
      · have hf := ip c_4 hf
        exact hp33 v2_2 z1_2 _ _ _ hf hP hD hS (lv_sub hl [2] rfl)
      · have hf := iq c_4 hf
        refine lv_aload_n hx hb dX9_steps_7 rfl (lv_at hl 0 rfl) ?_
        obtain ⟨⟨r_1, z_2⟩, hc_4, hf⟩ := bd_ob hf
        have hf := nm_st hf
        have hf := nm_st hf
        refine weV (As := []) (rest := []) ⟨hx, hb, hml, hown, hts⟩ (mX9_hasStep l D cI cB cZ cO q _ fu z1_2 hc_4) (cwV 0 hts gX9_steps_X9_hasStep rfl rfl rfl (by decide +kernel) ⟨Nat.le_of_ble_eq_true rfl, Nat.le_of_ble_eq_true rfl⟩) hK hP hD hS hA (va_recv hK hP (ci := 8) (q0 := 0) rfl rfl) rfl hl.1 rfl (Nat.le_of_ble_eq_true rfl) dX9_steps_8 ⟨Nat.zero_le _, Nat.zero_le _⟩ (fun H locs hP hD hS => ?_)
        refine lv_if_eq (tgt := 33) hx hb dX9_steps_11 (by decide) (fun c_11 => ?_) (fun c_11 => ?_)
        · have hf := ip c_11 hf
          exact hp33 v2_2 z_2 _ _ _ hf hP hD hS (lv_sub hl [2] rfl)
        · have hf := iq c_11 hf
          refine lv_aload_n hx hb dX9_steps_14 rfl (lv_at hl 0 rfl) ?_
          refine lv_aload_n hx hb dX9_steps_15 rfl (lv_at hl 0 rfl) ?_
          refine va_get (D := D) (ci := 8) (v := .int (z_2.1 8)) (C := RX9) (T := TX9) (N := 27) hx hb hts hiX9 hown hK hP 0 rfl rfl 8 (by decide) k90 (fun _ h9 => h9) rfl dX9_steps_16 ?_
          refine lv_aload_n hx hb dX9_steps_19 rfl (lv_at hl 0 rfl) ?_
          refine va_get (D := D) (ci := 8) (v := .int (z_2.1 9)) (C := RX9) (T := TX9) (N := 27) hx hb hts hiX9 hown hK hP 0 rfl rfl 9 (by decide) k93 (fun _ h9 => h9) rfl dX9_steps_20 ?_
          obtain ⟨⟨r_5, z_6⟩, hc_8, hf⟩ := bd_ob hf
          have hf := nm_st hf
          have hf := nm_st hf
          refine weV (As := [.int (z_2.1 8), .int (z_2.1 9)]) (rest := []) ⟨hx, hb, hml, hown, hts⟩ (mX9_addsResolvent l D cI cB cZ cO q _ fu z_2 (z_2.1 8) (z_2.1 9) hc_8) (cwV 2 hts gX9_steps_X9_addsResolvent rfl rfl rfl (by decide +kernel) ⟨Nat.le_of_ble_eq_true rfl, Nat.le_of_ble_eq_true rfl⟩) hK hP hD hS hA (va_recv hK hP (ci := 8) (q0 := 0) rfl rfl) rfl hl.1 rfl (Nat.le_of_ble_eq_true rfl) dX9_steps_23 ⟨Nat.zero_le _, Nat.zero_le _⟩ (fun H locs hP hD hS => ?_)
          refine lv_istore_n (lv' := [(3, .int r_5), (0, .ref (q 0)), (1, .int p1), (2, .int v2_2)]) hx hb dX9_steps_26 rfl hl (by decide) rfl (fun ls hl => ?_)
          obtain ⟨v2_9, ev2_9, hf⟩ := nm_ob hf
          refine lv_iinc (v := v2_9) (lv' := [(2, .int v2_9), (3, .int r_5), (0, .ref (q 0)), (1, .int p1)]) hx hb dX9_steps_27 hl (k := 3) rfl (by rw [ev2_9]; rfl) (by decide) rfl (fun ls hl => ?_)
          refine lv_goto (tgt := 2) hx hb dX9_steps_30 (by decide) ?_
          exact ih2 v2_9 z_6 _ _ _ hf hP hD hS (lv_sub hl [2, 3, 0] rfl)
  exact hL2 fu (0 : Int32) z _ _ _ hf hP hD hS (lv_sub hl [1, 2, 0] rfl)

def lX9_isParent_2 (fu : Nat) (z : OS) (p1 : Int32) (j60 : Option (Int32)) : Nat → Int32 → Option (Int32)
  | 0, _ => none
  | n_2 + 1, v2_2 => bd (fX9_many fu z) (fun (r_1 : Int32) => (if r_1 ≤ v2_2 then j60 else gd (inB ((856 : Int32) + v2_2) 917) (jn (κ := Option (Int32)) (nm (v2_2 + (1 : Int32)) (fun (v2_3 : Int32) => lX9_isParent_2 fu z p1 j60 n_2 v2_3)) (fun j54 => (if (z.2 1 (((856 : Int32) + v2_2)).toNatClampNeg) = (-1 : Int32) then j54 else gd (inB ((734 : Int32) + v2_2) 917) ((if (z.2 1 (((734 : Int32) + v2_2)).toNatClampNeg) = p1 then gd (isZ (1 : Int32)) (some (1 : Int32)) else gd (inB ((795 : Int32) + v2_2) 917) ((if ¬ (z.2 1 (((795 : Int32) + v2_2)).toNatClampNeg) = p1 then j54 else gd (isZ (1 : Int32)) (some (1 : Int32)))))))))))
def fX9_isParent (fu : Nat) (z : OS) (p1 : Int32) : Option (Int32) :=
  jn (κ := Option (Int32)) (gd (isZ (0 : Int32)) (some (0 : Int32))) (fun j60 => lX9_isParent_2 fu z p1 j60 fu (0 : Int32))
set_option maxRecDepth 100000 in
set_option maxHeartbeats 4000000 in
theorem mX9_isParent (l : Launch) (D : va_G) (cI cB cZ cO : ClassId) (q : Nat → Nat) (fu : Nat) (z : OS) (p1 : Int32) {r : Int32} (hf : fX9_isParent fu z p1 = some r) : Met l yX9_isParent wsX9_isParent ({ frames := 1, cells := 0, slots := 0, locals := 20 }) (va_Pc [.ref (q 0), .int p1] (Pr D (gT cI cB cZ cO) (wM cI cB cZ q z))) (Qr (some (.int r))) 0 0 (fun _ => False) := by
  unfold fX9_isParent at hf
  refine metR (ret := (some .boolean)) (own := RX9) rfl (by decide) rfl (Nat.le_of_ble_eq_true rfl) (fun p e s m args below meth c ls hx hb hr hml hown hlocks hts hP hK hl => ?_)
  have k9 := (hts (.fieldLink RX9 9 "ResolutionProverModel" "now" "[I") (List.mem_of_getElem? (i := 1) rfl))
  have hiX9 : ∀ w ∈ wsX90, w ∈ wsX9_isParent := (memIn_p [7, 8, 9, 10, 11, 12, 13, 14, 15, 16, 17, 18, 19, 20, 21, 22, 23, 24, 25, 26, 27, 28, 29, 30, 31, 32, 33] rfl)
  have hl : lv_has ls 3 [(0, .ref (q 0)), (1, .int p1)] := hl
  refine lv_iconst (v := 0) hx hb dX9_isParent_0 (by decide) ?_
  refine lv_istore_n (lv' := [(2, .int (0 : Int32)), (0, .ref (q 0)), (1, .int p1)]) hx hb dX9_isParent_1 rfl hl (by decide) rfl (fun ls hl => ?_)
  obtain ⟨j60, ej60, hf⟩ := jn_ob hf
  have hp60 : ∀  (ls : Array Slot), j60 = some r → lv_has ls 3 [] → W p l e (headSpec wsX9_isParent { frames := 1, cells := 0, slots := 0, locals := 20 }).room s m args below meth c s.heap [] 0 0 (MQ below (Qr (some (.int r))) args s 0 0 (fun _ => False)) (F0 m 60 ls []) := by
    intro ls hf hl
    rw [ej60] at hf
    refine lv_iconst (v := 0) hx hb dX9_isParent_60 (by decide) ?_
    obtain ⟨hz, hf⟩ := gd_ob hf
    exact rR_z hx hb hr hlocks hz (so_ob hf) dX9_isParent_61
  have hL2 : ∀ (n_2 : Nat) (v2_2 : Int32) (ls : Array Slot), lX9_isParent_2 fu z p1 j60 n_2 v2_2 = some r → lv_has ls 3 [(0, .ref (q 0)), (1, .int p1), (2, .int v2_2)] → W p l e (headSpec wsX9_isParent { frames := 1, cells := 0, slots := 0, locals := 20 }).room s m args below meth c s.heap [] 0 0 (MQ below (Qr (some (.int r))) args s 0 0 (fun _ => False)) (F0 m 2 ls []) := by
    intro n_2
    induction n_2 with
    | zero =>
      intro v2_2 ls hf
      exact no_ob hf
    | succ n_2 ih2 =>
      intro v2_2 ls hf hl
      rw [lX9_isParent_2] at hf
      refine lv_iload_n hx hb dX9_isParent_2 rfl (lv_at hl 2 rfl) ?_
      refine lv_aload_n hx hb dX9_isParent_3 rfl (lv_at hl 0 rfl) ?_
      obtain ⟨r_1, hc_2, hf⟩ := bd_ob hf
      refine rdV (As := []) (rest := [.int v2_2]) ⟨hx, hb, hml, hown, hts⟩ (mX9_many l D cI cB cZ cO q fu z hc_2) (cwV 0 hts gX9_isParent_X9_many rfl rfl rfl (by decide +kernel) ⟨Nat.le_of_ble_eq_true rfl, Nat.le_of_ble_eq_true rfl⟩) hK hP (va_recv hK hP (ci := 8) (q0 := 0) rfl rfl) rfl hl.1 rfl (Nat.le_of_ble_eq_true rfl) dX9_isParent_4 ⟨Nat.zero_le _, Nat.zero_le _⟩ ?_
      refine lv_icmp_ge (tgt := 60) hx hb dX9_isParent_7 (by decide) (fun c_7 => ?_) (fun c_7 => ?_)
      · have hf := ip c_7 hf
        exact hp60 _ hf (lv_sub hl [] rfl)
      · have hf := iq c_7 hf
        refine lv_aload_n hx hb dX9_isParent_10 rfl (lv_at hl 0 rfl) ?_
        refine va_get (D := D) (ci := 8) (v := .ref (q 1)) (C := RX9) (T := TX9) (N := 27) hx hb hts hiX9 hown hK hP 0 rfl rfl 1 (by decide) k9 (fun _ h9 => h9) rfl dX9_isParent_11 ?_
        refine lv_sipush (v := 856) hx hb dX9_isParent_14 (by decide) ?_
        refine lv_iload_n hx hb dX9_isParent_17 rfl (lv_at hl 2 rfl) ?_
        refine lv_iadd hx hb dX9_isParent_18 ?_
        obtain ⟨hi_, hf⟩ := gd_ob hf
        refine va_iald hx hb hK hP 1 0 rfl rfl (inB_in hi_) dX9_isParent_19 ?_
        refine lv_iconst (v := (-1)) hx hb dX9_isParent_20 (by decide) ?_
        obtain ⟨j54, ej54, hf⟩ := jn_ob hf
        have hp54 : ∀  (ls : Array Slot), j54 = some r → lv_has ls 3 [(0, .ref (q 0)), (1, .int p1), (2, .int v2_2)] → W p l e (headSpec wsX9_isParent { frames := 1, cells := 0, slots := 0, locals := 20 }).room s m args below meth c s.heap [] 0 0 (MQ below (Qr (some (.int r))) args s 0 0 (fun _ => False)) (F0 m 54 ls []) := by
          intro ls hf hl
          rw [ej54] at hf
          obtain ⟨v2_3, ev2_3, hf⟩ := nm_ob hf
          refine lv_iinc (v := v2_3) (lv' := [(2, .int v2_3), (0, .ref (q 0)), (1, .int p1)]) hx hb dX9_isParent_54 hl (k := 2) rfl (by rw [ev2_3]; rfl) (by decide) rfl (fun ls hl => ?_)
          refine lv_goto (tgt := 2) hx hb dX9_isParent_57 (by decide) ?_
          exact ih2 v2_3 _ hf (lv_sub hl [1, 2, 0] rfl)
        refine lv_icmp_eq (tgt := 54) hx hb dX9_isParent_21 (by decide) (fun c_21 => ?_) (fun c_21 => ?_)
        · have hf := ip c_21 hf
          exact hp54 _ hf hl
        · have hf := iq c_21 hf
          refine lv_aload_n hx hb dX9_isParent_24 rfl (lv_at hl 0 rfl) ?_
          refine va_get (D := D) (ci := 8) (v := .ref (q 1)) (C := RX9) (T := TX9) (N := 27) hx hb hts hiX9 hown hK hP 0 rfl rfl 1 (by decide) k9 (fun _ h9 => h9) rfl dX9_isParent_25 ?_
          refine lv_sipush (v := 734) hx hb dX9_isParent_28 (by decide) ?_
          refine lv_iload_n hx hb dX9_isParent_31 rfl (lv_at hl 2 rfl) ?_
          refine lv_iadd hx hb dX9_isParent_32 ?_
          obtain ⟨hi_, hf⟩ := gd_ob hf
          refine va_iald hx hb hK hP 1 0 rfl rfl (inB_in hi_) dX9_isParent_33 ?_
          refine lv_iload_n hx hb dX9_isParent_34 rfl (lv_at hl 1 rfl) ?_
          refine lv_icmp_eq (tgt := 52) hx hb dX9_isParent_35 (by decide) (fun c_35 => ?_) (fun c_35 => ?_)
          · have hf := ip c_35 hf
            refine lv_iconst (v := 1) hx hb dX9_isParent_52 (by decide) ?_
            obtain ⟨hz, hf⟩ := gd_ob hf
            exact rR_z hx hb hr hlocks hz (so_ob hf) dX9_isParent_53
          · have hf := iq c_35 hf
            refine lv_aload_n hx hb dX9_isParent_38 rfl (lv_at hl 0 rfl) ?_
            refine va_get (D := D) (ci := 8) (v := .ref (q 1)) (C := RX9) (T := TX9) (N := 27) hx hb hts hiX9 hown hK hP 0 rfl rfl 1 (by decide) k9 (fun _ h9 => h9) rfl dX9_isParent_39 ?_
            refine lv_sipush (v := 795) hx hb dX9_isParent_42 (by decide) ?_
            refine lv_iload_n hx hb dX9_isParent_45 rfl (lv_at hl 2 rfl) ?_
            refine lv_iadd hx hb dX9_isParent_46 ?_
            obtain ⟨hi_, hf⟩ := gd_ob hf
            refine va_iald hx hb hK hP 1 0 rfl rfl (inB_in hi_) dX9_isParent_47 ?_
            refine lv_iload_n hx hb dX9_isParent_48 rfl (lv_at hl 1 rfl) ?_
            refine lv_icmp_ne (tgt := 54) hx hb dX9_isParent_49 (by decide) (fun c_49 => ?_) (fun c_49 => ?_)
            · have hf := ip c_49 hf
              exact hp54 _ hf hl
            · have hf := iqn c_49 hf
              refine lv_iconst (v := 1) hx hb dX9_isParent_52 (by decide) ?_
              obtain ⟨hz, hf⟩ := gd_ob hf
              exact rR_z hx hb hr hlocks hz (so_ob hf) dX9_isParent_53
  exact hL2 fu (0 : Int32) _ hf (lv_sub hl [1, 2, 0] rfl)

def lX9_drops_124 (fu : Nat) (p1 : Int32) (j202 : OS → Option ((OS))) : Nat → Int32 → OS → Option ((OS))
  | 0, _, _ => none
  | n_124 + 1, v2_124, z1_124 => bd (fX9_many fu z1_124) (fun (r_2 : Int32) => (if r_2 ≤ v2_124 then j202 z1_124 else gd (inB ((734 : Int32) + v2_124) 917) (gd (inB ((734 : Int32) + v2_124) 917) (jn (κ := Int32 → Int32 → Int32 → Int32 → OS → Option ((OS))) (fun (v2_162 : Int32) (t1_162 : Int32) (t2_162 : Int32) (t3_162 : Int32) (z1_162 : OS) => gd (inB t1_162 917) (nm (sA z1_162 1 (upd (z1_162.2 1) (t1_162).toNatClampNeg (t2_162 - t3_162))) (fun (z_4 : OS) => gd (inB ((795 : Int32) + v2_162) 917) (gd (inB ((795 : Int32) + v2_162) 917) (jn (κ := Int32 → Int32 → Int32 → Int32 → OS → Option ((OS))) (fun (v2_194 : Int32) (t1_194 : Int32) (t2_194 : Int32) (t3_194 : Int32) (z1_194 : OS) => gd (inB t1_194 917) (nm (sA z1_194 1 (upd (z1_194.2 1) (t1_194).toNatClampNeg (t2_194 - t3_194))) (fun (z_5 : OS) => nm (v2_194 + (1 : Int32)) (fun (v2_6 : Int32) => lX9_drops_124 fu p1 j202 n_124 v2_6 z_5)))) (fun j194 => (if (z_4.2 1 (((795 : Int32) + v2_162)).toNatClampNeg) ≤ p1 then j194 v2_162 ((795 : Int32) + v2_162) (z_4.2 1 (((795 : Int32) + v2_162)).toNatClampNeg) (0 : Int32) z_4 else j194 v2_162 ((795 : Int32) + v2_162) (z_4.2 1 (((795 : Int32) + v2_162)).toNatClampNeg) (1 : Int32) z_4))))))) (fun j162 => (if (z1_124.2 1 (((734 : Int32) + v2_124)).toNatClampNeg) ≤ p1 then j162 v2_124 ((734 : Int32) + v2_124) (z1_124.2 1 (((734 : Int32) + v2_124)).toNatClampNeg) (0 : Int32) z1_124 else j162 v2_124 ((734 : Int32) + v2_124) (z1_124.2 1 (((734 : Int32) + v2_124)).toNatClampNeg) (1 : Int32) z1_124))))))
def lX9_drops_14 (fu : Nat) (v2_2 : Int32) (j40 : OS → Option ((OS))) : Nat → Int32 → OS → Option ((OS))
  | 0, _, _ => none
  | n_14 + 1, v3_14, z1_14 => (if (12 : Int32) ≤ v3_14 then j40 z1_14 else bd (fX9_sign fu z1_14 (v2_2 + (1 : Int32)) v3_14) (fun (r_13 : Int32) => bd (fX9_puts fu z1_14 v2_2 v3_14 r_13) (fun (z_15 : OS) => nm (v3_14 + (1 : Int32)) (fun (v3_17 : Int32) => lX9_drops_14 fu v2_2 j40 n_14 v3_17 z_15))))
def lX9_drops_2 (fu : Nat) (j112 : OS → Option ((OS))) : Nat → Int32 → OS → Option ((OS))
  | 0, _, _ => none
  | n_2 + 1, v2_2, z1_2 => bd (fX9_many fu z1_2) (fun (r_7 : Int32) => (if r_7 ≤ (v2_2 + (1 : Int32)) then j112 z1_2 else jn (κ := OS → Option ((OS))) (fun (z1_40 : OS) => gd (inB (((734 : Int32) + v2_2) + (1 : Int32)) 917) (gd (inB ((734 : Int32) + v2_2) 917) (nm (sA z1_40 1 (upd (z1_40.2 1) (((734 : Int32) + v2_2)).toNatClampNeg (z1_40.2 1 ((((734 : Int32) + v2_2) + (1 : Int32))).toNatClampNeg))) (fun (z_9 : OS) => gd (inB (((795 : Int32) + v2_2) + (1 : Int32)) 917) (gd (inB ((795 : Int32) + v2_2) 917) (nm (sA z_9 1 (upd (z_9.2 1) (((795 : Int32) + v2_2)).toNatClampNeg (z_9.2 1 ((((795 : Int32) + v2_2) + (1 : Int32))).toNatClampNeg))) (fun (z_10 : OS) => gd (inB (((856 : Int32) + v2_2) + (1 : Int32)) 917) (gd (inB ((856 : Int32) + v2_2) 917) (nm (sA z_10 1 (upd (z_10.2 1) (((856 : Int32) + v2_2)).toNatClampNeg (z_10.2 1 ((((856 : Int32) + v2_2) + (1 : Int32))).toNatClampNeg))) (fun (z_11 : OS) => nm (v2_2 + (1 : Int32)) (fun (v2_12 : Int32) => lX9_drops_2 fu j112 n_2 v2_12 z_11))))))))))) (fun j40 => lX9_drops_14 fu v2_2 j40 fu (0 : Int32) z1_2)))
def fX9_drops (fu : Nat) (z : OS) (p1 : Int32) : Option ((OS)) :=
  jn (κ := OS → Option ((OS))) (fun (z1_112 : OS) => gd (inB (1 : Int32) 917) (gd (inB (1 : Int32) 917) (nm (sA z1_112 1 (upd (z1_112.2 1) ((1 : Int32)).toNatClampNeg ((z1_112.2 1 ((1 : Int32)).toNatClampNeg) - (1 : Int32)))) (fun (z_1 : OS) => jn (κ := OS → Option ((OS))) (fun (z1_202 : OS) => some z1_202) (fun j202 => lX9_drops_124 fu p1 j202 fu (0 : Int32) z_1))))) (fun j112 => lX9_drops_2 fu j112 fu p1 z)
set_option maxRecDepth 100000 in
set_option maxHeartbeats 4000000 in
theorem mX9_drops (l : Launch) (D : va_G) (cI cB cZ cO : ClassId) (q : Nat → Nat) (sz : Nat) (fu : Nat) (z : OS) (p1 : Int32) {y1 : OS} (hf : fX9_drops fu z p1 = some y1) : Met l yX9_drops wsX9_drops ({ frames := 1, cells := 0, slots := 0, locals := 23 }) (va_Pc [.ref (q 0), .int p1] (Pw D (gT cI cB cZ cO) (wM cI cB cZ q z) sz)) (Qw D (va_A (wM cI cB cZ q z) sz) none (wM cI cB cZ q y1)) 0 0 (va_A (wM cI cB cZ q z) sz) := by
  unfold fX9_drops at hf
  refine metW (ret := none) (own := RX9) rfl (by decide) rfl (Nat.le_of_ble_eq_true rfl) (fun p e s m args below meth c ls A hx hb hr hml hown hlocks hts hK hA hP hD hS hl => ?_)
  have k9 := (hts (.fieldLink RX9 9 "ResolutionProverModel" "now" "[I") (List.mem_of_getElem? (i := 1) rfl))
  have hiX9 : ∀ w ∈ wsX90, w ∈ wsX9_drops := (memIn_p [15, 16, 17, 18, 19, 20, 21, 22, 23, 24, 25, 26, 27, 28, 29, 30, 31, 32, 33, 34, 35, 36, 37, 38, 39, 40, 41] rfl)
  have hl : lv_has ls 4 [(0, .ref (q 0)), (1, .int p1)] := hl
  refine lv_iload_n hx hb dX9_drops_0 rfl (lv_at hl 1 rfl) ?_
  refine lv_istore_n (lv' := [(2, .int p1), (0, .ref (q 0)), (1, .int p1)]) hx hb dX9_drops_1 rfl hl (by decide) rfl (fun ls hl => ?_)
  obtain ⟨j112, ej112, hf⟩ := jn_ob hf
  have hp112 : ∀ (z1_112 : OS) (H : Heap) (locs : List Loc) (ls : Array Slot), j112 z1_112 = some y1 → va_P D vwCl (wM cI cB cZ q z1_112) H → va_D A (wM cI cB cZ q z1_112) → va_S A s.heap H locs → lv_has ls 4 [(0, .ref (q 0)), (1, .int p1)] → W p l e (headSpec wsX9_drops { frames := 1, cells := 0, slots := 0, locals := 23 }).room s m args below meth c H locs 0 0 (MQ below (Qw D A none (wM cI cB cZ q y1)) args s 0 0 A) (F0 m 112 ls []) := by
    intro z1_112 H locs ls hf hP hD hS hl
    rw [ej112] at hf
    refine lv_aload_n hx hb dX9_drops_112 rfl (lv_at hl 0 rfl) ?_
    refine va_get (D := D) (ci := 8) (v := .ref (q 1)) (C := RX9) (T := TX9) (N := 27) hx hb hts hiX9 hown hK hP 0 rfl rfl 1 (by decide) k9 (fun _ h9 => h9) rfl dX9_drops_113 ?_
    refine lv_iconst (v := 1) hx hb dX9_drops_116 (by decide) ?_
    refine lv_dup2_11 hx hb dX9_drops_117 rfl rfl ?_
    obtain ⟨hi_, hf⟩ := gd_ob hf
    refine va_iald hx hb hK hP 1 0 rfl rfl (inB_in hi_) dX9_drops_118 ?_
    refine lv_iconst (v := 1) hx hb dX9_drops_119 (by decide) ?_
    refine lv_isub hx hb dX9_drops_120 ?_
    obtain ⟨hi_, hf⟩ := gd_ob hf
    refine va_iast hx hb hK hP hD hS 1 0 rfl rfl (inB_in hi_) dX9_drops_121 (fun H locs hP hD hS => ?_)
    obtain ⟨z_1, ez_1, hf⟩ := nm_ob hf
    have hP : va_P D vwCl (wM cI cB cZ q z_1) H := by rw [ez_1]; exact hP
    have hD : va_D A (wM cI cB cZ q z_1) := by rw [ez_1]; exact hD
    refine lv_iconst (v := 0) hx hb dX9_drops_122 (by decide) ?_
    refine lv_istore_n (lv' := [(2, .int (0 : Int32)), (0, .ref (q 0)), (1, .int p1)]) hx hb dX9_drops_123 rfl hl (by decide) rfl (fun ls hl => ?_)
    obtain ⟨j202, ej202, hf⟩ := jn_ob hf
    have hp202 : ∀ (z1_202 : OS) (H : Heap) (locs : List Loc) (ls : Array Slot), j202 z1_202 = some y1 → va_P D vwCl (wM cI cB cZ q z1_202) H → va_D A (wM cI cB cZ q z1_202) → va_S A s.heap H locs → lv_has ls 4 [] → W p l e (headSpec wsX9_drops { frames := 1, cells := 0, slots := 0, locals := 23 }).room s m args below meth c H locs 0 0 (MQ below (Qw D A none (wM cI cB cZ q y1)) args s 0 0 A) (F0 m 202 ls []) := by
      intro z1_202 H locs ls hf hP hD hS hl
      rw [ej202] at hf
      exact rW_v hx hb hr hlocks hP hD hS (congrArg (fun (q9 : (OS)) => wM cI cB cZ q q9) (so_ob hf)) dX9_drops_202
    have hL124 : ∀ (n_124 : Nat) (v2_124 : Int32) (z1_124 : OS) (H : Heap) (locs : List Loc) (ls : Array Slot), lX9_drops_124 fu p1 j202 n_124 v2_124 z1_124 = some y1 → va_P D vwCl (wM cI cB cZ q z1_124) H → va_D A (wM cI cB cZ q z1_124) → va_S A s.heap H locs → lv_has ls 4 [(0, .ref (q 0)), (1, .int p1), (2, .int v2_124)] → W p l e (headSpec wsX9_drops { frames := 1, cells := 0, slots := 0, locals := 23 }).room s m args below meth c H locs 0 0 (MQ below (Qw D A none (wM cI cB cZ q y1)) args s 0 0 A) (F0 m 124 ls []) := by
      intro n_124
      induction n_124 with
      | zero =>
        intro v2_124 z1_124 H locs ls hf
        exact no_ob hf
      | succ n_124 ih124 =>
        intro v2_124 z1_124 H locs ls hf hP hD hS hl
        rw [lX9_drops_124] at hf
        refine lv_iload_n hx hb dX9_drops_124 rfl (lv_at hl 2 rfl) ?_
        refine lv_aload_n hx hb dX9_drops_125 rfl (lv_at hl 0 rfl) ?_
        obtain ⟨r_2, hc_3, hf⟩ := bd_ob hf
        refine rdV (As := []) (rest := [.int v2_124]) ⟨hx, hb, hml, hown, hts⟩ (mX9_many l D cI cB cZ cO q fu z1_124 hc_3) (cwV 0 hts gX9_drops_X9_many rfl rfl rfl (by decide +kernel) ⟨Nat.le_of_ble_eq_true rfl, Nat.le_of_ble_eq_true rfl⟩) hK hP (va_recv hK hP (ci := 8) (q0 := 0) rfl rfl) rfl hl.1 rfl (Nat.le_of_ble_eq_true rfl) dX9_drops_126 ⟨Nat.zero_le _, Nat.zero_le _⟩ ?_
        refine lv_icmp_ge (tgt := 202) hx hb dX9_drops_129 (by decide) (fun c_129 => ?_) (fun c_129 => ?_)
        · have hf := ip c_129 hf
          exact hp202 z1_124 _ _ _ hf hP hD hS (lv_sub hl [] rfl)
        · have hf := iq c_129 hf
          refine lv_aload_n hx hb dX9_drops_132 rfl (lv_at hl 0 rfl) ?_
          refine va_get (D := D) (ci := 8) (v := .ref (q 1)) (C := RX9) (T := TX9) (N := 27) hx hb hts hiX9 hown hK hP 0 rfl rfl 1 (by decide) k9 (fun _ h9 => h9) rfl dX9_drops_133 ?_
          refine lv_sipush (v := 734) hx hb dX9_drops_136 (by decide) ?_
          refine lv_iload_n hx hb dX9_drops_139 rfl (lv_at hl 2 rfl) ?_
          refine lv_iadd hx hb dX9_drops_140 ?_
          refine lv_dup2_11 hx hb dX9_drops_141 rfl rfl ?_
          obtain ⟨hi_, hf⟩ := gd_ob hf
          refine va_iald hx hb hK hP 1 0 rfl rfl (inB_in hi_) dX9_drops_142 ?_
          refine lv_aload_n hx hb dX9_drops_143 rfl (lv_at hl 0 rfl) ?_
          refine va_get (D := D) (ci := 8) (v := .ref (q 1)) (C := RX9) (T := TX9) (N := 27) hx hb hts hiX9 hown hK hP 0 rfl rfl 1 (by decide) k9 (fun _ h9 => h9) rfl dX9_drops_144 ?_
          refine lv_sipush (v := 734) hx hb dX9_drops_147 (by decide) ?_
          refine lv_iload_n hx hb dX9_drops_150 rfl (lv_at hl 2 rfl) ?_
          refine lv_iadd hx hb dX9_drops_151 ?_
          obtain ⟨hi_, hf⟩ := gd_ob hf
          refine va_iald hx hb hK hP 1 0 rfl rfl (inB_in hi_) dX9_drops_152 ?_
          refine lv_iload_n hx hb dX9_drops_153 rfl (lv_at hl 1 rfl) ?_
          obtain ⟨j162, ej162, hf⟩ := jn_ob hf
          have hp162 : ∀ (v2_162 : Int32) (t1_162 : Int32) (t2_162 : Int32) (t3_162 : Int32) (z1_162 : OS) (H : Heap) (locs : List Loc) (ls : Array Slot), j162 v2_162 t1_162 t2_162 t3_162 z1_162 = some y1 → va_P D vwCl (wM cI cB cZ q z1_162) H → va_D A (wM cI cB cZ q z1_162) → va_S A s.heap H locs → lv_has ls 4 [(0, .ref (q 0)), (1, .int p1), (2, .int v2_162)] → W p l e (headSpec wsX9_drops { frames := 1, cells := 0, slots := 0, locals := 23 }).room s m args below meth c H locs 0 0 (MQ below (Qw D A none (wM cI cB cZ q y1)) args s 0 0 A) (F0 m 162 ls [.int t3_162, .int t2_162, .int t1_162, .ref (q 1)]) := by
            intro v2_162 t1_162 t2_162 t3_162 z1_162 H locs ls hf hP hD hS hl
            rw [ej162] at hf
            refine lv_isub hx hb dX9_drops_162 ?_
            obtain ⟨hi_, hf⟩ := gd_ob hf
            refine va_iast hx hb hK hP hD hS 1 0 rfl rfl (inB_in hi_) dX9_drops_163 (fun H locs hP hD hS => ?_)
            obtain ⟨z_4, ez_4, hf⟩ := nm_ob hf
            have hP : va_P D vwCl (wM cI cB cZ q z_4) H := by rw [ez_4]; exact hP
            have hD : va_D A (wM cI cB cZ q z_4) := by rw [ez_4]; exact hD
            refine lv_aload_n hx hb dX9_drops_164 rfl (lv_at hl 0 rfl) ?_
            refine va_get (D := D) (ci := 8) (v := .ref (q 1)) (C := RX9) (T := TX9) (N := 27) hx hb hts hiX9 hown hK hP 0 rfl rfl 1 (by decide) k9 (fun _ h9 => h9) rfl dX9_drops_165 ?_
            refine lv_sipush (v := 795) hx hb dX9_drops_168 (by decide) ?_
            refine lv_iload_n hx hb dX9_drops_171 rfl (lv_at hl 2 rfl) ?_
            refine lv_iadd hx hb dX9_drops_172 ?_
            refine lv_dup2_11 hx hb dX9_drops_173 rfl rfl ?_
            obtain ⟨hi_, hf⟩ := gd_ob hf
            refine va_iald hx hb hK hP 1 0 rfl rfl (inB_in hi_) dX9_drops_174 ?_
            refine lv_aload_n hx hb dX9_drops_175 rfl (lv_at hl 0 rfl) ?_
            refine va_get (D := D) (ci := 8) (v := .ref (q 1)) (C := RX9) (T := TX9) (N := 27) hx hb hts hiX9 hown hK hP 0 rfl rfl 1 (by decide) k9 (fun _ h9 => h9) rfl dX9_drops_176 ?_
            refine lv_sipush (v := 795) hx hb dX9_drops_179 (by decide) ?_
            refine lv_iload_n hx hb dX9_drops_182 rfl (lv_at hl 2 rfl) ?_
            refine lv_iadd hx hb dX9_drops_183 ?_
            obtain ⟨hi_, hf⟩ := gd_ob hf
            refine va_iald hx hb hK hP 1 0 rfl rfl (inB_in hi_) dX9_drops_184 ?_
            refine lv_iload_n hx hb dX9_drops_185 rfl (lv_at hl 1 rfl) ?_
            obtain ⟨j194, ej194, hf⟩ := jn_ob hf
            have hp194 : ∀ (v2_194 : Int32) (t1_194 : Int32) (t2_194 : Int32) (t3_194 : Int32) (z1_194 : OS) (H : Heap) (locs : List Loc) (ls : Array Slot), j194 v2_194 t1_194 t2_194 t3_194 z1_194 = some y1 → va_P D vwCl (wM cI cB cZ q z1_194) H → va_D A (wM cI cB cZ q z1_194) → va_S A s.heap H locs → lv_has ls 4 [(0, .ref (q 0)), (1, .int p1), (2, .int v2_194)] → W p l e (headSpec wsX9_drops { frames := 1, cells := 0, slots := 0, locals := 23 }).room s m args below meth c H locs 0 0 (MQ below (Qw D A none (wM cI cB cZ q y1)) args s 0 0 A) (F0 m 194 ls [.int t3_194, .int t2_194, .int t1_194, .ref (q 1)]) := by
              intro v2_194 t1_194 t2_194 t3_194 z1_194 H locs ls hf hP hD hS hl
              rw [ej194] at hf
              refine lv_isub hx hb dX9_drops_194 ?_
              obtain ⟨hi_, hf⟩ := gd_ob hf
              refine va_iast hx hb hK hP hD hS 1 0 rfl rfl (inB_in hi_) dX9_drops_195 (fun H locs hP hD hS => ?_)
              obtain ⟨z_5, ez_5, hf⟩ := nm_ob hf
              have hP : va_P D vwCl (wM cI cB cZ q z_5) H := by rw [ez_5]; exact hP
              have hD : va_D A (wM cI cB cZ q z_5) := by rw [ez_5]; exact hD
              obtain ⟨v2_6, ev2_6, hf⟩ := nm_ob hf
              refine lv_iinc (v := v2_6) (lv' := [(2, .int v2_6), (0, .ref (q 0)), (1, .int p1)]) hx hb dX9_drops_196 hl (k := 2) rfl (by rw [ev2_6]; rfl) (by decide) rfl (fun ls hl => ?_)
              refine lv_goto (tgt := 124) hx hb dX9_drops_199 (by decide) ?_
              exact ih124 v2_6 z_5 _ _ _ hf hP hD hS (lv_sub hl [1, 2, 0] rfl)
            refine lv_icmp_le (tgt := 193) hx hb dX9_drops_186 (by decide) (fun c_186 => ?_) (fun c_186 => ?_)
            · have hf := ip c_186 hf
              refine lv_iconst (v := 0) hx hb dX9_drops_193 (by decide) ?_
              exact hp194 v2_162 ((795 : Int32) + v2_162) (z_4.2 1 (((795 : Int32) + v2_162)).toNatClampNeg) (0 : Int32) z_4 _ _ _ hf hP hD hS hl
            · have hf := iq c_186 hf
              refine lv_iconst (v := 1) hx hb dX9_drops_189 (by decide) ?_
              refine lv_goto (tgt := 194) hx hb dX9_drops_190 (by decide) ?_
              exact hp194 v2_162 ((795 : Int32) + v2_162) (z_4.2 1 (((795 : Int32) + v2_162)).toNatClampNeg) (1 : Int32) z_4 _ _ _ hf hP hD hS hl
          refine lv_icmp_le (tgt := 161) hx hb dX9_drops_154 (by decide) (fun c_154 => ?_) (fun c_154 => ?_)
          · have hf := ip c_154 hf
            refine lv_iconst (v := 0) hx hb dX9_drops_161 (by decide) ?_
            exact hp162 v2_124 ((734 : Int32) + v2_124) (z1_124.2 1 (((734 : Int32) + v2_124)).toNatClampNeg) (0 : Int32) z1_124 _ _ _ hf hP hD hS hl
          · have hf := iq c_154 hf
            refine lv_iconst (v := 1) hx hb dX9_drops_157 (by decide) ?_
            refine lv_goto (tgt := 162) hx hb dX9_drops_158 (by decide) ?_
            exact hp162 v2_124 ((734 : Int32) + v2_124) (z1_124.2 1 (((734 : Int32) + v2_124)).toNatClampNeg) (1 : Int32) z1_124 _ _ _ hf hP hD hS hl
    exact hL124 fu (0 : Int32) z_1 _ _ _ hf hP hD hS (lv_sub hl [1, 2, 0] rfl)
  have hL2 : ∀ (n_2 : Nat) (v2_2 : Int32) (z1_2 : OS) (H : Heap) (locs : List Loc) (ls : Array Slot), lX9_drops_2 fu j112 n_2 v2_2 z1_2 = some y1 → va_P D vwCl (wM cI cB cZ q z1_2) H → va_D A (wM cI cB cZ q z1_2) → va_S A s.heap H locs → lv_has ls 4 [(0, .ref (q 0)), (1, .int p1), (2, .int v2_2)] → W p l e (headSpec wsX9_drops { frames := 1, cells := 0, slots := 0, locals := 23 }).room s m args below meth c H locs 0 0 (MQ below (Qw D A none (wM cI cB cZ q y1)) args s 0 0 A) (F0 m 2 ls []) := by
    intro n_2
    induction n_2 with
    | zero =>
      intro v2_2 z1_2 H locs ls hf
      exact no_ob hf
    | succ n_2 ih2 =>
      intro v2_2 z1_2 H locs ls hf hP hD hS hl
      rw [lX9_drops_2] at hf
      refine lv_iload_n hx hb dX9_drops_2 rfl (lv_at hl 2 rfl) ?_
      refine lv_iconst (v := 1) hx hb dX9_drops_3 (by decide) ?_
      refine lv_iadd hx hb dX9_drops_4 ?_
      refine lv_aload_n hx hb dX9_drops_5 rfl (lv_at hl 0 rfl) ?_
      obtain ⟨r_7, hc_8, hf⟩ := bd_ob hf
      refine rdV (As := []) (rest := [.int (v2_2 + (1 : Int32))]) ⟨hx, hb, hml, hown, hts⟩ (mX9_many l D cI cB cZ cO q fu z1_2 hc_8) (cwV 0 hts gX9_drops_X9_many rfl rfl rfl (by decide +kernel) ⟨Nat.le_of_ble_eq_true rfl, Nat.le_of_ble_eq_true rfl⟩) hK hP (va_recv hK hP (ci := 8) (q0 := 0) rfl rfl) rfl hl.1 rfl (Nat.le_of_ble_eq_true rfl) dX9_drops_6 ⟨Nat.zero_le _, Nat.zero_le _⟩ ?_
      refine lv_icmp_ge (tgt := 112) hx hb dX9_drops_9 (by decide) (fun c_9 => ?_) (fun c_9 => ?_)
      · have hf := ip c_9 hf
        exact hp112 z1_2 _ _ _ hf hP hD hS (lv_sub hl [0, 1] rfl)
      · have hf := iq c_9 hf
        refine lv_iconst (v := 0) hx hb dX9_drops_12 (by decide) ?_
        refine lv_istore_n (lv' := [(3, .int (0 : Int32)), (0, .ref (q 0)), (1, .int p1), (2, .int v2_2)]) hx hb dX9_drops_13 rfl hl (by decide) rfl (fun ls hl => ?_)
        obtain ⟨j40, ej40, hf⟩ := jn_ob hf
        have hp40 : ∀ (z1_40 : OS) (H : Heap) (locs : List Loc) (ls : Array Slot), j40 z1_40 = some y1 → va_P D vwCl (wM cI cB cZ q z1_40) H → va_D A (wM cI cB cZ q z1_40) → va_S A s.heap H locs → lv_has ls 4 [(0, .ref (q 0)), (1, .int p1), (2, .int v2_2)] → W p l e (headSpec wsX9_drops { frames := 1, cells := 0, slots := 0, locals := 23 }).room s m args below meth c H locs 0 0 (MQ below (Qw D A none (wM cI cB cZ q y1)) args s 0 0 A) (F0 m 40 ls []) := by
          intro z1_40 H locs ls hf hP hD hS hl
          rw [ej40] at hf
          refine lv_aload_n hx hb dX9_drops_40 rfl (lv_at hl 0 rfl) ?_
          refine va_get (D := D) (ci := 8) (v := .ref (q 1)) (C := RX9) (T := TX9) (N := 27) hx hb hts hiX9 hown hK hP 0 rfl rfl 1 (by decide) k9 (fun _ h9 => h9) rfl dX9_drops_41 ?_
          refine lv_sipush (v := 734) hx hb dX9_drops_44 (by decide) ?_
          refine lv_iload_n hx hb dX9_drops_47 rfl (lv_at hl 2 rfl) ?_
          refine lv_iadd hx hb dX9_drops_48 ?_
          refine lv_aload_n hx hb dX9_drops_49 rfl (lv_at hl 0 rfl) ?_
          refine va_get (D := D) (ci := 8) (v := .ref (q 1)) (C := RX9) (T := TX9) (N := 27) hx hb hts hiX9 hown hK hP 0 rfl rfl 1 (by decide) k9 (fun _ h9 => h9) rfl dX9_drops_50 ?_
          refine lv_sipush (v := 734) hx hb dX9_drops_53 (by decide) ?_
          refine lv_iload_n hx hb dX9_drops_56 rfl (lv_at hl 2 rfl) ?_
          refine lv_iadd hx hb dX9_drops_57 ?_
          refine lv_iconst (v := 1) hx hb dX9_drops_58 (by decide) ?_
          refine lv_iadd hx hb dX9_drops_59 ?_
          obtain ⟨hi_, hf⟩ := gd_ob hf
          refine va_iald hx hb hK hP 1 0 rfl rfl (inB_in hi_) dX9_drops_60 ?_
          obtain ⟨hi_, hf⟩ := gd_ob hf
          refine va_iast hx hb hK hP hD hS 1 0 rfl rfl (inB_in hi_) dX9_drops_61 (fun H locs hP hD hS => ?_)
          obtain ⟨z_9, ez_9, hf⟩ := nm_ob hf
          have hP : va_P D vwCl (wM cI cB cZ q z_9) H := by rw [ez_9]; exact hP
          have hD : va_D A (wM cI cB cZ q z_9) := by rw [ez_9]; exact hD
          refine lv_aload_n hx hb dX9_drops_62 rfl (lv_at hl 0 rfl) ?_
          refine va_get (D := D) (ci := 8) (v := .ref (q 1)) (C := RX9) (T := TX9) (N := 27) hx hb hts hiX9 hown hK hP 0 rfl rfl 1 (by decide) k9 (fun _ h9 => h9) rfl dX9_drops_63 ?_
          refine lv_sipush (v := 795) hx hb dX9_drops_66 (by decide) ?_
          refine lv_iload_n hx hb dX9_drops_69 rfl (lv_at hl 2 rfl) ?_
          refine lv_iadd hx hb dX9_drops_70 ?_
          refine lv_aload_n hx hb dX9_drops_71 rfl (lv_at hl 0 rfl) ?_
          refine va_get (D := D) (ci := 8) (v := .ref (q 1)) (C := RX9) (T := TX9) (N := 27) hx hb hts hiX9 hown hK hP 0 rfl rfl 1 (by decide) k9 (fun _ h9 => h9) rfl dX9_drops_72 ?_
          refine lv_sipush (v := 795) hx hb dX9_drops_75 (by decide) ?_
          refine lv_iload_n hx hb dX9_drops_78 rfl (lv_at hl 2 rfl) ?_
          refine lv_iadd hx hb dX9_drops_79 ?_
          refine lv_iconst (v := 1) hx hb dX9_drops_80 (by decide) ?_
          refine lv_iadd hx hb dX9_drops_81 ?_
          obtain ⟨hi_, hf⟩ := gd_ob hf
          refine va_iald hx hb hK hP 1 0 rfl rfl (inB_in hi_) dX9_drops_82 ?_
          obtain ⟨hi_, hf⟩ := gd_ob hf
          refine va_iast hx hb hK hP hD hS 1 0 rfl rfl (inB_in hi_) dX9_drops_83 (fun H locs hP hD hS => ?_)
          obtain ⟨z_10, ez_10, hf⟩ := nm_ob hf
          have hP : va_P D vwCl (wM cI cB cZ q z_10) H := by rw [ez_10]; exact hP
          have hD : va_D A (wM cI cB cZ q z_10) := by rw [ez_10]; exact hD
          refine lv_aload_n hx hb dX9_drops_84 rfl (lv_at hl 0 rfl) ?_
          refine va_get (D := D) (ci := 8) (v := .ref (q 1)) (C := RX9) (T := TX9) (N := 27) hx hb hts hiX9 hown hK hP 0 rfl rfl 1 (by decide) k9 (fun _ h9 => h9) rfl dX9_drops_85 ?_
          refine lv_sipush (v := 856) hx hb dX9_drops_88 (by decide) ?_
          refine lv_iload_n hx hb dX9_drops_91 rfl (lv_at hl 2 rfl) ?_
          refine lv_iadd hx hb dX9_drops_92 ?_
          refine lv_aload_n hx hb dX9_drops_93 rfl (lv_at hl 0 rfl) ?_
          refine va_get (D := D) (ci := 8) (v := .ref (q 1)) (C := RX9) (T := TX9) (N := 27) hx hb hts hiX9 hown hK hP 0 rfl rfl 1 (by decide) k9 (fun _ h9 => h9) rfl dX9_drops_94 ?_
          refine lv_sipush (v := 856) hx hb dX9_drops_97 (by decide) ?_
          refine lv_iload_n hx hb dX9_drops_100 rfl (lv_at hl 2 rfl) ?_
          refine lv_iadd hx hb dX9_drops_101 ?_
          refine lv_iconst (v := 1) hx hb dX9_drops_102 (by decide) ?_
          refine lv_iadd hx hb dX9_drops_103 ?_
          obtain ⟨hi_, hf⟩ := gd_ob hf
          refine va_iald hx hb hK hP 1 0 rfl rfl (inB_in hi_) dX9_drops_104 ?_
          obtain ⟨hi_, hf⟩ := gd_ob hf
          refine va_iast hx hb hK hP hD hS 1 0 rfl rfl (inB_in hi_) dX9_drops_105 (fun H locs hP hD hS => ?_)
          obtain ⟨z_11, ez_11, hf⟩ := nm_ob hf
          have hP : va_P D vwCl (wM cI cB cZ q z_11) H := by rw [ez_11]; exact hP
          have hD : va_D A (wM cI cB cZ q z_11) := by rw [ez_11]; exact hD
          obtain ⟨v2_12, ev2_12, hf⟩ := nm_ob hf
          refine lv_iinc (v := v2_12) (lv' := [(2, .int v2_12), (0, .ref (q 0)), (1, .int p1)]) hx hb dX9_drops_106 hl (k := 2) rfl (by rw [ev2_12]; rfl) (by decide) rfl (fun ls hl => ?_)
          refine lv_goto (tgt := 2) hx hb dX9_drops_109 (by decide) ?_
          exact ih2 v2_12 z_11 _ _ _ hf hP hD hS (lv_sub hl [1, 2, 0] rfl)
        have hL14 : ∀ (n_14 : Nat) (v3_14 : Int32) (z1_14 : OS) (H : Heap) (locs : List Loc) (ls : Array Slot), lX9_drops_14 fu v2_2 j40 n_14 v3_14 z1_14 = some y1 → va_P D vwCl (wM cI cB cZ q z1_14) H → va_D A (wM cI cB cZ q z1_14) → va_S A s.heap H locs → lv_has ls 4 [(0, .ref (q 0)), (1, .int p1), (2, .int v2_2), (3, .int v3_14)] → W p l e (headSpec wsX9_drops { frames := 1, cells := 0, slots := 0, locals := 23 }).room s m args below meth c H locs 0 0 (MQ below (Qw D A none (wM cI cB cZ q y1)) args s 0 0 A) (F0 m 14 ls []) := by
          intro n_14
          induction n_14 with
          | zero =>
            intro v3_14 z1_14 H locs ls hf
            exact no_ob hf
          | succ n_14 ih14 =>
            intro v3_14 z1_14 H locs ls hf hP hD hS hl
            rw [lX9_drops_14] at hf
            refine lv_iload_n hx hb dX9_drops_14 rfl (lv_at hl 3 rfl) ?_
            refine lv_bipush (v := 12) hx hb dX9_drops_15 (by decide) ?_
            refine lv_icmp_ge (tgt := 40) hx hb dX9_drops_17 (by decide) (fun c_17 => ?_) (fun c_17 => ?_)
            · have hf := ip c_17 hf
              exact hp40 z1_14 _ _ _ hf hP hD hS (lv_sub hl [0, 1, 2] rfl)
            · have hf := iq c_17 hf
              refine lv_aload_n hx hb dX9_drops_20 rfl (lv_at hl 0 rfl) ?_
              refine lv_iload_n hx hb dX9_drops_21 rfl (lv_at hl 2 rfl) ?_
              refine lv_iload_n hx hb dX9_drops_22 rfl (lv_at hl 3 rfl) ?_
              refine lv_aload_n hx hb dX9_drops_23 rfl (lv_at hl 0 rfl) ?_
              refine lv_iload_n hx hb dX9_drops_24 rfl (lv_at hl 2 rfl) ?_
              refine lv_iconst (v := 1) hx hb dX9_drops_25 (by decide) ?_
              refine lv_iadd hx hb dX9_drops_26 ?_
              refine lv_iload_n hx hb dX9_drops_27 rfl (lv_at hl 3 rfl) ?_
              obtain ⟨r_13, hc_14, hf⟩ := bd_ob hf
              refine rdV (As := [.int (v2_2 + (1 : Int32)), .int v3_14]) (rest := [.int v3_14, .int v2_2, .ref (q 0)]) ⟨hx, hb, hml, hown, hts⟩ (mX9_sign l D cI cB cZ cO q fu z1_14 (v2_2 + (1 : Int32)) v3_14 hc_14) (cwV 2 hts gX9_drops_X9_sign rfl rfl rfl (by decide +kernel) ⟨Nat.le_of_ble_eq_true rfl, Nat.le_of_ble_eq_true rfl⟩) hK hP (va_recv hK hP (ci := 8) (q0 := 0) rfl rfl) rfl hl.1 rfl (Nat.le_of_ble_eq_true rfl) dX9_drops_28 ⟨Nat.zero_le _, Nat.zero_le _⟩ ?_
              obtain ⟨z_15, hc_16, hf⟩ := bd_ob hf
              refine weV (As := [.int v2_2, .int v3_14, .int r_13]) (rest := []) ⟨hx, hb, hml, hown, hts⟩ (mX9_puts l D cI cB cZ cO q _ fu z1_14 v2_2 v3_14 r_13 hc_16) (cwV 3 hts gX9_drops_X9_puts rfl rfl rfl (by decide +kernel) ⟨Nat.le_of_ble_eq_true rfl, Nat.le_of_ble_eq_true rfl⟩) hK hP hD hS hA (va_recv hK hP (ci := 8) (q0 := 0) rfl rfl) rfl hl.1 rfl (Nat.le_of_ble_eq_true rfl) dX9_drops_31 ⟨Nat.zero_le _, Nat.zero_le _⟩ (fun H locs hP hD hS => ?_)
              obtain ⟨v3_17, ev3_17, hf⟩ := nm_ob hf
              refine lv_iinc (v := v3_17) (lv' := [(3, .int v3_17), (0, .ref (q 0)), (1, .int p1), (2, .int v2_2)]) hx hb dX9_drops_34 hl (k := 3) rfl (by rw [ev3_17]; rfl) (by decide) rfl (fun ls hl => ?_)
              refine lv_goto (tgt := 14) hx hb dX9_drops_37 (by decide) ?_
              exact ih14 v3_17 z_15 _ _ _ hf hP hD hS (lv_sub hl [1, 2, 3, 0] rfl)
        exact hL14 fu (0 : Int32) z1_2 _ _ _ hf hP hD hS (lv_sub hl [1, 2, 3, 0] rfl)
  exact hL2 fu p1 z _ _ _ hf hP hD hS (lv_sub hl [1, 2, 0] rfl)

def lX9_subsumer_2 (fu : Nat) (z : OS) (p1 : Int32) (j32 : Option (Int32)) : Nat → Int32 → Option (Int32)
  | 0, _ => none
  | n_2 + 1, v2_2 => bd (fX9_many fu z) (fun (r_1 : Int32) => (if r_1 ≤ v2_2 then j32 else jn (κ := Option (Int32)) (nm (v2_2 + (1 : Int32)) (fun (v2_3 : Int32) => lX9_subsumer_2 fu z p1 j32 n_2 v2_3)) (fun j26 => (if v2_2 = p1 then j26 else bd (fX9_isWithin fu z v2_2 p1) (fun (r_4 : Int32) => (if r_4 = (0 : Int32) then j26 else some v2_2))))))
def fX9_subsumer (fu : Nat) (z : OS) (p1 : Int32) : Option (Int32) :=
  jn (κ := Option (Int32)) (some (-1 : Int32)) (fun j32 => lX9_subsumer_2 fu z p1 j32 fu (0 : Int32))
set_option maxRecDepth 100000 in
set_option maxHeartbeats 4000000 in
theorem mX9_subsumer (l : Launch) (D : va_G) (cI cB cZ cO : ClassId) (q : Nat → Nat) (fu : Nat) (z : OS) (p1 : Int32) {r : Int32} (hf : fX9_subsumer fu z p1 = some r) : Met l yX9_subsumer wsX9_subsumer ({ frames := 2, cells := 0, slots := 0, locals := 45 }) (va_Pc [.ref (q 0), .int p1] (Pr D (gT cI cB cZ cO) (wM cI cB cZ q z))) (Qr (some (.int r))) 0 0 (fun _ => False) := by
  unfold fX9_subsumer at hf
  refine metR (ret := (some .int)) (own := RX9) rfl (by decide) rfl (Nat.le_of_ble_eq_true rfl) (fun p e s m args below meth c ls hx hb hr hml hown hlocks hts hP hK hl => ?_)
  have hl : lv_has ls 3 [(0, .ref (q 0)), (1, .int p1)] := hl
  refine lv_iconst (v := 0) hx hb dX9_subsumer_0 (by decide) ?_
  refine lv_istore_n (lv' := [(2, .int (0 : Int32)), (0, .ref (q 0)), (1, .int p1)]) hx hb dX9_subsumer_1 rfl hl (by decide) rfl (fun ls hl => ?_)
  obtain ⟨j32, ej32, hf⟩ := jn_ob hf
  have hp32 : ∀  (ls : Array Slot), j32 = some r → lv_has ls 3 [] → W p l e (headSpec wsX9_subsumer { frames := 2, cells := 0, slots := 0, locals := 45 }).room s m args below meth c s.heap [] 0 0 (MQ below (Qr (some (.int r))) args s 0 0 (fun _ => False)) (F0 m 32 ls []) := by
    intro ls hf hl
    rw [ej32] at hf
    refine lv_iconst (v := (-1)) hx hb dX9_subsumer_32 (by decide) ?_
    exact rR_i hx hb hr hlocks (so_ob hf) dX9_subsumer_33
  have hL2 : ∀ (n_2 : Nat) (v2_2 : Int32) (ls : Array Slot), lX9_subsumer_2 fu z p1 j32 n_2 v2_2 = some r → lv_has ls 3 [(0, .ref (q 0)), (1, .int p1), (2, .int v2_2)] → W p l e (headSpec wsX9_subsumer { frames := 2, cells := 0, slots := 0, locals := 45 }).room s m args below meth c s.heap [] 0 0 (MQ below (Qr (some (.int r))) args s 0 0 (fun _ => False)) (F0 m 2 ls []) := by
    intro n_2
    induction n_2 with
    | zero =>
      intro v2_2 ls hf
      exact no_ob hf
    | succ n_2 ih2 =>
      intro v2_2 ls hf hl
      rw [lX9_subsumer_2] at hf
      refine lv_iload_n hx hb dX9_subsumer_2 rfl (lv_at hl 2 rfl) ?_
      refine lv_aload_n hx hb dX9_subsumer_3 rfl (lv_at hl 0 rfl) ?_
      obtain ⟨r_1, hc_2, hf⟩ := bd_ob hf
      refine rdV (As := []) (rest := [.int v2_2]) ⟨hx, hb, hml, hown, hts⟩ (mX9_many l D cI cB cZ cO q fu z hc_2) (cwV 0 hts gX9_subsumer_X9_many rfl rfl rfl (by decide +kernel) ⟨Nat.le_of_ble_eq_true rfl, Nat.le_of_ble_eq_true rfl⟩) hK hP (va_recv hK hP (ci := 8) (q0 := 0) rfl rfl) rfl hl.1 rfl (Nat.le_of_ble_eq_true rfl) dX9_subsumer_4 ⟨Nat.zero_le _, Nat.zero_le _⟩ ?_
      refine lv_icmp_ge (tgt := 32) hx hb dX9_subsumer_7 (by decide) (fun c_7 => ?_) (fun c_7 => ?_)
      · have hf := ip c_7 hf
        exact hp32 _ hf (lv_sub hl [] rfl)
      · have hf := iq c_7 hf
        refine lv_iload_n hx hb dX9_subsumer_10 rfl (lv_at hl 2 rfl) ?_
        refine lv_iload_n hx hb dX9_subsumer_11 rfl (lv_at hl 1 rfl) ?_
        obtain ⟨j26, ej26, hf⟩ := jn_ob hf
        have hp26 : ∀  (ls : Array Slot), j26 = some r → lv_has ls 3 [(0, .ref (q 0)), (1, .int p1), (2, .int v2_2)] → W p l e (headSpec wsX9_subsumer { frames := 2, cells := 0, slots := 0, locals := 45 }).room s m args below meth c s.heap [] 0 0 (MQ below (Qr (some (.int r))) args s 0 0 (fun _ => False)) (F0 m 26 ls []) := by
          intro ls hf hl
          rw [ej26] at hf
          obtain ⟨v2_3, ev2_3, hf⟩ := nm_ob hf
          refine lv_iinc (v := v2_3) (lv' := [(2, .int v2_3), (0, .ref (q 0)), (1, .int p1)]) hx hb dX9_subsumer_26 hl (k := 2) rfl (by rw [ev2_3]; rfl) (by decide) rfl (fun ls hl => ?_)
          refine lv_goto (tgt := 2) hx hb dX9_subsumer_29 (by decide) ?_
          exact ih2 v2_3 _ hf (lv_sub hl [1, 2, 0] rfl)
        refine lv_icmp_eq (tgt := 26) hx hb dX9_subsumer_12 (by decide) (fun c_12 => ?_) (fun c_12 => ?_)
        · have hf := ip c_12 hf
          exact hp26 _ hf hl
        · have hf := iq c_12 hf
          refine lv_aload_n hx hb dX9_subsumer_15 rfl (lv_at hl 0 rfl) ?_
          refine lv_iload_n hx hb dX9_subsumer_16 rfl (lv_at hl 2 rfl) ?_
          refine lv_iload_n hx hb dX9_subsumer_17 rfl (lv_at hl 1 rfl) ?_
          obtain ⟨r_4, hc_5, hf⟩ := bd_ob hf
          refine rdV (As := [.int v2_2, .int p1]) (rest := []) ⟨hx, hb, hml, hown, hts⟩ (mX9_isWithin l D cI cB cZ cO q fu z v2_2 p1 hc_5) (cwV 2 hts gX9_subsumer_X9_isWithin rfl rfl rfl (by decide +kernel) ⟨Nat.le_of_ble_eq_true rfl, Nat.le_of_ble_eq_true rfl⟩) hK hP (va_recv hK hP (ci := 8) (q0 := 0) rfl rfl) rfl hl.1 rfl (Nat.le_of_ble_eq_true rfl) dX9_subsumer_18 ⟨Nat.zero_le _, Nat.zero_le _⟩ ?_
          refine lv_if_eq (tgt := 26) hx hb dX9_subsumer_21 (by decide) (fun c_21 => ?_) (fun c_21 => ?_)
          · have hf := ip c_21 hf
            exact hp26 _ hf hl
          · have hf := iq c_21 hf
            refine lv_iload_n hx hb dX9_subsumer_24 rfl (lv_at hl 2 rfl) ?_
            exact rR_i hx hb hr hlocks (so_ob hf) dX9_subsumer_25
  exact hL2 fu (0 : Int32) _ hf (lv_sub hl [1, 2, 0] rfl)

def fX9_isSubsumed (fu : Nat) (z : OS) (p1 : Int32) : Option (Int32) :=
  bd (fX9_subsumer fu z p1) (fun (r_1 : Int32) => (if r_1 = (-1 : Int32) then gd (isZ (0 : Int32)) (some (0 : Int32)) else gd (isZ (1 : Int32)) (some (1 : Int32))))
set_option maxRecDepth 100000 in
set_option maxHeartbeats 4000000 in
theorem mX9_isSubsumed (l : Launch) (D : va_G) (cI cB cZ cO : ClassId) (q : Nat → Nat) (fu : Nat) (z : OS) (p1 : Int32) {r : Int32} (hf : fX9_isSubsumed fu z p1 = some r) : Met l yX9_isSubsumed wsX9_isSubsumed ({ frames := 3, cells := 0, slots := 0, locals := 67 }) (va_Pc [.ref (q 0), .int p1] (Pr D (gT cI cB cZ cO) (wM cI cB cZ q z))) (Qr (some (.int r))) 0 0 (fun _ => False) := by
  unfold fX9_isSubsumed at hf
  refine metR (ret := (some .boolean)) (own := RX9) rfl (by decide) rfl (Nat.le_of_ble_eq_true rfl) (fun p e s m args below meth c ls hx hb hr hml hown hlocks hts hP hK hl => ?_)
  have hl : lv_has ls 2 [(0, .ref (q 0)), (1, .int p1)] := hl
  refine lv_aload_n hx hb dX9_isSubsumed_0 rfl (lv_at hl 0 rfl) ?_
  refine lv_iload_n hx hb dX9_isSubsumed_1 rfl (lv_at hl 1 rfl) ?_
  obtain ⟨r_1, hc_2, hf⟩ := bd_ob hf
  refine rdV (As := [.int p1]) (rest := []) ⟨hx, hb, hml, hown, hts⟩ (mX9_subsumer l D cI cB cZ cO q fu z p1 hc_2) (cwV 1 hts gX9_isSubsumed_X9_subsumer rfl rfl rfl (by decide +kernel) ⟨Nat.le_of_ble_eq_true rfl, Nat.le_of_ble_eq_true rfl⟩) hK hP (va_recv hK hP (ci := 8) (q0 := 0) rfl rfl) rfl hl.1 rfl (Nat.le_of_ble_eq_true rfl) dX9_isSubsumed_2 ⟨Nat.zero_le _, Nat.zero_le _⟩ ?_
  refine lv_iconst (v := (-1)) hx hb dX9_isSubsumed_5 (by decide) ?_
  refine lv_icmp_eq (tgt := 13) hx hb dX9_isSubsumed_6 (by decide) (fun c_6 => ?_) (fun c_6 => ?_)
  · have hf := ip c_6 hf
    refine lv_iconst (v := 0) hx hb dX9_isSubsumed_13 (by decide) ?_
    obtain ⟨hz, hf⟩ := gd_ob hf
    exact rR_z hx hb hr hlocks hz (so_ob hf) dX9_isSubsumed_14
  · have hf := iq c_6 hf
    refine lv_iconst (v := 1) hx hb dX9_isSubsumed_9 (by decide) ?_
    refine lv_goto (tgt := 14) hx hb dX9_isSubsumed_10 (by decide) ?_
    obtain ⟨hz, hf⟩ := gd_ob hf
    exact rR_z hx hb hr hlocks hz (so_ob hf) dX9_isSubsumed_14

def lX9_subsumed_4 (fu : Nat) (z : OS) (j34 : Int32 → Option (Int32)) : Nat → Int32 → Int32 → Option (Int32)
  | 0, _, _ => none
  | n_4 + 1, v1_4, v2_4 => bd (fX9_many fu z) (fun (r_1 : Int32) => (if r_1 ≤ v2_4 then j34 v1_4 else bd (fX9_isSubsumed fu z v2_4) (fun (r_3 : Int32) => jn (κ := Int32 → Int32 → Option (Int32)) (fun (t0_26 : Int32) (t1_26 : Int32) => nm (t0_26 + t1_26) (fun (v1_5 : Int32) => nm (v2_4 + (1 : Int32)) (fun (v2_6 : Int32) => lX9_subsumed_4 fu z j34 n_4 v1_5 v2_6))) (fun j26 => (if r_3 = (0 : Int32) then j26 v1_4 (0 : Int32) else j26 v1_4 (1 : Int32))))))
def fX9_subsumed (fu : Nat) (z : OS) : Option (Int32) :=
  jn (κ := Int32 → Option (Int32)) (fun (v1_34 : Int32) => some v1_34) (fun j34 => lX9_subsumed_4 fu z j34 fu (0 : Int32) (0 : Int32))
set_option maxRecDepth 100000 in
set_option maxHeartbeats 4000000 in
theorem mX9_subsumed (l : Launch) (D : va_G) (cI cB cZ cO : ClassId) (q : Nat → Nat) (fu : Nat) (z : OS) {r : Int32} (hf : fX9_subsumed fu z = some r) : Met l yX9_subsumed wsX9_subsumed ({ frames := 4, cells := 0, slots := 0, locals := 88 }) (va_Pc [.ref (q 0)] (Pr D (gT cI cB cZ cO) (wM cI cB cZ q z))) (Qr (some (.int r))) 0 0 (fun _ => False) := by
  unfold fX9_subsumed at hf
  refine metR (ret := (some .int)) (own := RX9) rfl (by decide) rfl (Nat.le_of_ble_eq_true rfl) (fun p e s m args below meth c ls hx hb hr hml hown hlocks hts hP hK hl => ?_)
  have hl : lv_has ls 3 [(0, .ref (q 0))] := hl
  refine lv_iconst (v := 0) hx hb dX9_subsumed_0 (by decide) ?_
  refine lv_istore_n (lv' := [(1, .int (0 : Int32)), (0, .ref (q 0))]) hx hb dX9_subsumed_1 rfl hl (by decide) rfl (fun ls hl => ?_)
  refine lv_iconst (v := 0) hx hb dX9_subsumed_2 (by decide) ?_
  refine lv_istore_n (lv' := [(2, .int (0 : Int32)), (1, .int (0 : Int32)), (0, .ref (q 0))]) hx hb dX9_subsumed_3 rfl hl (by decide) rfl (fun ls hl => ?_)
  obtain ⟨j34, ej34, hf⟩ := jn_ob hf
  have hp34 : ∀ (v1_34 : Int32) (ls : Array Slot), j34 v1_34 = some r → lv_has ls 3 [(1, .int v1_34)] → W p l e (headSpec wsX9_subsumed { frames := 4, cells := 0, slots := 0, locals := 88 }).room s m args below meth c s.heap [] 0 0 (MQ below (Qr (some (.int r))) args s 0 0 (fun _ => False)) (F0 m 34 ls []) := by
    intro v1_34 ls hf hl
    rw [ej34] at hf
    refine lv_iload_n hx hb dX9_subsumed_34 rfl (lv_at hl 0 rfl) ?_
    exact rR_i hx hb hr hlocks (so_ob hf) dX9_subsumed_35
  have hL4 : ∀ (n_4 : Nat) (v1_4 : Int32) (v2_4 : Int32) (ls : Array Slot), lX9_subsumed_4 fu z j34 n_4 v1_4 v2_4 = some r → lv_has ls 3 [(0, .ref (q 0)), (1, .int v1_4), (2, .int v2_4)] → W p l e (headSpec wsX9_subsumed { frames := 4, cells := 0, slots := 0, locals := 88 }).room s m args below meth c s.heap [] 0 0 (MQ below (Qr (some (.int r))) args s 0 0 (fun _ => False)) (F0 m 4 ls []) := by
    intro n_4
    induction n_4 with
    | zero =>
      intro v1_4 v2_4 ls hf
      exact no_ob hf
    | succ n_4 ih4 =>
      intro v1_4 v2_4 ls hf hl
      rw [lX9_subsumed_4] at hf
      refine lv_iload_n hx hb dX9_subsumed_4 rfl (lv_at hl 2 rfl) ?_
      refine lv_aload_n hx hb dX9_subsumed_5 rfl (lv_at hl 0 rfl) ?_
      obtain ⟨r_1, hc_2, hf⟩ := bd_ob hf
      refine rdV (As := []) (rest := [.int v2_4]) ⟨hx, hb, hml, hown, hts⟩ (mX9_many l D cI cB cZ cO q fu z hc_2) (cwV 0 hts gX9_subsumed_X9_many rfl rfl rfl (by decide +kernel) ⟨Nat.le_of_ble_eq_true rfl, Nat.le_of_ble_eq_true rfl⟩) hK hP (va_recv hK hP (ci := 8) (q0 := 0) rfl rfl) rfl hl.1 rfl (Nat.le_of_ble_eq_true rfl) dX9_subsumed_6 ⟨Nat.zero_le _, Nat.zero_le _⟩ ?_
      refine lv_icmp_ge (tgt := 34) hx hb dX9_subsumed_9 (by decide) (fun c_9 => ?_) (fun c_9 => ?_)
      · have hf := ip c_9 hf
        exact hp34 v1_4 _ hf (lv_sub hl [1] rfl)
      · have hf := iq c_9 hf
        refine lv_iload_n hx hb dX9_subsumed_12 rfl (lv_at hl 1 rfl) ?_
        refine lv_aload_n hx hb dX9_subsumed_13 rfl (lv_at hl 0 rfl) ?_
        refine lv_iload_n hx hb dX9_subsumed_14 rfl (lv_at hl 2 rfl) ?_
        obtain ⟨r_3, hc_4, hf⟩ := bd_ob hf
        refine rdV (As := [.int v2_4]) (rest := [.int v1_4]) ⟨hx, hb, hml, hown, hts⟩ (mX9_isSubsumed l D cI cB cZ cO q fu z v2_4 hc_4) (cwV 1 hts gX9_subsumed_X9_isSubsumed rfl rfl rfl (by decide +kernel) ⟨Nat.le_of_ble_eq_true rfl, Nat.le_of_ble_eq_true rfl⟩) hK hP (va_recv hK hP (ci := 8) (q0 := 0) rfl rfl) rfl hl.1 rfl (Nat.le_of_ble_eq_true rfl) dX9_subsumed_15 ⟨Nat.zero_le _, Nat.zero_le _⟩ ?_
        obtain ⟨j26, ej26, hf⟩ := jn_ob hf
        have hp26 : ∀ (t0_26 : Int32) (t1_26 : Int32) (ls : Array Slot), j26 t0_26 t1_26 = some r → lv_has ls 3 [(0, .ref (q 0)), (2, .int v2_4)] → W p l e (headSpec wsX9_subsumed { frames := 4, cells := 0, slots := 0, locals := 88 }).room s m args below meth c s.heap [] 0 0 (MQ below (Qr (some (.int r))) args s 0 0 (fun _ => False)) (F0 m 26 ls [.int t1_26, .int t0_26]) := by
          intro t0_26 t1_26 ls hf hl
          rw [ej26] at hf
          refine lv_iadd hx hb dX9_subsumed_26 ?_
          obtain ⟨v1_5, ev1_5, hf⟩ := nm_ob hf
          refine lv_nmi ev1_5 ?_
          refine lv_istore_n (lv' := [(1, .int v1_5), (0, .ref (q 0)), (2, .int v2_4)]) hx hb dX9_subsumed_27 rfl hl (by decide) rfl (fun ls hl => ?_)
          obtain ⟨v2_6, ev2_6, hf⟩ := nm_ob hf
          refine lv_iinc (v := v2_6) (lv' := [(2, .int v2_6), (1, .int v1_5), (0, .ref (q 0))]) hx hb dX9_subsumed_28 hl (k := 2) rfl (by rw [ev2_6]; rfl) (by decide) rfl (fun ls hl => ?_)
          refine lv_goto (tgt := 4) hx hb dX9_subsumed_31 (by decide) ?_
          exact ih4 v1_5 v2_6 _ hf (lv_sub hl [2, 1, 0] rfl)
        refine lv_if_eq (tgt := 25) hx hb dX9_subsumed_18 (by decide) (fun c_18 => ?_) (fun c_18 => ?_)
        · have hf := ip c_18 hf
          refine lv_iconst (v := 0) hx hb dX9_subsumed_25 (by decide) ?_
          exact hp26 v1_4 (0 : Int32) _ hf (lv_sub hl [0, 2] rfl)
        · have hf := iq c_18 hf
          refine lv_iconst (v := 1) hx hb dX9_subsumed_21 (by decide) ?_
          refine lv_goto (tgt := 26) hx hb dX9_subsumed_22 (by decide) ?_
          exact hp26 v1_4 (1 : Int32) _ hf (lv_sub hl [0, 2] rfl)
  exact hL4 fu (0 : Int32) (0 : Int32) _ hf (lv_sub hl [2, 1, 0] rfl)

def lX9_reduces_9 (fu : Nat) (j48 : Int32 → OS → Option (Int32 × (OS))) : Nat → Int32 → Int32 → OS → Option (Int32 × (OS))
  | 0, _, _, _ => none
  | n_9 + 1, v1_9, v2_9, z1_9 => (if v2_9 < (0 : Int32) then j48 v1_9 z1_9 else bd (fX9_isParent fu z1_9 v2_9) (fun (r_4 : Int32) => jn (κ := Int32 → Int32 → OS → Option (Int32 × (OS))) (fun (v1_42 : Int32) (v2_42 : Int32) (z1_42 : OS) => nm (v2_42 + (-1 : Int32)) (fun (v2_6 : Int32) => lX9_reduces_9 fu j48 n_9 v1_42 v2_6 z1_42)) (fun j42 => (if ¬ r_4 = (0 : Int32) then j42 v1_9 v2_9 z1_9 else bd (fX9_isSubsumed fu z1_9 v2_9) (fun (r_7 : Int32) => (if r_7 = (0 : Int32) then j42 v1_9 v2_9 z1_9 else bd (fX9_drops fu z1_9 v2_9) (fun (z_9 : OS) => nm (v1_9 + (1 : Int32)) (fun (v1_11 : Int32) => bd (fX9_many fu z_9) (fun (r_12 : Int32) => j42 v1_11 r_12 z_9)))))))))
def fX9_reduces (fu : Nat) (z : OS) : Option (Int32 × (OS)) :=
  bd (fX9_many fu z) (fun (r_1 : Int32) => nm (r_1 - (1 : Int32)) (fun (v2_3 : Int32) => jn (κ := Int32 → OS → Option (Int32 × (OS))) (fun (v1_48 : Int32) (z1_48 : OS) => some (v1_48, z1_48)) (fun j48 => lX9_reduces_9 fu j48 fu (0 : Int32) v2_3 z)))
set_option maxRecDepth 100000 in
set_option maxHeartbeats 4000000 in
theorem mX9_reduces (l : Launch) (D : va_G) (cI cB cZ cO : ClassId) (q : Nat → Nat) (sz : Nat) (fu : Nat) (z : OS) {r : Int32} {y1 : OS} (hf : fX9_reduces fu z = some (r, y1)) : Met l yX9_reduces wsX9_reduces ({ frames := 4, cells := 0, slots := 0, locals := 88 }) (va_Pc [.ref (q 0)] (Pw D (gT cI cB cZ cO) (wM cI cB cZ q z) sz)) (Qw D (va_A (wM cI cB cZ q z) sz) (some (.int r)) (wM cI cB cZ q y1)) 0 0 (va_A (wM cI cB cZ q z) sz) := by
  unfold fX9_reduces at hf
  refine metW (ret := (some .int)) (own := RX9) rfl (by decide) rfl (Nat.le_of_ble_eq_true rfl) (fun p e s m args below meth c ls A hx hb hr hml hown hlocks hts hK hA hP hD hS hl => ?_)
  have hl : lv_has ls 3 [(0, .ref (q 0))] := hl
  refine lv_iconst (v := 0) hx hb dX9_reduces_0 (by decide) ?_
  refine lv_istore_n (lv' := [(1, .int (0 : Int32)), (0, .ref (q 0))]) hx hb dX9_reduces_1 rfl hl (by decide) rfl (fun ls hl => ?_)
  refine lv_aload_n hx hb dX9_reduces_2 rfl (lv_at hl 1 rfl) ?_
  obtain ⟨r_1, hc_2, hf⟩ := bd_ob hf
  refine rdV (As := []) (rest := []) ⟨hx, hb, hml, hown, hts⟩ (mX9_many l D cI cB cZ cO q fu z hc_2) (cwV 0 hts gX9_reduces_X9_many rfl rfl rfl (by decide +kernel) ⟨Nat.le_of_ble_eq_true rfl, Nat.le_of_ble_eq_true rfl⟩) hK hP (va_recv hK hP (ci := 8) (q0 := 0) rfl rfl) rfl hl.1 rfl (Nat.le_of_ble_eq_true rfl) dX9_reduces_3 ⟨Nat.zero_le _, Nat.zero_le _⟩ ?_
  refine lv_iconst (v := 1) hx hb dX9_reduces_6 (by decide) ?_
  refine lv_isub hx hb dX9_reduces_7 ?_
  obtain ⟨v2_3, ev2_3, hf⟩ := nm_ob hf
  refine lv_nmi ev2_3 ?_
  refine lv_istore_n (lv' := [(2, .int v2_3), (1, .int (0 : Int32)), (0, .ref (q 0))]) hx hb dX9_reduces_8 rfl hl (by decide) rfl (fun ls hl => ?_)
  obtain ⟨j48, ej48, hf⟩ := jn_ob hf
  have hp48 : ∀ (v1_48 : Int32) (z1_48 : OS) (H : Heap) (locs : List Loc) (ls : Array Slot), j48 v1_48 z1_48 = some (r, y1) → va_P D vwCl (wM cI cB cZ q z1_48) H → va_D A (wM cI cB cZ q z1_48) → va_S A s.heap H locs → lv_has ls 3 [(1, .int v1_48)] → W p l e (headSpec wsX9_reduces { frames := 4, cells := 0, slots := 0, locals := 88 }).room s m args below meth c H locs 0 0 (MQ below (Qw D A (some (.int r)) (wM cI cB cZ q y1)) args s 0 0 A) (F0 m 48 ls []) := by
    intro v1_48 z1_48 H locs ls hf hP hD hS hl
    rw [ej48] at hf
    refine lv_iload_n hx hb dX9_reduces_48 rfl (lv_at hl 0 rfl) ?_
    exact rW_i hx hb hr hlocks hP hD hS (congrArg (fun q9 => q9.1) (so_ob hf)) (congrArg (fun (q9 : Int32 × (OS)) => wM cI cB cZ q q9.2) (so_ob hf)) dX9_reduces_49
  have hL9 : ∀ (n_9 : Nat) (v1_9 : Int32) (v2_9 : Int32) (z1_9 : OS) (H : Heap) (locs : List Loc) (ls : Array Slot), lX9_reduces_9 fu j48 n_9 v1_9 v2_9 z1_9 = some (r, y1) → va_P D vwCl (wM cI cB cZ q z1_9) H → va_D A (wM cI cB cZ q z1_9) → va_S A s.heap H locs → lv_has ls 3 [(0, .ref (q 0)), (1, .int v1_9), (2, .int v2_9)] → W p l e (headSpec wsX9_reduces { frames := 4, cells := 0, slots := 0, locals := 88 }).room s m args below meth c H locs 0 0 (MQ below (Qw D A (some (.int r)) (wM cI cB cZ q y1)) args s 0 0 A) (F0 m 9 ls []) := by
    intro n_9
    induction n_9 with
    | zero =>
      intro v1_9 v2_9 z1_9 H locs ls hf
      exact no_ob hf
    | succ n_9 ih9 =>
      intro v1_9 v2_9 z1_9 H locs ls hf hP hD hS hl
      rw [lX9_reduces_9] at hf
      refine lv_iload_n hx hb dX9_reduces_9 rfl (lv_at hl 2 rfl) ?_
      refine lv_if_lt (tgt := 48) hx hb dX9_reduces_10 (by decide) (fun c_10 => ?_) (fun c_10 => ?_)
      · have hf := ip c_10 hf
        exact hp48 v1_9 z1_9 _ _ _ hf hP hD hS (lv_sub hl [1] rfl)
      · have hf := iq c_10 hf
        refine lv_aload_n hx hb dX9_reduces_13 rfl (lv_at hl 0 rfl) ?_
        refine lv_iload_n hx hb dX9_reduces_14 rfl (lv_at hl 2 rfl) ?_
        obtain ⟨r_4, hc_5, hf⟩ := bd_ob hf
        refine rdV (As := [.int v2_9]) (rest := []) ⟨hx, hb, hml, hown, hts⟩ (mX9_isParent l D cI cB cZ cO q fu z1_9 v2_9 hc_5) (cwV 1 hts gX9_reduces_X9_isParent rfl rfl rfl (by decide +kernel) ⟨Nat.le_of_ble_eq_true rfl, Nat.le_of_ble_eq_true rfl⟩) hK hP (va_recv hK hP (ci := 8) (q0 := 0) rfl rfl) rfl hl.1 rfl (Nat.le_of_ble_eq_true rfl) dX9_reduces_15 ⟨Nat.zero_le _, Nat.zero_le _⟩ ?_
        obtain ⟨j42, ej42, hf⟩ := jn_ob hf
        have hp42 : ∀ (v1_42 : Int32) (v2_42 : Int32) (z1_42 : OS) (H : Heap) (locs : List Loc) (ls : Array Slot), j42 v1_42 v2_42 z1_42 = some (r, y1) → va_P D vwCl (wM cI cB cZ q z1_42) H → va_D A (wM cI cB cZ q z1_42) → va_S A s.heap H locs → lv_has ls 3 [(0, .ref (q 0)), (1, .int v1_42), (2, .int v2_42)] → W p l e (headSpec wsX9_reduces { frames := 4, cells := 0, slots := 0, locals := 88 }).room s m args below meth c H locs 0 0 (MQ below (Qw D A (some (.int r)) (wM cI cB cZ q y1)) args s 0 0 A) (F0 m 42 ls []) := by
          intro v1_42 v2_42 z1_42 H locs ls hf hP hD hS hl
          rw [ej42] at hf
          obtain ⟨v2_6, ev2_6, hf⟩ := nm_ob hf
          refine lv_iinc (v := v2_6) (lv' := [(2, .int v2_6), (0, .ref (q 0)), (1, .int v1_42)]) hx hb dX9_reduces_42 hl (k := 2) rfl (by rw [ev2_6]; rfl) (by decide) rfl (fun ls hl => ?_)
          refine lv_goto (tgt := 9) hx hb dX9_reduces_45 (by decide) ?_
          exact ih9 v1_42 v2_6 z1_42 _ _ _ hf hP hD hS (lv_sub hl [1, 2, 0] rfl)
        refine lv_if_ne (tgt := 42) hx hb dX9_reduces_18 (by decide) (fun c_18 => ?_) (fun c_18 => ?_)
        · have hf := ip c_18 hf
          exact hp42 v1_9 v2_9 z1_9 _ _ _ hf hP hD hS hl
        · have hf := iqn c_18 hf
          refine lv_aload_n hx hb dX9_reduces_21 rfl (lv_at hl 0 rfl) ?_
          refine lv_iload_n hx hb dX9_reduces_22 rfl (lv_at hl 2 rfl) ?_
          obtain ⟨r_7, hc_8, hf⟩ := bd_ob hf
          refine rdV (As := [.int v2_9]) (rest := []) ⟨hx, hb, hml, hown, hts⟩ (mX9_isSubsumed l D cI cB cZ cO q fu z1_9 v2_9 hc_8) (cwV 1 hts gX9_reduces_X9_isSubsumed rfl rfl rfl (by decide +kernel) ⟨Nat.le_of_ble_eq_true rfl, Nat.le_of_ble_eq_true rfl⟩) hK hP (va_recv hK hP (ci := 8) (q0 := 0) rfl rfl) rfl hl.1 rfl (Nat.le_of_ble_eq_true rfl) dX9_reduces_23 ⟨Nat.zero_le _, Nat.zero_le _⟩ ?_
          refine lv_if_eq (tgt := 42) hx hb dX9_reduces_26 (by decide) (fun c_26 => ?_) (fun c_26 => ?_)
          · have hf := ip c_26 hf
            exact hp42 v1_9 v2_9 z1_9 _ _ _ hf hP hD hS hl
          · have hf := iq c_26 hf
            refine lv_aload_n hx hb dX9_reduces_29 rfl (lv_at hl 0 rfl) ?_
            refine lv_iload_n hx hb dX9_reduces_30 rfl (lv_at hl 2 rfl) ?_
            obtain ⟨z_9, hc_10, hf⟩ := bd_ob hf
            refine weV (As := [.int v2_9]) (rest := []) ⟨hx, hb, hml, hown, hts⟩ (mX9_drops l D cI cB cZ cO q _ fu z1_9 v2_9 hc_10) (cwV 1 hts gX9_reduces_X9_drops rfl rfl rfl (by decide +kernel) ⟨Nat.le_of_ble_eq_true rfl, Nat.le_of_ble_eq_true rfl⟩) hK hP hD hS hA (va_recv hK hP (ci := 8) (q0 := 0) rfl rfl) rfl hl.1 rfl (Nat.le_of_ble_eq_true rfl) dX9_reduces_31 ⟨Nat.zero_le _, Nat.zero_le _⟩ (fun H locs hP hD hS => ?_)
            obtain ⟨v1_11, ev1_11, hf⟩ := nm_ob hf
            refine lv_iinc (v := v1_11) (lv' := [(1, .int v1_11), (0, .ref (q 0)), (2, .int v2_9)]) hx hb dX9_reduces_34 hl (k := 1) rfl (by rw [ev1_11]; rfl) (by decide) rfl (fun ls hl => ?_)
            refine lv_aload_n hx hb dX9_reduces_37 rfl (lv_at hl 1 rfl) ?_
            obtain ⟨r_12, hc_13, hf⟩ := bd_ob hf
            refine rdV (As := []) (rest := []) ⟨hx, hb, hml, hown, hts⟩ (mX9_many l D cI cB cZ cO q fu z_9 hc_13) (cwV 0 hts gX9_reduces_X9_many rfl rfl rfl (by decide +kernel) ⟨Nat.le_of_ble_eq_true rfl, Nat.le_of_ble_eq_true rfl⟩) hK hP (va_recv hK hP (ci := 8) (q0 := 0) rfl rfl) rfl hl.1 rfl (Nat.le_of_ble_eq_true rfl) dX9_reduces_38 ⟨Nat.zero_le _, Nat.zero_le _⟩ ?_
            refine lv_istore_n (lv' := [(2, .int r_12), (1, .int v1_11), (0, .ref (q 0))]) hx hb dX9_reduces_41 rfl hl (by decide) rfl (fun ls hl => ?_)
            exact hp42 v1_11 r_12 z_9 _ _ _ hf hP hD hS (lv_sub hl [2, 1, 0] rfl)
  exact hL9 fu (0 : Int32) v2_3 z _ _ _ hf hP hD hS (lv_sub hl [2, 1, 0] rfl)

def lX9_negates_4 (fu : Nat) (p1 : Int32) (j116 : Int32 → OS → Option (Int32 × (OS))) : Nat → Int32 → Int32 → OS → Option (Int32 × (OS))
  | 0, _, _, _ => none
  | n_4 + 1, v2_4, v3_4, z1_4 => bd (fX9_many fu z1_4) (fun (r_1 : Int32) => (if r_1 ≤ v3_4 then j116 v2_4 z1_4 else bd (fX9_sign fu z1_4 v3_4 p1) (fun (r_3 : Int32) => jn (κ := Int32 → Int32 → Option (Int32 × (OS))) (fun (t0_31 : Int32) (t1_31 : Int32) => nm (t0_31 + t1_31) (fun (v2_5 : Int32) => jn (κ := Int32 → Int32 → Int32 → Option (Int32 × (OS))) (fun (t1_49 : Int32) (t2_49 : Int32) (t3_49 : Int32) => bd (fX9_puts fu z1_4 t1_49 t2_49 t3_49) (fun (z_6 : OS) => gd (inB ((856 : Int32) + v3_4) 917) (jn (κ := OS → Option (Int32 × (OS))) (fun (z1_110 : OS) => nm (v3_4 + (1 : Int32)) (fun (v3_8 : Int32) => lX9_negates_4 fu p1 j116 n_4 v2_5 v3_8 z1_110)) (fun j110 => (if ¬ (z_6.2 1 (((856 : Int32) + v3_4)).toNatClampNeg) = p1 then j110 z_6 else gd (inB ((734 : Int32) + v3_4) 917) (nm (z_6.2 1 (((734 : Int32) + v3_4)).toNatClampNeg) (fun (v5_9 : Int32) => gd (inB ((795 : Int32) + v3_4) 917) (gd (inB ((734 : Int32) + v3_4) 917) (nm (sA z_6 1 (upd (z_6.2 1) (((734 : Int32) + v3_4)).toNatClampNeg (z_6.2 1 (((795 : Int32) + v3_4)).toNatClampNeg))) (fun (z_10 : OS) => gd (inB ((795 : Int32) + v3_4) 917) (nm (sA z_10 1 (upd (z_10.2 1) (((795 : Int32) + v3_4)).toNatClampNeg v5_9)) (fun (z_11 : OS) => j110 z_11)))))))))))) (fun j49 => (if ¬ r_3 = (0 : Int32) then j49 v3_4 p1 ((3 : Int32) - r_3) else j49 v3_4 p1 (0 : Int32))))) (fun j31 => (if ¬ r_3 = (0 : Int32) then j31 v2_4 (1 : Int32) else j31 v2_4 (0 : Int32))))))
def fX9_negates (fu : Nat) (z : OS) (p1 : Int32) : Option (Int32 × (OS)) :=
  jn (κ := Int32 → OS → Option (Int32 × (OS))) (fun (v2_116 : Int32) (z1_116 : OS) => some (v2_116, z1_116)) (fun j116 => lX9_negates_4 fu p1 j116 fu (0 : Int32) (0 : Int32) z)
set_option maxRecDepth 100000 in
set_option maxHeartbeats 4000000 in
theorem mX9_negates (l : Launch) (D : va_G) (cI cB cZ cO : ClassId) (q : Nat → Nat) (sz : Nat) (fu : Nat) (z : OS) (p1 : Int32) {r : Int32} {y1 : OS} (hf : fX9_negates fu z p1 = some (r, y1)) : Met l yX9_negates wsX9_negates ({ frames := 1, cells := 0, slots := 0, locals := 23 }) (va_Pc [.ref (q 0), .int p1] (Pw D (gT cI cB cZ cO) (wM cI cB cZ q z) sz)) (Qw D (va_A (wM cI cB cZ q z) sz) (some (.int r)) (wM cI cB cZ q y1)) 0 0 (va_A (wM cI cB cZ q z) sz) := by
  unfold fX9_negates at hf
  refine metW (ret := (some .int)) (own := RX9) rfl (by decide) rfl (Nat.le_of_ble_eq_true rfl) (fun p e s m args below meth c ls A hx hb hr hml hown hlocks hts hK hA hP hD hS hl => ?_)
  have k9 := (hts (.fieldLink RX9 9 "ResolutionProverModel" "now" "[I") (List.mem_of_getElem? (i := 1) rfl))
  have hiX9 : ∀ w ∈ wsX90, w ∈ wsX9_negates := (memIn_p [15, 16, 17, 18, 19, 20, 21, 22, 23, 24, 25, 26, 27, 28, 29, 30, 31, 32, 33, 34, 35, 36, 37, 38, 39, 40, 41] rfl)
  have hl : lv_has ls 6 [(0, .ref (q 0)), (1, .int p1)] := hl
  refine lv_iconst (v := 0) hx hb dX9_negates_0 (by decide) ?_
  refine lv_istore_n (lv' := [(2, .int (0 : Int32)), (0, .ref (q 0)), (1, .int p1)]) hx hb dX9_negates_1 rfl hl (by decide) rfl (fun ls hl => ?_)
  refine lv_iconst (v := 0) hx hb dX9_negates_2 (by decide) ?_
  refine lv_istore_n (lv' := [(3, .int (0 : Int32)), (2, .int (0 : Int32)), (0, .ref (q 0)), (1, .int p1)]) hx hb dX9_negates_3 rfl hl (by decide) rfl (fun ls hl => ?_)
  obtain ⟨j116, ej116, hf⟩ := jn_ob hf
  have hp116 : ∀ (v2_116 : Int32) (z1_116 : OS) (H : Heap) (locs : List Loc) (ls : Array Slot), j116 v2_116 z1_116 = some (r, y1) → va_P D vwCl (wM cI cB cZ q z1_116) H → va_D A (wM cI cB cZ q z1_116) → va_S A s.heap H locs → lv_has ls 6 [(2, .int v2_116)] → W p l e (headSpec wsX9_negates { frames := 1, cells := 0, slots := 0, locals := 23 }).room s m args below meth c H locs 0 0 (MQ below (Qw D A (some (.int r)) (wM cI cB cZ q y1)) args s 0 0 A) (F0 m 116 ls []) := by
    intro v2_116 z1_116 H locs ls hf hP hD hS hl
    rw [ej116] at hf
    refine lv_iload_n hx hb dX9_negates_116 rfl (lv_at hl 0 rfl) ?_
    exact rW_i hx hb hr hlocks hP hD hS (congrArg (fun q9 => q9.1) (so_ob hf)) (congrArg (fun (q9 : Int32 × (OS)) => wM cI cB cZ q q9.2) (so_ob hf)) dX9_negates_117
  have hL4 : ∀ (n_4 : Nat) (v2_4 : Int32) (v3_4 : Int32) (z1_4 : OS) (H : Heap) (locs : List Loc) (ls : Array Slot), lX9_negates_4 fu p1 j116 n_4 v2_4 v3_4 z1_4 = some (r, y1) → va_P D vwCl (wM cI cB cZ q z1_4) H → va_D A (wM cI cB cZ q z1_4) → va_S A s.heap H locs → lv_has ls 6 [(0, .ref (q 0)), (1, .int p1), (2, .int v2_4), (3, .int v3_4)] → W p l e (headSpec wsX9_negates { frames := 1, cells := 0, slots := 0, locals := 23 }).room s m args below meth c H locs 0 0 (MQ below (Qw D A (some (.int r)) (wM cI cB cZ q y1)) args s 0 0 A) (F0 m 4 ls []) := by
    intro n_4
    induction n_4 with
    | zero =>
      intro v2_4 v3_4 z1_4 H locs ls hf
      exact no_ob hf
    | succ n_4 ih4 =>
      intro v2_4 v3_4 z1_4 H locs ls hf hP hD hS hl
      rw [lX9_negates_4] at hf
      refine lv_iload_n hx hb dX9_negates_4 rfl (lv_at hl 3 rfl) ?_
      refine lv_aload_n hx hb dX9_negates_5 rfl (lv_at hl 0 rfl) ?_
      obtain ⟨r_1, hc_2, hf⟩ := bd_ob hf
      refine rdV (As := []) (rest := [.int v3_4]) ⟨hx, hb, hml, hown, hts⟩ (mX9_many l D cI cB cZ cO q fu z1_4 hc_2) (cwV 0 hts gX9_negates_X9_many rfl rfl rfl (by decide +kernel) ⟨Nat.le_of_ble_eq_true rfl, Nat.le_of_ble_eq_true rfl⟩) hK hP (va_recv hK hP (ci := 8) (q0 := 0) rfl rfl) rfl hl.1 rfl (Nat.le_of_ble_eq_true rfl) dX9_negates_6 ⟨Nat.zero_le _, Nat.zero_le _⟩ ?_
      refine lv_icmp_ge (tgt := 116) hx hb dX9_negates_9 (by decide) (fun c_9 => ?_) (fun c_9 => ?_)
      · have hf := ip c_9 hf
        exact hp116 v2_4 z1_4 _ _ _ hf hP hD hS (lv_sub hl [2] rfl)
      · have hf := iq c_9 hf
        refine lv_aload_n hx hb dX9_negates_12 rfl (lv_at hl 0 rfl) ?_
        refine lv_iload_n hx hb dX9_negates_13 rfl (lv_at hl 3 rfl) ?_
        refine lv_iload_n hx hb dX9_negates_14 rfl (lv_at hl 1 rfl) ?_
        obtain ⟨r_3, hc_4, hf⟩ := bd_ob hf
        refine rdV (As := [.int v3_4, .int p1]) (rest := []) ⟨hx, hb, hml, hown, hts⟩ (mX9_sign l D cI cB cZ cO q fu z1_4 v3_4 p1 hc_4) (cwV 2 hts gX9_negates_X9_sign rfl rfl rfl (by decide +kernel) ⟨Nat.le_of_ble_eq_true rfl, Nat.le_of_ble_eq_true rfl⟩) hK hP (va_recv hK hP (ci := 8) (q0 := 0) rfl rfl) rfl hl.1 rfl (Nat.le_of_ble_eq_true rfl) dX9_negates_15 ⟨Nat.zero_le _, Nat.zero_le _⟩ ?_
        refine lv_istore (lv' := [(4, .int r_3), (0, .ref (q 0)), (1, .int p1), (2, .int v2_4), (3, .int v3_4)]) hx hb dX9_negates_18 hl (by decide) rfl (fun ls hl => ?_)
        refine lv_iload_n hx hb dX9_negates_20 rfl (lv_at hl 3 rfl) ?_
        refine lv_iload hx hb dX9_negates_21 (lv_at hl 0 rfl) ?_
        obtain ⟨j31, ej31, hf⟩ := jn_ob hf
        have hp31 : ∀ (t0_31 : Int32) (t1_31 : Int32) (H : Heap) (locs : List Loc) (ls : Array Slot), j31 t0_31 t1_31 = some (r, y1) → va_P D vwCl (wM cI cB cZ q z1_4) H → va_D A (wM cI cB cZ q z1_4) → va_S A s.heap H locs → lv_has ls 6 [(0, .ref (q 0)), (1, .int p1), (3, .int v3_4), (4, .int r_3)] → W p l e (headSpec wsX9_negates { frames := 1, cells := 0, slots := 0, locals := 23 }).room s m args below meth c H locs 0 0 (MQ below (Qw D A (some (.int r)) (wM cI cB cZ q y1)) args s 0 0 A) (F0 m 31 ls [.int t1_31, .int t0_31]) := by
          intro t0_31 t1_31 H locs ls hf hP hD hS hl
          rw [ej31] at hf
          refine lv_iadd hx hb dX9_negates_31 ?_
          obtain ⟨v2_5, ev2_5, hf⟩ := nm_ob hf
          refine lv_nmi ev2_5 ?_
          refine lv_istore_n (lv' := [(2, .int v2_5), (0, .ref (q 0)), (1, .int p1), (3, .int v3_4), (4, .int r_3)]) hx hb dX9_negates_32 rfl hl (by decide) rfl (fun ls hl => ?_)
          refine lv_aload_n hx hb dX9_negates_33 rfl (lv_at hl 1 rfl) ?_
          refine lv_iload_n hx hb dX9_negates_34 rfl (lv_at hl 3 rfl) ?_
          refine lv_iload_n hx hb dX9_negates_35 rfl (lv_at hl 2 rfl) ?_
          refine lv_iload hx hb dX9_negates_36 (lv_at hl 4 rfl) ?_
          obtain ⟨j49, ej49, hf⟩ := jn_ob hf
          have hp49 : ∀ (t1_49 : Int32) (t2_49 : Int32) (t3_49 : Int32) (H : Heap) (locs : List Loc) (ls : Array Slot), j49 t1_49 t2_49 t3_49 = some (r, y1) → va_P D vwCl (wM cI cB cZ q z1_4) H → va_D A (wM cI cB cZ q z1_4) → va_S A s.heap H locs → lv_has ls 6 [(0, .ref (q 0)), (1, .int p1), (2, .int v2_5), (3, .int v3_4)] → W p l e (headSpec wsX9_negates { frames := 1, cells := 0, slots := 0, locals := 23 }).room s m args below meth c H locs 0 0 (MQ below (Qw D A (some (.int r)) (wM cI cB cZ q y1)) args s 0 0 A) (F0 m 49 ls [.int t3_49, .int t2_49, .int t1_49, .ref (q 0)]) := by
            intro t1_49 t2_49 t3_49 H locs ls hf hP hD hS hl
            rw [ej49] at hf
            obtain ⟨z_6, hc_7, hf⟩ := bd_ob hf
            refine weV (As := [.int t1_49, .int t2_49, .int t3_49]) (rest := []) ⟨hx, hb, hml, hown, hts⟩ (mX9_puts l D cI cB cZ cO q _ fu z1_4 t1_49 t2_49 t3_49 hc_7) (cwV 3 hts gX9_negates_X9_puts rfl rfl rfl (by decide +kernel) ⟨Nat.le_of_ble_eq_true rfl, Nat.le_of_ble_eq_true rfl⟩) hK hP hD hS hA (va_recv hK hP (ci := 8) (q0 := 0) rfl rfl) rfl hl.1 rfl (Nat.le_of_ble_eq_true rfl) dX9_negates_49 ⟨Nat.zero_le _, Nat.zero_le _⟩ (fun H locs hP hD hS => ?_)
            refine lv_aload_n hx hb dX9_negates_52 rfl (lv_at hl 0 rfl) ?_
            refine va_get (D := D) (ci := 8) (v := .ref (q 1)) (C := RX9) (T := TX9) (N := 27) hx hb hts hiX9 hown hK hP 0 rfl rfl 1 (by decide) k9 (fun _ h9 => h9) rfl dX9_negates_53 ?_
            refine lv_sipush (v := 856) hx hb dX9_negates_56 (by decide) ?_
            refine lv_iload_n hx hb dX9_negates_59 rfl (lv_at hl 3 rfl) ?_
            refine lv_iadd hx hb dX9_negates_60 ?_
            obtain ⟨hi_, hf⟩ := gd_ob hf
            refine va_iald hx hb hK hP 1 0 rfl rfl (inB_in hi_) dX9_negates_61 ?_
            refine lv_iload_n hx hb dX9_negates_62 rfl (lv_at hl 1 rfl) ?_
            obtain ⟨j110, ej110, hf⟩ := jn_ob hf
            have hp110 : ∀ (z1_110 : OS) (H : Heap) (locs : List Loc) (ls : Array Slot), j110 z1_110 = some (r, y1) → va_P D vwCl (wM cI cB cZ q z1_110) H → va_D A (wM cI cB cZ q z1_110) → va_S A s.heap H locs → lv_has ls 6 [(0, .ref (q 0)), (1, .int p1), (2, .int v2_5), (3, .int v3_4)] → W p l e (headSpec wsX9_negates { frames := 1, cells := 0, slots := 0, locals := 23 }).room s m args below meth c H locs 0 0 (MQ below (Qw D A (some (.int r)) (wM cI cB cZ q y1)) args s 0 0 A) (F0 m 110 ls []) := by
              intro z1_110 H locs ls hf hP hD hS hl
              rw [ej110] at hf
              obtain ⟨v3_8, ev3_8, hf⟩ := nm_ob hf
              refine lv_iinc (v := v3_8) (lv' := [(3, .int v3_8), (0, .ref (q 0)), (1, .int p1), (2, .int v2_5)]) hx hb dX9_negates_110 hl (k := 3) rfl (by rw [ev3_8]; rfl) (by decide) rfl (fun ls hl => ?_)
              refine lv_goto (tgt := 4) hx hb dX9_negates_113 (by decide) ?_
              exact ih4 v2_5 v3_8 z1_110 _ _ _ hf hP hD hS (lv_sub hl [1, 2, 3, 0] rfl)
            refine lv_icmp_ne (tgt := 110) hx hb dX9_negates_63 (by decide) (fun c_63 => ?_) (fun c_63 => ?_)
            · have hf := ip c_63 hf
              exact hp110 z_6 _ _ _ hf hP hD hS hl
            · have hf := iqn c_63 hf
              refine lv_aload_n hx hb dX9_negates_66 rfl (lv_at hl 0 rfl) ?_
              refine va_get (D := D) (ci := 8) (v := .ref (q 1)) (C := RX9) (T := TX9) (N := 27) hx hb hts hiX9 hown hK hP 0 rfl rfl 1 (by decide) k9 (fun _ h9 => h9) rfl dX9_negates_67 ?_
              refine lv_sipush (v := 734) hx hb dX9_negates_70 (by decide) ?_
              refine lv_iload_n hx hb dX9_negates_73 rfl (lv_at hl 3 rfl) ?_
              refine lv_iadd hx hb dX9_negates_74 ?_
              obtain ⟨hi_, hf⟩ := gd_ob hf
              refine va_iald hx hb hK hP 1 0 rfl rfl (inB_in hi_) dX9_negates_75 ?_
              obtain ⟨v5_9, ev5_9, hf⟩ := nm_ob hf
              refine lv_nmi ev5_9 ?_
              refine lv_istore (lv' := [(5, .int v5_9), (0, .ref (q 0)), (1, .int p1), (2, .int v2_5), (3, .int v3_4)]) hx hb dX9_negates_76 hl (by decide) rfl (fun ls hl => ?_)
              refine lv_aload_n hx hb dX9_negates_78 rfl (lv_at hl 1 rfl) ?_
              refine va_get (D := D) (ci := 8) (v := .ref (q 1)) (C := RX9) (T := TX9) (N := 27) hx hb hts hiX9 hown hK hP 0 rfl rfl 1 (by decide) k9 (fun _ h9 => h9) rfl dX9_negates_79 ?_
              refine lv_sipush (v := 734) hx hb dX9_negates_82 (by decide) ?_
              refine lv_iload_n hx hb dX9_negates_85 rfl (lv_at hl 4 rfl) ?_
              refine lv_iadd hx hb dX9_negates_86 ?_
              refine lv_aload_n hx hb dX9_negates_87 rfl (lv_at hl 1 rfl) ?_
              refine va_get (D := D) (ci := 8) (v := .ref (q 1)) (C := RX9) (T := TX9) (N := 27) hx hb hts hiX9 hown hK hP 0 rfl rfl 1 (by decide) k9 (fun _ h9 => h9) rfl dX9_negates_88 ?_
              refine lv_sipush (v := 795) hx hb dX9_negates_91 (by decide) ?_
              refine lv_iload_n hx hb dX9_negates_94 rfl (lv_at hl 4 rfl) ?_
              refine lv_iadd hx hb dX9_negates_95 ?_
              obtain ⟨hi_, hf⟩ := gd_ob hf
              refine va_iald hx hb hK hP 1 0 rfl rfl (inB_in hi_) dX9_negates_96 ?_
              obtain ⟨hi_, hf⟩ := gd_ob hf
              refine va_iast hx hb hK hP hD hS 1 0 rfl rfl (inB_in hi_) dX9_negates_97 (fun H locs hP hD hS => ?_)
              obtain ⟨z_10, ez_10, hf⟩ := nm_ob hf
              have hP : va_P D vwCl (wM cI cB cZ q z_10) H := by rw [ez_10]; exact hP
              have hD : va_D A (wM cI cB cZ q z_10) := by rw [ez_10]; exact hD
              refine lv_aload_n hx hb dX9_negates_98 rfl (lv_at hl 1 rfl) ?_
              refine va_get (D := D) (ci := 8) (v := .ref (q 1)) (C := RX9) (T := TX9) (N := 27) hx hb hts hiX9 hown hK hP 0 rfl rfl 1 (by decide) k9 (fun _ h9 => h9) rfl dX9_negates_99 ?_
              refine lv_sipush (v := 795) hx hb dX9_negates_102 (by decide) ?_
              refine lv_iload_n hx hb dX9_negates_105 rfl (lv_at hl 4 rfl) ?_
              refine lv_iadd hx hb dX9_negates_106 ?_
              refine lv_iload hx hb dX9_negates_107 (lv_at hl 0 rfl) ?_
              obtain ⟨hi_, hf⟩ := gd_ob hf
              refine va_iast hx hb hK hP hD hS 1 0 rfl rfl (inB_in hi_) dX9_negates_109 (fun H locs hP hD hS => ?_)
              obtain ⟨z_11, ez_11, hf⟩ := nm_ob hf
              have hP : va_P D vwCl (wM cI cB cZ q z_11) H := by rw [ez_11]; exact hP
              have hD : va_D A (wM cI cB cZ q z_11) := by rw [ez_11]; exact hD
              exact hp110 z_11 _ _ _ hf hP hD hS (lv_sub hl [1, 2, 3, 4] rfl)
          refine lv_if_ne (tgt := 45) hx hb dX9_negates_38 (by decide) (fun c_38 => ?_) (fun c_38 => ?_)
          · have hf := ip c_38 hf
            refine lv_iconst (v := 3) hx hb dX9_negates_45 (by decide) ?_
            refine lv_iload hx hb dX9_negates_46 (lv_at hl 4 rfl) ?_
            refine lv_isub hx hb dX9_negates_48 ?_
            exact hp49 v3_4 p1 ((3 : Int32) - r_3) _ _ _ hf hP hD hS (lv_sub hl [1, 2, 0, 3] rfl)
          · have hf := iqn c_38 hf
            refine lv_iconst (v := 0) hx hb dX9_negates_41 (by decide) ?_
            refine lv_goto (tgt := 49) hx hb dX9_negates_42 (by decide) ?_
            exact hp49 v3_4 p1 (0 : Int32) _ _ _ hf hP hD hS (lv_sub hl [1, 2, 0, 3] rfl)
        refine lv_if_ne (tgt := 30) hx hb dX9_negates_23 (by decide) (fun c_23 => ?_) (fun c_23 => ?_)
        · have hf := ip c_23 hf
          refine lv_iconst (v := 1) hx hb dX9_negates_30 (by decide) ?_
          exact hp31 v2_4 (1 : Int32) _ _ _ hf hP hD hS (lv_sub hl [1, 2, 4, 0] rfl)
        · have hf := iqn c_23 hf
          refine lv_iconst (v := 0) hx hb dX9_negates_26 (by decide) ?_
          refine lv_goto (tgt := 31) hx hb dX9_negates_27 (by decide) ?_
          exact hp31 v2_4 (0 : Int32) _ _ _ hf hP hD hS (lv_sub hl [1, 2, 4, 0] rfl)
  exact hL4 fu (0 : Int32) (0 : Int32) z _ _ _ hf hP hD hS (lv_sub hl [2, 3, 1, 0] rfl)

def fX9_deep (fu : Nat) (z : OS) (p1 : Int32) : Option (Int32) :=
  gd (inB ((856 : Int32) + p1) 917) ((if ¬ (z.2 1 (((856 : Int32) + p1)).toNatClampNeg) = (-1 : Int32) then gd (inB ((734 : Int32) + p1) 917) (gd (inB (z.2 1 (((734 : Int32) + p1)).toNatClampNeg) 60) (gd (inB ((795 : Int32) + p1) 917) (gd (inB (z.2 1 (((795 : Int32) + p1)).toNatClampNeg) 60) (some ((1 : Int32) + (if (z.2 10 ((z.2 1 (((734 : Int32) + p1)).toNatClampNeg)).toNatClampNeg) < (z.2 10 ((z.2 1 (((795 : Int32) + p1)).toNatClampNeg)).toNatClampNeg) then (z.2 10 ((z.2 1 (((795 : Int32) + p1)).toNatClampNeg)).toNatClampNeg) else (z.2 10 ((z.2 1 (((734 : Int32) + p1)).toNatClampNeg)).toNatClampNeg))))))) else some (0 : Int32)))
set_option maxRecDepth 100000 in
set_option maxHeartbeats 4000000 in
theorem mX9_deep (l : Launch) (D : va_G) (cI cB cZ cO : ClassId) (q : Nat → Nat) (fu : Nat) (z : OS) (p1 : Int32) {r : Int32} (hf : fX9_deep fu z p1 = some r) : Met l yX9_deep wsX9_deep ({ frames := 1, cells := 0, slots := 0, locals := 24 }) (va_Pc [.ref (q 0), .int p1] (Pr D (gT cI cB cZ cO) (wM cI cB cZ q z))) (Qr (some (.int r))) 0 0 (fun _ => False) := by
  unfold fX9_deep at hf
  refine metR (ret := (some .int)) (own := RX9) rfl (by decide) rfl (Nat.le_of_ble_eq_true rfl) (fun p e s m args below meth c ls hx hb hr hml hown hlocks hts hP hK hl => ?_)
  have k9 := (hts (.fieldLink RX9 9 "ResolutionProverModel" "now" "[I") (List.mem_of_getElem? (i := 1) rfl))
  have k29 := (hts (.fieldLink RX9 29 "ResolutionProverModel" "deepest" "[I") (List.mem_of_getElem? (i := 2) rfl))
  have hiX9 : ∀ w ∈ wsX90, w ∈ wsX9_deep := (memIn_p [7, 8, 9, 10, 11, 12, 13, 14, 15, 16, 17, 18, 19, 20, 21, 22, 23, 24, 25, 26, 27, 28, 29, 30, 31, 32, 33] rfl)
  have hl : lv_has ls 2 [(0, .ref (q 0)), (1, .int p1)] := hl
  refine lv_aload_n hx hb dX9_deep_0 rfl (lv_at hl 0 rfl) ?_
  refine va_get (D := D) (ci := 8) (v := .ref (q 1)) (C := RX9) (T := TX9) (N := 27) hx hb hts hiX9 hown hK hP 0 rfl rfl 1 (by decide) k9 (fun _ h9 => h9) rfl dX9_deep_1 ?_
  refine lv_sipush (v := 856) hx hb dX9_deep_4 (by decide) ?_
  refine lv_iload_n hx hb dX9_deep_7 rfl (lv_at hl 1 rfl) ?_
  refine lv_iadd hx hb dX9_deep_8 ?_
  obtain ⟨hi_, hf⟩ := gd_ob hf
  refine va_iald hx hb hK hP 1 0 rfl rfl (inB_in hi_) dX9_deep_9 ?_
  refine lv_iconst (v := (-1)) hx hb dX9_deep_10 (by decide) ?_
  refine lv_icmp_ne (tgt := 16) hx hb dX9_deep_11 (by decide) (fun c_11 => ?_) (fun c_11 => ?_)
  · have hf := ip c_11 hf
    refine lv_iconst (v := 1) hx hb dX9_deep_16 (by decide) ?_
    refine lv_aload_n hx hb dX9_deep_17 rfl (lv_at hl 0 rfl) ?_
    refine va_get (D := D) (ci := 8) (v := .ref (q 7)) (C := RX9) (T := TX9) (N := 27) hx hb hts hiX9 hown hK hP 0 rfl rfl 10 (by decide) k29 (fun _ h9 => h9) rfl dX9_deep_18 ?_
    refine lv_aload_n hx hb dX9_deep_21 rfl (lv_at hl 0 rfl) ?_
    refine va_get (D := D) (ci := 8) (v := .ref (q 1)) (C := RX9) (T := TX9) (N := 27) hx hb hts hiX9 hown hK hP 0 rfl rfl 1 (by decide) k9 (fun _ h9 => h9) rfl dX9_deep_22 ?_
    refine lv_sipush (v := 734) hx hb dX9_deep_25 (by decide) ?_
    refine lv_iload_n hx hb dX9_deep_28 rfl (lv_at hl 1 rfl) ?_
    refine lv_iadd hx hb dX9_deep_29 ?_
    obtain ⟨hi_, hf⟩ := gd_ob hf
    refine va_iald hx hb hK hP 1 0 rfl rfl (inB_in hi_) dX9_deep_30 ?_
    obtain ⟨hi_, hf⟩ := gd_ob hf
    refine va_iald hx hb hK hP 7 0 rfl rfl (inB_in hi_) dX9_deep_31 ?_
    refine lv_aload_n hx hb dX9_deep_32 rfl (lv_at hl 0 rfl) ?_
    refine va_get (D := D) (ci := 8) (v := .ref (q 7)) (C := RX9) (T := TX9) (N := 27) hx hb hts hiX9 hown hK hP 0 rfl rfl 10 (by decide) k29 (fun _ h9 => h9) rfl dX9_deep_33 ?_
    refine lv_aload_n hx hb dX9_deep_36 rfl (lv_at hl 0 rfl) ?_
    refine va_get (D := D) (ci := 8) (v := .ref (q 1)) (C := RX9) (T := TX9) (N := 27) hx hb hts hiX9 hown hK hP 0 rfl rfl 1 (by decide) k9 (fun _ h9 => h9) rfl dX9_deep_37 ?_
    refine lv_sipush (v := 795) hx hb dX9_deep_40 (by decide) ?_
    refine lv_iload_n hx hb dX9_deep_43 rfl (lv_at hl 1 rfl) ?_
    refine lv_iadd hx hb dX9_deep_44 ?_
    obtain ⟨hi_, hf⟩ := gd_ob hf
    refine va_iald hx hb hK hP 1 0 rfl rfl (inB_in hi_) dX9_deep_45 ?_
    obtain ⟨hi_, hf⟩ := gd_ob hf
    refine va_iald hx hb hK hP 7 0 rfl rfl (inB_in hi_) dX9_deep_46 ?_
    refine va_mmax hx hb (by rw [hml]; exact hl.1.symm) hown (hts (.methodLink RX9 126 Lib.Math.max.name) (List.mem_of_getElem? (i := 3) rfl)) (hts (.static Lib.Math.max.name) (List.mem_of_getElem? (i := 4) rfl)) (hts (.initialized "java/lang/Math") (List.mem_of_getElem? (i := 5) rfl)) (hts (.code Lib.Math.max.name Lib.Math.max.code 2 (some .int)) (List.mem_of_getElem? (i := 6) rfl)) (Nat.le_of_ble_eq_true rfl) (Nat.le_of_ble_eq_true rfl) (Nat.zero_le _) (Nat.zero_le _) dX9_deep_47 ?_
    refine lv_iadd hx hb dX9_deep_50 ?_
    exact rR_i hx hb hr hlocks (so_ob hf) dX9_deep_51
  · have hf := iqn c_11 hf
    refine lv_iconst (v := 0) hx hb dX9_deep_14 (by decide) ?_
    exact rR_i hx hb hr hlocks (so_ob hf) dX9_deep_15

def lX9_depthAt_2 (fu : Nat) (p1 : Int32) (j24 : OS → Option (Int32 × (OS))) : Nat → Int32 → OS → Option (Int32 × (OS))
  | 0, _, _ => none
  | n_2 + 1, v2_2, z1_2 => (if p1 < v2_2 then j24 z1_2 else bd (fX9_deep fu z1_2 v2_2) (fun (r_1 : Int32) => gd (inB v2_2 60) (nm (sA z1_2 10 (upd (z1_2.2 10) (v2_2).toNatClampNeg r_1)) (fun (z_3 : OS) => nm (v2_2 + (1 : Int32)) (fun (v2_4 : Int32) => lX9_depthAt_2 fu p1 j24 n_2 v2_4 z_3)))))
def fX9_depthAt (fu : Nat) (z : OS) (p1 : Int32) : Option (Int32 × (OS)) :=
  jn (κ := OS → Option (Int32 × (OS))) (fun (z1_24 : OS) => gd (inB p1 60) (some ((z1_24.2 10 (p1).toNatClampNeg), z1_24))) (fun j24 => lX9_depthAt_2 fu p1 j24 fu (0 : Int32) z)
set_option maxRecDepth 100000 in
set_option maxHeartbeats 4000000 in
theorem mX9_depthAt (l : Launch) (D : va_G) (cI cB cZ cO : ClassId) (q : Nat → Nat) (sz : Nat) (fu : Nat) (z : OS) (p1 : Int32) {r : Int32} {y1 : OS} (hf : fX9_depthAt fu z p1 = some (r, y1)) : Met l yX9_depthAt wsX9_depthAt ({ frames := 2, cells := 0, slots := 0, locals := 45 }) (va_Pc [.ref (q 0), .int p1] (Pw D (gT cI cB cZ cO) (wM cI cB cZ q z) sz)) (Qw D (va_A (wM cI cB cZ q z) sz) (some (.int r)) (wM cI cB cZ q y1)) 0 0 (va_A (wM cI cB cZ q z) sz) := by
  unfold fX9_depthAt at hf
  refine metW (ret := (some .int)) (own := RX9) rfl (by decide) rfl (Nat.le_of_ble_eq_true rfl) (fun p e s m args below meth c ls A hx hb hr hml hown hlocks hts hK hA hP hD hS hl => ?_)
  have k29 := (hts (.fieldLink RX9 29 "ResolutionProverModel" "deepest" "[I") (List.mem_of_getElem? (i := 1) rfl))
  have hiX9 : ∀ w ∈ wsX90, w ∈ wsX9_depthAt := (memIn_p [12, 13, 14, 15, 16, 17, 18, 19, 20, 21, 22, 23, 24, 25, 26, 27, 28, 29, 30, 31, 32, 33, 34, 35, 36, 37, 38] rfl)
  have hl : lv_has ls 3 [(0, .ref (q 0)), (1, .int p1)] := hl
  refine lv_iconst (v := 0) hx hb dX9_depthAt_0 (by decide) ?_
  refine lv_istore_n (lv' := [(2, .int (0 : Int32)), (0, .ref (q 0)), (1, .int p1)]) hx hb dX9_depthAt_1 rfl hl (by decide) rfl (fun ls hl => ?_)
  obtain ⟨j24, ej24, hf⟩ := jn_ob hf
  have hp24 : ∀ (z1_24 : OS) (H : Heap) (locs : List Loc) (ls : Array Slot), j24 z1_24 = some (r, y1) → va_P D vwCl (wM cI cB cZ q z1_24) H → va_D A (wM cI cB cZ q z1_24) → va_S A s.heap H locs → lv_has ls 3 [(0, .ref (q 0)), (1, .int p1)] → W p l e (headSpec wsX9_depthAt { frames := 2, cells := 0, slots := 0, locals := 45 }).room s m args below meth c H locs 0 0 (MQ below (Qw D A (some (.int r)) (wM cI cB cZ q y1)) args s 0 0 A) (F0 m 24 ls []) := by
    intro z1_24 H locs ls hf hP hD hS hl
    rw [ej24] at hf
    refine lv_aload_n hx hb dX9_depthAt_24 rfl (lv_at hl 0 rfl) ?_
    refine va_get (D := D) (ci := 8) (v := .ref (q 7)) (C := RX9) (T := TX9) (N := 27) hx hb hts hiX9 hown hK hP 0 rfl rfl 10 (by decide) k29 (fun _ h9 => h9) rfl dX9_depthAt_25 ?_
    refine lv_iload_n hx hb dX9_depthAt_28 rfl (lv_at hl 1 rfl) ?_
    obtain ⟨hi_, hf⟩ := gd_ob hf
    refine va_iald hx hb hK hP 7 0 rfl rfl (inB_in hi_) dX9_depthAt_29 ?_
    exact rW_i hx hb hr hlocks hP hD hS (congrArg (fun q9 => q9.1) (so_ob hf)) (congrArg (fun (q9 : Int32 × (OS)) => wM cI cB cZ q q9.2) (so_ob hf)) dX9_depthAt_30
  have hL2 : ∀ (n_2 : Nat) (v2_2 : Int32) (z1_2 : OS) (H : Heap) (locs : List Loc) (ls : Array Slot), lX9_depthAt_2 fu p1 j24 n_2 v2_2 z1_2 = some (r, y1) → va_P D vwCl (wM cI cB cZ q z1_2) H → va_D A (wM cI cB cZ q z1_2) → va_S A s.heap H locs → lv_has ls 3 [(0, .ref (q 0)), (1, .int p1), (2, .int v2_2)] → W p l e (headSpec wsX9_depthAt { frames := 2, cells := 0, slots := 0, locals := 45 }).room s m args below meth c H locs 0 0 (MQ below (Qw D A (some (.int r)) (wM cI cB cZ q y1)) args s 0 0 A) (F0 m 2 ls []) := by
    intro n_2
    induction n_2 with
    | zero =>
      intro v2_2 z1_2 H locs ls hf
      exact no_ob hf
    | succ n_2 ih2 =>
      intro v2_2 z1_2 H locs ls hf hP hD hS hl
      rw [lX9_depthAt_2] at hf
      refine lv_iload_n hx hb dX9_depthAt_2 rfl (lv_at hl 2 rfl) ?_
      refine lv_iload_n hx hb dX9_depthAt_3 rfl (lv_at hl 1 rfl) ?_
      refine lv_icmp_gt (tgt := 24) hx hb dX9_depthAt_4 (by decide) (fun c_4 => ?_) (fun c_4 => ?_)
      · have hf := ip c_4 hf
        exact hp24 z1_2 _ _ _ hf hP hD hS (lv_sub hl [0, 1] rfl)
      · have hf := iq c_4 hf
        refine lv_aload_n hx hb dX9_depthAt_7 rfl (lv_at hl 0 rfl) ?_
        refine va_get (D := D) (ci := 8) (v := .ref (q 7)) (C := RX9) (T := TX9) (N := 27) hx hb hts hiX9 hown hK hP 0 rfl rfl 10 (by decide) k29 (fun _ h9 => h9) rfl dX9_depthAt_8 ?_
        refine lv_iload_n hx hb dX9_depthAt_11 rfl (lv_at hl 2 rfl) ?_
        refine lv_aload_n hx hb dX9_depthAt_12 rfl (lv_at hl 0 rfl) ?_
        refine lv_iload_n hx hb dX9_depthAt_13 rfl (lv_at hl 2 rfl) ?_
        obtain ⟨r_1, hc_2, hf⟩ := bd_ob hf
        refine rdV (As := [.int v2_2]) (rest := [.int v2_2, .ref (q 7)]) ⟨hx, hb, hml, hown, hts⟩ (mX9_deep l D cI cB cZ cO q fu z1_2 v2_2 hc_2) (cwV 1 hts gX9_depthAt_X9_deep rfl rfl rfl (by decide +kernel) ⟨Nat.le_of_ble_eq_true rfl, Nat.le_of_ble_eq_true rfl⟩) hK hP (va_recv hK hP (ci := 8) (q0 := 0) rfl rfl) rfl hl.1 rfl (Nat.le_of_ble_eq_true rfl) dX9_depthAt_14 ⟨Nat.zero_le _, Nat.zero_le _⟩ ?_
        obtain ⟨hi_, hf⟩ := gd_ob hf
        refine va_iast hx hb hK hP hD hS 7 0 rfl rfl (inB_in hi_) dX9_depthAt_17 (fun H locs hP hD hS => ?_)
        obtain ⟨z_3, ez_3, hf⟩ := nm_ob hf
        have hP : va_P D vwCl (wM cI cB cZ q z_3) H := by rw [ez_3]; exact hP
        have hD : va_D A (wM cI cB cZ q z_3) := by rw [ez_3]; exact hD
        obtain ⟨v2_4, ev2_4, hf⟩ := nm_ob hf
        refine lv_iinc (v := v2_4) (lv' := [(2, .int v2_4), (0, .ref (q 0)), (1, .int p1)]) hx hb dX9_depthAt_18 hl (k := 2) rfl (by rw [ev2_4]; rfl) (by decide) rfl (fun ls hl => ?_)
        refine lv_goto (tgt := 2) hx hb dX9_depthAt_21 (by decide) ?_
        exact ih2 v2_4 z_3 _ _ _ hf hP hD hS (lv_sub hl [1, 2, 0] rfl)
  exact hL2 fu (0 : Int32) z _ _ _ hf hP hD hS (lv_sub hl [1, 2, 0] rfl)

def lX9_derives_32 (j97 : OS → Option ((OS))) : Nat → Int32 → OS → Option ((OS))
  | 0, _, _ => none
  | n_32 + 1, v2_32, z1_32 => (if v2_32 < (0 : Int32) then j97 z1_32 else gd (inB v2_32 60) (jn (κ := Int32 → OS → Option ((OS))) (fun (v2_91 : Int32) (z1_91 : OS) => nm (v2_91 + (-1 : Int32)) (fun (v2_1 : Int32) => lX9_derives_32 j97 n_32 v2_1 z1_91)) (fun j91 => (if (z1_32.2 11 (v2_32).toNatClampNeg) = (0 : Int32) then j91 v2_32 z1_32 else gd (inB ((856 : Int32) + v2_32) 917) ((if (z1_32.2 1 (((856 : Int32) + v2_32)).toNatClampNeg) = (-1 : Int32) then j91 v2_32 z1_32 else gd (inB ((734 : Int32) + v2_32) 917) (gd (inB (z1_32.2 1 (((734 : Int32) + v2_32)).toNatClampNeg) 60) (nm (sA z1_32 11 (upd (z1_32.2 11) ((z1_32.2 1 (((734 : Int32) + v2_32)).toNatClampNeg)).toNatClampNeg (vp_nar .boolean (1 : Int32)))) (fun (z_2 : OS) => gd (inB ((795 : Int32) + v2_32) 917) (gd (inB (z_2.2 1 (((795 : Int32) + v2_32)).toNatClampNeg) 60) (nm (sA z_2 11 (upd (z_2.2 11) ((z_2.2 1 (((795 : Int32) + v2_32)).toNatClampNeg)).toNatClampNeg (vp_nar .boolean (1 : Int32)))) (fun (z_3 : OS) => j91 v2_32 z_3))))))))))))
def lX9_derives_2 (p1 : Int32) (j30 : OS → Option ((OS))) : Nat → Int32 → OS → Option ((OS))
  | 0, _, _ => none
  | n_2 + 1, v2_2, z1_2 => (if (60 : Int32) ≤ v2_2 then j30 z1_2 else jn (κ := Int32 → Int32 → Option ((OS))) (fun (t1_23 : Int32) (t2_23 : Int32) => gd (inB t1_23 60) (nm (sA z1_2 11 (upd (z1_2.2 11) (t1_23).toNatClampNeg (vp_nar .boolean t2_23))) (fun (z_4 : OS) => nm (v2_2 + (1 : Int32)) (fun (v2_5 : Int32) => lX9_derives_2 p1 j30 n_2 v2_5 z_4)))) (fun j23 => (if ¬ v2_2 = p1 then j23 v2_2 (0 : Int32) else j23 v2_2 (1 : Int32))))
def fX9_derives (fu : Nat) (z : OS) (p1 : Int32) : Option ((OS)) :=
  jn (κ := OS → Option ((OS))) (fun (z1_30 : OS) => jn (κ := OS → Option ((OS))) (fun (z1_97 : OS) => some z1_97) (fun j97 => lX9_derives_32 j97 fu p1 z1_30)) (fun j30 => lX9_derives_2 p1 j30 fu (0 : Int32) z)
set_option maxRecDepth 100000 in
set_option maxHeartbeats 4000000 in
theorem mX9_derives (l : Launch) (D : va_G) (cI cB cZ cO : ClassId) (q : Nat → Nat) (sz : Nat) (fu : Nat) (z : OS) (p1 : Int32) {y1 : OS} (hf : fX9_derives fu z p1 = some y1) : Met l yX9_derives wsX9_derives ({ frames := 0, cells := 0, slots := 0, locals := 0 }) (va_Pc [.ref (q 0), .int p1] (Pw D (gT cI cB cZ cO) (wM cI cB cZ q z) sz)) (Qw D (va_A (wM cI cB cZ q z) sz) none (wM cI cB cZ q y1)) 0 0 (va_A (wM cI cB cZ q z) sz) := by
  unfold fX9_derives at hf
  refine metW (ret := none) (own := RX9) rfl (by decide) rfl (Nat.le_of_ble_eq_true rfl) (fun p e s m args below meth c ls A hx hb hr hml hown hlocks hts hK hA hP hD hS hl => ?_)
  have k32 := (hts (.fieldLink RX9 32 "ResolutionProverModel" "isIn" "[Z") (List.mem_of_getElem? (i := 1) rfl))
  have k9 := (hts (.fieldLink RX9 9 "ResolutionProverModel" "now" "[I") (List.mem_of_getElem? (i := 2) rfl))
  have hiX9 : ∀ w ∈ wsX90, w ∈ wsX9_derives := (memIn_p [3, 4, 5, 6, 7, 8, 9, 10, 11, 12, 13, 14, 15, 16, 17, 18, 19, 20, 21, 22, 23, 24, 25, 26, 27, 28, 29] rfl)
  have hl : lv_has ls 3 [(0, .ref (q 0)), (1, .int p1)] := hl
  refine lv_iconst (v := 0) hx hb dX9_derives_0 (by decide) ?_
  refine lv_istore_n (lv' := [(2, .int (0 : Int32)), (0, .ref (q 0)), (1, .int p1)]) hx hb dX9_derives_1 rfl hl (by decide) rfl (fun ls hl => ?_)
  obtain ⟨j30, ej30, hf⟩ := jn_ob hf
  have hp30 : ∀ (z1_30 : OS) (H : Heap) (locs : List Loc) (ls : Array Slot), j30 z1_30 = some y1 → va_P D vwCl (wM cI cB cZ q z1_30) H → va_D A (wM cI cB cZ q z1_30) → va_S A s.heap H locs → lv_has ls 3 [(0, .ref (q 0)), (1, .int p1)] → W p l e (headSpec wsX9_derives { frames := 0, cells := 0, slots := 0, locals := 0 }).room s m args below meth c H locs 0 0 (MQ below (Qw D A none (wM cI cB cZ q y1)) args s 0 0 A) (F0 m 30 ls []) := by
    intro z1_30 H locs ls hf hP hD hS hl
    rw [ej30] at hf
    refine lv_iload_n hx hb dX9_derives_30 rfl (lv_at hl 1 rfl) ?_
    refine lv_istore_n (lv' := [(2, .int p1), (0, .ref (q 0)), (1, .int p1)]) hx hb dX9_derives_31 rfl hl (by decide) rfl (fun ls hl => ?_)
    obtain ⟨j97, ej97, hf⟩ := jn_ob hf
    have hp97 : ∀ (z1_97 : OS) (H : Heap) (locs : List Loc) (ls : Array Slot), j97 z1_97 = some y1 → va_P D vwCl (wM cI cB cZ q z1_97) H → va_D A (wM cI cB cZ q z1_97) → va_S A s.heap H locs → lv_has ls 3 [] → W p l e (headSpec wsX9_derives { frames := 0, cells := 0, slots := 0, locals := 0 }).room s m args below meth c H locs 0 0 (MQ below (Qw D A none (wM cI cB cZ q y1)) args s 0 0 A) (F0 m 97 ls []) := by
      intro z1_97 H locs ls hf hP hD hS hl
      rw [ej97] at hf
      exact rW_v hx hb hr hlocks hP hD hS (congrArg (fun (q9 : (OS)) => wM cI cB cZ q q9) (so_ob hf)) dX9_derives_97
    have hL32 : ∀ (n_32 : Nat) (v2_32 : Int32) (z1_32 : OS) (H : Heap) (locs : List Loc) (ls : Array Slot), lX9_derives_32 j97 n_32 v2_32 z1_32 = some y1 → va_P D vwCl (wM cI cB cZ q z1_32) H → va_D A (wM cI cB cZ q z1_32) → va_S A s.heap H locs → lv_has ls 3 [(0, .ref (q 0)), (2, .int v2_32)] → W p l e (headSpec wsX9_derives { frames := 0, cells := 0, slots := 0, locals := 0 }).room s m args below meth c H locs 0 0 (MQ below (Qw D A none (wM cI cB cZ q y1)) args s 0 0 A) (F0 m 32 ls []) := by
      intro n_32
      induction n_32 with
      | zero =>
        intro v2_32 z1_32 H locs ls hf
        exact no_ob hf
      | succ n_32 ih32 =>
        intro v2_32 z1_32 H locs ls hf hP hD hS hl
        rw [lX9_derives_32] at hf
        refine lv_iload_n hx hb dX9_derives_32 rfl (lv_at hl 1 rfl) ?_
        refine lv_if_lt (tgt := 97) hx hb dX9_derives_33 (by decide) (fun c_33 => ?_) (fun c_33 => ?_)
        · have hf := ip c_33 hf
          exact hp97 z1_32 _ _ _ hf hP hD hS (lv_sub hl [] rfl)
        · have hf := iq c_33 hf
          refine lv_aload_n hx hb dX9_derives_36 rfl (lv_at hl 0 rfl) ?_
          refine va_get (D := D) (ci := 8) (v := .ref (q 8)) (C := RX9) (T := TX9) (N := 27) hx hb hts hiX9 hown hK hP 0 rfl rfl 11 (by decide) k32 (fun _ h9 => h9) rfl dX9_derives_37 ?_
          refine lv_iload_n hx hb dX9_derives_40 rfl (lv_at hl 1 rfl) ?_
          obtain ⟨hi_, hf⟩ := gd_ob hf
          refine va_zald hx hb hK hP 8 2 rfl rfl (inB_in hi_) dX9_derives_41 ?_
          obtain ⟨j91, ej91, hf⟩ := jn_ob hf
          have hp91 : ∀ (v2_91 : Int32) (z1_91 : OS) (H : Heap) (locs : List Loc) (ls : Array Slot), j91 v2_91 z1_91 = some y1 → va_P D vwCl (wM cI cB cZ q z1_91) H → va_D A (wM cI cB cZ q z1_91) → va_S A s.heap H locs → lv_has ls 3 [(0, .ref (q 0)), (2, .int v2_91)] → W p l e (headSpec wsX9_derives { frames := 0, cells := 0, slots := 0, locals := 0 }).room s m args below meth c H locs 0 0 (MQ below (Qw D A none (wM cI cB cZ q y1)) args s 0 0 A) (F0 m 91 ls []) := by
            intro v2_91 z1_91 H locs ls hf hP hD hS hl
            rw [ej91] at hf
            obtain ⟨v2_1, ev2_1, hf⟩ := nm_ob hf
            refine lv_iinc (v := v2_1) (lv' := [(2, .int v2_1), (0, .ref (q 0))]) hx hb dX9_derives_91 hl (k := 1) rfl (by rw [ev2_1]; rfl) (by decide) rfl (fun ls hl => ?_)
            refine lv_goto (tgt := 32) hx hb dX9_derives_94 (by decide) ?_
            exact ih32 v2_1 z1_91 _ _ _ hf hP hD hS (lv_sub hl [1, 0] rfl)
          refine lv_if_eq (tgt := 91) hx hb dX9_derives_42 (by decide) (fun c_42 => ?_) (fun c_42 => ?_)
          · have hf := ip c_42 hf
            exact hp91 v2_32 z1_32 _ _ _ hf hP hD hS hl
          · have hf := iq c_42 hf
            refine lv_aload_n hx hb dX9_derives_45 rfl (lv_at hl 0 rfl) ?_
            refine va_get (D := D) (ci := 8) (v := .ref (q 1)) (C := RX9) (T := TX9) (N := 27) hx hb hts hiX9 hown hK hP 0 rfl rfl 1 (by decide) k9 (fun _ h9 => h9) rfl dX9_derives_46 ?_
            refine lv_sipush (v := 856) hx hb dX9_derives_49 (by decide) ?_
            refine lv_iload_n hx hb dX9_derives_52 rfl (lv_at hl 1 rfl) ?_
            refine lv_iadd hx hb dX9_derives_53 ?_
            obtain ⟨hi_, hf⟩ := gd_ob hf
            refine va_iald hx hb hK hP 1 0 rfl rfl (inB_in hi_) dX9_derives_54 ?_
            refine lv_iconst (v := (-1)) hx hb dX9_derives_55 (by decide) ?_
            refine lv_icmp_eq (tgt := 91) hx hb dX9_derives_56 (by decide) (fun c_56 => ?_) (fun c_56 => ?_)
            · have hf := ip c_56 hf
              exact hp91 v2_32 z1_32 _ _ _ hf hP hD hS hl
            · have hf := iq c_56 hf
              refine lv_aload_n hx hb dX9_derives_59 rfl (lv_at hl 0 rfl) ?_
              refine va_get (D := D) (ci := 8) (v := .ref (q 8)) (C := RX9) (T := TX9) (N := 27) hx hb hts hiX9 hown hK hP 0 rfl rfl 11 (by decide) k32 (fun _ h9 => h9) rfl dX9_derives_60 ?_
              refine lv_aload_n hx hb dX9_derives_63 rfl (lv_at hl 0 rfl) ?_
              refine va_get (D := D) (ci := 8) (v := .ref (q 1)) (C := RX9) (T := TX9) (N := 27) hx hb hts hiX9 hown hK hP 0 rfl rfl 1 (by decide) k9 (fun _ h9 => h9) rfl dX9_derives_64 ?_
              refine lv_sipush (v := 734) hx hb dX9_derives_67 (by decide) ?_
              refine lv_iload_n hx hb dX9_derives_70 rfl (lv_at hl 1 rfl) ?_
              refine lv_iadd hx hb dX9_derives_71 ?_
              obtain ⟨hi_, hf⟩ := gd_ob hf
              refine va_iald hx hb hK hP 1 0 rfl rfl (inB_in hi_) dX9_derives_72 ?_
              refine lv_iconst (v := 1) hx hb dX9_derives_73 (by decide) ?_
              obtain ⟨hi_, hf⟩ := gd_ob hf
              refine va_zast hx hb hK hP hD hS 8 2 rfl rfl (inB_in hi_) dX9_derives_74 (fun H locs hP hD hS => ?_)
              obtain ⟨z_2, ez_2, hf⟩ := nm_ob hf
              have hP : va_P D vwCl (wM cI cB cZ q z_2) H := by rw [ez_2]; exact hP
              have hD : va_D A (wM cI cB cZ q z_2) := by rw [ez_2]; exact hD
              refine lv_aload_n hx hb dX9_derives_75 rfl (lv_at hl 0 rfl) ?_
              refine va_get (D := D) (ci := 8) (v := .ref (q 8)) (C := RX9) (T := TX9) (N := 27) hx hb hts hiX9 hown hK hP 0 rfl rfl 11 (by decide) k32 (fun _ h9 => h9) rfl dX9_derives_76 ?_
              refine lv_aload_n hx hb dX9_derives_79 rfl (lv_at hl 0 rfl) ?_
              refine va_get (D := D) (ci := 8) (v := .ref (q 1)) (C := RX9) (T := TX9) (N := 27) hx hb hts hiX9 hown hK hP 0 rfl rfl 1 (by decide) k9 (fun _ h9 => h9) rfl dX9_derives_80 ?_
              refine lv_sipush (v := 795) hx hb dX9_derives_83 (by decide) ?_
              refine lv_iload_n hx hb dX9_derives_86 rfl (lv_at hl 1 rfl) ?_
              refine lv_iadd hx hb dX9_derives_87 ?_
              obtain ⟨hi_, hf⟩ := gd_ob hf
              refine va_iald hx hb hK hP 1 0 rfl rfl (inB_in hi_) dX9_derives_88 ?_
              refine lv_iconst (v := 1) hx hb dX9_derives_89 (by decide) ?_
              obtain ⟨hi_, hf⟩ := gd_ob hf
              refine va_zast hx hb hK hP hD hS 8 2 rfl rfl (inB_in hi_) dX9_derives_90 (fun H locs hP hD hS => ?_)
              obtain ⟨z_3, ez_3, hf⟩ := nm_ob hf
              have hP : va_P D vwCl (wM cI cB cZ q z_3) H := by rw [ez_3]; exact hP
              have hD : va_D A (wM cI cB cZ q z_3) := by rw [ez_3]; exact hD
              exact hp91 v2_32 z_3 _ _ _ hf hP hD hS hl
    exact hL32 fu p1 z1_30 _ _ _ hf hP hD hS (lv_sub hl [1, 0] rfl)
  have hL2 : ∀ (n_2 : Nat) (v2_2 : Int32) (z1_2 : OS) (H : Heap) (locs : List Loc) (ls : Array Slot), lX9_derives_2 p1 j30 n_2 v2_2 z1_2 = some y1 → va_P D vwCl (wM cI cB cZ q z1_2) H → va_D A (wM cI cB cZ q z1_2) → va_S A s.heap H locs → lv_has ls 3 [(0, .ref (q 0)), (1, .int p1), (2, .int v2_2)] → W p l e (headSpec wsX9_derives { frames := 0, cells := 0, slots := 0, locals := 0 }).room s m args below meth c H locs 0 0 (MQ below (Qw D A none (wM cI cB cZ q y1)) args s 0 0 A) (F0 m 2 ls []) := by
    intro n_2
    induction n_2 with
    | zero =>
      intro v2_2 z1_2 H locs ls hf
      exact no_ob hf
    | succ n_2 ih2 =>
      intro v2_2 z1_2 H locs ls hf hP hD hS hl
      rw [lX9_derives_2] at hf
      refine lv_iload_n hx hb dX9_derives_2 rfl (lv_at hl 2 rfl) ?_
      refine lv_bipush (v := 60) hx hb dX9_derives_3 (by decide) ?_
      refine lv_icmp_ge (tgt := 30) hx hb dX9_derives_5 (by decide) (fun c_5 => ?_) (fun c_5 => ?_)
      · have hf := ip c_5 hf
        exact hp30 z1_2 _ _ _ hf hP hD hS (lv_sub hl [0, 1] rfl)
      · have hf := iq c_5 hf
        refine lv_aload_n hx hb dX9_derives_8 rfl (lv_at hl 0 rfl) ?_
        refine va_get (D := D) (ci := 8) (v := .ref (q 8)) (C := RX9) (T := TX9) (N := 27) hx hb hts hiX9 hown hK hP 0 rfl rfl 11 (by decide) k32 (fun _ h9 => h9) rfl dX9_derives_9 ?_
        refine lv_iload_n hx hb dX9_derives_12 rfl (lv_at hl 2 rfl) ?_
        refine lv_iload_n hx hb dX9_derives_13 rfl (lv_at hl 2 rfl) ?_
        refine lv_iload_n hx hb dX9_derives_14 rfl (lv_at hl 1 rfl) ?_
        obtain ⟨j23, ej23, hf⟩ := jn_ob hf
        have hp23 : ∀ (t1_23 : Int32) (t2_23 : Int32) (H : Heap) (locs : List Loc) (ls : Array Slot), j23 t1_23 t2_23 = some y1 → va_P D vwCl (wM cI cB cZ q z1_2) H → va_D A (wM cI cB cZ q z1_2) → va_S A s.heap H locs → lv_has ls 3 [(0, .ref (q 0)), (1, .int p1), (2, .int v2_2)] → W p l e (headSpec wsX9_derives { frames := 0, cells := 0, slots := 0, locals := 0 }).room s m args below meth c H locs 0 0 (MQ below (Qw D A none (wM cI cB cZ q y1)) args s 0 0 A) (F0 m 23 ls [.int t2_23, .int t1_23, .ref (q 8)]) := by
          intro t1_23 t2_23 H locs ls hf hP hD hS hl
          rw [ej23] at hf
          obtain ⟨hi_, hf⟩ := gd_ob hf
          refine va_zast hx hb hK hP hD hS 8 2 rfl rfl (inB_in hi_) dX9_derives_23 (fun H locs hP hD hS => ?_)
          obtain ⟨z_4, ez_4, hf⟩ := nm_ob hf
          have hP : va_P D vwCl (wM cI cB cZ q z_4) H := by rw [ez_4]; exact hP
          have hD : va_D A (wM cI cB cZ q z_4) := by rw [ez_4]; exact hD
          obtain ⟨v2_5, ev2_5, hf⟩ := nm_ob hf
          refine lv_iinc (v := v2_5) (lv' := [(2, .int v2_5), (0, .ref (q 0)), (1, .int p1)]) hx hb dX9_derives_24 hl (k := 2) rfl (by rw [ev2_5]; rfl) (by decide) rfl (fun ls hl => ?_)
          refine lv_goto (tgt := 2) hx hb dX9_derives_27 (by decide) ?_
          exact ih2 v2_5 z_4 _ _ _ hf hP hD hS (lv_sub hl [1, 2, 0] rfl)
        refine lv_icmp_ne (tgt := 22) hx hb dX9_derives_15 (by decide) (fun c_15 => ?_) (fun c_15 => ?_)
        · have hf := ip c_15 hf
          refine lv_iconst (v := 0) hx hb dX9_derives_22 (by decide) ?_
          exact hp23 v2_2 (0 : Int32) _ _ _ hf hP hD hS hl
        · have hf := iqn c_15 hf
          refine lv_iconst (v := 1) hx hb dX9_derives_18 (by decide) ?_
          refine lv_goto (tgt := 23) hx hb dX9_derives_19 (by decide) ?_
          exact hp23 v2_2 (1 : Int32) _ _ _ hf hP hD hS hl
  exact hL2 fu (0 : Int32) z _ _ _ hf hP hD hS (lv_sub hl [1, 2, 0] rfl)

def lX9_holds_2 (fu : Nat) (z : OS) (p1 : Int32) (p2 : Int32) (j50 : Option (Int32)) : Nat → Int32 → Option (Int32)
  | 0, _ => none
  | n_2 + 1, v3_2 => bd (fX9_wide fu z) (fun (r_1 : Int32) => (if r_1 ≤ v3_2 then j50 else bd (fX9_sign fu z p1 v3_2) (fun (r_3 : Int32) => jn (κ := Option (Int32)) (nm (v3_2 + (1 : Int32)) (fun (v3_5 : Int32) => lX9_holds_2 fu z p1 p2 j50 n_2 v3_5)) (fun j44 => (if r_3 = (0 : Int32) then j44 else jn (κ := Int32 → Int32 → Option (Int32)) (fun (t0_39 : Int32) (t1_39 : Int32) => (if ¬ t0_39 = t1_39 then j44 else gd (isZ (1 : Int32)) (some (1 : Int32)))) (fun j39 => (if ¬ r_3 = (1 : Int32) then j39 ((p2 >>> (v3_2 &&& (31 : Int32))) &&& (1 : Int32)) (0 : Int32) else j39 ((p2 >>> (v3_2 &&& (31 : Int32))) &&& (1 : Int32)) (1 : Int32))))))))
def fX9_holds (fu : Nat) (z : OS) (p1 : Int32) (p2 : Int32) : Option (Int32) :=
  jn (κ := Option (Int32)) (gd (isZ (0 : Int32)) (some (0 : Int32))) (fun j50 => lX9_holds_2 fu z p1 p2 j50 fu (0 : Int32))
set_option maxRecDepth 100000 in
set_option maxHeartbeats 4000000 in
theorem mX9_holds (l : Launch) (D : va_G) (cI cB cZ cO : ClassId) (q : Nat → Nat) (fu : Nat) (z : OS) (p1 : Int32) (p2 : Int32) {r : Int32} (hf : fX9_holds fu z p1 p2 = some r) : Met l yX9_holds wsX9_holds ({ frames := 1, cells := 0, slots := 0, locals := 22 }) (va_Pc [.ref (q 0), .int p1, .int p2] (Pr D (gT cI cB cZ cO) (wM cI cB cZ q z))) (Qr (some (.int r))) 0 0 (fun _ => False) := by
  unfold fX9_holds at hf
  refine metR (ret := (some .boolean)) (own := RX9) rfl (by decide) rfl (Nat.le_of_ble_eq_true rfl) (fun p e s m args below meth c ls hx hb hr hml hown hlocks hts hP hK hl => ?_)
  have hl : lv_has ls 5 [(0, .ref (q 0)), (1, .int p1), (2, .int p2)] := hl
  refine lv_iconst (v := 0) hx hb dX9_holds_0 (by decide) ?_
  refine lv_istore_n (lv' := [(3, .int (0 : Int32)), (0, .ref (q 0)), (1, .int p1), (2, .int p2)]) hx hb dX9_holds_1 rfl hl (by decide) rfl (fun ls hl => ?_)
  obtain ⟨j50, ej50, hf⟩ := jn_ob hf
  have hp50 : ∀  (ls : Array Slot), j50 = some r → lv_has ls 5 [] → W p l e (headSpec wsX9_holds { frames := 1, cells := 0, slots := 0, locals := 22 }).room s m args below meth c s.heap [] 0 0 (MQ below (Qr (some (.int r))) args s 0 0 (fun _ => False)) (F0 m 50 ls []) := by
    intro ls hf hl
    rw [ej50] at hf
    refine lv_iconst (v := 0) hx hb dX9_holds_50 (by decide) ?_
    obtain ⟨hz, hf⟩ := gd_ob hf
    exact rR_z hx hb hr hlocks hz (so_ob hf) dX9_holds_51
  have hL2 : ∀ (n_2 : Nat) (v3_2 : Int32) (ls : Array Slot), lX9_holds_2 fu z p1 p2 j50 n_2 v3_2 = some r → lv_has ls 5 [(0, .ref (q 0)), (1, .int p1), (2, .int p2), (3, .int v3_2)] → W p l e (headSpec wsX9_holds { frames := 1, cells := 0, slots := 0, locals := 22 }).room s m args below meth c s.heap [] 0 0 (MQ below (Qr (some (.int r))) args s 0 0 (fun _ => False)) (F0 m 2 ls []) := by
    intro n_2
    induction n_2 with
    | zero =>
      intro v3_2 ls hf
      exact no_ob hf
    | succ n_2 ih2 =>
      intro v3_2 ls hf hl
      rw [lX9_holds_2] at hf
      refine lv_iload_n hx hb dX9_holds_2 rfl (lv_at hl 3 rfl) ?_
      refine lv_aload_n hx hb dX9_holds_3 rfl (lv_at hl 0 rfl) ?_
      obtain ⟨r_1, hc_2, hf⟩ := bd_ob hf
      refine rdV (As := []) (rest := [.int v3_2]) ⟨hx, hb, hml, hown, hts⟩ (mX9_wide l D cI cB cZ cO q fu z hc_2) (cwV 0 hts gX9_holds_X9_wide rfl rfl rfl (by decide +kernel) ⟨Nat.le_of_ble_eq_true rfl, Nat.le_of_ble_eq_true rfl⟩) hK hP (va_recv hK hP (ci := 8) (q0 := 0) rfl rfl) rfl hl.1 rfl (Nat.le_of_ble_eq_true rfl) dX9_holds_4 ⟨Nat.zero_le _, Nat.zero_le _⟩ ?_
      refine lv_icmp_ge (tgt := 50) hx hb dX9_holds_7 (by decide) (fun c_7 => ?_) (fun c_7 => ?_)
      · have hf := ip c_7 hf
        exact hp50 _ hf (lv_sub hl [] rfl)
      · have hf := iq c_7 hf
        refine lv_aload_n hx hb dX9_holds_10 rfl (lv_at hl 0 rfl) ?_
        refine lv_iload_n hx hb dX9_holds_11 rfl (lv_at hl 1 rfl) ?_
        refine lv_iload_n hx hb dX9_holds_12 rfl (lv_at hl 3 rfl) ?_
        obtain ⟨r_3, hc_4, hf⟩ := bd_ob hf
        refine rdV (As := [.int p1, .int v3_2]) (rest := []) ⟨hx, hb, hml, hown, hts⟩ (mX9_sign l D cI cB cZ cO q fu z p1 v3_2 hc_4) (cwV 2 hts gX9_holds_X9_sign rfl rfl rfl (by decide +kernel) ⟨Nat.le_of_ble_eq_true rfl, Nat.le_of_ble_eq_true rfl⟩) hK hP (va_recv hK hP (ci := 8) (q0 := 0) rfl rfl) rfl hl.1 rfl (Nat.le_of_ble_eq_true rfl) dX9_holds_13 ⟨Nat.zero_le _, Nat.zero_le _⟩ ?_
        refine lv_istore (lv' := [(4, .int r_3), (0, .ref (q 0)), (1, .int p1), (2, .int p2), (3, .int v3_2)]) hx hb dX9_holds_16 hl (by decide) rfl (fun ls hl => ?_)
        refine lv_iload hx hb dX9_holds_18 (lv_at hl 0 rfl) ?_
        obtain ⟨j44, ej44, hf⟩ := jn_ob hf
        have hp44 : ∀  (ls : Array Slot), j44 = some r → lv_has ls 5 [(0, .ref (q 0)), (1, .int p1), (2, .int p2), (3, .int v3_2)] → W p l e (headSpec wsX9_holds { frames := 1, cells := 0, slots := 0, locals := 22 }).room s m args below meth c s.heap [] 0 0 (MQ below (Qr (some (.int r))) args s 0 0 (fun _ => False)) (F0 m 44 ls []) := by
          intro ls hf hl
          rw [ej44] at hf
          obtain ⟨v3_5, ev3_5, hf⟩ := nm_ob hf
          refine lv_iinc (v := v3_5) (lv' := [(3, .int v3_5), (0, .ref (q 0)), (1, .int p1), (2, .int p2)]) hx hb dX9_holds_44 hl (k := 3) rfl (by rw [ev3_5]; rfl) (by decide) rfl (fun ls hl => ?_)
          refine lv_goto (tgt := 2) hx hb dX9_holds_47 (by decide) ?_
          exact ih2 v3_5 _ hf (lv_sub hl [1, 2, 3, 0] rfl)
        refine lv_if_eq (tgt := 44) hx hb dX9_holds_20 (by decide) (fun c_20 => ?_) (fun c_20 => ?_)
        · have hf := ip c_20 hf
          exact hp44 _ hf (lv_sub hl [1, 2, 3, 4] rfl)
        · have hf := iq c_20 hf
          refine lv_iload_n hx hb dX9_holds_23 rfl (lv_at hl 3 rfl) ?_
          refine lv_iload_n hx hb dX9_holds_24 rfl (lv_at hl 4 rfl) ?_
          refine lv_ishr hx hb dX9_holds_25 ?_
          refine lv_iconst (v := 1) hx hb dX9_holds_26 (by decide) ?_
          refine lv_iand hx hb dX9_holds_27 ?_
          refine lv_iload hx hb dX9_holds_28 (lv_at hl 0 rfl) ?_
          refine lv_iconst (v := 1) hx hb dX9_holds_30 (by decide) ?_
          obtain ⟨j39, ej39, hf⟩ := jn_ob hf
          have hp39 : ∀ (t0_39 : Int32) (t1_39 : Int32) (ls : Array Slot), j39 t0_39 t1_39 = some r → lv_has ls 5 [(0, .ref (q 0)), (1, .int p1), (2, .int p2), (3, .int v3_2)] → W p l e (headSpec wsX9_holds { frames := 1, cells := 0, slots := 0, locals := 22 }).room s m args below meth c s.heap [] 0 0 (MQ below (Qr (some (.int r))) args s 0 0 (fun _ => False)) (F0 m 39 ls [.int t1_39, .int t0_39]) := by
            intro t0_39 t1_39 ls hf hl
            rw [ej39] at hf
            refine lv_icmp_ne (tgt := 44) hx hb dX9_holds_39 (by decide) (fun c_39 => ?_) (fun c_39 => ?_)
            · have hf := ip c_39 hf
              exact hp44 _ hf hl
            · have hf := iqn c_39 hf
              refine lv_iconst (v := 1) hx hb dX9_holds_42 (by decide) ?_
              obtain ⟨hz, hf⟩ := gd_ob hf
              exact rR_z hx hb hr hlocks hz (so_ob hf) dX9_holds_43
          refine lv_icmp_ne (tgt := 38) hx hb dX9_holds_31 (by decide) (fun c_31 => ?_) (fun c_31 => ?_)
          · have hf := ip c_31 hf
            refine lv_iconst (v := 0) hx hb dX9_holds_38 (by decide) ?_
            exact hp39 ((p2 >>> (v3_2 &&& (31 : Int32))) &&& (1 : Int32)) (0 : Int32) _ hf (lv_sub hl [1, 2, 3, 4] rfl)
          · have hf := iqn c_31 hf
            refine lv_iconst (v := 1) hx hb dX9_holds_34 (by decide) ?_
            refine lv_goto (tgt := 39) hx hb dX9_holds_35 (by decide) ?_
            exact hp39 ((p2 >>> (v3_2 &&& (31 : Int32))) &&& (1 : Int32)) (1 : Int32) _ hf (lv_sub hl [1, 2, 3, 4] rfl)
  exact hL2 fu (0 : Int32) _ hf (lv_sub hl [1, 2, 3, 0] rfl)

def lX9_isModel_2 (fu : Nat) (z : OS) (p1 : Int32) (p2 : Int32) (j32 : Option (Int32)) : Nat → Int32 → Option (Int32)
  | 0, _ => none
  | n_2 + 1, v3_2 => bd (fX9_many fu z) (fun (r_1 : Int32) => (if r_1 ≤ v3_2 then j32 else jn (κ := Option (Int32)) (nm (v3_2 + (1 : Int32)) (fun (v3_3 : Int32) => lX9_isModel_2 fu z p1 p2 j32 n_2 v3_3)) (fun j26 => (if v3_2 = p2 then j26 else bd (fX9_holds fu z v3_2 p1) (fun (r_4 : Int32) => (if ¬ r_4 = (0 : Int32) then j26 else gd (isZ (0 : Int32)) (some (0 : Int32))))))))
def fX9_isModel (fu : Nat) (z : OS) (p1 : Int32) (p2 : Int32) : Option (Int32) :=
  jn (κ := Option (Int32)) (gd (isZ (1 : Int32)) (some (1 : Int32))) (fun j32 => lX9_isModel_2 fu z p1 p2 j32 fu (0 : Int32))
set_option maxRecDepth 100000 in
set_option maxHeartbeats 4000000 in
theorem mX9_isModel (l : Launch) (D : va_G) (cI cB cZ cO : ClassId) (q : Nat → Nat) (fu : Nat) (z : OS) (p1 : Int32) (p2 : Int32) {r : Int32} (hf : fX9_isModel fu z p1 p2 = some r) : Met l yX9_isModel wsX9_isModel ({ frames := 2, cells := 0, slots := 0, locals := 46 }) (va_Pc [.ref (q 0), .int p1, .int p2] (Pr D (gT cI cB cZ cO) (wM cI cB cZ q z))) (Qr (some (.int r))) 0 0 (fun _ => False) := by
  unfold fX9_isModel at hf
  refine metR (ret := (some .boolean)) (own := RX9) rfl (by decide) rfl (Nat.le_of_ble_eq_true rfl) (fun p e s m args below meth c ls hx hb hr hml hown hlocks hts hP hK hl => ?_)
  have hl : lv_has ls 4 [(0, .ref (q 0)), (1, .int p1), (2, .int p2)] := hl
  refine lv_iconst (v := 0) hx hb dX9_isModel_0 (by decide) ?_
  refine lv_istore_n (lv' := [(3, .int (0 : Int32)), (0, .ref (q 0)), (1, .int p1), (2, .int p2)]) hx hb dX9_isModel_1 rfl hl (by decide) rfl (fun ls hl => ?_)
  obtain ⟨j32, ej32, hf⟩ := jn_ob hf
  have hp32 : ∀  (ls : Array Slot), j32 = some r → lv_has ls 4 [] → W p l e (headSpec wsX9_isModel { frames := 2, cells := 0, slots := 0, locals := 46 }).room s m args below meth c s.heap [] 0 0 (MQ below (Qr (some (.int r))) args s 0 0 (fun _ => False)) (F0 m 32 ls []) := by
    intro ls hf hl
    rw [ej32] at hf
    refine lv_iconst (v := 1) hx hb dX9_isModel_32 (by decide) ?_
    obtain ⟨hz, hf⟩ := gd_ob hf
    exact rR_z hx hb hr hlocks hz (so_ob hf) dX9_isModel_33
  have hL2 : ∀ (n_2 : Nat) (v3_2 : Int32) (ls : Array Slot), lX9_isModel_2 fu z p1 p2 j32 n_2 v3_2 = some r → lv_has ls 4 [(0, .ref (q 0)), (1, .int p1), (2, .int p2), (3, .int v3_2)] → W p l e (headSpec wsX9_isModel { frames := 2, cells := 0, slots := 0, locals := 46 }).room s m args below meth c s.heap [] 0 0 (MQ below (Qr (some (.int r))) args s 0 0 (fun _ => False)) (F0 m 2 ls []) := by
    intro n_2
    induction n_2 with
    | zero =>
      intro v3_2 ls hf
      exact no_ob hf
    | succ n_2 ih2 =>
      intro v3_2 ls hf hl
      rw [lX9_isModel_2] at hf
      refine lv_iload_n hx hb dX9_isModel_2 rfl (lv_at hl 3 rfl) ?_
      refine lv_aload_n hx hb dX9_isModel_3 rfl (lv_at hl 0 rfl) ?_
      obtain ⟨r_1, hc_2, hf⟩ := bd_ob hf
      refine rdV (As := []) (rest := [.int v3_2]) ⟨hx, hb, hml, hown, hts⟩ (mX9_many l D cI cB cZ cO q fu z hc_2) (cwV 0 hts gX9_isModel_X9_many rfl rfl rfl (by decide +kernel) ⟨Nat.le_of_ble_eq_true rfl, Nat.le_of_ble_eq_true rfl⟩) hK hP (va_recv hK hP (ci := 8) (q0 := 0) rfl rfl) rfl hl.1 rfl (Nat.le_of_ble_eq_true rfl) dX9_isModel_4 ⟨Nat.zero_le _, Nat.zero_le _⟩ ?_
      refine lv_icmp_ge (tgt := 32) hx hb dX9_isModel_7 (by decide) (fun c_7 => ?_) (fun c_7 => ?_)
      · have hf := ip c_7 hf
        exact hp32 _ hf (lv_sub hl [] rfl)
      · have hf := iq c_7 hf
        refine lv_iload_n hx hb dX9_isModel_10 rfl (lv_at hl 3 rfl) ?_
        refine lv_iload_n hx hb dX9_isModel_11 rfl (lv_at hl 2 rfl) ?_
        obtain ⟨j26, ej26, hf⟩ := jn_ob hf
        have hp26 : ∀  (ls : Array Slot), j26 = some r → lv_has ls 4 [(0, .ref (q 0)), (1, .int p1), (2, .int p2), (3, .int v3_2)] → W p l e (headSpec wsX9_isModel { frames := 2, cells := 0, slots := 0, locals := 46 }).room s m args below meth c s.heap [] 0 0 (MQ below (Qr (some (.int r))) args s 0 0 (fun _ => False)) (F0 m 26 ls []) := by
          intro ls hf hl
          rw [ej26] at hf
          obtain ⟨v3_3, ev3_3, hf⟩ := nm_ob hf
          refine lv_iinc (v := v3_3) (lv' := [(3, .int v3_3), (0, .ref (q 0)), (1, .int p1), (2, .int p2)]) hx hb dX9_isModel_26 hl (k := 3) rfl (by rw [ev3_3]; rfl) (by decide) rfl (fun ls hl => ?_)
          refine lv_goto (tgt := 2) hx hb dX9_isModel_29 (by decide) ?_
          exact ih2 v3_3 _ hf (lv_sub hl [1, 2, 3, 0] rfl)
        refine lv_icmp_eq (tgt := 26) hx hb dX9_isModel_12 (by decide) (fun c_12 => ?_) (fun c_12 => ?_)
        · have hf := ip c_12 hf
          exact hp26 _ hf hl
        · have hf := iq c_12 hf
          refine lv_aload_n hx hb dX9_isModel_15 rfl (lv_at hl 0 rfl) ?_
          refine lv_iload_n hx hb dX9_isModel_16 rfl (lv_at hl 3 rfl) ?_
          refine lv_iload_n hx hb dX9_isModel_17 rfl (lv_at hl 1 rfl) ?_
          obtain ⟨r_4, hc_5, hf⟩ := bd_ob hf
          refine rdV (As := [.int v3_2, .int p1]) (rest := []) ⟨hx, hb, hml, hown, hts⟩ (mX9_holds l D cI cB cZ cO q fu z v3_2 p1 hc_5) (cwV 2 hts gX9_isModel_X9_holds rfl rfl rfl (by decide +kernel) ⟨Nat.le_of_ble_eq_true rfl, Nat.le_of_ble_eq_true rfl⟩) hK hP (va_recv hK hP (ci := 8) (q0 := 0) rfl rfl) rfl hl.1 rfl (Nat.le_of_ble_eq_true rfl) dX9_isModel_18 ⟨Nat.zero_le _, Nat.zero_le _⟩ ?_
          refine lv_if_ne (tgt := 26) hx hb dX9_isModel_21 (by decide) (fun c_21 => ?_) (fun c_21 => ?_)
          · have hf := ip c_21 hf
            exact hp26 _ hf hl
          · have hf := iqn c_21 hf
            refine lv_iconst (v := 0) hx hb dX9_isModel_24 (by decide) ?_
            obtain ⟨hz, hf⟩ := gd_ob hf
            exact rR_z hx hb hr hlocks hz (so_ob hf) dX9_isModel_25
  exact hL2 fu (0 : Int32) _ hf (lv_sub hl [1, 2, 3, 0] rfl)

def fX9_assignments (fu : Nat) (z : OS) : Option (Int32) :=
  bd (fX9_wide fu z) (fun (r_1 : Int32) => some ((1 : Int32) <<< (r_1 &&& (31 : Int32))))
set_option maxRecDepth 100000 in
set_option maxHeartbeats 4000000 in
theorem mX9_assignments (l : Launch) (D : va_G) (cI cB cZ cO : ClassId) (q : Nat → Nat) (fu : Nat) (z : OS) {r : Int32} (hf : fX9_assignments fu z = some r) : Met l yX9_assignments wsX9_assignments ({ frames := 1, cells := 0, slots := 0, locals := 20 }) (va_Pc [.ref (q 0)] (Pr D (gT cI cB cZ cO) (wM cI cB cZ q z))) (Qr (some (.int r))) 0 0 (fun _ => False) := by
  unfold fX9_assignments at hf
  refine metR (ret := (some .int)) (own := RX9) rfl (by decide) rfl (Nat.le_of_ble_eq_true rfl) (fun p e s m args below meth c ls hx hb hr hml hown hlocks hts hP hK hl => ?_)
  have hl : lv_has ls 1 [(0, .ref (q 0))] := hl
  refine lv_iconst (v := 1) hx hb dX9_assignments_0 (by decide) ?_
  refine lv_aload_n hx hb dX9_assignments_1 rfl (lv_at hl 0 rfl) ?_
  obtain ⟨r_1, hc_2, hf⟩ := bd_ob hf
  refine rdV (As := []) (rest := [.int (1 : Int32)]) ⟨hx, hb, hml, hown, hts⟩ (mX9_wide l D cI cB cZ cO q fu z hc_2) (cwV 0 hts gX9_assignments_X9_wide rfl rfl rfl (by decide +kernel) ⟨Nat.le_of_ble_eq_true rfl, Nat.le_of_ble_eq_true rfl⟩) hK hP (va_recv hK hP (ci := 8) (q0 := 0) rfl rfl) rfl hl.1 rfl (Nat.le_of_ble_eq_true rfl) dX9_assignments_2 ⟨Nat.zero_le _, Nat.zero_le _⟩ ?_
  refine lv_ishl hx hb dX9_assignments_5 ?_
  exact rR_i hx hb hr hlocks (so_ob hf) dX9_assignments_6

def lX9_models_4 (fu : Nat) (z : OS) (j35 : Int32 → Option (Int32)) : Nat → Int32 → Int32 → Option (Int32)
  | 0, _, _ => none
  | n_4 + 1, v1_4, v2_4 => bd (fX9_assignments fu z) (fun (r_1 : Int32) => (if r_1 ≤ v2_4 then j35 v1_4 else bd (fX9_isModel fu z v2_4 (-1 : Int32)) (fun (r_3 : Int32) => jn (κ := Int32 → Int32 → Option (Int32)) (fun (t0_27 : Int32) (t1_27 : Int32) => nm (t0_27 + t1_27) (fun (v1_5 : Int32) => nm (v2_4 + (1 : Int32)) (fun (v2_6 : Int32) => lX9_models_4 fu z j35 n_4 v1_5 v2_6))) (fun j27 => (if r_3 = (0 : Int32) then j27 v1_4 (0 : Int32) else j27 v1_4 (1 : Int32))))))
def fX9_models (fu : Nat) (z : OS) : Option (Int32) :=
  jn (κ := Int32 → Option (Int32)) (fun (v1_35 : Int32) => some v1_35) (fun j35 => lX9_models_4 fu z j35 fu (0 : Int32) (0 : Int32))
set_option maxRecDepth 100000 in
set_option maxHeartbeats 4000000 in
theorem mX9_models (l : Launch) (D : va_G) (cI cB cZ cO : ClassId) (q : Nat → Nat) (fu : Nat) (z : OS) {r : Int32} (hf : fX9_models fu z = some r) : Met l yX9_models wsX9_models ({ frames := 3, cells := 0, slots := 0, locals := 69 }) (va_Pc [.ref (q 0)] (Pr D (gT cI cB cZ cO) (wM cI cB cZ q z))) (Qr (some (.int r))) 0 0 (fun _ => False) := by
  unfold fX9_models at hf
  refine metR (ret := (some .int)) (own := RX9) rfl (by decide) rfl (Nat.le_of_ble_eq_true rfl) (fun p e s m args below meth c ls hx hb hr hml hown hlocks hts hP hK hl => ?_)
  have hl : lv_has ls 3 [(0, .ref (q 0))] := hl
  refine lv_iconst (v := 0) hx hb dX9_models_0 (by decide) ?_
  refine lv_istore_n (lv' := [(1, .int (0 : Int32)), (0, .ref (q 0))]) hx hb dX9_models_1 rfl hl (by decide) rfl (fun ls hl => ?_)
  refine lv_iconst (v := 0) hx hb dX9_models_2 (by decide) ?_
  refine lv_istore_n (lv' := [(2, .int (0 : Int32)), (1, .int (0 : Int32)), (0, .ref (q 0))]) hx hb dX9_models_3 rfl hl (by decide) rfl (fun ls hl => ?_)
  obtain ⟨j35, ej35, hf⟩ := jn_ob hf
  have hp35 : ∀ (v1_35 : Int32) (ls : Array Slot), j35 v1_35 = some r → lv_has ls 3 [(1, .int v1_35)] → W p l e (headSpec wsX9_models { frames := 3, cells := 0, slots := 0, locals := 69 }).room s m args below meth c s.heap [] 0 0 (MQ below (Qr (some (.int r))) args s 0 0 (fun _ => False)) (F0 m 35 ls []) := by
    intro v1_35 ls hf hl
    rw [ej35] at hf
    refine lv_iload_n hx hb dX9_models_35 rfl (lv_at hl 0 rfl) ?_
    exact rR_i hx hb hr hlocks (so_ob hf) dX9_models_36
  have hL4 : ∀ (n_4 : Nat) (v1_4 : Int32) (v2_4 : Int32) (ls : Array Slot), lX9_models_4 fu z j35 n_4 v1_4 v2_4 = some r → lv_has ls 3 [(0, .ref (q 0)), (1, .int v1_4), (2, .int v2_4)] → W p l e (headSpec wsX9_models { frames := 3, cells := 0, slots := 0, locals := 69 }).room s m args below meth c s.heap [] 0 0 (MQ below (Qr (some (.int r))) args s 0 0 (fun _ => False)) (F0 m 4 ls []) := by
    intro n_4
    induction n_4 with
    | zero =>
      intro v1_4 v2_4 ls hf
      exact no_ob hf
    | succ n_4 ih4 =>
      intro v1_4 v2_4 ls hf hl
      rw [lX9_models_4] at hf
      refine lv_iload_n hx hb dX9_models_4 rfl (lv_at hl 2 rfl) ?_
      refine lv_aload_n hx hb dX9_models_5 rfl (lv_at hl 0 rfl) ?_
      obtain ⟨r_1, hc_2, hf⟩ := bd_ob hf
      refine rdV (As := []) (rest := [.int v2_4]) ⟨hx, hb, hml, hown, hts⟩ (mX9_assignments l D cI cB cZ cO q fu z hc_2) (cwV 0 hts gX9_models_X9_assignments rfl rfl rfl (by decide +kernel) ⟨Nat.le_of_ble_eq_true rfl, Nat.le_of_ble_eq_true rfl⟩) hK hP (va_recv hK hP (ci := 8) (q0 := 0) rfl rfl) rfl hl.1 rfl (Nat.le_of_ble_eq_true rfl) dX9_models_6 ⟨Nat.zero_le _, Nat.zero_le _⟩ ?_
      refine lv_icmp_ge (tgt := 35) hx hb dX9_models_9 (by decide) (fun c_9 => ?_) (fun c_9 => ?_)
      · have hf := ip c_9 hf
        exact hp35 v1_4 _ hf (lv_sub hl [1] rfl)
      · have hf := iq c_9 hf
        refine lv_iload_n hx hb dX9_models_12 rfl (lv_at hl 1 rfl) ?_
        refine lv_aload_n hx hb dX9_models_13 rfl (lv_at hl 0 rfl) ?_
        refine lv_iload_n hx hb dX9_models_14 rfl (lv_at hl 2 rfl) ?_
        refine lv_iconst (v := (-1)) hx hb dX9_models_15 (by decide) ?_
        obtain ⟨r_3, hc_4, hf⟩ := bd_ob hf
        refine rdV (As := [.int v2_4, .int (-1 : Int32)]) (rest := [.int v1_4]) ⟨hx, hb, hml, hown, hts⟩ (mX9_isModel l D cI cB cZ cO q fu z v2_4 (-1 : Int32) hc_4) (cwV 2 hts gX9_models_X9_isModel rfl rfl rfl (by decide +kernel) ⟨Nat.le_of_ble_eq_true rfl, Nat.le_of_ble_eq_true rfl⟩) hK hP (va_recv hK hP (ci := 8) (q0 := 0) rfl rfl) rfl hl.1 rfl (Nat.le_of_ble_eq_true rfl) dX9_models_16 ⟨Nat.zero_le _, Nat.zero_le _⟩ ?_
        obtain ⟨j27, ej27, hf⟩ := jn_ob hf
        have hp27 : ∀ (t0_27 : Int32) (t1_27 : Int32) (ls : Array Slot), j27 t0_27 t1_27 = some r → lv_has ls 3 [(0, .ref (q 0)), (2, .int v2_4)] → W p l e (headSpec wsX9_models { frames := 3, cells := 0, slots := 0, locals := 69 }).room s m args below meth c s.heap [] 0 0 (MQ below (Qr (some (.int r))) args s 0 0 (fun _ => False)) (F0 m 27 ls [.int t1_27, .int t0_27]) := by
          intro t0_27 t1_27 ls hf hl
          rw [ej27] at hf
          refine lv_iadd hx hb dX9_models_27 ?_
          obtain ⟨v1_5, ev1_5, hf⟩ := nm_ob hf
          refine lv_nmi ev1_5 ?_
          refine lv_istore_n (lv' := [(1, .int v1_5), (0, .ref (q 0)), (2, .int v2_4)]) hx hb dX9_models_28 rfl hl (by decide) rfl (fun ls hl => ?_)
          obtain ⟨v2_6, ev2_6, hf⟩ := nm_ob hf
          refine lv_iinc (v := v2_6) (lv' := [(2, .int v2_6), (1, .int v1_5), (0, .ref (q 0))]) hx hb dX9_models_29 hl (k := 2) rfl (by rw [ev2_6]; rfl) (by decide) rfl (fun ls hl => ?_)
          refine lv_goto (tgt := 4) hx hb dX9_models_32 (by decide) ?_
          exact ih4 v1_5 v2_6 _ hf (lv_sub hl [2, 1, 0] rfl)
        refine lv_if_eq (tgt := 26) hx hb dX9_models_19 (by decide) (fun c_19 => ?_) (fun c_19 => ?_)
        · have hf := ip c_19 hf
          refine lv_iconst (v := 0) hx hb dX9_models_26 (by decide) ?_
          exact hp27 v1_4 (0 : Int32) _ hf (lv_sub hl [0, 2] rfl)
        · have hf := iq c_19 hf
          refine lv_iconst (v := 1) hx hb dX9_models_22 (by decide) ?_
          refine lv_goto (tgt := 27) hx hb dX9_models_23 (by decide) ?_
          exact hp27 v1_4 (1 : Int32) _ hf (lv_sub hl [0, 2] rfl)
  exact hL4 fu (0 : Int32) (0 : Int32) _ hf (lv_sub hl [2, 1, 0] rfl)

def lX9_follows_2 (fu : Nat) (z : OS) (p1 : Int32) (p2 : Int32) (j36 : Option (Int32)) : Nat → Int32 → Option (Int32)
  | 0, _ => none
  | n_2 + 1, v3_2 => bd (fX9_assignments fu z) (fun (r_1 : Int32) => (if r_1 ≤ v3_2 then j36 else bd (fX9_isModel fu z v3_2 p2) (fun (r_3 : Int32) => jn (κ := Option (Int32)) (nm (v3_2 + (1 : Int32)) (fun (v3_5 : Int32) => lX9_follows_2 fu z p1 p2 j36 n_2 v3_5)) (fun j30 => (if r_3 = (0 : Int32) then j30 else bd (fX9_holds fu z p1 v3_2) (fun (r_6 : Int32) => (if ¬ r_6 = (0 : Int32) then j30 else gd (isZ (0 : Int32)) (some (0 : Int32)))))))))
def fX9_follows (fu : Nat) (z : OS) (p1 : Int32) (p2 : Int32) : Option (Int32) :=
  jn (κ := Option (Int32)) (gd (isZ (1 : Int32)) (some (1 : Int32))) (fun j36 => lX9_follows_2 fu z p1 p2 j36 fu (0 : Int32))
set_option maxRecDepth 100000 in
set_option maxHeartbeats 4000000 in
theorem mX9_follows (l : Launch) (D : va_G) (cI cB cZ cO : ClassId) (q : Nat → Nat) (fu : Nat) (z : OS) (p1 : Int32) (p2 : Int32) {r : Int32} (hf : fX9_follows fu z p1 p2 = some r) : Met l yX9_follows wsX9_follows ({ frames := 3, cells := 0, slots := 0, locals := 69 }) (va_Pc [.ref (q 0), .int p1, .int p2] (Pr D (gT cI cB cZ cO) (wM cI cB cZ q z))) (Qr (some (.int r))) 0 0 (fun _ => False) := by
  unfold fX9_follows at hf
  refine metR (ret := (some .boolean)) (own := RX9) rfl (by decide) rfl (Nat.le_of_ble_eq_true rfl) (fun p e s m args below meth c ls hx hb hr hml hown hlocks hts hP hK hl => ?_)
  have hl : lv_has ls 4 [(0, .ref (q 0)), (1, .int p1), (2, .int p2)] := hl
  refine lv_iconst (v := 0) hx hb dX9_follows_0 (by decide) ?_
  refine lv_istore_n (lv' := [(3, .int (0 : Int32)), (0, .ref (q 0)), (1, .int p1), (2, .int p2)]) hx hb dX9_follows_1 rfl hl (by decide) rfl (fun ls hl => ?_)
  obtain ⟨j36, ej36, hf⟩ := jn_ob hf
  have hp36 : ∀  (ls : Array Slot), j36 = some r → lv_has ls 4 [] → W p l e (headSpec wsX9_follows { frames := 3, cells := 0, slots := 0, locals := 69 }).room s m args below meth c s.heap [] 0 0 (MQ below (Qr (some (.int r))) args s 0 0 (fun _ => False)) (F0 m 36 ls []) := by
    intro ls hf hl
    rw [ej36] at hf
    refine lv_iconst (v := 1) hx hb dX9_follows_36 (by decide) ?_
    obtain ⟨hz, hf⟩ := gd_ob hf
    exact rR_z hx hb hr hlocks hz (so_ob hf) dX9_follows_37
  have hL2 : ∀ (n_2 : Nat) (v3_2 : Int32) (ls : Array Slot), lX9_follows_2 fu z p1 p2 j36 n_2 v3_2 = some r → lv_has ls 4 [(0, .ref (q 0)), (1, .int p1), (2, .int p2), (3, .int v3_2)] → W p l e (headSpec wsX9_follows { frames := 3, cells := 0, slots := 0, locals := 69 }).room s m args below meth c s.heap [] 0 0 (MQ below (Qr (some (.int r))) args s 0 0 (fun _ => False)) (F0 m 2 ls []) := by
    intro n_2
    induction n_2 with
    | zero =>
      intro v3_2 ls hf
      exact no_ob hf
    | succ n_2 ih2 =>
      intro v3_2 ls hf hl
      rw [lX9_follows_2] at hf
      refine lv_iload_n hx hb dX9_follows_2 rfl (lv_at hl 3 rfl) ?_
      refine lv_aload_n hx hb dX9_follows_3 rfl (lv_at hl 0 rfl) ?_
      obtain ⟨r_1, hc_2, hf⟩ := bd_ob hf
      refine rdV (As := []) (rest := [.int v3_2]) ⟨hx, hb, hml, hown, hts⟩ (mX9_assignments l D cI cB cZ cO q fu z hc_2) (cwV 0 hts gX9_follows_X9_assignments rfl rfl rfl (by decide +kernel) ⟨Nat.le_of_ble_eq_true rfl, Nat.le_of_ble_eq_true rfl⟩) hK hP (va_recv hK hP (ci := 8) (q0 := 0) rfl rfl) rfl hl.1 rfl (Nat.le_of_ble_eq_true rfl) dX9_follows_4 ⟨Nat.zero_le _, Nat.zero_le _⟩ ?_
      refine lv_icmp_ge (tgt := 36) hx hb dX9_follows_7 (by decide) (fun c_7 => ?_) (fun c_7 => ?_)
      · have hf := ip c_7 hf
        exact hp36 _ hf (lv_sub hl [] rfl)
      · have hf := iq c_7 hf
        refine lv_aload_n hx hb dX9_follows_10 rfl (lv_at hl 0 rfl) ?_
        refine lv_iload_n hx hb dX9_follows_11 rfl (lv_at hl 3 rfl) ?_
        refine lv_iload_n hx hb dX9_follows_12 rfl (lv_at hl 2 rfl) ?_
        obtain ⟨r_3, hc_4, hf⟩ := bd_ob hf
        refine rdV (As := [.int v3_2, .int p2]) (rest := []) ⟨hx, hb, hml, hown, hts⟩ (mX9_isModel l D cI cB cZ cO q fu z v3_2 p2 hc_4) (cwV 2 hts gX9_follows_X9_isModel rfl rfl rfl (by decide +kernel) ⟨Nat.le_of_ble_eq_true rfl, Nat.le_of_ble_eq_true rfl⟩) hK hP (va_recv hK hP (ci := 8) (q0 := 0) rfl rfl) rfl hl.1 rfl (Nat.le_of_ble_eq_true rfl) dX9_follows_13 ⟨Nat.zero_le _, Nat.zero_le _⟩ ?_
        obtain ⟨j30, ej30, hf⟩ := jn_ob hf
        have hp30 : ∀  (ls : Array Slot), j30 = some r → lv_has ls 4 [(0, .ref (q 0)), (1, .int p1), (2, .int p2), (3, .int v3_2)] → W p l e (headSpec wsX9_follows { frames := 3, cells := 0, slots := 0, locals := 69 }).room s m args below meth c s.heap [] 0 0 (MQ below (Qr (some (.int r))) args s 0 0 (fun _ => False)) (F0 m 30 ls []) := by
          intro ls hf hl
          rw [ej30] at hf
          obtain ⟨v3_5, ev3_5, hf⟩ := nm_ob hf
          refine lv_iinc (v := v3_5) (lv' := [(3, .int v3_5), (0, .ref (q 0)), (1, .int p1), (2, .int p2)]) hx hb dX9_follows_30 hl (k := 3) rfl (by rw [ev3_5]; rfl) (by decide) rfl (fun ls hl => ?_)
          refine lv_goto (tgt := 2) hx hb dX9_follows_33 (by decide) ?_
          exact ih2 v3_5 _ hf (lv_sub hl [1, 2, 3, 0] rfl)
        refine lv_if_eq (tgt := 30) hx hb dX9_follows_16 (by decide) (fun c_16 => ?_) (fun c_16 => ?_)
        · have hf := ip c_16 hf
          exact hp30 _ hf hl
        · have hf := iq c_16 hf
          refine lv_aload_n hx hb dX9_follows_19 rfl (lv_at hl 0 rfl) ?_
          refine lv_iload_n hx hb dX9_follows_20 rfl (lv_at hl 1 rfl) ?_
          refine lv_iload_n hx hb dX9_follows_21 rfl (lv_at hl 3 rfl) ?_
          obtain ⟨r_6, hc_7, hf⟩ := bd_ob hf
          refine rdV (As := [.int p1, .int v3_2]) (rest := []) ⟨hx, hb, hml, hown, hts⟩ (mX9_holds l D cI cB cZ cO q fu z p1 v3_2 hc_7) (cwV 2 hts gX9_follows_X9_holds rfl rfl rfl (by decide +kernel) ⟨Nat.le_of_ble_eq_true rfl, Nat.le_of_ble_eq_true rfl⟩) hK hP (va_recv hK hP (ci := 8) (q0 := 0) rfl rfl) rfl hl.1 rfl (Nat.le_of_ble_eq_true rfl) dX9_follows_22 ⟨Nat.zero_le _, Nat.zero_le _⟩ ?_
          refine lv_if_ne (tgt := 30) hx hb dX9_follows_25 (by decide) (fun c_25 => ?_) (fun c_25 => ?_)
          · have hf := ip c_25 hf
            exact hp30 _ hf hl
          · have hf := iqn c_25 hf
            refine lv_iconst (v := 0) hx hb dX9_follows_28 (by decide) ?_
            obtain ⟨hz, hf⟩ := gd_ob hf
            exact rR_z hx hb hr hlocks hz (so_ob hf) dX9_follows_29
  exact hL2 fu (0 : Int32) _ hf (lv_sub hl [1, 2, 3, 0] rfl)

def lX9_falseUnder_4 (fu : Nat) (z : OS) (p1 : Int32) (j35 : Int32 → Option (Int32)) : Nat → Int32 → Int32 → Option (Int32)
  | 0, _, _ => none
  | n_4 + 1, v2_4, v3_4 => bd (fX9_many fu z) (fun (r_1 : Int32) => (if r_1 ≤ v3_4 then j35 v2_4 else bd (fX9_holds fu z v3_4 p1) (fun (r_3 : Int32) => jn (κ := Int32 → Int32 → Option (Int32)) (fun (t0_27 : Int32) (t1_27 : Int32) => nm (t0_27 + t1_27) (fun (v2_5 : Int32) => nm (v3_4 + (1 : Int32)) (fun (v3_6 : Int32) => lX9_falseUnder_4 fu z p1 j35 n_4 v2_5 v3_6))) (fun j27 => (if r_3 = (0 : Int32) then j27 v2_4 (1 : Int32) else j27 v2_4 (0 : Int32))))))
def fX9_falseUnder (fu : Nat) (z : OS) (p1 : Int32) : Option (Int32) :=
  jn (κ := Int32 → Option (Int32)) (fun (v2_35 : Int32) => some v2_35) (fun j35 => lX9_falseUnder_4 fu z p1 j35 fu (0 : Int32) (0 : Int32))
set_option maxRecDepth 100000 in
set_option maxHeartbeats 4000000 in
theorem mX9_falseUnder (l : Launch) (D : va_G) (cI cB cZ cO : ClassId) (q : Nat → Nat) (fu : Nat) (z : OS) (p1 : Int32) {r : Int32} (hf : fX9_falseUnder fu z p1 = some r) : Met l yX9_falseUnder wsX9_falseUnder ({ frames := 2, cells := 0, slots := 0, locals := 46 }) (va_Pc [.ref (q 0), .int p1] (Pr D (gT cI cB cZ cO) (wM cI cB cZ q z))) (Qr (some (.int r))) 0 0 (fun _ => False) := by
  unfold fX9_falseUnder at hf
  refine metR (ret := (some .int)) (own := RX9) rfl (by decide) rfl (Nat.le_of_ble_eq_true rfl) (fun p e s m args below meth c ls hx hb hr hml hown hlocks hts hP hK hl => ?_)
  have hl : lv_has ls 4 [(0, .ref (q 0)), (1, .int p1)] := hl
  refine lv_iconst (v := 0) hx hb dX9_falseUnder_0 (by decide) ?_
  refine lv_istore_n (lv' := [(2, .int (0 : Int32)), (0, .ref (q 0)), (1, .int p1)]) hx hb dX9_falseUnder_1 rfl hl (by decide) rfl (fun ls hl => ?_)
  refine lv_iconst (v := 0) hx hb dX9_falseUnder_2 (by decide) ?_
  refine lv_istore_n (lv' := [(3, .int (0 : Int32)), (2, .int (0 : Int32)), (0, .ref (q 0)), (1, .int p1)]) hx hb dX9_falseUnder_3 rfl hl (by decide) rfl (fun ls hl => ?_)
  obtain ⟨j35, ej35, hf⟩ := jn_ob hf
  have hp35 : ∀ (v2_35 : Int32) (ls : Array Slot), j35 v2_35 = some r → lv_has ls 4 [(2, .int v2_35)] → W p l e (headSpec wsX9_falseUnder { frames := 2, cells := 0, slots := 0, locals := 46 }).room s m args below meth c s.heap [] 0 0 (MQ below (Qr (some (.int r))) args s 0 0 (fun _ => False)) (F0 m 35 ls []) := by
    intro v2_35 ls hf hl
    rw [ej35] at hf
    refine lv_iload_n hx hb dX9_falseUnder_35 rfl (lv_at hl 0 rfl) ?_
    exact rR_i hx hb hr hlocks (so_ob hf) dX9_falseUnder_36
  have hL4 : ∀ (n_4 : Nat) (v2_4 : Int32) (v3_4 : Int32) (ls : Array Slot), lX9_falseUnder_4 fu z p1 j35 n_4 v2_4 v3_4 = some r → lv_has ls 4 [(0, .ref (q 0)), (1, .int p1), (2, .int v2_4), (3, .int v3_4)] → W p l e (headSpec wsX9_falseUnder { frames := 2, cells := 0, slots := 0, locals := 46 }).room s m args below meth c s.heap [] 0 0 (MQ below (Qr (some (.int r))) args s 0 0 (fun _ => False)) (F0 m 4 ls []) := by
    intro n_4
    induction n_4 with
    | zero =>
      intro v2_4 v3_4 ls hf
      exact no_ob hf
    | succ n_4 ih4 =>
      intro v2_4 v3_4 ls hf hl
      rw [lX9_falseUnder_4] at hf
      refine lv_iload_n hx hb dX9_falseUnder_4 rfl (lv_at hl 3 rfl) ?_
      refine lv_aload_n hx hb dX9_falseUnder_5 rfl (lv_at hl 0 rfl) ?_
      obtain ⟨r_1, hc_2, hf⟩ := bd_ob hf
      refine rdV (As := []) (rest := [.int v3_4]) ⟨hx, hb, hml, hown, hts⟩ (mX9_many l D cI cB cZ cO q fu z hc_2) (cwV 0 hts gX9_falseUnder_X9_many rfl rfl rfl (by decide +kernel) ⟨Nat.le_of_ble_eq_true rfl, Nat.le_of_ble_eq_true rfl⟩) hK hP (va_recv hK hP (ci := 8) (q0 := 0) rfl rfl) rfl hl.1 rfl (Nat.le_of_ble_eq_true rfl) dX9_falseUnder_6 ⟨Nat.zero_le _, Nat.zero_le _⟩ ?_
      refine lv_icmp_ge (tgt := 35) hx hb dX9_falseUnder_9 (by decide) (fun c_9 => ?_) (fun c_9 => ?_)
      · have hf := ip c_9 hf
        exact hp35 v2_4 _ hf (lv_sub hl [2] rfl)
      · have hf := iq c_9 hf
        refine lv_iload_n hx hb dX9_falseUnder_12 rfl (lv_at hl 2 rfl) ?_
        refine lv_aload_n hx hb dX9_falseUnder_13 rfl (lv_at hl 0 rfl) ?_
        refine lv_iload_n hx hb dX9_falseUnder_14 rfl (lv_at hl 3 rfl) ?_
        refine lv_iload_n hx hb dX9_falseUnder_15 rfl (lv_at hl 1 rfl) ?_
        obtain ⟨r_3, hc_4, hf⟩ := bd_ob hf
        refine rdV (As := [.int v3_4, .int p1]) (rest := [.int v2_4]) ⟨hx, hb, hml, hown, hts⟩ (mX9_holds l D cI cB cZ cO q fu z v3_4 p1 hc_4) (cwV 2 hts gX9_falseUnder_X9_holds rfl rfl rfl (by decide +kernel) ⟨Nat.le_of_ble_eq_true rfl, Nat.le_of_ble_eq_true rfl⟩) hK hP (va_recv hK hP (ci := 8) (q0 := 0) rfl rfl) rfl hl.1 rfl (Nat.le_of_ble_eq_true rfl) dX9_falseUnder_16 ⟨Nat.zero_le _, Nat.zero_le _⟩ ?_
        obtain ⟨j27, ej27, hf⟩ := jn_ob hf
        have hp27 : ∀ (t0_27 : Int32) (t1_27 : Int32) (ls : Array Slot), j27 t0_27 t1_27 = some r → lv_has ls 4 [(0, .ref (q 0)), (1, .int p1), (3, .int v3_4)] → W p l e (headSpec wsX9_falseUnder { frames := 2, cells := 0, slots := 0, locals := 46 }).room s m args below meth c s.heap [] 0 0 (MQ below (Qr (some (.int r))) args s 0 0 (fun _ => False)) (F0 m 27 ls [.int t1_27, .int t0_27]) := by
          intro t0_27 t1_27 ls hf hl
          rw [ej27] at hf
          refine lv_iadd hx hb dX9_falseUnder_27 ?_
          obtain ⟨v2_5, ev2_5, hf⟩ := nm_ob hf
          refine lv_nmi ev2_5 ?_
          refine lv_istore_n (lv' := [(2, .int v2_5), (0, .ref (q 0)), (1, .int p1), (3, .int v3_4)]) hx hb dX9_falseUnder_28 rfl hl (by decide) rfl (fun ls hl => ?_)
          obtain ⟨v3_6, ev3_6, hf⟩ := nm_ob hf
          refine lv_iinc (v := v3_6) (lv' := [(3, .int v3_6), (2, .int v2_5), (0, .ref (q 0)), (1, .int p1)]) hx hb dX9_falseUnder_29 hl (k := 3) rfl (by rw [ev3_6]; rfl) (by decide) rfl (fun ls hl => ?_)
          refine lv_goto (tgt := 4) hx hb dX9_falseUnder_32 (by decide) ?_
          exact ih4 v2_5 v3_6 _ hf (lv_sub hl [2, 3, 1, 0] rfl)
        refine lv_if_eq (tgt := 26) hx hb dX9_falseUnder_19 (by decide) (fun c_19 => ?_) (fun c_19 => ?_)
        · have hf := ip c_19 hf
          refine lv_iconst (v := 1) hx hb dX9_falseUnder_26 (by decide) ?_
          exact hp27 v2_4 (1 : Int32) _ hf (lv_sub hl [0, 1, 3] rfl)
        · have hf := iq c_19 hf
          refine lv_iconst (v := 0) hx hb dX9_falseUnder_22 (by decide) ?_
          refine lv_goto (tgt := 27) hx hb dX9_falseUnder_23 (by decide) ?_
          exact hp27 v2_4 (0 : Int32) _ hf (lv_sub hl [0, 1, 3] rfl)
  exact hL4 fu (0 : Int32) (0 : Int32) _ hf (lv_sub hl [2, 3, 1, 0] rfl)

def lX9_always_9 (fu : Nat) (z : OS) (p1 : Int32) (j47 : Int32 → Option (Int32)) : Nat → Int32 → Int32 → Option (Int32)
  | 0, _, _ => none
  | n_9 + 1, v2_9, v3_9 => bd (fX9_assignments fu z) (fun (r_4 : Int32) => (if r_4 ≤ v3_9 then j47 v2_9 else bd (fX9_isModel fu z v3_9 (-1 : Int32)) (fun (r_6 : Int32) => jn (κ := Int32 → Option (Int32)) (fun (v2_41 : Int32) => nm (v3_9 + (1 : Int32)) (fun (v3_8 : Int32) => lX9_always_9 fu z p1 j47 n_9 v2_41 v3_8)) (fun j41 => (if r_6 = (0 : Int32) then j41 v2_9 else jn (κ := Int32 → Int32 → Option (Int32)) (fun (t0_39 : Int32) (t1_39 : Int32) => nm (t0_39 &&& t1_39) (fun (v2_9 : Int32) => j41 v2_9)) (fun j39 => (if ¬ p1 = (1 : Int32) then j39 v2_9 (v3_9 ^^^ (-1 : Int32)) else j39 v2_9 v3_9)))))))
def fX9_always (fu : Nat) (z : OS) (p1 : Int32) : Option (Int32) :=
  bd (fX9_assignments fu z) (fun (r_1 : Int32) => nm (r_1 - (1 : Int32)) (fun (v2_3 : Int32) => jn (κ := Int32 → Option (Int32)) (fun (v2_47 : Int32) => some v2_47) (fun j47 => lX9_always_9 fu z p1 j47 fu v2_3 (0 : Int32))))
set_option maxRecDepth 100000 in
set_option maxHeartbeats 4000000 in
theorem mX9_always (l : Launch) (D : va_G) (cI cB cZ cO : ClassId) (q : Nat → Nat) (fu : Nat) (z : OS) (p1 : Int32) {r : Int32} (hf : fX9_always fu z p1 = some r) : Met l yX9_always wsX9_always ({ frames := 3, cells := 0, slots := 0, locals := 69 }) (va_Pc [.ref (q 0), .int p1] (Pr D (gT cI cB cZ cO) (wM cI cB cZ q z))) (Qr (some (.int r))) 0 0 (fun _ => False) := by
  unfold fX9_always at hf
  refine metR (ret := (some .int)) (own := RX9) rfl (by decide) rfl (Nat.le_of_ble_eq_true rfl) (fun p e s m args below meth c ls hx hb hr hml hown hlocks hts hP hK hl => ?_)
  have hl : lv_has ls 4 [(0, .ref (q 0)), (1, .int p1)] := hl
  refine lv_aload_n hx hb dX9_always_0 rfl (lv_at hl 0 rfl) ?_
  obtain ⟨r_1, hc_2, hf⟩ := bd_ob hf
  refine rdV (As := []) (rest := []) ⟨hx, hb, hml, hown, hts⟩ (mX9_assignments l D cI cB cZ cO q fu z hc_2) (cwV 0 hts gX9_always_X9_assignments rfl rfl rfl (by decide +kernel) ⟨Nat.le_of_ble_eq_true rfl, Nat.le_of_ble_eq_true rfl⟩) hK hP (va_recv hK hP (ci := 8) (q0 := 0) rfl rfl) rfl hl.1 rfl (Nat.le_of_ble_eq_true rfl) dX9_always_1 ⟨Nat.zero_le _, Nat.zero_le _⟩ ?_
  refine lv_iconst (v := 1) hx hb dX9_always_4 (by decide) ?_
  refine lv_isub hx hb dX9_always_5 ?_
  obtain ⟨v2_3, ev2_3, hf⟩ := nm_ob hf
  refine lv_nmi ev2_3 ?_
  refine lv_istore_n (lv' := [(2, .int v2_3), (0, .ref (q 0)), (1, .int p1)]) hx hb dX9_always_6 rfl hl (by decide) rfl (fun ls hl => ?_)
  refine lv_iconst (v := 0) hx hb dX9_always_7 (by decide) ?_
  refine lv_istore_n (lv' := [(3, .int (0 : Int32)), (2, .int v2_3), (0, .ref (q 0)), (1, .int p1)]) hx hb dX9_always_8 rfl hl (by decide) rfl (fun ls hl => ?_)
  obtain ⟨j47, ej47, hf⟩ := jn_ob hf
  have hp47 : ∀ (v2_47 : Int32) (ls : Array Slot), j47 v2_47 = some r → lv_has ls 4 [(2, .int v2_47)] → W p l e (headSpec wsX9_always { frames := 3, cells := 0, slots := 0, locals := 69 }).room s m args below meth c s.heap [] 0 0 (MQ below (Qr (some (.int r))) args s 0 0 (fun _ => False)) (F0 m 47 ls []) := by
    intro v2_47 ls hf hl
    rw [ej47] at hf
    refine lv_iload_n hx hb dX9_always_47 rfl (lv_at hl 0 rfl) ?_
    exact rR_i hx hb hr hlocks (so_ob hf) dX9_always_48
  have hL9 : ∀ (n_9 : Nat) (v2_9 : Int32) (v3_9 : Int32) (ls : Array Slot), lX9_always_9 fu z p1 j47 n_9 v2_9 v3_9 = some r → lv_has ls 4 [(0, .ref (q 0)), (1, .int p1), (2, .int v2_9), (3, .int v3_9)] → W p l e (headSpec wsX9_always { frames := 3, cells := 0, slots := 0, locals := 69 }).room s m args below meth c s.heap [] 0 0 (MQ below (Qr (some (.int r))) args s 0 0 (fun _ => False)) (F0 m 9 ls []) := by
    intro n_9
    induction n_9 with
    | zero =>
      intro v2_9 v3_9 ls hf
      exact no_ob hf
    | succ n_9 ih9 =>
      intro v2_9 v3_9 ls hf hl
      rw [lX9_always_9] at hf
      refine lv_iload_n hx hb dX9_always_9 rfl (lv_at hl 3 rfl) ?_
      refine lv_aload_n hx hb dX9_always_10 rfl (lv_at hl 0 rfl) ?_
      obtain ⟨r_4, hc_5, hf⟩ := bd_ob hf
      refine rdV (As := []) (rest := [.int v3_9]) ⟨hx, hb, hml, hown, hts⟩ (mX9_assignments l D cI cB cZ cO q fu z hc_5) (cwV 0 hts gX9_always_X9_assignments rfl rfl rfl (by decide +kernel) ⟨Nat.le_of_ble_eq_true rfl, Nat.le_of_ble_eq_true rfl⟩) hK hP (va_recv hK hP (ci := 8) (q0 := 0) rfl rfl) rfl hl.1 rfl (Nat.le_of_ble_eq_true rfl) dX9_always_11 ⟨Nat.zero_le _, Nat.zero_le _⟩ ?_
      refine lv_icmp_ge (tgt := 47) hx hb dX9_always_14 (by decide) (fun c_14 => ?_) (fun c_14 => ?_)
      · have hf := ip c_14 hf
        exact hp47 v2_9 _ hf (lv_sub hl [2] rfl)
      · have hf := iq c_14 hf
        refine lv_aload_n hx hb dX9_always_17 rfl (lv_at hl 0 rfl) ?_
        refine lv_iload_n hx hb dX9_always_18 rfl (lv_at hl 3 rfl) ?_
        refine lv_iconst (v := (-1)) hx hb dX9_always_19 (by decide) ?_
        obtain ⟨r_6, hc_7, hf⟩ := bd_ob hf
        refine rdV (As := [.int v3_9, .int (-1 : Int32)]) (rest := []) ⟨hx, hb, hml, hown, hts⟩ (mX9_isModel l D cI cB cZ cO q fu z v3_9 (-1 : Int32) hc_7) (cwV 2 hts gX9_always_X9_isModel rfl rfl rfl (by decide +kernel) ⟨Nat.le_of_ble_eq_true rfl, Nat.le_of_ble_eq_true rfl⟩) hK hP (va_recv hK hP (ci := 8) (q0 := 0) rfl rfl) rfl hl.1 rfl (Nat.le_of_ble_eq_true rfl) dX9_always_20 ⟨Nat.zero_le _, Nat.zero_le _⟩ ?_
        obtain ⟨j41, ej41, hf⟩ := jn_ob hf
        have hp41 : ∀ (v2_41 : Int32) (ls : Array Slot), j41 v2_41 = some r → lv_has ls 4 [(0, .ref (q 0)), (1, .int p1), (2, .int v2_41), (3, .int v3_9)] → W p l e (headSpec wsX9_always { frames := 3, cells := 0, slots := 0, locals := 69 }).room s m args below meth c s.heap [] 0 0 (MQ below (Qr (some (.int r))) args s 0 0 (fun _ => False)) (F0 m 41 ls []) := by
          intro v2_41 ls hf hl
          rw [ej41] at hf
          obtain ⟨v3_8, ev3_8, hf⟩ := nm_ob hf
          refine lv_iinc (v := v3_8) (lv' := [(3, .int v3_8), (0, .ref (q 0)), (1, .int p1), (2, .int v2_41)]) hx hb dX9_always_41 hl (k := 3) rfl (by rw [ev3_8]; rfl) (by decide) rfl (fun ls hl => ?_)
          refine lv_goto (tgt := 9) hx hb dX9_always_44 (by decide) ?_
          exact ih9 v2_41 v3_8 _ hf (lv_sub hl [1, 2, 3, 0] rfl)
        refine lv_if_eq (tgt := 41) hx hb dX9_always_23 (by decide) (fun c_23 => ?_) (fun c_23 => ?_)
        · have hf := ip c_23 hf
          exact hp41 v2_9 _ hf hl
        · have hf := iq c_23 hf
          refine lv_iload_n hx hb dX9_always_26 rfl (lv_at hl 2 rfl) ?_
          refine lv_iload_n hx hb dX9_always_27 rfl (lv_at hl 1 rfl) ?_
          refine lv_iconst (v := 1) hx hb dX9_always_28 (by decide) ?_
          obtain ⟨j39, ej39, hf⟩ := jn_ob hf
          have hp39 : ∀ (t0_39 : Int32) (t1_39 : Int32) (ls : Array Slot), j39 t0_39 t1_39 = some r → lv_has ls 4 [(0, .ref (q 0)), (1, .int p1), (3, .int v3_9)] → W p l e (headSpec wsX9_always { frames := 3, cells := 0, slots := 0, locals := 69 }).room s m args below meth c s.heap [] 0 0 (MQ below (Qr (some (.int r))) args s 0 0 (fun _ => False)) (F0 m 39 ls [.int t1_39, .int t0_39]) := by
            intro t0_39 t1_39 ls hf hl
            rw [ej39] at hf
            refine lv_iand hx hb dX9_always_39 ?_
            obtain ⟨v2_9, ev2_9, hf⟩ := nm_ob hf
            refine lv_nmi ev2_9 ?_
            refine lv_istore_n (lv' := [(2, .int v2_9), (0, .ref (q 0)), (1, .int p1), (3, .int v3_9)]) hx hb dX9_always_40 rfl hl (by decide) rfl (fun ls hl => ?_)
            exact hp41 v2_9 _ hf (lv_sub hl [1, 2, 0, 3] rfl)
          refine lv_icmp_ne (tgt := 36) hx hb dX9_always_29 (by decide) (fun c_29 => ?_) (fun c_29 => ?_)
          · have hf := ip c_29 hf
            refine lv_iload_n hx hb dX9_always_36 rfl (lv_at hl 3 rfl) ?_
            refine lv_iconst (v := (-1)) hx hb dX9_always_37 (by decide) ?_
            refine lv_ixor hx hb dX9_always_38 ?_
            exact hp39 v2_9 (v3_9 ^^^ (-1 : Int32)) _ hf (lv_sub hl [0, 1, 3] rfl)
          · have hf := iqn c_29 hf
            refine lv_iload_n hx hb dX9_always_32 rfl (lv_at hl 3 rfl) ?_
            refine lv_goto (tgt := 39) hx hb dX9_always_33 (by decide) ?_
            exact hp39 v2_9 v3_9 _ hf (lv_sub hl [0, 1, 3] rfl)
  exact hL9 fu v2_3 (0 : Int32) _ hf (lv_sub hl [2, 3, 1, 0] rfl)

def fX9_isFixed (fu : Nat) (z : OS) (p1 : Int32) (p2 : Int32) : Option (Int32) :=
  jn (κ := Int32 → Option (Int32)) (fun (t0_16 : Int32) => (if ¬ ((t0_16 >>> (p1 &&& (31 : Int32))) &&& (1 : Int32)) = (1 : Int32) then gd (isZ (0 : Int32)) (some (0 : Int32)) else gd (isZ (1 : Int32)) (some (1 : Int32)))) (fun j16 => (if ¬ p2 = (1 : Int32) then j16 (z.1 13) else j16 (z.1 12)))
set_option maxRecDepth 100000 in
set_option maxHeartbeats 4000000 in
theorem mX9_isFixed (l : Launch) (D : va_G) (cI cB cZ cO : ClassId) (q : Nat → Nat) (fu : Nat) (z : OS) (p1 : Int32) (p2 : Int32) {r : Int32} (hf : fX9_isFixed fu z p1 p2 = some r) : Met l yX9_isFixed wsX9_isFixed ({ frames := 0, cells := 0, slots := 0, locals := 0 }) (va_Pc [.ref (q 0), .int p1, .int p2] (Pr D (gT cI cB cZ cO) (wM cI cB cZ q z))) (Qr (some (.int r))) 0 0 (fun _ => False) := by
  unfold fX9_isFixed at hf
  refine metR (ret := (some .boolean)) (own := RX9) rfl (by decide) rfl (Nat.le_of_ble_eq_true rfl) (fun p e s m args below meth c ls hx hb hr hml hown hlocks hts hP hK hl => ?_)
  have k146 := (hts (.fieldLink RX9 146 "ResolutionProverModel" "fixedOff" "I") (List.mem_of_getElem? (i := 2) rfl))
  have k143 := (hts (.fieldLink RX9 143 "ResolutionProverModel" "fixedOn" "I") (List.mem_of_getElem? (i := 1) rfl))
  have hiX9 : ∀ w ∈ wsX90, w ∈ wsX9_isFixed := (memIn_p [3, 4, 5, 6, 7, 8, 9, 10, 11, 12, 13, 14, 15, 16, 17, 18, 19, 20, 21, 22, 23, 24, 25, 26, 27, 28, 29] rfl)
  have hl : lv_has ls 3 [(0, .ref (q 0)), (1, .int p1), (2, .int p2)] := hl
  refine lv_iload_n hx hb dX9_isFixed_0 rfl (lv_at hl 2 rfl) ?_
  refine lv_iconst (v := 1) hx hb dX9_isFixed_1 (by decide) ?_
  obtain ⟨j16, ej16, hf⟩ := jn_ob hf
  have hp16 : ∀ (t0_16 : Int32) (ls : Array Slot), j16 t0_16 = some r → lv_has ls 3 [(1, .int p1)] → W p l e (headSpec wsX9_isFixed { frames := 0, cells := 0, slots := 0, locals := 0 }).room s m args below meth c s.heap [] 0 0 (MQ below (Qr (some (.int r))) args s 0 0 (fun _ => False)) (F0 m 16 ls [.int t0_16]) := by
    intro t0_16 ls hf hl
    rw [ej16] at hf
    refine lv_iload_n hx hb dX9_isFixed_16 rfl (lv_at hl 0 rfl) ?_
    refine lv_ishr hx hb dX9_isFixed_17 ?_
    refine lv_iconst (v := 1) hx hb dX9_isFixed_18 (by decide) ?_
    refine lv_iand hx hb dX9_isFixed_19 ?_
    refine lv_iconst (v := 1) hx hb dX9_isFixed_20 (by decide) ?_
    refine lv_icmp_ne (tgt := 28) hx hb dX9_isFixed_21 (by decide) (fun c_21 => ?_) (fun c_21 => ?_)
    · have hf := ip c_21 hf
      refine lv_iconst (v := 0) hx hb dX9_isFixed_28 (by decide) ?_
      obtain ⟨hz, hf⟩ := gd_ob hf
      exact rR_z hx hb hr hlocks hz (so_ob hf) dX9_isFixed_29
    · have hf := iqn c_21 hf
      refine lv_iconst (v := 1) hx hb dX9_isFixed_24 (by decide) ?_
      refine lv_goto (tgt := 29) hx hb dX9_isFixed_25 (by decide) ?_
      obtain ⟨hz, hf⟩ := gd_ob hf
      exact rR_z hx hb hr hlocks hz (so_ob hf) dX9_isFixed_29
  refine lv_icmp_ne (tgt := 12) hx hb dX9_isFixed_2 (by decide) (fun c_2 => ?_) (fun c_2 => ?_)
  · have hf := ip c_2 hf
    refine lv_aload_n hx hb dX9_isFixed_12 rfl (lv_at hl 0 rfl) ?_
    refine va_get (D := D) (ci := 8) (v := .int (z.1 13)) (C := RX9) (T := TX9) (N := 27) hx hb hts hiX9 hown hK hP 0 rfl rfl 13 (by decide) k146 (fun _ h9 => h9) rfl dX9_isFixed_13 ?_
    exact hp16 (z.1 13) _ hf (lv_sub hl [1] rfl)
  · have hf := iqn c_2 hf
    refine lv_aload_n hx hb dX9_isFixed_5 rfl (lv_at hl 0 rfl) ?_
    refine va_get (D := D) (ci := 8) (v := .int (z.1 12)) (C := RX9) (T := TX9) (N := 27) hx hb hts hiX9 hown hK hP 0 rfl rfl 12 (by decide) k143 (fun _ h9 => h9) rfl dX9_isFixed_6 ?_
    refine lv_goto (tgt := 16) hx hb dX9_isFixed_9 (by decide) ?_
    exact hp16 (z.1 12) _ hf (lv_sub hl [1] rfl)

def lX9_onlyVariable_2 (fu : Nat) (z : OS) (p1 : Int32) (j17 : Int32 → Option (Int32)) : Nat → Int32 → Option (Int32)
  | 0, _ => none
  | n_2 + 1, v2_2 => bd (fX9_sign fu z p1 v2_2) (fun (r_1 : Int32) => (if ¬ r_1 = (0 : Int32) then j17 v2_2 else nm (v2_2 + (1 : Int32)) (fun (v2_3 : Int32) => lX9_onlyVariable_2 fu z p1 j17 n_2 v2_3)))
def fX9_onlyVariable (fu : Nat) (z : OS) (p1 : Int32) : Option (Int32) :=
  jn (κ := Int32 → Option (Int32)) (fun (v2_17 : Int32) => some v2_17) (fun j17 => lX9_onlyVariable_2 fu z p1 j17 fu (0 : Int32))
set_option maxRecDepth 100000 in
set_option maxHeartbeats 4000000 in
theorem mX9_onlyVariable (l : Launch) (D : va_G) (cI cB cZ cO : ClassId) (q : Nat → Nat) (fu : Nat) (z : OS) (p1 : Int32) {r : Int32} (hf : fX9_onlyVariable fu z p1 = some r) : Met l yX9_onlyVariable wsX9_onlyVariable ({ frames := 1, cells := 0, slots := 0, locals := 22 }) (va_Pc [.ref (q 0), .int p1] (Pr D (gT cI cB cZ cO) (wM cI cB cZ q z))) (Qr (some (.int r))) 0 0 (fun _ => False) := by
  unfold fX9_onlyVariable at hf
  refine metR (ret := (some .int)) (own := RX9) rfl (by decide) rfl (Nat.le_of_ble_eq_true rfl) (fun p e s m args below meth c ls hx hb hr hml hown hlocks hts hP hK hl => ?_)
  have hl : lv_has ls 3 [(0, .ref (q 0)), (1, .int p1)] := hl
  refine lv_iconst (v := 0) hx hb dX9_onlyVariable_0 (by decide) ?_
  refine lv_istore_n (lv' := [(2, .int (0 : Int32)), (0, .ref (q 0)), (1, .int p1)]) hx hb dX9_onlyVariable_1 rfl hl (by decide) rfl (fun ls hl => ?_)
  obtain ⟨j17, ej17, hf⟩ := jn_ob hf
  have hp17 : ∀ (v2_17 : Int32) (ls : Array Slot), j17 v2_17 = some r → lv_has ls 3 [(2, .int v2_17)] → W p l e (headSpec wsX9_onlyVariable { frames := 1, cells := 0, slots := 0, locals := 22 }).room s m args below meth c s.heap [] 0 0 (MQ below (Qr (some (.int r))) args s 0 0 (fun _ => False)) (F0 m 17 ls []) := by
    intro v2_17 ls hf hl
    rw [ej17] at hf
    refine lv_iload_n hx hb dX9_onlyVariable_17 rfl (lv_at hl 0 rfl) ?_
    exact rR_i hx hb hr hlocks (so_ob hf) dX9_onlyVariable_18
  have hL2 : ∀ (n_2 : Nat) (v2_2 : Int32) (ls : Array Slot), lX9_onlyVariable_2 fu z p1 j17 n_2 v2_2 = some r → lv_has ls 3 [(0, .ref (q 0)), (1, .int p1), (2, .int v2_2)] → W p l e (headSpec wsX9_onlyVariable { frames := 1, cells := 0, slots := 0, locals := 22 }).room s m args below meth c s.heap [] 0 0 (MQ below (Qr (some (.int r))) args s 0 0 (fun _ => False)) (F0 m 2 ls []) := by
    intro n_2
    induction n_2 with
    | zero =>
      intro v2_2 ls hf
      exact no_ob hf
    | succ n_2 ih2 =>
      intro v2_2 ls hf hl
      rw [lX9_onlyVariable_2] at hf
      refine lv_aload_n hx hb dX9_onlyVariable_2 rfl (lv_at hl 0 rfl) ?_
      refine lv_iload_n hx hb dX9_onlyVariable_3 rfl (lv_at hl 1 rfl) ?_
      refine lv_iload_n hx hb dX9_onlyVariable_4 rfl (lv_at hl 2 rfl) ?_
      obtain ⟨r_1, hc_2, hf⟩ := bd_ob hf
      refine rdV (As := [.int p1, .int v2_2]) (rest := []) ⟨hx, hb, hml, hown, hts⟩ (mX9_sign l D cI cB cZ cO q fu z p1 v2_2 hc_2) (cwV 2 hts gX9_onlyVariable_X9_sign rfl rfl rfl (by decide +kernel) ⟨Nat.le_of_ble_eq_true rfl, Nat.le_of_ble_eq_true rfl⟩) hK hP (va_recv hK hP (ci := 8) (q0 := 0) rfl rfl) rfl hl.1 rfl (Nat.le_of_ble_eq_true rfl) dX9_onlyVariable_5 ⟨Nat.zero_le _, Nat.zero_le _⟩ ?_
      refine lv_if_ne (tgt := 17) hx hb dX9_onlyVariable_8 (by decide) (fun c_8 => ?_) (fun c_8 => ?_)
      · have hf := ip c_8 hf
        exact hp17 v2_2 _ hf (lv_sub hl [2] rfl)
      · have hf := iqn c_8 hf
        obtain ⟨v2_3, ev2_3, hf⟩ := nm_ob hf
        refine lv_iinc (v := v2_3) (lv' := [(2, .int v2_3), (0, .ref (q 0)), (1, .int p1)]) hx hb dX9_onlyVariable_11 hl (k := 2) rfl (by rw [ev2_3]; rfl) (by decide) rfl (fun ls hl => ?_)
        refine lv_goto (tgt := 2) hx hb dX9_onlyVariable_14 (by decide) ?_
        exact ih2 v2_3 _ hf (lv_sub hl [1, 2, 0] rfl)
  exact hL2 fu (0 : Int32) _ hf (lv_sub hl [1, 2, 0] rfl)

def lX9_fixes_7 (fu : Nat) (z : OS) (p1 : Int32) (j55 : Int32 → Int32 → Option (Int32 × (OS))) : Nat → Int32 → Int32 → Int32 → Option (Int32 × (OS))
  | 0, _, _, _ => none
  | n_7 + 1, v2_7, v3_7, v4_7 => bd (fX9_wide fu z) (fun (r_14 : Int32) => (if r_14 ≤ v4_7 then j55 v2_7 v3_7 else bd (fX9_sign fu z p1 v4_7) (fun (r_16 : Int32) => jn (κ := Int32 → Int32 → Option (Int32 × (OS))) (fun (v2_49 : Int32) (v3_49 : Int32) => nm (v4_7 + (1 : Int32)) (fun (v4_18 : Int32) => lX9_fixes_7 fu z p1 j55 n_7 v2_49 v3_49 v4_18)) (fun j49 => (if r_16 = (0 : Int32) then j49 v2_7 v3_7 else bd (fX9_isFixed fu z v4_7 ((3 : Int32) - r_16)) (fun (r_19 : Int32) => (if ¬ r_19 = (0 : Int32) then j49 v2_7 v3_7 else nm (v2_7 + (1 : Int32)) (fun (v2_21 : Int32) => j49 v2_21 v4_7))))))))
def fX9_fixes (fu : Nat) (z : OS) (p1 : Int32) : Option (Int32 × (OS)) :=
  jn (κ := Int32 → Int32 → Option (Int32 × (OS))) (fun (v2_55 : Int32) (v3_55 : Int32) => jn (κ := Int32 → Int32 → Int32 → Int32 → Option (Int32 × (OS))) (fun (v2_69 : Int32) (v3_69 : Int32) (t1_69 : Int32) (t2_69 : Int32) => gd (isZ (t1_69 ||| t2_69)) (nm (sI z 14 (t1_69 ||| t2_69)) (fun (z_1 : OS) => bd (fX9_literals fu z_1 p1) (fun (r_2 : Int32) => jn (κ := Int32 → Int32 → Option (Int32 × (OS))) (fun (v2_90 : Int32) (v3_90 : Int32) => (if ¬ v2_90 = (1 : Int32) then gd (isZ (0 : Int32)) (some ((0 : Int32), z_1)) else bd (fX9_sign fu z_1 p1 v3_90) (fun (r_4 : Int32) => bd (fX9_isFixed fu z_1 v3_90 r_4) (fun (r_6 : Int32) => (if r_6 = (0 : Int32) then bd (fX9_sign fu z_1 p1 v3_90) (fun (r_8 : Int32) => (if ¬ r_8 = (1 : Int32) then nm (sI z_1 13 ((z_1.1 13) ||| ((1 : Int32) <<< (v3_90 &&& (31 : Int32))))) (fun (z_10 : OS) => gd (isZ (1 : Int32)) (some ((1 : Int32), z_10))) else nm (sI z_1 12 ((z_1.1 12) ||| ((1 : Int32) <<< (v3_90 &&& (31 : Int32))))) (fun (z_11 : OS) => gd (isZ (1 : Int32)) (some ((1 : Int32), z_11))))) else gd (isZ (0 : Int32)) (some ((0 : Int32), z_1))))))) (fun j90 => (if ¬ r_2 = (1 : Int32) then j90 v2_69 v3_69 else bd (fX9_onlyVariable fu z_1 p1) (fun (r_12 : Int32) => j90 (1 : Int32) r_12))))))) (fun j69 => (if ¬ v2_55 = (0 : Int32) then j69 v2_55 v3_55 (z.1 14) (0 : Int32) else j69 v2_55 v3_55 (z.1 14) (1 : Int32)))) (fun j55 => lX9_fixes_7 fu z p1 j55 fu (0 : Int32) (-1 : Int32) (0 : Int32))
set_option maxRecDepth 100000 in
set_option maxHeartbeats 4000000 in
theorem mX9_fixes (l : Launch) (D : va_G) (cI cB cZ cO : ClassId) (q : Nat → Nat) (sz : Nat) (fu : Nat) (z : OS) (p1 : Int32) {r : Int32} {y1 : OS} (hf : fX9_fixes fu z p1 = some (r, y1)) : Met l yX9_fixes wsX9_fixes ({ frames := 2, cells := 0, slots := 0, locals := 45 }) (va_Pc [.ref (q 0), .int p1] (Pw D (gT cI cB cZ cO) (wM cI cB cZ q z) sz)) (Qw D (va_A (wM cI cB cZ q z) sz) (some (.int r)) (wM cI cB cZ q y1)) 0 0 (va_A (wM cI cB cZ q z) sz) := by
  unfold fX9_fixes at hf
  refine metW (ret := (some .boolean)) (own := RX9) rfl (by decide) rfl (Nat.le_of_ble_eq_true rfl) (fun p e s m args below meth c ls A hx hb hr hml hown hlocks hts hK hA hP hD hS hl => ?_)
  have k149 := (hts (.fieldLink RX9 149 "ResolutionProverModel" "isConflict" "Z") (List.mem_of_getElem? (i := 1) rfl))
  have k146 := (hts (.fieldLink RX9 146 "ResolutionProverModel" "fixedOff" "I") (List.mem_of_getElem? (i := 3) rfl))
  have k143 := (hts (.fieldLink RX9 143 "ResolutionProverModel" "fixedOn" "I") (List.mem_of_getElem? (i := 2) rfl))
  have hiX9 : ∀ w ∈ wsX90, w ∈ wsX9_fixes := (memIn_p [26, 27, 28, 29, 30, 31, 32, 33, 34, 35, 36, 37, 38, 39, 40, 41, 42, 43, 44, 45, 46, 47, 48, 49, 50, 51, 52] rfl)
  have hl : lv_has ls 6 [(0, .ref (q 0)), (1, .int p1)] := hl
  refine lv_iconst (v := 0) hx hb dX9_fixes_0 (by decide) ?_
  refine lv_istore_n (lv' := [(2, .int (0 : Int32)), (0, .ref (q 0)), (1, .int p1)]) hx hb dX9_fixes_1 rfl hl (by decide) rfl (fun ls hl => ?_)
  refine lv_iconst (v := (-1)) hx hb dX9_fixes_2 (by decide) ?_
  refine lv_istore_n (lv' := [(3, .int (-1 : Int32)), (2, .int (0 : Int32)), (0, .ref (q 0)), (1, .int p1)]) hx hb dX9_fixes_3 rfl hl (by decide) rfl (fun ls hl => ?_)
  refine lv_iconst (v := 0) hx hb dX9_fixes_4 (by decide) ?_
  refine lv_istore (lv' := [(4, .int (0 : Int32)), (3, .int (-1 : Int32)), (2, .int (0 : Int32)), (0, .ref (q 0)), (1, .int p1)]) hx hb dX9_fixes_5 hl (by decide) rfl (fun ls hl => ?_)
  obtain ⟨j55, ej55, hf⟩ := jn_ob hf
  have hp55 : ∀ (v2_55 : Int32) (v3_55 : Int32) (H : Heap) (locs : List Loc) (ls : Array Slot), j55 v2_55 v3_55 = some (r, y1) → va_P D vwCl (wM cI cB cZ q z) H → va_D A (wM cI cB cZ q z) → va_S A s.heap H locs → lv_has ls 6 [(0, .ref (q 0)), (1, .int p1), (2, .int v2_55), (3, .int v3_55)] → W p l e (headSpec wsX9_fixes { frames := 2, cells := 0, slots := 0, locals := 45 }).room s m args below meth c H locs 0 0 (MQ below (Qw D A (some (.int r)) (wM cI cB cZ q y1)) args s 0 0 A) (F0 m 55 ls []) := by
    intro v2_55 v3_55 H locs ls hf hP hD hS hl
    rw [ej55] at hf
    refine lv_aload_n hx hb dX9_fixes_55 rfl (lv_at hl 0 rfl) ?_
    refine lv_dup hx hb dX9_fixes_56 rfl ?_
    refine va_get (D := D) (ci := 8) (v := .int (z.1 14)) (C := RX9) (T := TX9) (N := 27) hx hb hts hiX9 hown hK hP 0 rfl rfl 14 (by decide) k149 (fun _ h9 => h9) rfl dX9_fixes_57 ?_
    refine lv_iload_n hx hb dX9_fixes_60 rfl (lv_at hl 2 rfl) ?_
    obtain ⟨j69, ej69, hf⟩ := jn_ob hf
    have hp69 : ∀ (v2_69 : Int32) (v3_69 : Int32) (t1_69 : Int32) (t2_69 : Int32) (H : Heap) (locs : List Loc) (ls : Array Slot), j69 v2_69 v3_69 t1_69 t2_69 = some (r, y1) → va_P D vwCl (wM cI cB cZ q z) H → va_D A (wM cI cB cZ q z) → va_S A s.heap H locs → lv_has ls 6 [(0, .ref (q 0)), (1, .int p1), (2, .int v2_69), (3, .int v3_69)] → W p l e (headSpec wsX9_fixes { frames := 2, cells := 0, slots := 0, locals := 45 }).room s m args below meth c H locs 0 0 (MQ below (Qw D A (some (.int r)) (wM cI cB cZ q y1)) args s 0 0 A) (F0 m 69 ls [.int t2_69, .int t1_69, .ref (q 0)]) := by
      intro v2_69 v3_69 t1_69 t2_69 H locs ls hf hP hD hS hl
      rw [ej69] at hf
      refine lv_ior hx hb dX9_fixes_69 ?_
      obtain ⟨hz, hf⟩ := gd_ob hf
      refine va_put (D := D) (ci := 8) (v := .int (t1_69 ||| t2_69)) (ty := .boolean) (C := RX9) (T := TX9) (N := 27) hx hb hts hiX9 tyX9 tyX9_ok nmX9 hown hK hP hD hS 0 rfl rfl 14 (by decide) k149 (fun _ h9 => h9) rfl (by decide +kernel) (isZ_n hz) (isZ_f hz) (Nat.le_of_ble_eq_true rfl) dX9_fixes_70 (fun H locs hP hD hS => ?_)
      obtain ⟨z_1, ez_1, hf⟩ := nm_ob hf
      have hP : va_P D vwCl (wM cI cB cZ q z_1) H := by rw [ez_1]; exact hP
      have hD : va_D A (wM cI cB cZ q z_1) := by rw [ez_1]; exact hD
      refine lv_aload_n hx hb dX9_fixes_73 rfl (lv_at hl 0 rfl) ?_
      refine lv_iload_n hx hb dX9_fixes_74 rfl (lv_at hl 1 rfl) ?_
      obtain ⟨r_2, hc_3, hf⟩ := bd_ob hf
      refine rdV (As := [.int p1]) (rest := []) ⟨hx, hb, hml, hown, hts⟩ (mX9_literals l D cI cB cZ cO q fu z_1 p1 hc_3) (cwV 1 hts gX9_fixes_X9_literals rfl rfl rfl (by decide +kernel) ⟨Nat.le_of_ble_eq_true rfl, Nat.le_of_ble_eq_true rfl⟩) hK hP (va_recv hK hP (ci := 8) (q0 := 0) rfl rfl) rfl hl.1 rfl (Nat.le_of_ble_eq_true rfl) dX9_fixes_75 ⟨Nat.zero_le _, Nat.zero_le _⟩ ?_
      refine lv_iconst (v := 1) hx hb dX9_fixes_78 (by decide) ?_
      obtain ⟨j90, ej90, hf⟩ := jn_ob hf
      have hp90 : ∀ (v2_90 : Int32) (v3_90 : Int32) (H : Heap) (locs : List Loc) (ls : Array Slot), j90 v2_90 v3_90 = some (r, y1) → va_P D vwCl (wM cI cB cZ q z_1) H → va_D A (wM cI cB cZ q z_1) → va_S A s.heap H locs → lv_has ls 6 [(0, .ref (q 0)), (1, .int p1), (2, .int v2_90), (3, .int v3_90)] → W p l e (headSpec wsX9_fixes { frames := 2, cells := 0, slots := 0, locals := 45 }).room s m args below meth c H locs 0 0 (MQ below (Qw D A (some (.int r)) (wM cI cB cZ q y1)) args s 0 0 A) (F0 m 90 ls []) := by
        intro v2_90 v3_90 H locs ls hf hP hD hS hl
        rw [ej90] at hf
        refine lv_iload_n hx hb dX9_fixes_90 rfl (lv_at hl 2 rfl) ?_
        refine lv_iconst (v := 1) hx hb dX9_fixes_91 (by decide) ?_
        refine lv_icmp_ne (tgt := 109) hx hb dX9_fixes_92 (by decide) (fun c_92 => ?_) (fun c_92 => ?_)
        · have hf := ip c_92 hf
          refine lv_iconst (v := 0) hx hb dX9_fixes_109 (by decide) ?_
          obtain ⟨hz, hf⟩ := gd_ob hf
          exact rW_z hx hb hr hlocks hP hD hS hz (congrArg (fun q9 => q9.1) (so_ob hf)) (congrArg (fun (q9 : Int32 × (OS)) => wM cI cB cZ q q9.2) (so_ob hf)) dX9_fixes_110
        · have hf := iqn c_92 hf
          refine lv_aload_n hx hb dX9_fixes_95 rfl (lv_at hl 0 rfl) ?_
          refine lv_iload_n hx hb dX9_fixes_96 rfl (lv_at hl 3 rfl) ?_
          refine lv_aload_n hx hb dX9_fixes_97 rfl (lv_at hl 0 rfl) ?_
          refine lv_iload_n hx hb dX9_fixes_98 rfl (lv_at hl 1 rfl) ?_
          refine lv_iload_n hx hb dX9_fixes_99 rfl (lv_at hl 3 rfl) ?_
          obtain ⟨r_4, hc_5, hf⟩ := bd_ob hf
          refine rdV (As := [.int p1, .int v3_90]) (rest := [.int v3_90, .ref (q 0)]) ⟨hx, hb, hml, hown, hts⟩ (mX9_sign l D cI cB cZ cO q fu z_1 p1 v3_90 hc_5) (cwV 2 hts gX9_fixes_X9_sign rfl rfl rfl (by decide +kernel) ⟨Nat.le_of_ble_eq_true rfl, Nat.le_of_ble_eq_true rfl⟩) hK hP (va_recv hK hP (ci := 8) (q0 := 0) rfl rfl) rfl hl.1 rfl (Nat.le_of_ble_eq_true rfl) dX9_fixes_100 ⟨Nat.zero_le _, Nat.zero_le _⟩ ?_
          obtain ⟨r_6, hc_7, hf⟩ := bd_ob hf
          refine rdV (As := [.int v3_90, .int r_4]) (rest := []) ⟨hx, hb, hml, hown, hts⟩ (mX9_isFixed l D cI cB cZ cO q fu z_1 v3_90 r_4 hc_7) (cwV 2 hts gX9_fixes_X9_isFixed rfl rfl rfl (by decide +kernel) ⟨Nat.le_of_ble_eq_true rfl, Nat.le_of_ble_eq_true rfl⟩) hK hP (va_recv hK hP (ci := 8) (q0 := 0) rfl rfl) rfl hl.1 rfl (Nat.le_of_ble_eq_true rfl) dX9_fixes_103 ⟨Nat.zero_le _, Nat.zero_le _⟩ ?_
          refine lv_if_eq (tgt := 111) hx hb dX9_fixes_106 (by decide) (fun c_106 => ?_) (fun c_106 => ?_)
          · have hf := ip c_106 hf
            refine lv_aload_n hx hb dX9_fixes_111 rfl (lv_at hl 0 rfl) ?_
            refine lv_iload_n hx hb dX9_fixes_112 rfl (lv_at hl 1 rfl) ?_
            refine lv_iload_n hx hb dX9_fixes_113 rfl (lv_at hl 3 rfl) ?_
            obtain ⟨r_8, hc_9, hf⟩ := bd_ob hf
            refine rdV (As := [.int p1, .int v3_90]) (rest := []) ⟨hx, hb, hml, hown, hts⟩ (mX9_sign l D cI cB cZ cO q fu z_1 p1 v3_90 hc_9) (cwV 2 hts gX9_fixes_X9_sign rfl rfl rfl (by decide +kernel) ⟨Nat.le_of_ble_eq_true rfl, Nat.le_of_ble_eq_true rfl⟩) hK hP (va_recv hK hP (ci := 8) (q0 := 0) rfl rfl) rfl hl.1 rfl (Nat.le_of_ble_eq_true rfl) dX9_fixes_114 ⟨Nat.zero_le _, Nat.zero_le _⟩ ?_
            refine lv_iconst (v := 1) hx hb dX9_fixes_117 (by decide) ?_
            refine lv_icmp_ne (tgt := 136) hx hb dX9_fixes_118 (by decide) (fun c_118 => ?_) (fun c_118 => ?_)
            · have hf := ip c_118 hf
              refine lv_aload_n hx hb dX9_fixes_136 rfl (lv_at hl 0 rfl) ?_
              refine lv_dup hx hb dX9_fixes_137 rfl ?_
              refine va_get (D := D) (ci := 8) (v := .int (z_1.1 13)) (C := RX9) (T := TX9) (N := 27) hx hb hts hiX9 hown hK hP 0 rfl rfl 13 (by decide) k146 (fun _ h9 => h9) rfl dX9_fixes_138 ?_
              refine lv_iconst (v := 1) hx hb dX9_fixes_141 (by decide) ?_
              refine lv_iload_n hx hb dX9_fixes_142 rfl (lv_at hl 3 rfl) ?_
              refine lv_ishl hx hb dX9_fixes_143 ?_
              refine lv_ior hx hb dX9_fixes_144 ?_
              refine va_put (D := D) (ci := 8) (v := .int ((z_1.1 13) ||| ((1 : Int32) <<< (v3_90 &&& (31 : Int32))))) (ty := .int) (C := RX9) (T := TX9) (N := 27) hx hb hts hiX9 tyX9 tyX9_ok nmX9 hown hK hP hD hS 0 rfl rfl 13 (by decide) k146 (fun _ h9 => h9) rfl (by decide +kernel) rfl rfl (Nat.le_of_ble_eq_true rfl) dX9_fixes_145 (fun H locs hP hD hS => ?_)
              obtain ⟨z_10, ez_10, hf⟩ := nm_ob hf
              have hP : va_P D vwCl (wM cI cB cZ q z_10) H := by rw [ez_10]; exact hP
              have hD : va_D A (wM cI cB cZ q z_10) := by rw [ez_10]; exact hD
              refine lv_iconst (v := 1) hx hb dX9_fixes_148 (by decide) ?_
              obtain ⟨hz, hf⟩ := gd_ob hf
              exact rW_z hx hb hr hlocks hP hD hS hz (congrArg (fun q9 => q9.1) (so_ob hf)) (congrArg (fun (q9 : Int32 × (OS)) => wM cI cB cZ q q9.2) (so_ob hf)) dX9_fixes_149
            · have hf := iqn c_118 hf
              refine lv_aload_n hx hb dX9_fixes_121 rfl (lv_at hl 0 rfl) ?_
              refine lv_dup hx hb dX9_fixes_122 rfl ?_
              refine va_get (D := D) (ci := 8) (v := .int (z_1.1 12)) (C := RX9) (T := TX9) (N := 27) hx hb hts hiX9 hown hK hP 0 rfl rfl 12 (by decide) k143 (fun _ h9 => h9) rfl dX9_fixes_123 ?_
              refine lv_iconst (v := 1) hx hb dX9_fixes_126 (by decide) ?_
              refine lv_iload_n hx hb dX9_fixes_127 rfl (lv_at hl 3 rfl) ?_
              refine lv_ishl hx hb dX9_fixes_128 ?_
              refine lv_ior hx hb dX9_fixes_129 ?_
              refine va_put (D := D) (ci := 8) (v := .int ((z_1.1 12) ||| ((1 : Int32) <<< (v3_90 &&& (31 : Int32))))) (ty := .int) (C := RX9) (T := TX9) (N := 27) hx hb hts hiX9 tyX9 tyX9_ok nmX9 hown hK hP hD hS 0 rfl rfl 12 (by decide) k143 (fun _ h9 => h9) rfl (by decide +kernel) rfl rfl (Nat.le_of_ble_eq_true rfl) dX9_fixes_130 (fun H locs hP hD hS => ?_)
              obtain ⟨z_11, ez_11, hf⟩ := nm_ob hf
              have hP : va_P D vwCl (wM cI cB cZ q z_11) H := by rw [ez_11]; exact hP
              have hD : va_D A (wM cI cB cZ q z_11) := by rw [ez_11]; exact hD
              refine lv_goto (tgt := 148) hx hb dX9_fixes_133 (by decide) ?_
              refine lv_iconst (v := 1) hx hb dX9_fixes_148 (by decide) ?_
              obtain ⟨hz, hf⟩ := gd_ob hf
              exact rW_z hx hb hr hlocks hP hD hS hz (congrArg (fun q9 => q9.1) (so_ob hf)) (congrArg (fun (q9 : Int32 × (OS)) => wM cI cB cZ q q9.2) (so_ob hf)) dX9_fixes_149
          · have hf := iq c_106 hf
            refine lv_iconst (v := 0) hx hb dX9_fixes_109 (by decide) ?_
            obtain ⟨hz, hf⟩ := gd_ob hf
            exact rW_z hx hb hr hlocks hP hD hS hz (congrArg (fun q9 => q9.1) (so_ob hf)) (congrArg (fun (q9 : Int32 × (OS)) => wM cI cB cZ q q9.2) (so_ob hf)) dX9_fixes_110
      refine lv_icmp_ne (tgt := 90) hx hb dX9_fixes_79 (by decide) (fun c_79 => ?_) (fun c_79 => ?_)
      · have hf := ip c_79 hf
        exact hp90 v2_69 v3_69 _ _ _ hf hP hD hS hl
      · have hf := iqn c_79 hf
        refine lv_iconst (v := 1) hx hb dX9_fixes_82 (by decide) ?_
        refine lv_istore_n (lv' := [(2, .int (1 : Int32)), (0, .ref (q 0)), (1, .int p1), (3, .int v3_69)]) hx hb dX9_fixes_83 rfl hl (by decide) rfl (fun ls hl => ?_)
        refine lv_aload_n hx hb dX9_fixes_84 rfl (lv_at hl 1 rfl) ?_
        refine lv_iload_n hx hb dX9_fixes_85 rfl (lv_at hl 2 rfl) ?_
        obtain ⟨r_12, hc_13, hf⟩ := bd_ob hf
        refine rdV (As := [.int p1]) (rest := []) ⟨hx, hb, hml, hown, hts⟩ (mX9_onlyVariable l D cI cB cZ cO q fu z_1 p1 hc_13) (cwV 1 hts gX9_fixes_X9_onlyVariable rfl rfl rfl (by decide +kernel) ⟨Nat.le_of_ble_eq_true rfl, Nat.le_of_ble_eq_true rfl⟩) hK hP (va_recv hK hP (ci := 8) (q0 := 0) rfl rfl) rfl hl.1 rfl (Nat.le_of_ble_eq_true rfl) dX9_fixes_86 ⟨Nat.zero_le _, Nat.zero_le _⟩ ?_
        refine lv_istore_n (lv' := [(3, .int r_12), (2, .int (1 : Int32)), (0, .ref (q 0)), (1, .int p1)]) hx hb dX9_fixes_89 rfl hl (by decide) rfl (fun ls hl => ?_)
        exact hp90 (1 : Int32) r_12 _ _ _ hf hP hD hS (lv_sub hl [2, 3, 1, 0] rfl)
    refine lv_if_ne (tgt := 68) hx hb dX9_fixes_61 (by decide) (fun c_61 => ?_) (fun c_61 => ?_)
    · have hf := ip c_61 hf
      refine lv_iconst (v := 0) hx hb dX9_fixes_68 (by decide) ?_
      exact hp69 v2_55 v3_55 (z.1 14) (0 : Int32) _ _ _ hf hP hD hS hl
    · have hf := iqn c_61 hf
      refine lv_iconst (v := 1) hx hb dX9_fixes_64 (by decide) ?_
      refine lv_goto (tgt := 69) hx hb dX9_fixes_65 (by decide) ?_
      exact hp69 v2_55 v3_55 (z.1 14) (1 : Int32) _ _ _ hf hP hD hS hl
  have hL7 : ∀ (n_7 : Nat) (v2_7 : Int32) (v3_7 : Int32) (v4_7 : Int32) (H : Heap) (locs : List Loc) (ls : Array Slot), lX9_fixes_7 fu z p1 j55 n_7 v2_7 v3_7 v4_7 = some (r, y1) → va_P D vwCl (wM cI cB cZ q z) H → va_D A (wM cI cB cZ q z) → va_S A s.heap H locs → lv_has ls 6 [(0, .ref (q 0)), (1, .int p1), (2, .int v2_7), (3, .int v3_7), (4, .int v4_7)] → W p l e (headSpec wsX9_fixes { frames := 2, cells := 0, slots := 0, locals := 45 }).room s m args below meth c H locs 0 0 (MQ below (Qw D A (some (.int r)) (wM cI cB cZ q y1)) args s 0 0 A) (F0 m 7 ls []) := by
    intro n_7
    induction n_7 with
    | zero =>
      intro v2_7 v3_7 v4_7 H locs ls hf
      exact no_ob hf
    | succ n_7 ih7 =>
      intro v2_7 v3_7 v4_7 H locs ls hf hP hD hS hl
      rw [lX9_fixes_7] at hf
      refine lv_iload hx hb dX9_fixes_7 (lv_at hl 4 rfl) ?_
      refine lv_aload_n hx hb dX9_fixes_9 rfl (lv_at hl 0 rfl) ?_
      obtain ⟨r_14, hc_15, hf⟩ := bd_ob hf
      refine rdV (As := []) (rest := [.int v4_7]) ⟨hx, hb, hml, hown, hts⟩ (mX9_wide l D cI cB cZ cO q fu z hc_15) (cwV 0 hts gX9_fixes_X9_wide rfl rfl rfl (by decide +kernel) ⟨Nat.le_of_ble_eq_true rfl, Nat.le_of_ble_eq_true rfl⟩) hK hP (va_recv hK hP (ci := 8) (q0 := 0) rfl rfl) rfl hl.1 rfl (Nat.le_of_ble_eq_true rfl) dX9_fixes_10 ⟨Nat.zero_le _, Nat.zero_le _⟩ ?_
      refine lv_icmp_ge (tgt := 55) hx hb dX9_fixes_13 (by decide) (fun c_13 => ?_) (fun c_13 => ?_)
      · have hf := ip c_13 hf
        exact hp55 v2_7 v3_7 _ _ _ hf hP hD hS (lv_sub hl [0, 1, 2, 3] rfl)
      · have hf := iq c_13 hf
        refine lv_aload_n hx hb dX9_fixes_16 rfl (lv_at hl 0 rfl) ?_
        refine lv_iload_n hx hb dX9_fixes_17 rfl (lv_at hl 1 rfl) ?_
        refine lv_iload hx hb dX9_fixes_18 (lv_at hl 4 rfl) ?_
        obtain ⟨r_16, hc_17, hf⟩ := bd_ob hf
        refine rdV (As := [.int p1, .int v4_7]) (rest := []) ⟨hx, hb, hml, hown, hts⟩ (mX9_sign l D cI cB cZ cO q fu z p1 v4_7 hc_17) (cwV 2 hts gX9_fixes_X9_sign rfl rfl rfl (by decide +kernel) ⟨Nat.le_of_ble_eq_true rfl, Nat.le_of_ble_eq_true rfl⟩) hK hP (va_recv hK hP (ci := 8) (q0 := 0) rfl rfl) rfl hl.1 rfl (Nat.le_of_ble_eq_true rfl) dX9_fixes_20 ⟨Nat.zero_le _, Nat.zero_le _⟩ ?_
        refine lv_istore (lv' := [(5, .int r_16), (0, .ref (q 0)), (1, .int p1), (2, .int v2_7), (3, .int v3_7), (4, .int v4_7)]) hx hb dX9_fixes_23 hl (by decide) rfl (fun ls hl => ?_)
        refine lv_iload hx hb dX9_fixes_25 (lv_at hl 0 rfl) ?_
        obtain ⟨j49, ej49, hf⟩ := jn_ob hf
        have hp49 : ∀ (v2_49 : Int32) (v3_49 : Int32) (H : Heap) (locs : List Loc) (ls : Array Slot), j49 v2_49 v3_49 = some (r, y1) → va_P D vwCl (wM cI cB cZ q z) H → va_D A (wM cI cB cZ q z) → va_S A s.heap H locs → lv_has ls 6 [(0, .ref (q 0)), (1, .int p1), (2, .int v2_49), (3, .int v3_49), (4, .int v4_7)] → W p l e (headSpec wsX9_fixes { frames := 2, cells := 0, slots := 0, locals := 45 }).room s m args below meth c H locs 0 0 (MQ below (Qw D A (some (.int r)) (wM cI cB cZ q y1)) args s 0 0 A) (F0 m 49 ls []) := by
          intro v2_49 v3_49 H locs ls hf hP hD hS hl
          rw [ej49] at hf
          obtain ⟨v4_18, ev4_18, hf⟩ := nm_ob hf
          refine lv_iinc (v := v4_18) (lv' := [(4, .int v4_18), (0, .ref (q 0)), (1, .int p1), (2, .int v2_49), (3, .int v3_49)]) hx hb dX9_fixes_49 hl (k := 4) rfl (by rw [ev4_18]; rfl) (by decide) rfl (fun ls hl => ?_)
          refine lv_goto (tgt := 7) hx hb dX9_fixes_52 (by decide) ?_
          exact ih7 v2_49 v3_49 v4_18 _ _ _ hf hP hD hS (lv_sub hl [1, 2, 3, 4, 0] rfl)
        refine lv_if_eq (tgt := 49) hx hb dX9_fixes_27 (by decide) (fun c_27 => ?_) (fun c_27 => ?_)
        · have hf := ip c_27 hf
          exact hp49 v2_7 v3_7 _ _ _ hf hP hD hS (lv_sub hl [1, 2, 3, 4, 5] rfl)
        · have hf := iq c_27 hf
          refine lv_aload_n hx hb dX9_fixes_30 rfl (lv_at hl 1 rfl) ?_
          refine lv_iload hx hb dX9_fixes_31 (lv_at hl 5 rfl) ?_
          refine lv_iconst (v := 3) hx hb dX9_fixes_33 (by decide) ?_
          refine lv_iload hx hb dX9_fixes_34 (lv_at hl 0 rfl) ?_
          refine lv_isub hx hb dX9_fixes_36 ?_
          obtain ⟨r_19, hc_20, hf⟩ := bd_ob hf
          refine rdV (As := [.int v4_7, .int ((3 : Int32) - r_16)]) (rest := []) ⟨hx, hb, hml, hown, hts⟩ (mX9_isFixed l D cI cB cZ cO q fu z v4_7 ((3 : Int32) - r_16) hc_20) (cwV 2 hts gX9_fixes_X9_isFixed rfl rfl rfl (by decide +kernel) ⟨Nat.le_of_ble_eq_true rfl, Nat.le_of_ble_eq_true rfl⟩) hK hP (va_recv hK hP (ci := 8) (q0 := 0) rfl rfl) rfl hl.1 rfl (Nat.le_of_ble_eq_true rfl) dX9_fixes_37 ⟨Nat.zero_le _, Nat.zero_le _⟩ ?_
          refine lv_if_ne (tgt := 49) hx hb dX9_fixes_40 (by decide) (fun c_40 => ?_) (fun c_40 => ?_)
          · have hf := ip c_40 hf
            exact hp49 v2_7 v3_7 _ _ _ hf hP hD hS (lv_sub hl [1, 2, 3, 4, 5] rfl)
          · have hf := iqn c_40 hf
            obtain ⟨v2_21, ev2_21, hf⟩ := nm_ob hf
            refine lv_iinc (v := v2_21) (lv' := [(2, .int v2_21), (5, .int r_16), (0, .ref (q 0)), (1, .int p1), (3, .int v3_7), (4, .int v4_7)]) hx hb dX9_fixes_43 hl (k := 3) rfl (by rw [ev2_21]; rfl) (by decide) rfl (fun ls hl => ?_)
            refine lv_iload hx hb dX9_fixes_46 (lv_at hl 5 rfl) ?_
            refine lv_istore_n (lv' := [(3, .int v4_7), (2, .int v2_21), (5, .int r_16), (0, .ref (q 0)), (1, .int p1), (4, .int v4_7)]) hx hb dX9_fixes_48 rfl hl (by decide) rfl (fun ls hl => ?_)
            exact hp49 v2_21 v4_7 _ _ _ hf hP hD hS (lv_sub hl [3, 4, 1, 0, 5] rfl)
  exact hL7 fu (0 : Int32) (-1 : Int32) (0 : Int32) _ _ _ hf hP hD hS (lv_sub hl [3, 4, 2, 1, 0] rfl)
