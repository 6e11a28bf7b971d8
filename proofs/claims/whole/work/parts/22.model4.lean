def fX9_prints (fu : Nat) (z : OS) (p1 : Int32) : Option ((OS)) :=
  gd (inB (z.1 26) 64) (nm (sA z 25 (upd (z.2 25) ((z.1 26)).toNatClampNeg (vp_nar .byte ((p1).toInt8.toInt32)))) (fun (z_1 : OS) => nm (sI z_1 26 ((z_1.1 26) + (1 : Int32))) (fun (z_2 : OS) => some z_2)))
set_option maxRecDepth 100000 in
set_option maxHeartbeats 4000000 in
theorem mX9_prints (l : Launch) (D : va_G) (cI cB cZ cO : ClassId) (q : Nat → Nat) (sz : Nat) (fu : Nat) (z : OS) (p1 : Int32) {y1 : OS} (hf : fX9_prints fu z p1 = some y1) : Met l yX9_prints wsX9_prints ({ frames := 0, cells := 0, slots := 0, locals := 0 }) (va_Pc [.ref (q 0), .int p1] (Pw D (gT cI cB cZ cO) (wM cI cB cZ q z) sz)) (Qw D (va_A (wM cI cB cZ q z) sz) none (wM cI cB cZ q y1)) 0 0 (va_A (wM cI cB cZ q z) sz) := by
  unfold fX9_prints at hf
  refine metW (ret := none) (own := RX9) rfl (by decide) rfl (Nat.le_of_ble_eq_true rfl) (fun p e s m args below meth c ls A hx hb hr hml hown hlocks hts hK hA hP hD hS hl => ?_)
  have k43 := (hts (.fieldLink RX9 43 "ResolutionProverModel" "output" "[B") (List.mem_of_getElem? (i := 1) rfl))
  have k391 := (hts (.fieldLink RX9 391 "ResolutionProverModel" "outputMany" "I") (List.mem_of_getElem? (i := 2) rfl))
  have hiX9 : ∀ w ∈ wsX90, w ∈ wsX9_prints := (memIn_p [3, 4, 5, 6, 7, 8, 9, 10, 11, 12, 13, 14, 15, 16, 17, 18, 19, 20, 21, 22, 23, 24, 25, 26, 27, 28, 29] rfl)
  have hl : lv_has ls 2 [(0, .ref (q 0)), (1, .int p1)] := hl
  refine lv_aload_n hx hb dX9_prints_0 rfl (lv_at hl 0 rfl) ?_
  refine va_get (D := D) (ci := 8) (v := .ref (q 10)) (C := RX9) (T := TX9) (N := 27) hx hb hts hiX9 hown hK hP 0 rfl rfl 25 (by decide) k43 (fun _ h9 => h9) rfl dX9_prints_1 ?_
  refine lv_aload_n hx hb dX9_prints_4 rfl (lv_at hl 0 rfl) ?_
  refine va_get (D := D) (ci := 8) (v := .int (z.1 26)) (C := RX9) (T := TX9) (N := 27) hx hb hts hiX9 hown hK hP 0 rfl rfl 26 (by decide) k391 (fun _ h9 => h9) rfl dX9_prints_5 ?_
  refine lv_iload_n hx hb dX9_prints_8 rfl (lv_at hl 1 rfl) ?_
  refine lv_i2b hx hb dX9_prints_9 rfl ?_
  obtain ⟨hi_, hf⟩ := gd_ob hf
  refine va_bast hx hb hK hP hD hS 10 1 rfl rfl (inB_in hi_) dX9_prints_10 (fun H locs hP hD hS => ?_)
  obtain ⟨z_1, ez_1, hf⟩ := nm_ob hf
  have hP : va_P D vwCl (wM cI cB cZ q z_1) H := by rw [ez_1]; exact hP
  have hD : va_D A (wM cI cB cZ q z_1) := by rw [ez_1]; exact hD
  refine lv_aload_n hx hb dX9_prints_11 rfl (lv_at hl 0 rfl) ?_
  refine lv_dup hx hb dX9_prints_12 rfl ?_
  refine va_get (D := D) (ci := 8) (v := .int (z_1.1 26)) (C := RX9) (T := TX9) (N := 27) hx hb hts hiX9 hown hK hP 0 rfl rfl 26 (by decide) k391 (fun _ h9 => h9) rfl dX9_prints_13 ?_
  refine lv_iconst (v := 1) hx hb dX9_prints_16 (by decide) ?_
  refine lv_iadd hx hb dX9_prints_17 ?_
  refine va_put (D := D) (ci := 8) (v := .int ((z_1.1 26) + (1 : Int32))) (ty := .int) (C := RX9) (T := TX9) (N := 27) hx hb hts hiX9 tyX9 tyX9_ok nmX9 hown hK hP hD hS 0 rfl rfl 26 (by decide) k391 (fun _ h9 => h9) rfl (by decide +kernel) rfl rfl (Nat.le_of_ble_eq_true rfl) dX9_prints_18 (fun H locs hP hD hS => ?_)
  obtain ⟨z_2, ez_2, hf⟩ := nm_ob hf
  have hP : va_P D vwCl (wM cI cB cZ q z_2) H := by rw [ez_2]; exact hP
  have hD : va_D A (wM cI cB cZ q z_2) := by rw [ez_2]; exact hD
  exact rW_v hx hb hr hlocks hP hD hS (congrArg (fun (q9 : (OS)) => wM cI cB cZ q q9) (so_ob hf)) dX9_prints_21

def lX9_writeClause_22 (fu : Nat) (p1 : Int32) (j85 : OS → Option (Int32 × (OS))) : Nat → Int32 → OS → Option (Int32 × (OS))
  | 0, _, _ => none
  | n_22 + 1, v2_22, z1_22 => bd (fX9_wide fu z1_22) (fun (r_9 : Int32) => (if r_9 ≤ v2_22 then j85 z1_22 else bd (fX9_sign fu z1_22 p1 v2_22) (fun (r_11 : Int32) => jn (κ := OS → Option (Int32 × (OS))) (fun (z1_79 : OS) => nm (v2_22 + (1 : Int32)) (fun (v2_13 : Int32) => lX9_writeClause_22 fu p1 j85 n_22 v2_13 z1_79)) (fun j79 => (if ¬ r_11 = (0 : Int32) then jn (κ := OS → Option (Int32 × (OS))) (fun (z1_55 : OS) => bd (fX9_sign fu z1_55 p1 v2_22) (fun (r_14 : Int32) => jn (κ := OS → Option (Int32 × (OS))) (fun (z1_71 : OS) => bd (fX9_prints fu z1_71 ((97 : Int32) + v2_22)) (fun (z_16 : OS) => j79 z_16)) (fun j71 => (if ¬ r_14 = (2 : Int32) then j71 z1_55 else bd (fX9_prints fu z1_55 (45 : Int32)) (fun (z_18 : OS) => j71 z_18))))) (fun j55 => (if (z1_22.1 26) ≤ (0 : Int32) then j55 z1_22 else bd (fX9_prints fu z1_22 (32 : Int32)) (fun (z_20 : OS) => j55 z_20))) else j79 z1_22)))))
def fX9_writeClause (fu : Nat) (z : OS) (p1 : Int32) : Option (Int32 × (OS)) :=
  nm (sI z 0 (0 : Int32)) (fun (z_1 : OS) => bd (fX9_noClause fu z_1 p1) (fun (w_4 : Int32 × OS) => nm w_4.1 (fun (r_2 : Int32) => nm w_4.2 (fun (z_3 : OS) => (if r_2 = (0 : Int32) then nm (sI z_3 26 (0 : Int32)) (fun (z_6 : OS) => jn (κ := OS → Option (Int32 × (OS))) (fun (z1_85 : OS) => jn (κ := OS → Option (Int32 × (OS))) (fun (z1_98 : OS) => some ((z1_98.1 26), z1_98)) (fun j98 => (if ¬ (z1_85.1 26) = (0 : Int32) then j98 z1_85 else bd (fX9_prints fu z1_85 (35 : Int32)) (fun (z_7 : OS) => j98 z_7)))) (fun j85 => lX9_writeClause_22 fu p1 j85 fu (0 : Int32) z_6)) else some ((0 : Int32), z_3))))))
set_option maxRecDepth 100000 in
set_option maxHeartbeats 4000000 in
theorem mX9_writeClause (l : Launch) (D : va_G) (cI cB cZ cO : ClassId) (q : Nat → Nat) (sz : Nat) (fu : Nat) (z : OS) (p1 : Int32) {r : Int32} {y1 : OS} (hf : fX9_writeClause fu z p1 = some (r, y1)) : Met l yX9_writeClause wsX9_writeClause ({ frames := 2, cells := 0, slots := 0, locals := 46 }) (va_Pc [.ref (q 0), .int p1] (Pw D (gT cI cB cZ cO) (wM cI cB cZ q z) sz)) (Qw D (va_A (wM cI cB cZ q z) sz) (some (.int r)) (wM cI cB cZ q y1)) 0 0 (va_A (wM cI cB cZ q z) sz) := by
  unfold fX9_writeClause at hf
  refine metW (ret := (some .int)) (own := RX9) rfl (by decide) rfl (Nat.le_of_ble_eq_true rfl) (fun p e s m args below meth c ls A hx hb hr hml hown hlocks hts hK hA hP hD hS hl => ?_)
  have k46 := (hts (.fieldLink RX9 46 "ResolutionProverModel" "thrown" "I") (List.mem_of_getElem? (i := 1) rfl))
  have k391 := (hts (.fieldLink RX9 391 "ResolutionProverModel" "outputMany" "I") (List.mem_of_getElem? (i := 2) rfl))
  have hiX9 : ∀ w ∈ wsX90, w ∈ wsX9_writeClause := (memIn_p [33, 34, 35, 36, 37, 38, 39, 40, 41, 42, 43, 44, 45, 46, 47, 48, 49, 50, 51, 52, 53, 54, 55, 56, 57, 58, 59] rfl)
  have hl : lv_has ls 3 [(0, .ref (q 0)), (1, .int p1)] := hl
  refine lv_aload_n hx hb dX9_writeClause_0 rfl (lv_at hl 0 rfl) ?_
  refine lv_iconst (v := 0) hx hb dX9_writeClause_1 (by decide) ?_
  refine va_put (D := D) (ci := 8) (v := .int (0 : Int32)) (ty := .int) (C := RX9) (T := TX9) (N := 27) hx hb hts hiX9 tyX9 tyX9_ok nmX9 hown hK hP hD hS 0 rfl rfl 0 (by decide) k46 (fun _ h9 => h9) rfl (by decide +kernel) rfl rfl (Nat.le_of_ble_eq_true rfl) dX9_writeClause_2 (fun H locs hP hD hS => ?_)
  obtain ⟨z_1, ez_1, hf⟩ := nm_ob hf
  have hP : va_P D vwCl (wM cI cB cZ q z_1) H := by rw [ez_1]; exact hP
  have hD : va_D A (wM cI cB cZ q z_1) := by rw [ez_1]; exact hD
  refine lv_aload_n hx hb dX9_writeClause_5 rfl (lv_at hl 0 rfl) ?_
  refine lv_iload_n hx hb dX9_writeClause_6 rfl (lv_at hl 1 rfl) ?_
  obtain ⟨⟨r_2, z_3⟩, hc_5, hf⟩ := bd_ob hf
  have hf := nm_st hf
  have hf := nm_st hf
  refine weV (As := [.int p1]) (rest := []) ⟨hx, hb, hml, hown, hts⟩ (mX9_noClause l D cI cB cZ cO q _ fu z_1 p1 hc_5) (cwV 1 hts gX9_writeClause_X9_noClause rfl rfl rfl (by decide +kernel) ⟨Nat.le_of_ble_eq_true rfl, Nat.le_of_ble_eq_true rfl⟩) hK hP hD hS hA (va_recv hK hP (ci := 8) (q0 := 0) rfl rfl) rfl hl.1 rfl (Nat.le_of_ble_eq_true rfl) dX9_writeClause_7 ⟨Nat.zero_le _, Nat.zero_le _⟩ (fun H locs hP hD hS => ?_)
  refine lv_if_eq (tgt := 15) hx hb dX9_writeClause_10 (by decide) (fun c_10 => ?_) (fun c_10 => ?_)
  · have hf := ip c_10 hf
    refine lv_aload_n hx hb dX9_writeClause_15 rfl (lv_at hl 0 rfl) ?_
    refine lv_iconst (v := 0) hx hb dX9_writeClause_16 (by decide) ?_
    refine va_put (D := D) (ci := 8) (v := .int (0 : Int32)) (ty := .int) (C := RX9) (T := TX9) (N := 27) hx hb hts hiX9 tyX9 tyX9_ok nmX9 hown hK hP hD hS 0 rfl rfl 26 (by decide) k391 (fun _ h9 => h9) rfl (by decide +kernel) rfl rfl (Nat.le_of_ble_eq_true rfl) dX9_writeClause_17 (fun H locs hP hD hS => ?_)
    obtain ⟨z_6, ez_6, hf⟩ := nm_ob hf
    have hP : va_P D vwCl (wM cI cB cZ q z_6) H := by rw [ez_6]; exact hP
    have hD : va_D A (wM cI cB cZ q z_6) := by rw [ez_6]; exact hD
    refine lv_iconst (v := 0) hx hb dX9_writeClause_20 (by decide) ?_
    refine lv_istore_n (lv' := [(2, .int (0 : Int32)), (0, .ref (q 0)), (1, .int p1)]) hx hb dX9_writeClause_21 rfl hl (by decide) rfl (fun ls hl => ?_)
    obtain ⟨j85, ej85, hf⟩ := jn_ob hf
    have hp85 : ∀ (z1_85 : OS) (H : Heap) (locs : List Loc) (ls : Array Slot), j85 z1_85 = some (r, y1) → va_P D vwCl (wM cI cB cZ q z1_85) H → va_D A (wM cI cB cZ q z1_85) → va_S A s.heap H locs → lv_has ls 3 [(0, .ref (q 0))] → W p l e (headSpec wsX9_writeClause { frames := 2, cells := 0, slots := 0, locals := 46 }).room s m args below meth c H locs 0 0 (MQ below (Qw D A (some (.int r)) (wM cI cB cZ q y1)) args s 0 0 A) (F0 m 85 ls []) := by
      intro z1_85 H locs ls hf hP hD hS hl
      rw [ej85] at hf
      refine lv_aload_n hx hb dX9_writeClause_85 rfl (lv_at hl 0 rfl) ?_
      refine va_get (D := D) (ci := 8) (v := .int (z1_85.1 26)) (C := RX9) (T := TX9) (N := 27) hx hb hts hiX9 hown hK hP 0 rfl rfl 26 (by decide) k391 (fun _ h9 => h9) rfl dX9_writeClause_86 ?_
      obtain ⟨j98, ej98, hf⟩ := jn_ob hf
      have hp98 : ∀ (z1_98 : OS) (H : Heap) (locs : List Loc) (ls : Array Slot), j98 z1_98 = some (r, y1) → va_P D vwCl (wM cI cB cZ q z1_98) H → va_D A (wM cI cB cZ q z1_98) → va_S A s.heap H locs → lv_has ls 3 [(0, .ref (q 0))] → W p l e (headSpec wsX9_writeClause { frames := 2, cells := 0, slots := 0, locals := 46 }).room s m args below meth c H locs 0 0 (MQ below (Qw D A (some (.int r)) (wM cI cB cZ q y1)) args s 0 0 A) (F0 m 98 ls []) := by
        intro z1_98 H locs ls hf hP hD hS hl
        rw [ej98] at hf
        refine lv_aload_n hx hb dX9_writeClause_98 rfl (lv_at hl 0 rfl) ?_
        refine va_get (D := D) (ci := 8) (v := .int (z1_98.1 26)) (C := RX9) (T := TX9) (N := 27) hx hb hts hiX9 hown hK hP 0 rfl rfl 26 (by decide) k391 (fun _ h9 => h9) rfl dX9_writeClause_99 ?_
        exact rW_i hx hb hr hlocks hP hD hS (congrArg (fun q9 => q9.1) (so_ob hf)) (congrArg (fun (q9 : Int32 × (OS)) => wM cI cB cZ q q9.2) (so_ob hf)) dX9_writeClause_102
      refine lv_if_ne (tgt := 98) hx hb dX9_writeClause_89 (by decide) (fun c_89 => ?_) (fun c_89 => ?_)
      · have hf := ip c_89 hf
        exact hp98 z1_85 _ _ _ hf hP hD hS hl
      · have hf := iqn c_89 hf
        refine lv_aload_n hx hb dX9_writeClause_92 rfl (lv_at hl 0 rfl) ?_
        refine lv_bipush (v := 35) hx hb dX9_writeClause_93 (by decide) ?_
        obtain ⟨z_7, hc_8, hf⟩ := bd_ob hf
        refine weV (As := [.int (35 : Int32)]) (rest := []) ⟨hx, hb, hml, hown, hts⟩ (mX9_prints l D cI cB cZ cO q _ fu z1_85 (35 : Int32) hc_8) (cwV 1 hts gX9_writeClause_X9_prints rfl rfl rfl (by decide +kernel) ⟨Nat.le_of_ble_eq_true rfl, Nat.le_of_ble_eq_true rfl⟩) hK hP hD hS hA (va_recv hK hP (ci := 8) (q0 := 0) rfl rfl) rfl hl.1 rfl (Nat.le_of_ble_eq_true rfl) dX9_writeClause_95 ⟨Nat.zero_le _, Nat.zero_le _⟩ (fun H locs hP hD hS => ?_)
        exact hp98 z_7 _ _ _ hf hP hD hS hl
    have hL22 : ∀ (n_22 : Nat) (v2_22 : Int32) (z1_22 : OS) (H : Heap) (locs : List Loc) (ls : Array Slot), lX9_writeClause_22 fu p1 j85 n_22 v2_22 z1_22 = some (r, y1) → va_P D vwCl (wM cI cB cZ q z1_22) H → va_D A (wM cI cB cZ q z1_22) → va_S A s.heap H locs → lv_has ls 3 [(0, .ref (q 0)), (1, .int p1), (2, .int v2_22)] → W p l e (headSpec wsX9_writeClause { frames := 2, cells := 0, slots := 0, locals := 46 }).room s m args below meth c H locs 0 0 (MQ below (Qw D A (some (.int r)) (wM cI cB cZ q y1)) args s 0 0 A) (F0 m 22 ls []) := by
      intro n_22
      induction n_22 with
      | zero =>
        intro v2_22 z1_22 H locs ls hf
        exact no_ob hf
      | succ n_22 ih22 =>
        intro v2_22 z1_22 H locs ls hf hP hD hS hl
        rw [lX9_writeClause_22] at hf
        refine lv_iload_n hx hb dX9_writeClause_22 rfl (lv_at hl 2 rfl) ?_
        refine lv_aload_n hx hb dX9_writeClause_23 rfl (lv_at hl 0 rfl) ?_
        obtain ⟨r_9, hc_10, hf⟩ := bd_ob hf
        refine rdV (As := []) (rest := [.int v2_22]) ⟨hx, hb, hml, hown, hts⟩ (mX9_wide l D cI cB cZ cO q fu z1_22 hc_10) (cwV 0 hts gX9_writeClause_X9_wide rfl rfl rfl (by decide +kernel) ⟨Nat.le_of_ble_eq_true rfl, Nat.le_of_ble_eq_true rfl⟩) hK hP (va_recv hK hP (ci := 8) (q0 := 0) rfl rfl) rfl hl.1 rfl (Nat.le_of_ble_eq_true rfl) dX9_writeClause_24 ⟨Nat.zero_le _, Nat.zero_le _⟩ ?_
        refine lv_icmp_ge (tgt := 85) hx hb dX9_writeClause_27 (by decide) (fun c_27 => ?_) (fun c_27 => ?_)
        · have hf := ip c_27 hf
          exact hp85 z1_22 _ _ _ hf hP hD hS (lv_sub hl [0] rfl)
        · have hf := iq c_27 hf
          refine lv_aload_n hx hb dX9_writeClause_30 rfl (lv_at hl 0 rfl) ?_
          refine lv_iload_n hx hb dX9_writeClause_31 rfl (lv_at hl 1 rfl) ?_
          refine lv_iload_n hx hb dX9_writeClause_32 rfl (lv_at hl 2 rfl) ?_
          obtain ⟨r_11, hc_12, hf⟩ := bd_ob hf
          refine rdV (As := [.int p1, .int v2_22]) (rest := []) ⟨hx, hb, hml, hown, hts⟩ (mX9_sign l D cI cB cZ cO q fu z1_22 p1 v2_22 hc_12) (cwV 2 hts gX9_writeClause_X9_sign rfl rfl rfl (by decide +kernel) ⟨Nat.le_of_ble_eq_true rfl, Nat.le_of_ble_eq_true rfl⟩) hK hP (va_recv hK hP (ci := 8) (q0 := 0) rfl rfl) rfl hl.1 rfl (Nat.le_of_ble_eq_true rfl) dX9_writeClause_33 ⟨Nat.zero_le _, Nat.zero_le _⟩ ?_
          obtain ⟨j79, ej79, hf⟩ := jn_ob hf
          have hp79 : ∀ (z1_79 : OS) (H : Heap) (locs : List Loc) (ls : Array Slot), j79 z1_79 = some (r, y1) → va_P D vwCl (wM cI cB cZ q z1_79) H → va_D A (wM cI cB cZ q z1_79) → va_S A s.heap H locs → lv_has ls 3 [(0, .ref (q 0)), (1, .int p1), (2, .int v2_22)] → W p l e (headSpec wsX9_writeClause { frames := 2, cells := 0, slots := 0, locals := 46 }).room s m args below meth c H locs 0 0 (MQ below (Qw D A (some (.int r)) (wM cI cB cZ q y1)) args s 0 0 A) (F0 m 79 ls []) := by
            intro z1_79 H locs ls hf hP hD hS hl
            rw [ej79] at hf
            obtain ⟨v2_13, ev2_13, hf⟩ := nm_ob hf
            refine lv_iinc (v := v2_13) (lv' := [(2, .int v2_13), (0, .ref (q 0)), (1, .int p1)]) hx hb dX9_writeClause_79 hl (k := 2) rfl (by rw [ev2_13]; rfl) (by decide) rfl (fun ls hl => ?_)
            refine lv_goto (tgt := 22) hx hb dX9_writeClause_82 (by decide) ?_
            exact ih22 v2_13 z1_79 _ _ _ hf hP hD hS (lv_sub hl [1, 2, 0] rfl)
          refine lv_if_ne (tgt := 42) hx hb dX9_writeClause_36 (by decide) (fun c_36 => ?_) (fun c_36 => ?_)
          · have hf := ip c_36 hf
            refine lv_aload_n hx hb dX9_writeClause_42 rfl (lv_at hl 0 rfl) ?_
            refine va_get (D := D) (ci := 8) (v := .int (z1_22.1 26)) (C := RX9) (T := TX9) (N := 27) hx hb hts hiX9 hown hK hP 0 rfl rfl 26 (by decide) k391 (fun _ h9 => h9) rfl dX9_writeClause_43 ?_
            obtain ⟨j55, ej55, hf⟩ := jn_ob hf
            have hp55 : ∀ (z1_55 : OS) (H : Heap) (locs : List Loc) (ls : Array Slot), j55 z1_55 = some (r, y1) → va_P D vwCl (wM cI cB cZ q z1_55) H → va_D A (wM cI cB cZ q z1_55) → va_S A s.heap H locs → lv_has ls 3 [(0, .ref (q 0)), (1, .int p1), (2, .int v2_22)] → W p l e (headSpec wsX9_writeClause { frames := 2, cells := 0, slots := 0, locals := 46 }).room s m args below meth c H locs 0 0 (MQ below (Qw D A (some (.int r)) (wM cI cB cZ q y1)) args s 0 0 A) (F0 m 55 ls []) := by
              intro z1_55 H locs ls hf hP hD hS hl
              rw [ej55] at hf
              refine lv_aload_n hx hb dX9_writeClause_55 rfl (lv_at hl 0 rfl) ?_
              refine lv_iload_n hx hb dX9_writeClause_56 rfl (lv_at hl 1 rfl) ?_
              refine lv_iload_n hx hb dX9_writeClause_57 rfl (lv_at hl 2 rfl) ?_
              obtain ⟨r_14, hc_15, hf⟩ := bd_ob hf
              refine rdV (As := [.int p1, .int v2_22]) (rest := []) ⟨hx, hb, hml, hown, hts⟩ (mX9_sign l D cI cB cZ cO q fu z1_55 p1 v2_22 hc_15) (cwV 2 hts gX9_writeClause_X9_sign rfl rfl rfl (by decide +kernel) ⟨Nat.le_of_ble_eq_true rfl, Nat.le_of_ble_eq_true rfl⟩) hK hP (va_recv hK hP (ci := 8) (q0 := 0) rfl rfl) rfl hl.1 rfl (Nat.le_of_ble_eq_true rfl) dX9_writeClause_58 ⟨Nat.zero_le _, Nat.zero_le _⟩ ?_
              refine lv_iconst (v := 2) hx hb dX9_writeClause_61 (by decide) ?_
              obtain ⟨j71, ej71, hf⟩ := jn_ob hf
              have hp71 : ∀ (z1_71 : OS) (H : Heap) (locs : List Loc) (ls : Array Slot), j71 z1_71 = some (r, y1) → va_P D vwCl (wM cI cB cZ q z1_71) H → va_D A (wM cI cB cZ q z1_71) → va_S A s.heap H locs → lv_has ls 3 [(0, .ref (q 0)), (1, .int p1), (2, .int v2_22)] → W p l e (headSpec wsX9_writeClause { frames := 2, cells := 0, slots := 0, locals := 46 }).room s m args below meth c H locs 0 0 (MQ below (Qw D A (some (.int r)) (wM cI cB cZ q y1)) args s 0 0 A) (F0 m 71 ls []) := by
                intro z1_71 H locs ls hf hP hD hS hl
                rw [ej71] at hf
                refine lv_aload_n hx hb dX9_writeClause_71 rfl (lv_at hl 0 rfl) ?_
                refine lv_bipush (v := 97) hx hb dX9_writeClause_72 (by decide) ?_
                refine lv_iload_n hx hb dX9_writeClause_74 rfl (lv_at hl 2 rfl) ?_
                refine lv_iadd hx hb dX9_writeClause_75 ?_
                obtain ⟨z_16, hc_17, hf⟩ := bd_ob hf
                refine weV (As := [.int ((97 : Int32) + v2_22)]) (rest := []) ⟨hx, hb, hml, hown, hts⟩ (mX9_prints l D cI cB cZ cO q _ fu z1_71 ((97 : Int32) + v2_22) hc_17) (cwV 1 hts gX9_writeClause_X9_prints rfl rfl rfl (by decide +kernel) ⟨Nat.le_of_ble_eq_true rfl, Nat.le_of_ble_eq_true rfl⟩) hK hP hD hS hA (va_recv hK hP (ci := 8) (q0 := 0) rfl rfl) rfl hl.1 rfl (Nat.le_of_ble_eq_true rfl) dX9_writeClause_76 ⟨Nat.zero_le _, Nat.zero_le _⟩ (fun H locs hP hD hS => ?_)
                exact hp79 z_16 _ _ _ hf hP hD hS hl
              refine lv_icmp_ne (tgt := 71) hx hb dX9_writeClause_62 (by decide) (fun c_62 => ?_) (fun c_62 => ?_)
              · have hf := ip c_62 hf
                exact hp71 z1_55 _ _ _ hf hP hD hS hl
              · have hf := iqn c_62 hf
                refine lv_aload_n hx hb dX9_writeClause_65 rfl (lv_at hl 0 rfl) ?_
                refine lv_bipush (v := 45) hx hb dX9_writeClause_66 (by decide) ?_
                obtain ⟨z_18, hc_19, hf⟩ := bd_ob hf
                refine weV (As := [.int (45 : Int32)]) (rest := []) ⟨hx, hb, hml, hown, hts⟩ (mX9_prints l D cI cB cZ cO q _ fu z1_55 (45 : Int32) hc_19) (cwV 1 hts gX9_writeClause_X9_prints rfl rfl rfl (by decide +kernel) ⟨Nat.le_of_ble_eq_true rfl, Nat.le_of_ble_eq_true rfl⟩) hK hP hD hS hA (va_recv hK hP (ci := 8) (q0 := 0) rfl rfl) rfl hl.1 rfl (Nat.le_of_ble_eq_true rfl) dX9_writeClause_68 ⟨Nat.zero_le _, Nat.zero_le _⟩ (fun H locs hP hD hS => ?_)
                exact hp71 z_18 _ _ _ hf hP hD hS hl
            refine lv_if_le (tgt := 55) hx hb dX9_writeClause_46 (by decide) (fun c_46 => ?_) (fun c_46 => ?_)
            · have hf := ip c_46 hf
              exact hp55 z1_22 _ _ _ hf hP hD hS hl
            · have hf := iq c_46 hf
              refine lv_aload_n hx hb dX9_writeClause_49 rfl (lv_at hl 0 rfl) ?_
              refine lv_bipush (v := 32) hx hb dX9_writeClause_50 (by decide) ?_
              obtain ⟨z_20, hc_21, hf⟩ := bd_ob hf
              refine weV (As := [.int (32 : Int32)]) (rest := []) ⟨hx, hb, hml, hown, hts⟩ (mX9_prints l D cI cB cZ cO q _ fu z1_22 (32 : Int32) hc_21) (cwV 1 hts gX9_writeClause_X9_prints rfl rfl rfl (by decide +kernel) ⟨Nat.le_of_ble_eq_true rfl, Nat.le_of_ble_eq_true rfl⟩) hK hP hD hS hA (va_recv hK hP (ci := 8) (q0 := 0) rfl rfl) rfl hl.1 rfl (Nat.le_of_ble_eq_true rfl) dX9_writeClause_52 ⟨Nat.zero_le _, Nat.zero_le _⟩ (fun H locs hP hD hS => ?_)
              exact hp55 z_20 _ _ _ hf hP hD hS hl
          · have hf := iqn c_36 hf
            refine lv_goto (tgt := 79) hx hb dX9_writeClause_39 (by decide) ?_
            exact hp79 z1_22 _ _ _ hf hP hD hS hl
    exact hL22 fu (0 : Int32) z_6 _ _ _ hf hP hD hS (lv_sub hl [1, 2, 0] rfl)
  · have hf := iq c_10 hf
    refine lv_iconst (v := 0) hx hb dX9_writeClause_13 (by decide) ?_
    exact rW_i hx hb hr hlocks hP hD hS (congrArg (fun q9 => q9.1) (so_ob hf)) (congrArg (fun (q9 : Int32 × (OS)) => wM cI cB cZ q q9.2) (so_ob hf)) dX9_writeClause_14

def fX9_outputByte (fu : Nat) (z : OS) (p1 : Int32) : Option (Int32 × (OS)) :=
  nm (sI z 0 (0 : Int32)) (fun (z_1 : OS) => bd (fX9_in fu ((p1).toInt64) (0 : Int64) ((((z_1.1 26) - (1 : Int32))).toInt64)) (fun (r_2 : Int32) => (if r_2 = (0 : Int32) then some ((-1 : Int32), z_1) else gd (inB p1 64) (some ((z_1.2 25 (p1).toNatClampNeg), z_1)))))
set_option maxRecDepth 100000 in
set_option maxHeartbeats 4000000 in
theorem mX9_outputByte (l : Launch) (D : va_G) (cI cB cZ cO : ClassId) (q : Nat → Nat) (sz : Nat) (fu : Nat) (z : OS) (p1 : Int32) {r : Int32} {y1 : OS} (hf : fX9_outputByte fu z p1 = some (r, y1)) : Met l yX9_outputByte wsX9_outputByte ({ frames := 1, cells := 0, slots := 0, locals := 25 }) (va_Pc [.ref (q 0), .int p1] (Pw D (gT cI cB cZ cO) (wM cI cB cZ q z) sz)) (Qw D (va_A (wM cI cB cZ q z) sz) (some (.int r)) (wM cI cB cZ q y1)) 0 0 (va_A (wM cI cB cZ q z) sz) := by
  unfold fX9_outputByte at hf
  refine metW (ret := (some .int)) (own := RX9) rfl (by decide) rfl (Nat.le_of_ble_eq_true rfl) (fun p e s m args below meth c ls A hx hb hr hml hown hlocks hts hK hA hP hD hS hl => ?_)
  have k46 := (hts (.fieldLink RX9 46 "ResolutionProverModel" "thrown" "I") (List.mem_of_getElem? (i := 1) rfl))
  have k391 := (hts (.fieldLink RX9 391 "ResolutionProverModel" "outputMany" "I") (List.mem_of_getElem? (i := 2) rfl))
  have k43 := (hts (.fieldLink RX9 43 "ResolutionProverModel" "output" "[B") (List.mem_of_getElem? (i := 3) rfl))
  have hiX9 : ∀ w ∈ wsX90, w ∈ wsX9_outputByte := (memIn_p [8, 9, 10, 11, 12, 13, 14, 15, 16, 17, 18, 19, 20, 21, 22, 23, 24, 25, 26, 27, 28, 29, 30, 31, 32, 33, 34] rfl)
  have hl : lv_has ls 2 [(0, .ref (q 0)), (1, .int p1)] := hl
  refine lv_aload_n hx hb dX9_outputByte_0 rfl (lv_at hl 0 rfl) ?_
  refine lv_iconst (v := 0) hx hb dX9_outputByte_1 (by decide) ?_
  refine va_put (D := D) (ci := 8) (v := .int (0 : Int32)) (ty := .int) (C := RX9) (T := TX9) (N := 27) hx hb hts hiX9 tyX9 tyX9_ok nmX9 hown hK hP hD hS 0 rfl rfl 0 (by decide) k46 (fun _ h9 => h9) rfl (by decide +kernel) rfl rfl (Nat.le_of_ble_eq_true rfl) dX9_outputByte_2 (fun H locs hP hD hS => ?_)
  obtain ⟨z_1, ez_1, hf⟩ := nm_ob hf
  have hP : va_P D vwCl (wM cI cB cZ q z_1) H := by rw [ez_1]; exact hP
  have hD : va_D A (wM cI cB cZ q z_1) := by rw [ez_1]; exact hD
  refine lv_iload_n hx hb dX9_outputByte_5 rfl (lv_at hl 1 rfl) ?_
  refine lv_i2l hx hb dX9_outputByte_6 rfl ?_
  refine lv_lconst (v := 0) hx hb dX9_outputByte_7 (by decide) ?_
  refine lv_aload_n hx hb dX9_outputByte_8 rfl (lv_at hl 0 rfl) ?_
  refine va_get (D := D) (ci := 8) (v := .int (z_1.1 26)) (C := RX9) (T := TX9) (N := 27) hx hb hts hiX9 hown hK hP 0 rfl rfl 26 (by decide) k391 (fun _ h9 => h9) rfl dX9_outputByte_9 ?_
  refine lv_iconst (v := 1) hx hb dX9_outputByte_12 (by decide) ?_
  refine lv_isub hx hb dX9_outputByte_13 ?_
  refine lv_i2l hx hb dX9_outputByte_14 rfl ?_
  obtain ⟨r_2, hc_3, hf⟩ := bd_ob hf
  refine rdN (As := [.long ((p1).toInt64), .long (0 : Int64), .long ((((z_1.1 26) - (1 : Int32))).toInt64)]) (rest := []) ⟨hx, hb, hml, hown, hts⟩ (mX9_in l D cI cB cZ cO fu ((p1).toInt64) (0 : Int64) ((((z_1.1 26) - (1 : Int32))).toInt64) hc_3) (va_cwS 3 hts gX9_outputByte_X9_in rfl rfl rfl (by decide +kernel) ⟨Nat.le_of_ble_eq_true rfl, Nat.le_of_ble_eq_true rfl⟩) rfl hl.1 rfl (Nat.le_of_ble_eq_true rfl) dX9_outputByte_15 ⟨Nat.zero_le _, Nat.zero_le _⟩ ?_
  refine lv_if_eq (tgt := 30) hx hb dX9_outputByte_18 (by decide) (fun c_18 => ?_) (fun c_18 => ?_)
  · have hf := ip c_18 hf
    refine lv_iconst (v := (-1)) hx hb dX9_outputByte_30 (by decide) ?_
    exact rW_i hx hb hr hlocks hP hD hS (congrArg (fun q9 => q9.1) (so_ob hf)) (congrArg (fun (q9 : Int32 × (OS)) => wM cI cB cZ q q9.2) (so_ob hf)) dX9_outputByte_31
  · have hf := iq c_18 hf
    refine lv_aload_n hx hb dX9_outputByte_21 rfl (lv_at hl 0 rfl) ?_
    refine va_get (D := D) (ci := 8) (v := .ref (q 10)) (C := RX9) (T := TX9) (N := 27) hx hb hts hiX9 hown hK hP 0 rfl rfl 25 (by decide) k43 (fun _ h9 => h9) rfl dX9_outputByte_22 ?_
    refine lv_iload_n hx hb dX9_outputByte_25 rfl (lv_at hl 1 rfl) ?_
    obtain ⟨hi_, hf⟩ := gd_ob hf
    refine va_bald hx hb hK hP 10 1 rfl rfl (inB_in hi_) dX9_outputByte_26 ?_
    refine lv_goto (tgt := 31) hx hb dX9_outputByte_27 (by decide) ?_
    exact rW_i hx hb hr hlocks hP hD hS (congrArg (fun q9 => q9.1) (so_ob hf)) (congrArg (fun (q9 : Int32 × (OS)) => wM cI cB cZ q q9.2) (so_ob hf)) dX9_outputByte_31

def zX90 : OS := (fun k => if k = 17 then (-1) else 0, fun k => if k = 1 then (upd (fun _ => 0) 0 4) else fun _ => 0)
set_option maxRecDepth 100000 in
set_option maxHeartbeats 4000000 in
theorem kX9_init (l : Launch) (D : va_G) (cI cB cZ cO : ClassId) (h0 sz : Nat) : Met l yX9_init wsX9_init ({ frames := 1, cells := 10, slots := 12607, locals := 12 }) (va_Pc [.ref h0] (Pw D (gT cI cB cZ cO) ([(h0, .inr (8, [.int 0, .null, .null, .null, .null, .null, .null, .int 0, .int 0, .int 0, .null, .null, .int 0, .int 0, .int 0, .null, .int 0, .int 0, .int 0, .int 0, .int 0, .int 0, .int 0, .int 0, .int 0, .null, .int 0]))]) sz)) (Qn D (va_A ([(h0, .inr (8, [.int 0, .null, .null, .null, .null, .null, .null, .int 0, .int 0, .int 0, .null, .null, .int 0, .int 0, .int 0, .null, .int 0, .int 0, .int 0, .int 0, .int 0, .int 0, .int 0, .int 0, .int 0, .null, .int 0]))]) sz) (fun (q : Nat → Nat) => wM cI cB cZ q zX90) (fun q => q 0) h0) 10 12607 (va_A ([(h0, .inr (8, [.int 0, .null, .null, .null, .null, .null, .null, .int 0, .int 0, .int 0, .null, .null, .int 0, .int 0, .int 0, .null, .int 0, .int 0, .int 0, .int 0, .int 0, .int 0, .int 0, .int 0, .int 0, .null, .int 0]))]) sz) := by
  refine metA (own := RX9) rfl (by decide) rfl (Nat.le_of_ble_eq_true rfl) (fun p e s m args below meth c ls A hx hb hr hml hown hlocks hin hts hK hA hP hD hS hl => ?_)
  have hiX9 : ∀ w ∈ wsX90, w ∈ wsX9_init := (memIn_p [18, 19, 20, 21, 22, 23, 24, 25, 26, 27, 28, 29, 30, 31, 32, 33, 34, 35, 36, 37, 38, 39, 40, 41, 42, 43, 44] rfl)
  have hl : lv_has ls 1 [(0, .ref h0)] := hl
  refine lv_aload_n hx hb dX9_init_0 rfl (lv_at hl 0 rfl) ?_
  refine W.objInit hx hb hown (hts (.methodLink RX9 3 objectInit) (List.mem_of_getElem? (i := 1) rfl)) (hts (.instanceMethod objectInit) (List.mem_of_getElem? (i := 2) rfl)) (hts (.code objectInit ⟨#[0xb1]⟩ 1 none) (List.mem_of_getElem? (i := 3) rfl)) rfl (by rw [hml]; exact hl.1) rfl dX9_init_1 (Nat.le_of_ble_eq_true rfl) (Nat.le_of_ble_eq_true rfl) ?_
  refine W.eq (g2 := F0 m 4 ls []) rfl ?_
  refine lv_aload_n hx hb dX9_init_4 rfl (lv_at hl 0 rfl) ?_
  refine lv_sipush (v := 917) hx hb dX9_init_5 (by decide) ?_
  refine va_newa (atype := .int) (ty := .int) (a0 := (917, .inl (fun _ => 0))) (N' := 917) hx hb (hts (.arrayClass .int) (List.mem_of_getElem? (i := 4) rfl)) rfl hK hP hD hS hA (fun cA => rfl) (by decide) (by decide) (Nat.le_of_ble_eq_true rfl) (Nat.le_of_ble_eq_true rfl) (Nat.le_of_ble_eq_true rfl) dX9_init_8 (fun a1 cA H hK hP hD hS => ?_)
  have e9 : cA = cI := va_K_one hK (i := 4) (j := 0) rfl rfl
  rw [e9] at hP hD
  have hK : va_K D vwCl (gT cI cB cZ cO) s := hK.sub [0, 1, 2, 3] rfl
  have hP : va_P D vwCl ([(h0, .inr (8, [.int 0, .null, .null, .null, .null, .null, .null, .int 0, .int 0, .int 0, .null, .null, .int 0, .int 0, .int 0, .null, .int 0, .int 0, .int 0, .int 0, .int 0, .int 0, .int 0, .int 0, .int 0, .null, .int 0])), (a1, .inl (cI, 917, .inl (fun _ => 0)))]) H := hP
  have hD : va_D A ([(h0, .inr (8, [.int 0, .null, .null, .null, .null, .null, .null, .int 0, .int 0, .int 0, .null, .null, .int 0, .int 0, .int 0, .null, .int 0, .int 0, .int 0, .int 0, .int 0, .int 0, .int 0, .int 0, .int 0, .null, .int 0])), (a1, .inl (cI, 917, .inl (fun _ => 0)))]) := hD
  refine va_putF (D := D) (ci := 8) (v := .ref a1) (ty := (.array .int)) (C := RX9) (T := TX9) (N := 27) hx hb hts hiX9 tyX9 tyX9_ok nmX9 hown hK hP hD hS 0 rfl rfl 1 (by decide) (hts (.fieldLink RX9 9 "ResolutionProverModel" "now" "[I") (List.mem_of_getElem? (i := 5) rfl)) (fun _ h9 => h9) rfl hin rfl (by decide +kernel) rfl rfl (Nat.le_of_ble_eq_true rfl) dX9_init_10 (fun H locs hP hD hS => ?_)
  have hP : va_P D vwCl ([(h0, .inr (8, [.int 0, .ref a1, .null, .null, .null, .null, .null, .int 0, .int 0, .int 0, .null, .null, .int 0, .int 0, .int 0, .null, .int 0, .int 0, .int 0, .int 0, .int 0, .int 0, .int 0, .int 0, .int 0, .null, .int 0])), (a1, .inl (cI, 917, .inl (fun _ => 0)))]) H := hP
  have hD : va_D A ([(h0, .inr (8, [.int 0, .ref a1, .null, .null, .null, .null, .null, .int 0, .int 0, .int 0, .null, .null, .int 0, .int 0, .int 0, .null, .int 0, .int 0, .int 0, .int 0, .int 0, .int 0, .int 0, .int 0, .int 0, .null, .int 0])), (a1, .inl (cI, 917, .inl (fun _ => 0)))]) := hD
  refine lv_aload_n hx hb dX9_init_13 rfl (lv_at hl 0 rfl) ?_
  refine lv_sipush (v := 917) hx hb dX9_init_14 (by decide) ?_
  refine va_newa (atype := .int) (ty := .int) (a0 := (917, .inl (fun _ => 0))) (N' := 917) hx hb (hts (.arrayClass .int) (List.mem_of_getElem? (i := 4) rfl)) rfl hK hP hD hS hA (fun cA => rfl) (by decide) (by decide) (Nat.le_of_ble_eq_true rfl) (Nat.le_of_ble_eq_true rfl) (Nat.le_of_ble_eq_true rfl) dX9_init_17 (fun a2 cA H hK hP hD hS => ?_)
  have e9 : cA = cI := va_K_one hK (i := 4) (j := 0) rfl rfl
  rw [e9] at hP hD
  have hK : va_K D vwCl (gT cI cB cZ cO) s := hK.sub [0, 1, 2, 3] rfl
  have hP : va_P D vwCl ([(h0, .inr (8, [.int 0, .ref a1, .null, .null, .null, .null, .null, .int 0, .int 0, .int 0, .null, .null, .int 0, .int 0, .int 0, .null, .int 0, .int 0, .int 0, .int 0, .int 0, .int 0, .int 0, .int 0, .int 0, .null, .int 0])), (a1, .inl (cI, 917, .inl (fun _ => 0))), (a2, .inl (cI, 917, .inl (fun _ => 0)))]) H := hP
  have hD : va_D A ([(h0, .inr (8, [.int 0, .ref a1, .null, .null, .null, .null, .null, .int 0, .int 0, .int 0, .null, .null, .int 0, .int 0, .int 0, .null, .int 0, .int 0, .int 0, .int 0, .int 0, .int 0, .int 0, .int 0, .int 0, .null, .int 0])), (a1, .inl (cI, 917, .inl (fun _ => 0))), (a2, .inl (cI, 917, .inl (fun _ => 0)))]) := hD
  refine va_putF (D := D) (ci := 8) (v := .ref a2) (ty := (.array .int)) (C := RX9) (T := TX9) (N := 27) hx hb hts hiX9 tyX9 tyX9_ok nmX9 hown hK hP hD hS 0 rfl rfl 2 (by decide) (hts (.fieldLink RX9 13 "ResolutionProverModel" "kept" "[I") (List.mem_of_getElem? (i := 6) rfl)) (fun _ h9 => h9) rfl hin rfl (by decide +kernel) rfl rfl (Nat.le_of_ble_eq_true rfl) dX9_init_19 (fun H locs hP hD hS => ?_)
  have hP : va_P D vwCl ([(h0, .inr (8, [.int 0, .ref a1, .ref a2, .null, .null, .null, .null, .int 0, .int 0, .int 0, .null, .null, .int 0, .int 0, .int 0, .null, .int 0, .int 0, .int 0, .int 0, .int 0, .int 0, .int 0, .int 0, .int 0, .null, .int 0])), (a1, .inl (cI, 917, .inl (fun _ => 0))), (a2, .inl (cI, 917, .inl (fun _ => 0)))]) H := hP
  have hD : va_D A ([(h0, .inr (8, [.int 0, .ref a1, .ref a2, .null, .null, .null, .null, .int 0, .int 0, .int 0, .null, .null, .int 0, .int 0, .int 0, .null, .int 0, .int 0, .int 0, .int 0, .int 0, .int 0, .int 0, .int 0, .int 0, .null, .int 0])), (a1, .inl (cI, 917, .inl (fun _ => 0))), (a2, .inl (cI, 917, .inl (fun _ => 0)))]) := hD
  refine lv_aload_n hx hb dX9_init_22 rfl (lv_at hl 0 rfl) ?_
  refine lv_sipush (v := 917) hx hb dX9_init_23 (by decide) ?_
  refine va_newa (atype := .int) (ty := .int) (a0 := (917, .inl (fun _ => 0))) (N' := 917) hx hb (hts (.arrayClass .int) (List.mem_of_getElem? (i := 4) rfl)) rfl hK hP hD hS hA (fun cA => rfl) (by decide) (by decide) (Nat.le_of_ble_eq_true rfl) (Nat.le_of_ble_eq_true rfl) (Nat.le_of_ble_eq_true rfl) dX9_init_26 (fun a3 cA H hK hP hD hS => ?_)
  have e9 : cA = cI := va_K_one hK (i := 4) (j := 0) rfl rfl
  rw [e9] at hP hD
  have hK : va_K D vwCl (gT cI cB cZ cO) s := hK.sub [0, 1, 2, 3] rfl
  have hP : va_P D vwCl ([(h0, .inr (8, [.int 0, .ref a1, .ref a2, .null, .null, .null, .null, .int 0, .int 0, .int 0, .null, .null, .int 0, .int 0, .int 0, .null, .int 0, .int 0, .int 0, .int 0, .int 0, .int 0, .int 0, .int 0, .int 0, .null, .int 0])), (a1, .inl (cI, 917, .inl (fun _ => 0))), (a2, .inl (cI, 917, .inl (fun _ => 0))), (a3, .inl (cI, 917, .inl (fun _ => 0)))]) H := hP
  have hD : va_D A ([(h0, .inr (8, [.int 0, .ref a1, .ref a2, .null, .null, .null, .null, .int 0, .int 0, .int 0, .null, .null, .int 0, .int 0, .int 0, .null, .int 0, .int 0, .int 0, .int 0, .int 0, .int 0, .int 0, .int 0, .int 0, .null, .int 0])), (a1, .inl (cI, 917, .inl (fun _ => 0))), (a2, .inl (cI, 917, .inl (fun _ => 0))), (a3, .inl (cI, 917, .inl (fun _ => 0)))]) := hD
  refine va_putF (D := D) (ci := 8) (v := .ref a3) (ty := (.array .int)) (C := RX9) (T := TX9) (N := 27) hx hb hts hiX9 tyX9 tyX9_ok nmX9 hown hK hP hD hS 0 rfl rfl 3 (by decide) (hts (.fieldLink RX9 16 "ResolutionProverModel" "tried" "[I") (List.mem_of_getElem? (i := 7) rfl)) (fun _ h9 => h9) rfl hin rfl (by decide +kernel) rfl rfl (Nat.le_of_ble_eq_true rfl) dX9_init_28 (fun H locs hP hD hS => ?_)
  have hP : va_P D vwCl ([(h0, .inr (8, [.int 0, .ref a1, .ref a2, .ref a3, .null, .null, .null, .int 0, .int 0, .int 0, .null, .null, .int 0, .int 0, .int 0, .null, .int 0, .int 0, .int 0, .int 0, .int 0, .int 0, .int 0, .int 0, .int 0, .null, .int 0])), (a1, .inl (cI, 917, .inl (fun _ => 0))), (a2, .inl (cI, 917, .inl (fun _ => 0))), (a3, .inl (cI, 917, .inl (fun _ => 0)))]) H := hP
  have hD : va_D A ([(h0, .inr (8, [.int 0, .ref a1, .ref a2, .ref a3, .null, .null, .null, .int 0, .int 0, .int 0, .null, .null, .int 0, .int 0, .int 0, .null, .int 0, .int 0, .int 0, .int 0, .int 0, .int 0, .int 0, .int 0, .int 0, .null, .int 0])), (a1, .inl (cI, 917, .inl (fun _ => 0))), (a2, .inl (cI, 917, .inl (fun _ => 0))), (a3, .inl (cI, 917, .inl (fun _ => 0)))]) := hD
  refine lv_aload_n hx hb dX9_init_31 rfl (lv_at hl 0 rfl) ?_
  refine lv_sipush (v := 7336) hx hb dX9_init_32 (by decide) ?_
  refine va_newa (atype := .int) (ty := .int) (a0 := (7336, .inl (fun _ => 0))) (N' := 7336) hx hb (hts (.arrayClass .int) (List.mem_of_getElem? (i := 4) rfl)) rfl hK hP hD hS hA (fun cA => rfl) (by decide) (by decide) (Nat.le_of_ble_eq_true rfl) (Nat.le_of_ble_eq_true rfl) (Nat.le_of_ble_eq_true rfl) dX9_init_35 (fun a4 cA H hK hP hD hS => ?_)
  have e9 : cA = cI := va_K_one hK (i := 4) (j := 0) rfl rfl
  rw [e9] at hP hD
  have hK : va_K D vwCl (gT cI cB cZ cO) s := hK.sub [0, 1, 2, 3] rfl
  have hP : va_P D vwCl ([(h0, .inr (8, [.int 0, .ref a1, .ref a2, .ref a3, .null, .null, .null, .int 0, .int 0, .int 0, .null, .null, .int 0, .int 0, .int 0, .null, .int 0, .int 0, .int 0, .int 0, .int 0, .int 0, .int 0, .int 0, .int 0, .null, .int 0])), (a1, .inl (cI, 917, .inl (fun _ => 0))), (a2, .inl (cI, 917, .inl (fun _ => 0))), (a3, .inl (cI, 917, .inl (fun _ => 0))), (a4, .inl (cI, 7336, .inl (fun _ => 0)))]) H := hP
  have hD : va_D A ([(h0, .inr (8, [.int 0, .ref a1, .ref a2, .ref a3, .null, .null, .null, .int 0, .int 0, .int 0, .null, .null, .int 0, .int 0, .int 0, .null, .int 0, .int 0, .int 0, .int 0, .int 0, .int 0, .int 0, .int 0, .int 0, .null, .int 0])), (a1, .inl (cI, 917, .inl (fun _ => 0))), (a2, .inl (cI, 917, .inl (fun _ => 0))), (a3, .inl (cI, 917, .inl (fun _ => 0))), (a4, .inl (cI, 7336, .inl (fun _ => 0)))]) := hD
  refine va_putF (D := D) (ci := 8) (v := .ref a4) (ty := (.array .int)) (C := RX9) (T := TX9) (N := 27) hx hb hts hiX9 tyX9 tyX9_ok nmX9 hown hK hP hD hS 0 rfl rfl 4 (by decide) (hts (.fieldLink RX9 19 "ResolutionProverModel" "past" "[I") (List.mem_of_getElem? (i := 8) rfl)) (fun _ h9 => h9) rfl hin rfl (by decide +kernel) rfl rfl (Nat.le_of_ble_eq_true rfl) dX9_init_37 (fun H locs hP hD hS => ?_)
  have hP : va_P D vwCl ([(h0, .inr (8, [.int 0, .ref a1, .ref a2, .ref a3, .ref a4, .null, .null, .int 0, .int 0, .int 0, .null, .null, .int 0, .int 0, .int 0, .null, .int 0, .int 0, .int 0, .int 0, .int 0, .int 0, .int 0, .int 0, .int 0, .null, .int 0])), (a1, .inl (cI, 917, .inl (fun _ => 0))), (a2, .inl (cI, 917, .inl (fun _ => 0))), (a3, .inl (cI, 917, .inl (fun _ => 0))), (a4, .inl (cI, 7336, .inl (fun _ => 0)))]) H := hP
  have hD : va_D A ([(h0, .inr (8, [.int 0, .ref a1, .ref a2, .ref a3, .ref a4, .null, .null, .int 0, .int 0, .int 0, .null, .null, .int 0, .int 0, .int 0, .null, .int 0, .int 0, .int 0, .int 0, .int 0, .int 0, .int 0, .int 0, .int 0, .null, .int 0])), (a1, .inl (cI, 917, .inl (fun _ => 0))), (a2, .inl (cI, 917, .inl (fun _ => 0))), (a3, .inl (cI, 917, .inl (fun _ => 0))), (a4, .inl (cI, 7336, .inl (fun _ => 0)))]) := hD
  refine lv_aload_n hx hb dX9_init_40 rfl (lv_at hl 0 rfl) ?_
  refine lv_sipush (v := 1834) hx hb dX9_init_41 (by decide) ?_
  refine va_newa (atype := .int) (ty := .int) (a0 := (1834, .inl (fun _ => 0))) (N' := 1834) hx hb (hts (.arrayClass .int) (List.mem_of_getElem? (i := 4) rfl)) rfl hK hP hD hS hA (fun cA => rfl) (by decide) (by decide) (Nat.le_of_ble_eq_true rfl) (Nat.le_of_ble_eq_true rfl) (Nat.le_of_ble_eq_true rfl) dX9_init_44 (fun a5 cA H hK hP hD hS => ?_)
  have e9 : cA = cI := va_K_one hK (i := 4) (j := 0) rfl rfl
  rw [e9] at hP hD
  have hK : va_K D vwCl (gT cI cB cZ cO) s := hK.sub [0, 1, 2, 3] rfl
  have hP : va_P D vwCl ([(h0, .inr (8, [.int 0, .ref a1, .ref a2, .ref a3, .ref a4, .null, .null, .int 0, .int 0, .int 0, .null, .null, .int 0, .int 0, .int 0, .null, .int 0, .int 0, .int 0, .int 0, .int 0, .int 0, .int 0, .int 0, .int 0, .null, .int 0])), (a1, .inl (cI, 917, .inl (fun _ => 0))), (a2, .inl (cI, 917, .inl (fun _ => 0))), (a3, .inl (cI, 917, .inl (fun _ => 0))), (a4, .inl (cI, 7336, .inl (fun _ => 0))), (a5, .inl (cI, 1834, .inl (fun _ => 0)))]) H := hP
  have hD : va_D A ([(h0, .inr (8, [.int 0, .ref a1, .ref a2, .ref a3, .ref a4, .null, .null, .int 0, .int 0, .int 0, .null, .null, .int 0, .int 0, .int 0, .null, .int 0, .int 0, .int 0, .int 0, .int 0, .int 0, .int 0, .int 0, .int 0, .null, .int 0])), (a1, .inl (cI, 917, .inl (fun _ => 0))), (a2, .inl (cI, 917, .inl (fun _ => 0))), (a3, .inl (cI, 917, .inl (fun _ => 0))), (a4, .inl (cI, 7336, .inl (fun _ => 0))), (a5, .inl (cI, 1834, .inl (fun _ => 0)))]) := hD
  refine va_putF (D := D) (ci := 8) (v := .ref a5) (ty := (.array .int)) (C := RX9) (T := TX9) (N := 27) hx hb hts hiX9 tyX9 tyX9_ok nmX9 hown hK hP hD hS 0 rfl rfl 5 (by decide) (hts (.fieldLink RX9 22 "ResolutionProverModel" "slot" "[I") (List.mem_of_getElem? (i := 9) rfl)) (fun _ h9 => h9) rfl hin rfl (by decide +kernel) rfl rfl (Nat.le_of_ble_eq_true rfl) dX9_init_46 (fun H locs hP hD hS => ?_)
  have hP : va_P D vwCl ([(h0, .inr (8, [.int 0, .ref a1, .ref a2, .ref a3, .ref a4, .ref a5, .null, .int 0, .int 0, .int 0, .null, .null, .int 0, .int 0, .int 0, .null, .int 0, .int 0, .int 0, .int 0, .int 0, .int 0, .int 0, .int 0, .int 0, .null, .int 0])), (a1, .inl (cI, 917, .inl (fun _ => 0))), (a2, .inl (cI, 917, .inl (fun _ => 0))), (a3, .inl (cI, 917, .inl (fun _ => 0))), (a4, .inl (cI, 7336, .inl (fun _ => 0))), (a5, .inl (cI, 1834, .inl (fun _ => 0)))]) H := hP
  have hD : va_D A ([(h0, .inr (8, [.int 0, .ref a1, .ref a2, .ref a3, .ref a4, .ref a5, .null, .int 0, .int 0, .int 0, .null, .null, .int 0, .int 0, .int 0, .null, .int 0, .int 0, .int 0, .int 0, .int 0, .int 0, .int 0, .int 0, .int 0, .null, .int 0])), (a1, .inl (cI, 917, .inl (fun _ => 0))), (a2, .inl (cI, 917, .inl (fun _ => 0))), (a3, .inl (cI, 917, .inl (fun _ => 0))), (a4, .inl (cI, 7336, .inl (fun _ => 0))), (a5, .inl (cI, 1834, .inl (fun _ => 0)))]) := hD
  refine lv_aload_n hx hb dX9_init_49 rfl (lv_at hl 0 rfl) ?_
  refine lv_iconst (v := 2) hx hb dX9_init_50 (by decide) ?_
  refine va_newa (atype := .boolean) (ty := .boolean) (a0 := (2, .inl (fun _ => 0))) (N' := 2) hx hb (hts (.arrayClass .boolean) (List.mem_of_getElem? (i := 10) rfl)) rfl hK hP hD hS hA (fun cA => rfl) (by decide) (by decide) (Nat.le_of_ble_eq_true rfl) (Nat.le_of_ble_eq_true rfl) (Nat.le_of_ble_eq_true rfl) dX9_init_51 (fun a6 cA H hK hP hD hS => ?_)
  have e9 : cA = cZ := va_K_one hK (i := 4) (j := 2) rfl rfl
  rw [e9] at hP hD
  have hK : va_K D vwCl (gT cI cB cZ cO) s := hK.sub [0, 1, 2, 3] rfl
  have hP : va_P D vwCl ([(h0, .inr (8, [.int 0, .ref a1, .ref a2, .ref a3, .ref a4, .ref a5, .null, .int 0, .int 0, .int 0, .null, .null, .int 0, .int 0, .int 0, .null, .int 0, .int 0, .int 0, .int 0, .int 0, .int 0, .int 0, .int 0, .int 0, .null, .int 0])), (a1, .inl (cI, 917, .inl (fun _ => 0))), (a2, .inl (cI, 917, .inl (fun _ => 0))), (a3, .inl (cI, 917, .inl (fun _ => 0))), (a4, .inl (cI, 7336, .inl (fun _ => 0))), (a5, .inl (cI, 1834, .inl (fun _ => 0))), (a6, .inl (cZ, 2, .inl (fun _ => 0)))]) H := hP
  have hD : va_D A ([(h0, .inr (8, [.int 0, .ref a1, .ref a2, .ref a3, .ref a4, .ref a5, .null, .int 0, .int 0, .int 0, .null, .null, .int 0, .int 0, .int 0, .null, .int 0, .int 0, .int 0, .int 0, .int 0, .int 0, .int 0, .int 0, .int 0, .null, .int 0])), (a1, .inl (cI, 917, .inl (fun _ => 0))), (a2, .inl (cI, 917, .inl (fun _ => 0))), (a3, .inl (cI, 917, .inl (fun _ => 0))), (a4, .inl (cI, 7336, .inl (fun _ => 0))), (a5, .inl (cI, 1834, .inl (fun _ => 0))), (a6, .inl (cZ, 2, .inl (fun _ => 0)))]) := hD
  refine va_putF (D := D) (ci := 8) (v := .ref a6) (ty := (.array .boolean)) (C := RX9) (T := TX9) (N := 27) hx hb hts hiX9 tyX9 tyX9_ok nmX9 hown hK hP hD hS 0 rfl rfl 6 (by decide) (hts (.fieldLink RX9 25 "ResolutionProverModel" "isSaved" "[Z") (List.mem_of_getElem? (i := 11) rfl)) (fun _ h9 => h9) rfl hin rfl (by decide +kernel) rfl rfl (Nat.le_of_ble_eq_true rfl) dX9_init_53 (fun H locs hP hD hS => ?_)
  have hP : va_P D vwCl ([(h0, .inr (8, [.int 0, .ref a1, .ref a2, .ref a3, .ref a4, .ref a5, .ref a6, .int 0, .int 0, .int 0, .null, .null, .int 0, .int 0, .int 0, .null, .int 0, .int 0, .int 0, .int 0, .int 0, .int 0, .int 0, .int 0, .int 0, .null, .int 0])), (a1, .inl (cI, 917, .inl (fun _ => 0))), (a2, .inl (cI, 917, .inl (fun _ => 0))), (a3, .inl (cI, 917, .inl (fun _ => 0))), (a4, .inl (cI, 7336, .inl (fun _ => 0))), (a5, .inl (cI, 1834, .inl (fun _ => 0))), (a6, .inl (cZ, 2, .inl (fun _ => 0)))]) H := hP
  have hD : va_D A ([(h0, .inr (8, [.int 0, .ref a1, .ref a2, .ref a3, .ref a4, .ref a5, .ref a6, .int 0, .int 0, .int 0, .null, .null, .int 0, .int 0, .int 0, .null, .int 0, .int 0, .int 0, .int 0, .int 0, .int 0, .int 0, .int 0, .int 0, .null, .int 0])), (a1, .inl (cI, 917, .inl (fun _ => 0))), (a2, .inl (cI, 917, .inl (fun _ => 0))), (a3, .inl (cI, 917, .inl (fun _ => 0))), (a4, .inl (cI, 7336, .inl (fun _ => 0))), (a5, .inl (cI, 1834, .inl (fun _ => 0))), (a6, .inl (cZ, 2, .inl (fun _ => 0)))]) := hD
  refine lv_aload_n hx hb dX9_init_56 rfl (lv_at hl 0 rfl) ?_
  refine va_get (D := D) (ci := 8) (v := .ref a1) (C := RX9) (T := TX9) (N := 27) hx hb hts hiX9 hown hK hP 0 rfl rfl 1 (by decide) (hts (.fieldLink RX9 9 "ResolutionProverModel" "now" "[I") (List.mem_of_getElem? (i := 5) rfl)) (fun _ h9 => h9) rfl dX9_init_57 ?_
  refine lv_iconst (v := 0) hx hb dX9_init_60 (by decide) ?_
  refine lv_iconst (v := 4) hx hb dX9_init_61 (by decide) ?_
  refine va_iast hx hb hK hP hD hS 1 0 rfl rfl (inB_in (by decide)) dX9_init_62 (fun H locs hP hD hS => ?_)
  have hP : va_P D vwCl ([(h0, .inr (8, [.int 0, .ref a1, .ref a2, .ref a3, .ref a4, .ref a5, .ref a6, .int 0, .int 0, .int 0, .null, .null, .int 0, .int 0, .int 0, .null, .int 0, .int 0, .int 0, .int 0, .int 0, .int 0, .int 0, .int 0, .int 0, .null, .int 0])), (a1, .inl (cI, 917, .inl (upd (fun _ => 0) 0 4))), (a2, .inl (cI, 917, .inl (fun _ => 0))), (a3, .inl (cI, 917, .inl (fun _ => 0))), (a4, .inl (cI, 7336, .inl (fun _ => 0))), (a5, .inl (cI, 1834, .inl (fun _ => 0))), (a6, .inl (cZ, 2, .inl (fun _ => 0)))]) H := hP
  have hD : va_D A ([(h0, .inr (8, [.int 0, .ref a1, .ref a2, .ref a3, .ref a4, .ref a5, .ref a6, .int 0, .int 0, .int 0, .null, .null, .int 0, .int 0, .int 0, .null, .int 0, .int 0, .int 0, .int 0, .int 0, .int 0, .int 0, .int 0, .int 0, .null, .int 0])), (a1, .inl (cI, 917, .inl (upd (fun _ => 0) 0 4))), (a2, .inl (cI, 917, .inl (fun _ => 0))), (a3, .inl (cI, 917, .inl (fun _ => 0))), (a4, .inl (cI, 7336, .inl (fun _ => 0))), (a5, .inl (cI, 1834, .inl (fun _ => 0))), (a6, .inl (cZ, 2, .inl (fun _ => 0)))]) := hD
  refine lv_aload_n hx hb dX9_init_63 rfl (lv_at hl 0 rfl) ?_
  refine lv_bipush (v := 60) hx hb dX9_init_64 (by decide) ?_
  refine va_newa (atype := .int) (ty := .int) (a0 := (60, .inl (fun _ => 0))) (N' := 60) hx hb (hts (.arrayClass .int) (List.mem_of_getElem? (i := 4) rfl)) rfl hK hP hD hS hA (fun cA => rfl) (by decide) (by decide) (Nat.le_of_ble_eq_true rfl) (Nat.le_of_ble_eq_true rfl) (Nat.le_of_ble_eq_true rfl) dX9_init_66 (fun a7 cA H hK hP hD hS => ?_)
  have e9 : cA = cI := va_K_one hK (i := 4) (j := 0) rfl rfl
  rw [e9] at hP hD
  have hK : va_K D vwCl (gT cI cB cZ cO) s := hK.sub [0, 1, 2, 3] rfl
  have hP : va_P D vwCl ([(h0, .inr (8, [.int 0, .ref a1, .ref a2, .ref a3, .ref a4, .ref a5, .ref a6, .int 0, .int 0, .int 0, .null, .null, .int 0, .int 0, .int 0, .null, .int 0, .int 0, .int 0, .int 0, .int 0, .int 0, .int 0, .int 0, .int 0, .null, .int 0])), (a1, .inl (cI, 917, .inl (upd (fun _ => 0) 0 4))), (a2, .inl (cI, 917, .inl (fun _ => 0))), (a3, .inl (cI, 917, .inl (fun _ => 0))), (a4, .inl (cI, 7336, .inl (fun _ => 0))), (a5, .inl (cI, 1834, .inl (fun _ => 0))), (a6, .inl (cZ, 2, .inl (fun _ => 0))), (a7, .inl (cI, 60, .inl (fun _ => 0)))]) H := hP
  have hD : va_D A ([(h0, .inr (8, [.int 0, .ref a1, .ref a2, .ref a3, .ref a4, .ref a5, .ref a6, .int 0, .int 0, .int 0, .null, .null, .int 0, .int 0, .int 0, .null, .int 0, .int 0, .int 0, .int 0, .int 0, .int 0, .int 0, .int 0, .int 0, .null, .int 0])), (a1, .inl (cI, 917, .inl (upd (fun _ => 0) 0 4))), (a2, .inl (cI, 917, .inl (fun _ => 0))), (a3, .inl (cI, 917, .inl (fun _ => 0))), (a4, .inl (cI, 7336, .inl (fun _ => 0))), (a5, .inl (cI, 1834, .inl (fun _ => 0))), (a6, .inl (cZ, 2, .inl (fun _ => 0))), (a7, .inl (cI, 60, .inl (fun _ => 0)))]) := hD
  refine va_putF (D := D) (ci := 8) (v := .ref a7) (ty := (.array .int)) (C := RX9) (T := TX9) (N := 27) hx hb hts hiX9 tyX9 tyX9_ok nmX9 hown hK hP hD hS 0 rfl rfl 10 (by decide) (hts (.fieldLink RX9 29 "ResolutionProverModel" "deepest" "[I") (List.mem_of_getElem? (i := 12) rfl)) (fun _ h9 => h9) rfl hin rfl (by decide +kernel) rfl rfl (Nat.le_of_ble_eq_true rfl) dX9_init_68 (fun H locs hP hD hS => ?_)
  have hP : va_P D vwCl ([(h0, .inr (8, [.int 0, .ref a1, .ref a2, .ref a3, .ref a4, .ref a5, .ref a6, .int 0, .int 0, .int 0, .ref a7, .null, .int 0, .int 0, .int 0, .null, .int 0, .int 0, .int 0, .int 0, .int 0, .int 0, .int 0, .int 0, .int 0, .null, .int 0])), (a1, .inl (cI, 917, .inl (upd (fun _ => 0) 0 4))), (a2, .inl (cI, 917, .inl (fun _ => 0))), (a3, .inl (cI, 917, .inl (fun _ => 0))), (a4, .inl (cI, 7336, .inl (fun _ => 0))), (a5, .inl (cI, 1834, .inl (fun _ => 0))), (a6, .inl (cZ, 2, .inl (fun _ => 0))), (a7, .inl (cI, 60, .inl (fun _ => 0)))]) H := hP
  have hD : va_D A ([(h0, .inr (8, [.int 0, .ref a1, .ref a2, .ref a3, .ref a4, .ref a5, .ref a6, .int 0, .int 0, .int 0, .ref a7, .null, .int 0, .int 0, .int 0, .null, .int 0, .int 0, .int 0, .int 0, .int 0, .int 0, .int 0, .int 0, .int 0, .null, .int 0])), (a1, .inl (cI, 917, .inl (upd (fun _ => 0) 0 4))), (a2, .inl (cI, 917, .inl (fun _ => 0))), (a3, .inl (cI, 917, .inl (fun _ => 0))), (a4, .inl (cI, 7336, .inl (fun _ => 0))), (a5, .inl (cI, 1834, .inl (fun _ => 0))), (a6, .inl (cZ, 2, .inl (fun _ => 0))), (a7, .inl (cI, 60, .inl (fun _ => 0)))]) := hD
  refine lv_aload_n hx hb dX9_init_71 rfl (lv_at hl 0 rfl) ?_
  refine lv_bipush (v := 60) hx hb dX9_init_72 (by decide) ?_
  refine va_newa (atype := .boolean) (ty := .boolean) (a0 := (60, .inl (fun _ => 0))) (N' := 60) hx hb (hts (.arrayClass .boolean) (List.mem_of_getElem? (i := 10) rfl)) rfl hK hP hD hS hA (fun cA => rfl) (by decide) (by decide) (Nat.le_of_ble_eq_true rfl) (Nat.le_of_ble_eq_true rfl) (Nat.le_of_ble_eq_true rfl) dX9_init_74 (fun a8 cA H hK hP hD hS => ?_)
  have e9 : cA = cZ := va_K_one hK (i := 4) (j := 2) rfl rfl
  rw [e9] at hP hD
  have hK : va_K D vwCl (gT cI cB cZ cO) s := hK.sub [0, 1, 2, 3] rfl
  have hP : va_P D vwCl ([(h0, .inr (8, [.int 0, .ref a1, .ref a2, .ref a3, .ref a4, .ref a5, .ref a6, .int 0, .int 0, .int 0, .ref a7, .null, .int 0, .int 0, .int 0, .null, .int 0, .int 0, .int 0, .int 0, .int 0, .int 0, .int 0, .int 0, .int 0, .null, .int 0])), (a1, .inl (cI, 917, .inl (upd (fun _ => 0) 0 4))), (a2, .inl (cI, 917, .inl (fun _ => 0))), (a3, .inl (cI, 917, .inl (fun _ => 0))), (a4, .inl (cI, 7336, .inl (fun _ => 0))), (a5, .inl (cI, 1834, .inl (fun _ => 0))), (a6, .inl (cZ, 2, .inl (fun _ => 0))), (a7, .inl (cI, 60, .inl (fun _ => 0))), (a8, .inl (cZ, 60, .inl (fun _ => 0)))]) H := hP
  have hD : va_D A ([(h0, .inr (8, [.int 0, .ref a1, .ref a2, .ref a3, .ref a4, .ref a5, .ref a6, .int 0, .int 0, .int 0, .ref a7, .null, .int 0, .int 0, .int 0, .null, .int 0, .int 0, .int 0, .int 0, .int 0, .int 0, .int 0, .int 0, .int 0, .null, .int 0])), (a1, .inl (cI, 917, .inl (upd (fun _ => 0) 0 4))), (a2, .inl (cI, 917, .inl (fun _ => 0))), (a3, .inl (cI, 917, .inl (fun _ => 0))), (a4, .inl (cI, 7336, .inl (fun _ => 0))), (a5, .inl (cI, 1834, .inl (fun _ => 0))), (a6, .inl (cZ, 2, .inl (fun _ => 0))), (a7, .inl (cI, 60, .inl (fun _ => 0))), (a8, .inl (cZ, 60, .inl (fun _ => 0)))]) := hD
  refine va_putF (D := D) (ci := 8) (v := .ref a8) (ty := (.array .boolean)) (C := RX9) (T := TX9) (N := 27) hx hb hts hiX9 tyX9 tyX9_ok nmX9 hown hK hP hD hS 0 rfl rfl 11 (by decide) (hts (.fieldLink RX9 32 "ResolutionProverModel" "isIn" "[Z") (List.mem_of_getElem? (i := 13) rfl)) (fun _ h9 => h9) rfl hin rfl (by decide +kernel) rfl rfl (Nat.le_of_ble_eq_true rfl) dX9_init_76 (fun H locs hP hD hS => ?_)
  have hP : va_P D vwCl ([(h0, .inr (8, [.int 0, .ref a1, .ref a2, .ref a3, .ref a4, .ref a5, .ref a6, .int 0, .int 0, .int 0, .ref a7, .ref a8, .int 0, .int 0, .int 0, .null, .int 0, .int 0, .int 0, .int 0, .int 0, .int 0, .int 0, .int 0, .int 0, .null, .int 0])), (a1, .inl (cI, 917, .inl (upd (fun _ => 0) 0 4))), (a2, .inl (cI, 917, .inl (fun _ => 0))), (a3, .inl (cI, 917, .inl (fun _ => 0))), (a4, .inl (cI, 7336, .inl (fun _ => 0))), (a5, .inl (cI, 1834, .inl (fun _ => 0))), (a6, .inl (cZ, 2, .inl (fun _ => 0))), (a7, .inl (cI, 60, .inl (fun _ => 0))), (a8, .inl (cZ, 60, .inl (fun _ => 0)))]) H := hP
  have hD : va_D A ([(h0, .inr (8, [.int 0, .ref a1, .ref a2, .ref a3, .ref a4, .ref a5, .ref a6, .int 0, .int 0, .int 0, .ref a7, .ref a8, .int 0, .int 0, .int 0, .null, .int 0, .int 0, .int 0, .int 0, .int 0, .int 0, .int 0, .int 0, .int 0, .null, .int 0])), (a1, .inl (cI, 917, .inl (upd (fun _ => 0) 0 4))), (a2, .inl (cI, 917, .inl (fun _ => 0))), (a3, .inl (cI, 917, .inl (fun _ => 0))), (a4, .inl (cI, 7336, .inl (fun _ => 0))), (a5, .inl (cI, 1834, .inl (fun _ => 0))), (a6, .inl (cZ, 2, .inl (fun _ => 0))), (a7, .inl (cI, 60, .inl (fun _ => 0))), (a8, .inl (cZ, 60, .inl (fun _ => 0)))]) := hD
  refine lv_aload_n hx hb dX9_init_79 rfl (lv_at hl 0 rfl) ?_
  refine lv_sipush (v := 500) hx hb dX9_init_80 (by decide) ?_
  refine va_newa (atype := .byte) (ty := .byte) (a0 := (500, .inl (fun _ => 0))) (N' := 500) hx hb (hts (.arrayClass .byte) (List.mem_of_getElem? (i := 14) rfl)) rfl hK hP hD hS hA (fun cA => rfl) (by decide) (by decide) (Nat.le_of_ble_eq_true rfl) (Nat.le_of_ble_eq_true rfl) (Nat.le_of_ble_eq_true rfl) dX9_init_83 (fun a9 cA H hK hP hD hS => ?_)
  have e9 : cA = cB := va_K_one hK (i := 4) (j := 1) rfl rfl
  rw [e9] at hP hD
  have hK : va_K D vwCl (gT cI cB cZ cO) s := hK.sub [0, 1, 2, 3] rfl
  have hP : va_P D vwCl ([(h0, .inr (8, [.int 0, .ref a1, .ref a2, .ref a3, .ref a4, .ref a5, .ref a6, .int 0, .int 0, .int 0, .ref a7, .ref a8, .int 0, .int 0, .int 0, .null, .int 0, .int 0, .int 0, .int 0, .int 0, .int 0, .int 0, .int 0, .int 0, .null, .int 0])), (a1, .inl (cI, 917, .inl (upd (fun _ => 0) 0 4))), (a2, .inl (cI, 917, .inl (fun _ => 0))), (a3, .inl (cI, 917, .inl (fun _ => 0))), (a4, .inl (cI, 7336, .inl (fun _ => 0))), (a5, .inl (cI, 1834, .inl (fun _ => 0))), (a6, .inl (cZ, 2, .inl (fun _ => 0))), (a7, .inl (cI, 60, .inl (fun _ => 0))), (a8, .inl (cZ, 60, .inl (fun _ => 0))), (a9, .inl (cB, 500, .inl (fun _ => 0)))]) H := hP
  have hD : va_D A ([(h0, .inr (8, [.int 0, .ref a1, .ref a2, .ref a3, .ref a4, .ref a5, .ref a6, .int 0, .int 0, .int 0, .ref a7, .ref a8, .int 0, .int 0, .int 0, .null, .int 0, .int 0, .int 0, .int 0, .int 0, .int 0, .int 0, .int 0, .int 0, .null, .int 0])), (a1, .inl (cI, 917, .inl (upd (fun _ => 0) 0 4))), (a2, .inl (cI, 917, .inl (fun _ => 0))), (a3, .inl (cI, 917, .inl (fun _ => 0))), (a4, .inl (cI, 7336, .inl (fun _ => 0))), (a5, .inl (cI, 1834, .inl (fun _ => 0))), (a6, .inl (cZ, 2, .inl (fun _ => 0))), (a7, .inl (cI, 60, .inl (fun _ => 0))), (a8, .inl (cZ, 60, .inl (fun _ => 0))), (a9, .inl (cB, 500, .inl (fun _ => 0)))]) := hD
  refine va_putF (D := D) (ci := 8) (v := .ref a9) (ty := (.array .byte)) (C := RX9) (T := TX9) (N := 27) hx hb hts hiX9 tyX9 tyX9_ok nmX9 hown hK hP hD hS 0 rfl rfl 15 (by decide) (hts (.fieldLink RX9 35 "ResolutionProverModel" "tape" "[B") (List.mem_of_getElem? (i := 15) rfl)) (fun _ h9 => h9) rfl hin rfl (by decide +kernel) rfl rfl (Nat.le_of_ble_eq_true rfl) dX9_init_85 (fun H locs hP hD hS => ?_)
  have hP : va_P D vwCl ([(h0, .inr (8, [.int 0, .ref a1, .ref a2, .ref a3, .ref a4, .ref a5, .ref a6, .int 0, .int 0, .int 0, .ref a7, .ref a8, .int 0, .int 0, .int 0, .ref a9, .int 0, .int 0, .int 0, .int 0, .int 0, .int 0, .int 0, .int 0, .int 0, .null, .int 0])), (a1, .inl (cI, 917, .inl (upd (fun _ => 0) 0 4))), (a2, .inl (cI, 917, .inl (fun _ => 0))), (a3, .inl (cI, 917, .inl (fun _ => 0))), (a4, .inl (cI, 7336, .inl (fun _ => 0))), (a5, .inl (cI, 1834, .inl (fun _ => 0))), (a6, .inl (cZ, 2, .inl (fun _ => 0))), (a7, .inl (cI, 60, .inl (fun _ => 0))), (a8, .inl (cZ, 60, .inl (fun _ => 0))), (a9, .inl (cB, 500, .inl (fun _ => 0)))]) H := hP
  have hD : va_D A ([(h0, .inr (8, [.int 0, .ref a1, .ref a2, .ref a3, .ref a4, .ref a5, .ref a6, .int 0, .int 0, .int 0, .ref a7, .ref a8, .int 0, .int 0, .int 0, .ref a9, .int 0, .int 0, .int 0, .int 0, .int 0, .int 0, .int 0, .int 0, .int 0, .null, .int 0])), (a1, .inl (cI, 917, .inl (upd (fun _ => 0) 0 4))), (a2, .inl (cI, 917, .inl (fun _ => 0))), (a3, .inl (cI, 917, .inl (fun _ => 0))), (a4, .inl (cI, 7336, .inl (fun _ => 0))), (a5, .inl (cI, 1834, .inl (fun _ => 0))), (a6, .inl (cZ, 2, .inl (fun _ => 0))), (a7, .inl (cI, 60, .inl (fun _ => 0))), (a8, .inl (cZ, 60, .inl (fun _ => 0))), (a9, .inl (cB, 500, .inl (fun _ => 0)))]) := hD
  refine lv_aload_n hx hb dX9_init_88 rfl (lv_at hl 0 rfl) ?_
  refine lv_iconst (v := (-1)) hx hb dX9_init_89 (by decide) ?_
  refine va_put (D := D) (ci := 8) (v := .int (-1)) (ty := .int) (C := RX9) (T := TX9) (N := 27) hx hb hts hiX9 tyX9 tyX9_ok nmX9 hown hK hP hD hS 0 rfl rfl 17 (by decide) (hts (.fieldLink RX9 39 "ResolutionProverModel" "errorAt" "I") (List.mem_of_getElem? (i := 16) rfl)) (fun _ h9 => h9) rfl (by decide +kernel) rfl rfl (Nat.le_of_ble_eq_true rfl) dX9_init_90 (fun H locs hP hD hS => ?_)
  have hP : va_P D vwCl ([(h0, .inr (8, [.int 0, .ref a1, .ref a2, .ref a3, .ref a4, .ref a5, .ref a6, .int 0, .int 0, .int 0, .ref a7, .ref a8, .int 0, .int 0, .int 0, .ref a9, .int 0, .int (-1), .int 0, .int 0, .int 0, .int 0, .int 0, .int 0, .int 0, .null, .int 0])), (a1, .inl (cI, 917, .inl (upd (fun _ => 0) 0 4))), (a2, .inl (cI, 917, .inl (fun _ => 0))), (a3, .inl (cI, 917, .inl (fun _ => 0))), (a4, .inl (cI, 7336, .inl (fun _ => 0))), (a5, .inl (cI, 1834, .inl (fun _ => 0))), (a6, .inl (cZ, 2, .inl (fun _ => 0))), (a7, .inl (cI, 60, .inl (fun _ => 0))), (a8, .inl (cZ, 60, .inl (fun _ => 0))), (a9, .inl (cB, 500, .inl (fun _ => 0)))]) H := hP
  have hD : va_D A ([(h0, .inr (8, [.int 0, .ref a1, .ref a2, .ref a3, .ref a4, .ref a5, .ref a6, .int 0, .int 0, .int 0, .ref a7, .ref a8, .int 0, .int 0, .int 0, .ref a9, .int 0, .int (-1), .int 0, .int 0, .int 0, .int 0, .int 0, .int 0, .int 0, .null, .int 0])), (a1, .inl (cI, 917, .inl (upd (fun _ => 0) 0 4))), (a2, .inl (cI, 917, .inl (fun _ => 0))), (a3, .inl (cI, 917, .inl (fun _ => 0))), (a4, .inl (cI, 7336, .inl (fun _ => 0))), (a5, .inl (cI, 1834, .inl (fun _ => 0))), (a6, .inl (cZ, 2, .inl (fun _ => 0))), (a7, .inl (cI, 60, .inl (fun _ => 0))), (a8, .inl (cZ, 60, .inl (fun _ => 0))), (a9, .inl (cB, 500, .inl (fun _ => 0)))]) := hD
  refine lv_aload_n hx hb dX9_init_93 rfl (lv_at hl 0 rfl) ?_
  refine lv_bipush (v := 64) hx hb dX9_init_94 (by decide) ?_
  refine va_newa (atype := .byte) (ty := .byte) (a0 := (64, .inl (fun _ => 0))) (N' := 64) hx hb (hts (.arrayClass .byte) (List.mem_of_getElem? (i := 14) rfl)) rfl hK hP hD hS hA (fun cA => rfl) (by decide) (by decide) (Nat.le_of_ble_eq_true rfl) (Nat.le_of_ble_eq_true rfl) (Nat.le_of_ble_eq_true rfl) dX9_init_96 (fun a10 cA H hK hP hD hS => ?_)
  have e9 : cA = cB := va_K_one hK (i := 4) (j := 1) rfl rfl
  rw [e9] at hP hD
  have hK : va_K D vwCl (gT cI cB cZ cO) s := hK.sub [0, 1, 2, 3] rfl
  have hP : va_P D vwCl ([(h0, .inr (8, [.int 0, .ref a1, .ref a2, .ref a3, .ref a4, .ref a5, .ref a6, .int 0, .int 0, .int 0, .ref a7, .ref a8, .int 0, .int 0, .int 0, .ref a9, .int 0, .int (-1), .int 0, .int 0, .int 0, .int 0, .int 0, .int 0, .int 0, .null, .int 0])), (a1, .inl (cI, 917, .inl (upd (fun _ => 0) 0 4))), (a2, .inl (cI, 917, .inl (fun _ => 0))), (a3, .inl (cI, 917, .inl (fun _ => 0))), (a4, .inl (cI, 7336, .inl (fun _ => 0))), (a5, .inl (cI, 1834, .inl (fun _ => 0))), (a6, .inl (cZ, 2, .inl (fun _ => 0))), (a7, .inl (cI, 60, .inl (fun _ => 0))), (a8, .inl (cZ, 60, .inl (fun _ => 0))), (a9, .inl (cB, 500, .inl (fun _ => 0))), (a10, .inl (cB, 64, .inl (fun _ => 0)))]) H := hP
  have hD : va_D A ([(h0, .inr (8, [.int 0, .ref a1, .ref a2, .ref a3, .ref a4, .ref a5, .ref a6, .int 0, .int 0, .int 0, .ref a7, .ref a8, .int 0, .int 0, .int 0, .ref a9, .int 0, .int (-1), .int 0, .int 0, .int 0, .int 0, .int 0, .int 0, .int 0, .null, .int 0])), (a1, .inl (cI, 917, .inl (upd (fun _ => 0) 0 4))), (a2, .inl (cI, 917, .inl (fun _ => 0))), (a3, .inl (cI, 917, .inl (fun _ => 0))), (a4, .inl (cI, 7336, .inl (fun _ => 0))), (a5, .inl (cI, 1834, .inl (fun _ => 0))), (a6, .inl (cZ, 2, .inl (fun _ => 0))), (a7, .inl (cI, 60, .inl (fun _ => 0))), (a8, .inl (cZ, 60, .inl (fun _ => 0))), (a9, .inl (cB, 500, .inl (fun _ => 0))), (a10, .inl (cB, 64, .inl (fun _ => 0)))]) := hD
  refine va_putF (D := D) (ci := 8) (v := .ref a10) (ty := (.array .byte)) (C := RX9) (T := TX9) (N := 27) hx hb hts hiX9 tyX9 tyX9_ok nmX9 hown hK hP hD hS 0 rfl rfl 25 (by decide) (hts (.fieldLink RX9 43 "ResolutionProverModel" "output" "[B") (List.mem_of_getElem? (i := 17) rfl)) (fun _ h9 => h9) rfl hin rfl (by decide +kernel) rfl rfl (Nat.le_of_ble_eq_true rfl) dX9_init_98 (fun H locs hP hD hS => ?_)
  have hP : va_P D vwCl ([(h0, .inr (8, [.int 0, .ref a1, .ref a2, .ref a3, .ref a4, .ref a5, .ref a6, .int 0, .int 0, .int 0, .ref a7, .ref a8, .int 0, .int 0, .int 0, .ref a9, .int 0, .int (-1), .int 0, .int 0, .int 0, .int 0, .int 0, .int 0, .int 0, .ref a10, .int 0])), (a1, .inl (cI, 917, .inl (upd (fun _ => 0) 0 4))), (a2, .inl (cI, 917, .inl (fun _ => 0))), (a3, .inl (cI, 917, .inl (fun _ => 0))), (a4, .inl (cI, 7336, .inl (fun _ => 0))), (a5, .inl (cI, 1834, .inl (fun _ => 0))), (a6, .inl (cZ, 2, .inl (fun _ => 0))), (a7, .inl (cI, 60, .inl (fun _ => 0))), (a8, .inl (cZ, 60, .inl (fun _ => 0))), (a9, .inl (cB, 500, .inl (fun _ => 0))), (a10, .inl (cB, 64, .inl (fun _ => 0)))]) H := hP
  have hD : va_D A ([(h0, .inr (8, [.int 0, .ref a1, .ref a2, .ref a3, .ref a4, .ref a5, .ref a6, .int 0, .int 0, .int 0, .ref a7, .ref a8, .int 0, .int 0, .int 0, .ref a9, .int 0, .int (-1), .int 0, .int 0, .int 0, .int 0, .int 0, .int 0, .int 0, .ref a10, .int 0])), (a1, .inl (cI, 917, .inl (upd (fun _ => 0) 0 4))), (a2, .inl (cI, 917, .inl (fun _ => 0))), (a3, .inl (cI, 917, .inl (fun _ => 0))), (a4, .inl (cI, 7336, .inl (fun _ => 0))), (a5, .inl (cI, 1834, .inl (fun _ => 0))), (a6, .inl (cZ, 2, .inl (fun _ => 0))), (a7, .inl (cI, 60, .inl (fun _ => 0))), (a8, .inl (cZ, 60, .inl (fun _ => 0))), (a9, .inl (cB, 500, .inl (fun _ => 0))), (a10, .inl (cB, 64, .inl (fun _ => 0)))]) := hD
  exact rA_v (q := (fun k => [h0, a1, a2, a3, a4, a5, a6, a7, a8, a9, a10].getD k 0)) hx hb hr hlocks hP hD hS rfl rfl dX9_init_101
