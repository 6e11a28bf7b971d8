def lX9_propagates_25 (fu : Nat) (j47 : Int32 → OS → Option ((OS))) : Nat → Int32 → Int32 → OS → Option ((OS))
  | 0, _, _, _ => none
  | n_25 + 1, v1_25, v2_25, z1_25 => bd (fX9_many fu z1_25) (fun (r_5 : Int32) => (if r_5 ≤ v2_25 then j47 v1_25 z1_25 else bd (fX9_fixes fu z1_25 v2_25) (fun (w_9 : Int32 × OS) => nm w_9.1 (fun (r_7 : Int32) => nm w_9.2 (fun (z_8 : OS) => nm (v1_25 ||| r_7) (fun (v1_11 : Int32) => nm (v2_25 + (1 : Int32)) (fun (v2_12 : Int32) => lX9_propagates_25 fu j47 n_25 v1_11 v2_12 z_8)))))))
def lX9_propagates_17 (fu : Nat) (j50 : OS → Option ((OS))) : Nat → Int32 → OS → Option ((OS))
  | 0, _, _ => none
  | n_17 + 1, v1_17, z1_17 => (if v1_17 = (0 : Int32) then j50 z1_17 else jn (κ := Int32 → OS → Option ((OS))) (fun (v1_47 : Int32) (z1_47 : OS) => lX9_propagates_17 fu j50 n_17 v1_47 z1_47) (fun j47 => lX9_propagates_25 fu j47 fu (0 : Int32) (0 : Int32) z1_17))
def fX9_propagates (fu : Nat) (z : OS) : Option ((OS)) :=
  nm (sI z 12 (0 : Int32)) (fun (z_1 : OS) => nm (sI z_1 13 (0 : Int32)) (fun (z_2 : OS) => gd (isZ (0 : Int32)) (nm (sI z_2 14 (0 : Int32)) (fun (z_3 : OS) => jn (κ := OS → Option ((OS))) (fun (z1_50 : OS) => jn (κ := Int32 → Int32 → OS → Option ((OS))) (fun (t1_72 : Int32) (t2_72 : Int32) (z1_72 : OS) => gd (isZ (t1_72 ||| t2_72)) (nm (sI z1_72 14 (t1_72 ||| t2_72)) (fun (z_4 : OS) => some z_4))) (fun j72 => (if ((z1_50.1 12) &&& (z1_50.1 13)) = (0 : Int32) then j72 (z1_50.1 14) (0 : Int32) z1_50 else j72 (z1_50.1 14) (1 : Int32) z1_50))) (fun j50 => lX9_propagates_17 fu j50 fu (1 : Int32) z_3)))))
set_option maxRecDepth 100000 in
set_option maxHeartbeats 4000000 in
theorem mX9_propagates (l : Launch) (D : va_G) (cI cB cZ cO : ClassId) (q : Nat → Nat) (sz : Nat) (fu : Nat) (z : OS) {y1 : OS} (hf : fX9_propagates fu z = some y1) : Met l yX9_propagates wsX9_propagates ({ frames := 3, cells := 0, slots := 0, locals := 70 }) (va_Pc [.ref (q 0)] (Pw D (gT cI cB cZ cO) (wM cI cB cZ q z) sz)) (Qw D (va_A (wM cI cB cZ q z) sz) none (wM cI cB cZ q y1)) 0 0 (va_A (wM cI cB cZ q z) sz) := by
  unfold fX9_propagates at hf
  refine metW (ret := none) (own := RX9) rfl (by decide) rfl (Nat.le_of_ble_eq_true rfl) (fun p e s m args below meth c ls A hx hb hr hml hown hlocks hts hK hA hP hD hS hl => ?_)
  have k143 := (hts (.fieldLink RX9 143 "ResolutionProverModel" "fixedOn" "I") (List.mem_of_getElem? (i := 1) rfl))
  have k146 := (hts (.fieldLink RX9 146 "ResolutionProverModel" "fixedOff" "I") (List.mem_of_getElem? (i := 2) rfl))
  have k149 := (hts (.fieldLink RX9 149 "ResolutionProverModel" "isConflict" "Z") (List.mem_of_getElem? (i := 3) rfl))
  have hiX9 : ∀ w ∈ wsX90, w ∈ wsX9_propagates := (memIn_p [34, 35, 36, 37, 38, 39, 40, 41, 42, 43, 44, 45, 46, 47, 48, 49, 50, 51, 52, 53, 54, 55, 56, 57, 58, 59, 60] rfl)
  have hl : lv_has ls 3 [(0, .ref (q 0))] := hl
  refine lv_aload_n hx hb dX9_propagates_0 rfl (lv_at hl 0 rfl) ?_
  refine lv_iconst (v := 0) hx hb dX9_propagates_1 (by decide) ?_
  refine va_put (D := D) (ci := 8) (v := .int (0 : Int32)) (ty := .int) (C := RX9) (T := TX9) (N := 27) hx hb hts hiX9 tyX9 tyX9_ok nmX9 hown hK hP hD hS 0 rfl rfl 12 (by decide) k143 (fun _ h9 => h9) rfl (by decide +kernel) rfl rfl (Nat.le_of_ble_eq_true rfl) dX9_propagates_2 (fun H locs hP hD hS => ?_)
  obtain ⟨z_1, ez_1, hf⟩ := nm_ob hf
  have hP : va_P D vwCl (wM cI cB cZ q z_1) H := by rw [ez_1]; exact hP
  have hD : va_D A (wM cI cB cZ q z_1) := by rw [ez_1]; exact hD
  refine lv_aload_n hx hb dX9_propagates_5 rfl (lv_at hl 0 rfl) ?_
  refine lv_iconst (v := 0) hx hb dX9_propagates_6 (by decide) ?_
  refine va_put (D := D) (ci := 8) (v := .int (0 : Int32)) (ty := .int) (C := RX9) (T := TX9) (N := 27) hx hb hts hiX9 tyX9 tyX9_ok nmX9 hown hK hP hD hS 0 rfl rfl 13 (by decide) k146 (fun _ h9 => h9) rfl (by decide +kernel) rfl rfl (Nat.le_of_ble_eq_true rfl) dX9_propagates_7 (fun H locs hP hD hS => ?_)
  obtain ⟨z_2, ez_2, hf⟩ := nm_ob hf
  have hP : va_P D vwCl (wM cI cB cZ q z_2) H := by rw [ez_2]; exact hP
  have hD : va_D A (wM cI cB cZ q z_2) := by rw [ez_2]; exact hD
  refine lv_aload_n hx hb dX9_propagates_10 rfl (lv_at hl 0 rfl) ?_
  refine lv_iconst (v := 0) hx hb dX9_propagates_11 (by decide) ?_
  obtain ⟨hz, hf⟩ := gd_ob hf
  refine va_put (D := D) (ci := 8) (v := .int (0 : Int32)) (ty := .boolean) (C := RX9) (T := TX9) (N := 27) hx hb hts hiX9 tyX9 tyX9_ok nmX9 hown hK hP hD hS 0 rfl rfl 14 (by decide) k149 (fun _ h9 => h9) rfl (by decide +kernel) (isZ_n hz) (isZ_f hz) (Nat.le_of_ble_eq_true rfl) dX9_propagates_12 (fun H locs hP hD hS => ?_)
  obtain ⟨z_3, ez_3, hf⟩ := nm_ob hf
  have hP : va_P D vwCl (wM cI cB cZ q z_3) H := by rw [ez_3]; exact hP
  have hD : va_D A (wM cI cB cZ q z_3) := by rw [ez_3]; exact hD
  refine lv_iconst (v := 1) hx hb dX9_propagates_15 (by decide) ?_
  refine lv_istore_n (lv' := [(1, .int (1 : Int32)), (0, .ref (q 0))]) hx hb dX9_propagates_16 rfl hl (by decide) rfl (fun ls hl => ?_)
  obtain ⟨j50, ej50, hf⟩ := jn_ob hf
  have hp50 : ∀ (z1_50 : OS) (H : Heap) (locs : List Loc) (ls : Array Slot), j50 z1_50 = some y1 → va_P D vwCl (wM cI cB cZ q z1_50) H → va_D A (wM cI cB cZ q z1_50) → va_S A s.heap H locs → lv_has ls 3 [(0, .ref (q 0))] → W p l e (headSpec wsX9_propagates { frames := 3, cells := 0, slots := 0, locals := 70 }).room s m args below meth c H locs 0 0 (MQ below (Qw D A none (wM cI cB cZ q y1)) args s 0 0 A) (F0 m 50 ls []) := by
    intro z1_50 H locs ls hf hP hD hS hl
    rw [ej50] at hf
    refine lv_aload_n hx hb dX9_propagates_50 rfl (lv_at hl 0 rfl) ?_
    refine lv_dup hx hb dX9_propagates_51 rfl ?_
    refine va_get (D := D) (ci := 8) (v := .int (z1_50.1 14)) (C := RX9) (T := TX9) (N := 27) hx hb hts hiX9 hown hK hP 0 rfl rfl 14 (by decide) k149 (fun _ h9 => h9) rfl dX9_propagates_52 ?_
    refine lv_aload_n hx hb dX9_propagates_55 rfl (lv_at hl 0 rfl) ?_
    refine va_get (D := D) (ci := 8) (v := .int (z1_50.1 12)) (C := RX9) (T := TX9) (N := 27) hx hb hts hiX9 hown hK hP 0 rfl rfl 12 (by decide) k143 (fun _ h9 => h9) rfl dX9_propagates_56 ?_
    refine lv_aload_n hx hb dX9_propagates_59 rfl (lv_at hl 0 rfl) ?_
    refine va_get (D := D) (ci := 8) (v := .int (z1_50.1 13)) (C := RX9) (T := TX9) (N := 27) hx hb hts hiX9 hown hK hP 0 rfl rfl 13 (by decide) k146 (fun _ h9 => h9) rfl dX9_propagates_60 ?_
    refine lv_iand hx hb dX9_propagates_63 ?_
    obtain ⟨j72, ej72, hf⟩ := jn_ob hf
    have hp72 : ∀ (t1_72 : Int32) (t2_72 : Int32) (z1_72 : OS) (H : Heap) (locs : List Loc) (ls : Array Slot), j72 t1_72 t2_72 z1_72 = some y1 → va_P D vwCl (wM cI cB cZ q z1_72) H → va_D A (wM cI cB cZ q z1_72) → va_S A s.heap H locs → lv_has ls 3 [] → W p l e (headSpec wsX9_propagates { frames := 3, cells := 0, slots := 0, locals := 70 }).room s m args below meth c H locs 0 0 (MQ below (Qw D A none (wM cI cB cZ q y1)) args s 0 0 A) (F0 m 72 ls [.int t2_72, .int t1_72, .ref (q 0)]) := by
      intro t1_72 t2_72 z1_72 H locs ls hf hP hD hS hl
      rw [ej72] at hf
      refine lv_ior hx hb dX9_propagates_72 ?_
      obtain ⟨hz, hf⟩ := gd_ob hf
      refine va_put (D := D) (ci := 8) (v := .int (t1_72 ||| t2_72)) (ty := .boolean) (C := RX9) (T := TX9) (N := 27) hx hb hts hiX9 tyX9 tyX9_ok nmX9 hown hK hP hD hS 0 rfl rfl 14 (by decide) k149 (fun _ h9 => h9) rfl (by decide +kernel) (isZ_n hz) (isZ_f hz) (Nat.le_of_ble_eq_true rfl) dX9_propagates_73 (fun H locs hP hD hS => ?_)
      obtain ⟨z_4, ez_4, hf⟩ := nm_ob hf
      have hP : va_P D vwCl (wM cI cB cZ q z_4) H := by rw [ez_4]; exact hP
      have hD : va_D A (wM cI cB cZ q z_4) := by rw [ez_4]; exact hD
      exact rW_v hx hb hr hlocks hP hD hS (congrArg (fun (q9 : (OS)) => wM cI cB cZ q q9) (so_ob hf)) dX9_propagates_76
    refine lv_if_eq (tgt := 71) hx hb dX9_propagates_64 (by decide) (fun c_64 => ?_) (fun c_64 => ?_)
    · have hf := ip c_64 hf
      refine lv_iconst (v := 0) hx hb dX9_propagates_71 (by decide) ?_
      exact hp72 (z1_50.1 14) (0 : Int32) z1_50 _ _ _ hf hP hD hS (lv_sub hl [] rfl)
    · have hf := iq c_64 hf
      refine lv_iconst (v := 1) hx hb dX9_propagates_67 (by decide) ?_
      refine lv_goto (tgt := 72) hx hb dX9_propagates_68 (by decide) ?_
      exact hp72 (z1_50.1 14) (1 : Int32) z1_50 _ _ _ hf hP hD hS (lv_sub hl [] rfl)
  have hL17 : ∀ (n_17 : Nat) (v1_17 : Int32) (z1_17 : OS) (H : Heap) (locs : List Loc) (ls : Array Slot), lX9_propagates_17 fu j50 n_17 v1_17 z1_17 = some y1 → va_P D vwCl (wM cI cB cZ q z1_17) H → va_D A (wM cI cB cZ q z1_17) → va_S A s.heap H locs → lv_has ls 3 [(0, .ref (q 0)), (1, .int v1_17)] → W p l e (headSpec wsX9_propagates { frames := 3, cells := 0, slots := 0, locals := 70 }).room s m args below meth c H locs 0 0 (MQ below (Qw D A none (wM cI cB cZ q y1)) args s 0 0 A) (F0 m 17 ls []) := by
    intro n_17
    induction n_17 with
    | zero =>
      intro v1_17 z1_17 H locs ls hf
      exact no_ob hf
    | succ n_17 ih17 =>
      intro v1_17 z1_17 H locs ls hf hP hD hS hl
      rw [lX9_propagates_17] at hf
      refine lv_iload_n hx hb dX9_propagates_17 rfl (lv_at hl 1 rfl) ?_
      refine lv_if_eq (tgt := 50) hx hb dX9_propagates_18 (by decide) (fun c_18 => ?_) (fun c_18 => ?_)
      · have hf := ip c_18 hf
        exact hp50 z1_17 _ _ _ hf hP hD hS (lv_sub hl [0] rfl)
      · have hf := iq c_18 hf
        refine lv_iconst (v := 0) hx hb dX9_propagates_21 (by decide) ?_
        refine lv_istore_n (lv' := [(1, .int (0 : Int32)), (0, .ref (q 0))]) hx hb dX9_propagates_22 rfl hl (by decide) rfl (fun ls hl => ?_)
        refine lv_iconst (v := 0) hx hb dX9_propagates_23 (by decide) ?_
        refine lv_istore_n (lv' := [(2, .int (0 : Int32)), (1, .int (0 : Int32)), (0, .ref (q 0))]) hx hb dX9_propagates_24 rfl hl (by decide) rfl (fun ls hl => ?_)
        obtain ⟨j47, ej47, hf⟩ := jn_ob hf
        have hp47 : ∀ (v1_47 : Int32) (z1_47 : OS) (H : Heap) (locs : List Loc) (ls : Array Slot), j47 v1_47 z1_47 = some y1 → va_P D vwCl (wM cI cB cZ q z1_47) H → va_D A (wM cI cB cZ q z1_47) → va_S A s.heap H locs → lv_has ls 3 [(0, .ref (q 0)), (1, .int v1_47)] → W p l e (headSpec wsX9_propagates { frames := 3, cells := 0, slots := 0, locals := 70 }).room s m args below meth c H locs 0 0 (MQ below (Qw D A none (wM cI cB cZ q y1)) args s 0 0 A) (F0 m 47 ls []) := by
          intro v1_47 z1_47 H locs ls hf hP hD hS hl
          rw [ej47] at hf
          refine lv_goto (tgt := 17) hx hb dX9_propagates_47 (by decide) ?_
          exact ih17 v1_47 z1_47 _ _ _ hf hP hD hS hl
        have hL25 : ∀ (n_25 : Nat) (v1_25 : Int32) (v2_25 : Int32) (z1_25 : OS) (H : Heap) (locs : List Loc) (ls : Array Slot), lX9_propagates_25 fu j47 n_25 v1_25 v2_25 z1_25 = some y1 → va_P D vwCl (wM cI cB cZ q z1_25) H → va_D A (wM cI cB cZ q z1_25) → va_S A s.heap H locs → lv_has ls 3 [(0, .ref (q 0)), (1, .int v1_25), (2, .int v2_25)] → W p l e (headSpec wsX9_propagates { frames := 3, cells := 0, slots := 0, locals := 70 }).room s m args below meth c H locs 0 0 (MQ below (Qw D A none (wM cI cB cZ q y1)) args s 0 0 A) (F0 m 25 ls []) := by
          intro n_25
          induction n_25 with
          | zero =>
            intro v1_25 v2_25 z1_25 H locs ls hf
            exact no_ob hf
          | succ n_25 ih25 =>
            intro v1_25 v2_25 z1_25 H locs ls hf hP hD hS hl
            rw [lX9_propagates_25] at hf
            refine lv_iload_n hx hb dX9_propagates_25 rfl (lv_at hl 2 rfl) ?_
            refine lv_aload_n hx hb dX9_propagates_26 rfl (lv_at hl 0 rfl) ?_
            obtain ⟨r_5, hc_6, hf⟩ := bd_ob hf
            refine rdV (As := []) (rest := [.int v2_25]) ⟨hx, hb, hml, hown, hts⟩ (mX9_many l D cI cB cZ cO q fu z1_25 hc_6) (cwV 0 hts gX9_propagates_X9_many rfl rfl rfl (by decide +kernel) ⟨Nat.le_of_ble_eq_true rfl, Nat.le_of_ble_eq_true rfl⟩) hK hP (va_recv hK hP (ci := 8) (q0 := 0) rfl rfl) rfl hl.1 rfl (Nat.le_of_ble_eq_true rfl) dX9_propagates_27 ⟨Nat.zero_le _, Nat.zero_le _⟩ ?_
            refine lv_icmp_ge (tgt := 47) hx hb dX9_propagates_30 (by decide) (fun c_30 => ?_) (fun c_30 => ?_)
            · have hf := ip c_30 hf
              exact hp47 v1_25 z1_25 _ _ _ hf hP hD hS (lv_sub hl [0, 1] rfl)
            · have hf := iq c_30 hf
              refine lv_iload_n hx hb dX9_propagates_33 rfl (lv_at hl 1 rfl) ?_
              refine lv_aload_n hx hb dX9_propagates_34 rfl (lv_at hl 0 rfl) ?_
              refine lv_iload_n hx hb dX9_propagates_35 rfl (lv_at hl 2 rfl) ?_
              obtain ⟨⟨r_7, z_8⟩, hc_10, hf⟩ := bd_ob hf
              have hf := nm_st hf
              have hf := nm_st hf
              refine weV (As := [.int v2_25]) (rest := [.int v1_25]) ⟨hx, hb, hml, hown, hts⟩ (mX9_fixes l D cI cB cZ cO q _ fu z1_25 v2_25 hc_10) (cwV 1 hts gX9_propagates_X9_fixes rfl rfl rfl (by decide +kernel) ⟨Nat.le_of_ble_eq_true rfl, Nat.le_of_ble_eq_true rfl⟩) hK hP hD hS hA (va_recv hK hP (ci := 8) (q0 := 0) rfl rfl) rfl hl.1 rfl (Nat.le_of_ble_eq_true rfl) dX9_propagates_36 ⟨Nat.zero_le _, Nat.zero_le _⟩ (fun H locs hP hD hS => ?_)
              refine lv_ior hx hb dX9_propagates_39 ?_
              obtain ⟨v1_11, ev1_11, hf⟩ := nm_ob hf
              refine lv_nmi ev1_11 ?_
              refine lv_istore_n (lv' := [(1, .int v1_11), (0, .ref (q 0)), (2, .int v2_25)]) hx hb dX9_propagates_40 rfl hl (by decide) rfl (fun ls hl => ?_)
              obtain ⟨v2_12, ev2_12, hf⟩ := nm_ob hf
              refine lv_iinc (v := v2_12) (lv' := [(2, .int v2_12), (1, .int v1_11), (0, .ref (q 0))]) hx hb dX9_propagates_41 hl (k := 2) rfl (by rw [ev2_12]; rfl) (by decide) rfl (fun ls hl => ?_)
              refine lv_goto (tgt := 25) hx hb dX9_propagates_44 (by decide) ?_
              exact ih25 v1_11 v2_12 z_8 _ _ _ hf hP hD hS (lv_sub hl [2, 1, 0] rfl)
        exact hL25 fu (0 : Int32) (0 : Int32) z1_17 _ _ _ hf hP hD hS (lv_sub hl [2, 1, 0] rfl)
  exact hL17 fu (1 : Int32) z_3 _ _ _ hf hP hD hS (lv_sub hl [1, 0] rfl)

def lX9_append_23 (p1 : Int32) (p2 : Int32) (p3 : Int32) (p4 : Int32) (p5 : Int32) (j117 : OS → Option (Int32 × (OS))) : Nat → Int32 → OS → Option (Int32 × (OS))
  | 0, _, _ => none
  | n_23 + 1, v6_23, z1_23 => (if (20 : Int32) ≤ v6_23 then j117 z1_23 else jn (κ := Int32 → Option (Int32 × (OS))) (fun (t0_76 : Int32) => gd (inB (z1_23.1 16) 500) (nm (sA z1_23 15 (upd (z1_23.2 15) ((z1_23.1 16)).toNatClampNeg (vp_nar .byte (((t0_76 >>> (((24 : Int32) - ((8 : Int32) * (v6_23 - v6_23 / (4 : Int32) * (4 : Int32)))) &&& (31 : Int32)))).toInt8.toInt32)))) (fun (z_2 : OS) => nm (sI z_2 16 ((z_2.1 16) + (1 : Int32))) (fun (z_3 : OS) => nm (v6_23 + (1 : Int32)) (fun (v6_4 : Int32) => lX9_append_23 p1 p2 p3 p4 p5 j117 n_23 v6_4 z_3))))) (fun j76 => (if (4 : Int32) ≤ v6_23 then (if (8 : Int32) ≤ v6_23 then (if (12 : Int32) ≤ v6_23 then (if (16 : Int32) ≤ v6_23 then j76 p5 else j76 p4) else j76 p3) else j76 p2) else j76 p1)))
def fX9_append (fu : Nat) (z : OS) (p1 : Int32) (p2 : Int32) (p3 : Int32) (p4 : Int32) (p5 : Int32) : Option (Int32 × (OS)) :=
  nm (sI z 0 (0 : Int32)) (fun (z_1 : OS) => (if ((z_1.1 16) + (20 : Int32)) ≤ (500 : Int32) then jn (κ := OS → Option (Int32 × (OS))) (fun (z1_117 : OS) => some ((z1_117.1 16), z1_117)) (fun j117 => lX9_append_23 p1 p2 p3 p4 p5 j117 fu (0 : Int32) z_1) else some ((-1 : Int32), z_1)))
set_option maxRecDepth 100000 in
set_option maxHeartbeats 4000000 in
theorem mX9_append (l : Launch) (D : va_G) (cI cB cZ cO : ClassId) (q : Nat → Nat) (sz : Nat) (fu : Nat) (z : OS) (p1 : Int32) (p2 : Int32) (p3 : Int32) (p4 : Int32) (p5 : Int32) {r : Int32} {y1 : OS} (hf : fX9_append fu z p1 p2 p3 p4 p5 = some (r, y1)) : Met l yX9_append wsX9_append ({ frames := 0, cells := 0, slots := 0, locals := 0 }) (va_Pc [.ref (q 0), .int p1, .int p2, .int p3, .int p4, .int p5] (Pw D (gT cI cB cZ cO) (wM cI cB cZ q z) sz)) (Qw D (va_A (wM cI cB cZ q z) sz) (some (.int r)) (wM cI cB cZ q y1)) 0 0 (va_A (wM cI cB cZ q z) sz) := by
  unfold fX9_append at hf
  refine metW (ret := (some .int)) (own := RX9) rfl (by decide) rfl (Nat.le_of_ble_eq_true rfl) (fun p e s m args below meth c ls A hx hb hr hml hown hlocks hts hK hA hP hD hS hl => ?_)
  have k46 := (hts (.fieldLink RX9 46 "ResolutionProverModel" "thrown" "I") (List.mem_of_getElem? (i := 1) rfl))
  have k162 := (hts (.fieldLink RX9 162 "ResolutionProverModel" "taped" "I") (List.mem_of_getElem? (i := 2) rfl))
  have k35 := (hts (.fieldLink RX9 35 "ResolutionProverModel" "tape" "[B") (List.mem_of_getElem? (i := 3) rfl))
  have hiX9 : ∀ w ∈ wsX90, w ∈ wsX9_append := (memIn_p [4, 5, 6, 7, 8, 9, 10, 11, 12, 13, 14, 15, 16, 17, 18, 19, 20, 21, 22, 23, 24, 25, 26, 27, 28, 29, 30] rfl)
  have hl : lv_has ls 8 [(0, .ref (q 0)), (1, .int p1), (2, .int p2), (3, .int p3), (4, .int p4), (5, .int p5)] := hl
  refine lv_aload_n hx hb dX9_append_0 rfl (lv_at hl 0 rfl) ?_
  refine lv_iconst (v := 0) hx hb dX9_append_1 (by decide) ?_
  refine va_put (D := D) (ci := 8) (v := .int (0 : Int32)) (ty := .int) (C := RX9) (T := TX9) (N := 27) hx hb hts hiX9 tyX9 tyX9_ok nmX9 hown hK hP hD hS 0 rfl rfl 0 (by decide) k46 (fun _ h9 => h9) rfl (by decide +kernel) rfl rfl (Nat.le_of_ble_eq_true rfl) dX9_append_2 (fun H locs hP hD hS => ?_)
  obtain ⟨z_1, ez_1, hf⟩ := nm_ob hf
  have hP : va_P D vwCl (wM cI cB cZ q z_1) H := by rw [ez_1]; exact hP
  have hD : va_D A (wM cI cB cZ q z_1) := by rw [ez_1]; exact hD
  refine lv_aload_n hx hb dX9_append_5 rfl (lv_at hl 0 rfl) ?_
  refine va_get (D := D) (ci := 8) (v := .int (z_1.1 16)) (C := RX9) (T := TX9) (N := 27) hx hb hts hiX9 hown hK hP 0 rfl rfl 16 (by decide) k162 (fun _ h9 => h9) rfl dX9_append_6 ?_
  refine lv_bipush (v := 20) hx hb dX9_append_9 (by decide) ?_
  refine lv_iadd hx hb dX9_append_11 ?_
  refine lv_sipush (v := 500) hx hb dX9_append_12 (by decide) ?_
  refine lv_icmp_le (tgt := 20) hx hb dX9_append_15 (by decide) (fun c_15 => ?_) (fun c_15 => ?_)
  · have hf := ip c_15 hf
    refine lv_iconst (v := 0) hx hb dX9_append_20 (by decide) ?_
    refine lv_istore (lv' := [(6, .int (0 : Int32)), (0, .ref (q 0)), (1, .int p1), (2, .int p2), (3, .int p3), (4, .int p4), (5, .int p5)]) hx hb dX9_append_21 hl (by decide) rfl (fun ls hl => ?_)
    obtain ⟨j117, ej117, hf⟩ := jn_ob hf
    have hp117 : ∀ (z1_117 : OS) (H : Heap) (locs : List Loc) (ls : Array Slot), j117 z1_117 = some (r, y1) → va_P D vwCl (wM cI cB cZ q z1_117) H → va_D A (wM cI cB cZ q z1_117) → va_S A s.heap H locs → lv_has ls 8 [(0, .ref (q 0))] → W p l e (headSpec wsX9_append { frames := 0, cells := 0, slots := 0, locals := 0 }).room s m args below meth c H locs 0 0 (MQ below (Qw D A (some (.int r)) (wM cI cB cZ q y1)) args s 0 0 A) (F0 m 117 ls []) := by
      intro z1_117 H locs ls hf hP hD hS hl
      rw [ej117] at hf
      refine lv_aload_n hx hb dX9_append_117 rfl (lv_at hl 0 rfl) ?_
      refine va_get (D := D) (ci := 8) (v := .int (z1_117.1 16)) (C := RX9) (T := TX9) (N := 27) hx hb hts hiX9 hown hK hP 0 rfl rfl 16 (by decide) k162 (fun _ h9 => h9) rfl dX9_append_118 ?_
      exact rW_i hx hb hr hlocks hP hD hS (congrArg (fun q9 => q9.1) (so_ob hf)) (congrArg (fun (q9 : Int32 × (OS)) => wM cI cB cZ q q9.2) (so_ob hf)) dX9_append_121
    have hL23 : ∀ (n_23 : Nat) (v6_23 : Int32) (z1_23 : OS) (H : Heap) (locs : List Loc) (ls : Array Slot), lX9_append_23 p1 p2 p3 p4 p5 j117 n_23 v6_23 z1_23 = some (r, y1) → va_P D vwCl (wM cI cB cZ q z1_23) H → va_D A (wM cI cB cZ q z1_23) → va_S A s.heap H locs → lv_has ls 8 [(0, .ref (q 0)), (1, .int p1), (2, .int p2), (3, .int p3), (4, .int p4), (5, .int p5), (6, .int v6_23)] → W p l e (headSpec wsX9_append { frames := 0, cells := 0, slots := 0, locals := 0 }).room s m args below meth c H locs 0 0 (MQ below (Qw D A (some (.int r)) (wM cI cB cZ q y1)) args s 0 0 A) (F0 m 23 ls []) := by
      intro n_23
      induction n_23 with
      | zero =>
        intro v6_23 z1_23 H locs ls hf
        exact no_ob hf
      | succ n_23 ih23 =>
        intro v6_23 z1_23 H locs ls hf hP hD hS hl
        rw [lX9_append_23] at hf
        refine lv_iload hx hb dX9_append_23 (lv_at hl 6 rfl) ?_
        refine lv_bipush (v := 20) hx hb dX9_append_25 (by decide) ?_
        refine lv_icmp_ge (tgt := 117) hx hb dX9_append_27 (by decide) (fun c_27 => ?_) (fun c_27 => ?_)
        · have hf := ip c_27 hf
          exact hp117 z1_23 _ _ _ hf hP hD hS (lv_sub hl [0] rfl)
        · have hf := iq c_27 hf
          refine lv_iload hx hb dX9_append_30 (lv_at hl 6 rfl) ?_
          refine lv_iconst (v := 4) hx hb dX9_append_32 (by decide) ?_
          obtain ⟨j76, ej76, hf⟩ := jn_ob hf
          have hp76 : ∀ (t0_76 : Int32) (H : Heap) (locs : List Loc) (ls : Array Slot), j76 t0_76 = some (r, y1) → va_P D vwCl (wM cI cB cZ q z1_23) H → va_D A (wM cI cB cZ q z1_23) → va_S A s.heap H locs → lv_has ls 8 [(0, .ref (q 0)), (1, .int p1), (2, .int p2), (3, .int p3), (4, .int p4), (5, .int p5), (6, .int v6_23)] → W p l e (headSpec wsX9_append { frames := 0, cells := 0, slots := 0, locals := 0 }).room s m args below meth c H locs 0 0 (MQ below (Qw D A (some (.int r)) (wM cI cB cZ q y1)) args s 0 0 A) (F0 m 76 ls [.int t0_76]) := by
            intro t0_76 H locs ls hf hP hD hS hl
            rw [ej76] at hf
            refine lv_istore (lv' := [(7, .int t0_76), (0, .ref (q 0)), (1, .int p1), (2, .int p2), (3, .int p3), (4, .int p4), (5, .int p5), (6, .int v6_23)]) hx hb dX9_append_76 hl (by decide) rfl (fun ls hl => ?_)
            refine lv_aload_n hx hb dX9_append_78 rfl (lv_at hl 1 rfl) ?_
            refine va_get (D := D) (ci := 8) (v := .ref (q 9)) (C := RX9) (T := TX9) (N := 27) hx hb hts hiX9 hown hK hP 0 rfl rfl 15 (by decide) k35 (fun _ h9 => h9) rfl dX9_append_79 ?_
            refine lv_aload_n hx hb dX9_append_82 rfl (lv_at hl 1 rfl) ?_
            refine va_get (D := D) (ci := 8) (v := .int (z1_23.1 16)) (C := RX9) (T := TX9) (N := 27) hx hb hts hiX9 hown hK hP 0 rfl rfl 16 (by decide) k162 (fun _ h9 => h9) rfl dX9_append_83 ?_
            refine lv_iload hx hb dX9_append_86 (lv_at hl 0 rfl) ?_
            refine lv_bipush (v := 24) hx hb dX9_append_88 (by decide) ?_
            refine lv_bipush (v := 8) hx hb dX9_append_90 (by decide) ?_
            refine lv_iload hx hb dX9_append_92 (lv_at hl 7 rfl) ?_
            refine lv_iconst (v := 4) hx hb dX9_append_94 (by decide) ?_
            refine lv_irem hx hb dX9_append_95 (by decide) ?_
            refine lv_imul hx hb dX9_append_96 ?_
            refine lv_isub hx hb dX9_append_97 ?_
            refine lv_ishr hx hb dX9_append_98 ?_
            refine lv_i2b hx hb dX9_append_99 rfl ?_
            obtain ⟨hi_, hf⟩ := gd_ob hf
            refine va_bast hx hb hK hP hD hS 9 1 rfl rfl (inB_in hi_) dX9_append_100 (fun H locs hP hD hS => ?_)
            obtain ⟨z_2, ez_2, hf⟩ := nm_ob hf
            have hP : va_P D vwCl (wM cI cB cZ q z_2) H := by rw [ez_2]; exact hP
            have hD : va_D A (wM cI cB cZ q z_2) := by rw [ez_2]; exact hD
            refine lv_aload_n hx hb dX9_append_101 rfl (lv_at hl 1 rfl) ?_
            refine lv_dup hx hb dX9_append_102 rfl ?_
            refine va_get (D := D) (ci := 8) (v := .int (z_2.1 16)) (C := RX9) (T := TX9) (N := 27) hx hb hts hiX9 hown hK hP 0 rfl rfl 16 (by decide) k162 (fun _ h9 => h9) rfl dX9_append_103 ?_
            refine lv_iconst (v := 1) hx hb dX9_append_106 (by decide) ?_
            refine lv_iadd hx hb dX9_append_107 ?_
            refine va_put (D := D) (ci := 8) (v := .int ((z_2.1 16) + (1 : Int32))) (ty := .int) (C := RX9) (T := TX9) (N := 27) hx hb hts hiX9 tyX9 tyX9_ok nmX9 hown hK hP hD hS 0 rfl rfl 16 (by decide) k162 (fun _ h9 => h9) rfl (by decide +kernel) rfl rfl (Nat.le_of_ble_eq_true rfl) dX9_append_108 (fun H locs hP hD hS => ?_)
            obtain ⟨z_3, ez_3, hf⟩ := nm_ob hf
            have hP : va_P D vwCl (wM cI cB cZ q z_3) H := by rw [ez_3]; exact hP
            have hD : va_D A (wM cI cB cZ q z_3) := by rw [ez_3]; exact hD
            obtain ⟨v6_4, ev6_4, hf⟩ := nm_ob hf
            refine lv_iinc (v := v6_4) (lv' := [(6, .int v6_4), (7, .int t0_76), (0, .ref (q 0)), (1, .int p1), (2, .int p2), (3, .int p3), (4, .int p4), (5, .int p5)]) hx hb dX9_append_111 hl (k := 7) rfl (by rw [ev6_4]; rfl) (by decide) rfl (fun ls hl => ?_)
            refine lv_goto (tgt := 23) hx hb dX9_append_114 (by decide) ?_
            exact ih23 v6_4 z_3 _ _ _ hf hP hD hS (lv_sub hl [2, 3, 4, 5, 6, 7, 0] rfl)
          refine lv_icmp_ge (tgt := 40) hx hb dX9_append_33 (by decide) (fun c_33 => ?_) (fun c_33 => ?_)
          · have hf := ip c_33 hf
            refine lv_iload hx hb dX9_append_40 (lv_at hl 6 rfl) ?_
            refine lv_bipush (v := 8) hx hb dX9_append_42 (by decide) ?_
            refine lv_icmp_ge (tgt := 51) hx hb dX9_append_44 (by decide) (fun c_44 => ?_) (fun c_44 => ?_)
            · have hf := ip c_44 hf
              refine lv_iload hx hb dX9_append_51 (lv_at hl 6 rfl) ?_
              refine lv_bipush (v := 12) hx hb dX9_append_53 (by decide) ?_
              refine lv_icmp_ge (tgt := 62) hx hb dX9_append_55 (by decide) (fun c_55 => ?_) (fun c_55 => ?_)
              · have hf := ip c_55 hf
                refine lv_iload hx hb dX9_append_62 (lv_at hl 6 rfl) ?_
                refine lv_bipush (v := 16) hx hb dX9_append_64 (by decide) ?_
                refine lv_icmp_ge (tgt := 74) hx hb dX9_append_66 (by decide) (fun c_66 => ?_) (fun c_66 => ?_)
                · have hf := ip c_66 hf
                  refine lv_iload hx hb dX9_append_74 (lv_at hl 5 rfl) ?_
                  exact hp76 p5 _ _ _ hf hP hD hS hl
                · have hf := iq c_66 hf
                  refine lv_iload hx hb dX9_append_69 (lv_at hl 4 rfl) ?_
                  refine lv_goto (tgt := 76) hx hb dX9_append_71 (by decide) ?_
                  exact hp76 p4 _ _ _ hf hP hD hS hl
              · have hf := iq c_55 hf
                refine lv_iload_n hx hb dX9_append_58 rfl (lv_at hl 3 rfl) ?_
                refine lv_goto (tgt := 76) hx hb dX9_append_59 (by decide) ?_
                exact hp76 p3 _ _ _ hf hP hD hS hl
            · have hf := iq c_44 hf
              refine lv_iload_n hx hb dX9_append_47 rfl (lv_at hl 2 rfl) ?_
              refine lv_goto (tgt := 76) hx hb dX9_append_48 (by decide) ?_
              exact hp76 p2 _ _ _ hf hP hD hS hl
          · have hf := iq c_33 hf
            refine lv_iload_n hx hb dX9_append_36 rfl (lv_at hl 1 rfl) ?_
            refine lv_goto (tgt := 76) hx hb dX9_append_37 (by decide) ?_
            exact hp76 p1 _ _ _ hf hP hD hS hl
    exact hL23 fu (0 : Int32) z_1 _ _ _ hf hP hD hS (lv_sub hl [1, 2, 3, 4, 5, 6, 0] rfl)
  · have hf := iq c_15 hf
    refine lv_iconst (v := (-1)) hx hb dX9_append_18 (by decide) ?_
    exact rW_i hx hb hr hlocks hP hD hS (congrArg (fun q9 => q9.1) (so_ob hf)) (congrArg (fun (q9 : Int32 × (OS)) => wM cI cB cZ q q9.2) (so_ob hf)) dX9_append_19

def fX9_truncate (fu : Nat) (z : OS) (p1 : Int32) : Option (Int32 × (OS)) :=
  nm (sI z 0 (0 : Int32)) (fun (z_1 : OS) => (if p1 < (0 : Int32) then gd (isZ (0 : Int32)) (some ((0 : Int32), z_1)) else (if p1 ≤ (z_1.1 16) then nm (sI z_1 16 p1) (fun (z_2 : OS) => gd (isZ (1 : Int32)) (some ((1 : Int32), z_2))) else gd (isZ (0 : Int32)) (some ((0 : Int32), z_1)))))
set_option maxRecDepth 100000 in
set_option maxHeartbeats 4000000 in
theorem mX9_truncate (l : Launch) (D : va_G) (cI cB cZ cO : ClassId) (q : Nat → Nat) (sz : Nat) (fu : Nat) (z : OS) (p1 : Int32) {r : Int32} {y1 : OS} (hf : fX9_truncate fu z p1 = some (r, y1)) : Met l yX9_truncate wsX9_truncate ({ frames := 0, cells := 0, slots := 0, locals := 0 }) (va_Pc [.ref (q 0), .int p1] (Pw D (gT cI cB cZ cO) (wM cI cB cZ q z) sz)) (Qw D (va_A (wM cI cB cZ q z) sz) (some (.int r)) (wM cI cB cZ q y1)) 0 0 (va_A (wM cI cB cZ q z) sz) := by
  unfold fX9_truncate at hf
  refine metW (ret := (some .boolean)) (own := RX9) rfl (by decide) rfl (Nat.le_of_ble_eq_true rfl) (fun p e s m args below meth c ls A hx hb hr hml hown hlocks hts hK hA hP hD hS hl => ?_)
  have k46 := (hts (.fieldLink RX9 46 "ResolutionProverModel" "thrown" "I") (List.mem_of_getElem? (i := 1) rfl))
  have k162 := (hts (.fieldLink RX9 162 "ResolutionProverModel" "taped" "I") (List.mem_of_getElem? (i := 2) rfl))
  have hiX9 : ∀ w ∈ wsX90, w ∈ wsX9_truncate := (memIn_p [3, 4, 5, 6, 7, 8, 9, 10, 11, 12, 13, 14, 15, 16, 17, 18, 19, 20, 21, 22, 23, 24, 25, 26, 27, 28, 29] rfl)
  have hl : lv_has ls 2 [(0, .ref (q 0)), (1, .int p1)] := hl
  refine lv_aload_n hx hb dX9_truncate_0 rfl (lv_at hl 0 rfl) ?_
  refine lv_iconst (v := 0) hx hb dX9_truncate_1 (by decide) ?_
  refine va_put (D := D) (ci := 8) (v := .int (0 : Int32)) (ty := .int) (C := RX9) (T := TX9) (N := 27) hx hb hts hiX9 tyX9 tyX9_ok nmX9 hown hK hP hD hS 0 rfl rfl 0 (by decide) k46 (fun _ h9 => h9) rfl (by decide +kernel) rfl rfl (Nat.le_of_ble_eq_true rfl) dX9_truncate_2 (fun H locs hP hD hS => ?_)
  obtain ⟨z_1, ez_1, hf⟩ := nm_ob hf
  have hP : va_P D vwCl (wM cI cB cZ q z_1) H := by rw [ez_1]; exact hP
  have hD : va_D A (wM cI cB cZ q z_1) := by rw [ez_1]; exact hD
  refine lv_iload_n hx hb dX9_truncate_5 rfl (lv_at hl 1 rfl) ?_
  refine lv_if_lt (tgt := 17) hx hb dX9_truncate_6 (by decide) (fun c_6 => ?_) (fun c_6 => ?_)
  · have hf := ip c_6 hf
    refine lv_iconst (v := 0) hx hb dX9_truncate_17 (by decide) ?_
    obtain ⟨hz, hf⟩ := gd_ob hf
    exact rW_z hx hb hr hlocks hP hD hS hz (congrArg (fun q9 => q9.1) (so_ob hf)) (congrArg (fun (q9 : Int32 × (OS)) => wM cI cB cZ q q9.2) (so_ob hf)) dX9_truncate_18
  · have hf := iq c_6 hf
    refine lv_iload_n hx hb dX9_truncate_9 rfl (lv_at hl 1 rfl) ?_
    refine lv_aload_n hx hb dX9_truncate_10 rfl (lv_at hl 0 rfl) ?_
    refine va_get (D := D) (ci := 8) (v := .int (z_1.1 16)) (C := RX9) (T := TX9) (N := 27) hx hb hts hiX9 hown hK hP 0 rfl rfl 16 (by decide) k162 (fun _ h9 => h9) rfl dX9_truncate_11 ?_
    refine lv_icmp_le (tgt := 19) hx hb dX9_truncate_14 (by decide) (fun c_14 => ?_) (fun c_14 => ?_)
    · have hf := ip c_14 hf
      refine lv_aload_n hx hb dX9_truncate_19 rfl (lv_at hl 0 rfl) ?_
      refine lv_iload_n hx hb dX9_truncate_20 rfl (lv_at hl 1 rfl) ?_
      refine va_put (D := D) (ci := 8) (v := .int p1) (ty := .int) (C := RX9) (T := TX9) (N := 27) hx hb hts hiX9 tyX9 tyX9_ok nmX9 hown hK hP hD hS 0 rfl rfl 16 (by decide) k162 (fun _ h9 => h9) rfl (by decide +kernel) rfl rfl (Nat.le_of_ble_eq_true rfl) dX9_truncate_21 (fun H locs hP hD hS => ?_)
      obtain ⟨z_2, ez_2, hf⟩ := nm_ob hf
      have hP : va_P D vwCl (wM cI cB cZ q z_2) H := by rw [ez_2]; exact hP
      have hD : va_D A (wM cI cB cZ q z_2) := by rw [ez_2]; exact hD
      refine lv_iconst (v := 1) hx hb dX9_truncate_24 (by decide) ?_
      obtain ⟨hz, hf⟩ := gd_ob hf
      exact rW_z hx hb hr hlocks hP hD hS hz (congrArg (fun q9 => q9.1) (so_ob hf)) (congrArg (fun (q9 : Int32 × (OS)) => wM cI cB cZ q q9.2) (so_ob hf)) dX9_truncate_25
    · have hf := iq c_14 hf
      refine lv_iconst (v := 0) hx hb dX9_truncate_17 (by decide) ?_
      obtain ⟨hz, hf⟩ := gd_ob hf
      exact rW_z hx hb hr hlocks hP hD hS hz (congrArg (fun q9 => q9.1) (so_ob hf)) (congrArg (fun (q9 : Int32 × (OS)) => wM cI cB cZ q q9.2) (so_ob hf)) dX9_truncate_18

def fX9_ahead (fu : Nat) (z : OS) : Option (Int32) :=
  (if (z.1 20) ≤ (z.1 19) then some (0 : Int32) else gd (inB (z.1 19) 500) (some (z.2 15 ((z.1 19)).toNatClampNeg)))
set_option maxRecDepth 100000 in
set_option maxHeartbeats 4000000 in
theorem mX9_ahead (l : Launch) (D : va_G) (cI cB cZ cO : ClassId) (q : Nat → Nat) (fu : Nat) (z : OS) {r : Int32} (hf : fX9_ahead fu z = some r) : Met l yX9_ahead wsX9_ahead ({ frames := 0, cells := 0, slots := 0, locals := 0 }) (va_Pc [.ref (q 0)] (Pr D (gT cI cB cZ cO) (wM cI cB cZ q z))) (Qr (some (.int r))) 0 0 (fun _ => False) := by
  unfold fX9_ahead at hf
  refine metR (ret := (some .int)) (own := RX9) rfl (by decide) rfl (Nat.le_of_ble_eq_true rfl) (fun p e s m args below meth c ls hx hb hr hml hown hlocks hts hP hK hl => ?_)
  have k165 := (hts (.fieldLink RX9 165 "ResolutionProverModel" "point" "I") (List.mem_of_getElem? (i := 1) rfl))
  have k168 := (hts (.fieldLink RX9 168 "ResolutionProverModel" "limit" "I") (List.mem_of_getElem? (i := 2) rfl))
  have k35 := (hts (.fieldLink RX9 35 "ResolutionProverModel" "tape" "[B") (List.mem_of_getElem? (i := 3) rfl))
  have hiX9 : ∀ w ∈ wsX90, w ∈ wsX9_ahead := (memIn_p [4, 5, 6, 7, 8, 9, 10, 11, 12, 13, 14, 15, 16, 17, 18, 19, 20, 21, 22, 23, 24, 25, 26, 27, 28, 29, 30] rfl)
  have hl : lv_has ls 1 [(0, .ref (q 0))] := hl
  refine lv_aload_n hx hb dX9_ahead_0 rfl (lv_at hl 0 rfl) ?_
  refine va_get (D := D) (ci := 8) (v := .int (z.1 19)) (C := RX9) (T := TX9) (N := 27) hx hb hts hiX9 hown hK hP 0 rfl rfl 19 (by decide) k165 (fun _ h9 => h9) rfl dX9_ahead_1 ?_
  refine lv_aload_n hx hb dX9_ahead_4 rfl (lv_at hl 0 rfl) ?_
  refine va_get (D := D) (ci := 8) (v := .int (z.1 20)) (C := RX9) (T := TX9) (N := 27) hx hb hts hiX9 hown hK hP 0 rfl rfl 20 (by decide) k168 (fun _ h9 => h9) rfl dX9_ahead_5 ?_
  refine lv_icmp_ge (tgt := 23) hx hb dX9_ahead_8 (by decide) (fun c_8 => ?_) (fun c_8 => ?_)
  · have hf := ip c_8 hf
    refine lv_iconst (v := 0) hx hb dX9_ahead_23 (by decide) ?_
    exact rR_i hx hb hr hlocks (so_ob hf) dX9_ahead_24
  · have hf := iq c_8 hf
    refine lv_aload_n hx hb dX9_ahead_11 rfl (lv_at hl 0 rfl) ?_
    refine va_get (D := D) (ci := 8) (v := .ref (q 9)) (C := RX9) (T := TX9) (N := 27) hx hb hts hiX9 hown hK hP 0 rfl rfl 15 (by decide) k35 (fun _ h9 => h9) rfl dX9_ahead_12 ?_
    refine lv_aload_n hx hb dX9_ahead_15 rfl (lv_at hl 0 rfl) ?_
    refine va_get (D := D) (ci := 8) (v := .int (z.1 19)) (C := RX9) (T := TX9) (N := 27) hx hb hts hiX9 hown hK hP 0 rfl rfl 19 (by decide) k165 (fun _ h9 => h9) rfl dX9_ahead_16 ?_
    obtain ⟨hi_, hf⟩ := gd_ob hf
    refine va_bald hx hb hK hP 9 1 rfl rfl (inB_in hi_) dX9_ahead_19 ?_
    refine lv_goto (tgt := 24) hx hb dX9_ahead_20 (by decide) ?_
    exact rR_i hx hb hr hlocks (so_ob hf) dX9_ahead_24

def lX9_skips_0 (fu : Nat) (j39 : OS → Option ((OS))) : Nat → OS → Option ((OS))
  | 0, _ => none
  | n_0 + 1, z1_0 => bd (fX9_ahead fu z1_0) (fun (r_1 : Int32) => bd (fX9_in fu ((r_1).toInt64) (9 : Int64) (10 : Int64)) (fun (r_3 : Int32) => jn (κ := Option ((OS))) (nm (sI z1_0 19 ((z1_0.1 19) + (1 : Int32))) (fun (z_5 : OS) => lX9_skips_0 fu j39 n_0 z_5)) (fun j26 => (if ¬ r_3 = (0 : Int32) then j26 else bd (fX9_ahead fu z1_0) (fun (r_6 : Int32) => (if ¬ r_6 = (32 : Int32) then j39 z1_0 else j26))))))
def fX9_skips (fu : Nat) (z : OS) : Option ((OS)) :=
  jn (κ := OS → Option ((OS))) (fun (z1_39 : OS) => some z1_39) (fun j39 => lX9_skips_0 fu j39 fu z)
set_option maxRecDepth 100000 in
set_option maxHeartbeats 4000000 in
theorem mX9_skips (l : Launch) (D : va_G) (cI cB cZ cO : ClassId) (q : Nat → Nat) (sz : Nat) (fu : Nat) (z : OS) {y1 : OS} (hf : fX9_skips fu z = some y1) : Met l yX9_skips wsX9_skips ({ frames := 1, cells := 0, slots := 0, locals := 25 }) (va_Pc [.ref (q 0)] (Pw D (gT cI cB cZ cO) (wM cI cB cZ q z) sz)) (Qw D (va_A (wM cI cB cZ q z) sz) none (wM cI cB cZ q y1)) 0 0 (va_A (wM cI cB cZ q z) sz) := by
  unfold fX9_skips at hf
  refine metW (ret := none) (own := RX9) rfl (by decide) rfl (Nat.le_of_ble_eq_true rfl) (fun p e s m args below meth c ls A hx hb hr hml hown hlocks hts hK hA hP hD hS hl => ?_)
  have k174 := (hts (.constantLong RX9 174 (9)) (List.mem_of_getElem? (i := 1) rfl))
  have k176 := (hts (.constantLong RX9 176 (10)) (List.mem_of_getElem? (i := 2) rfl))
  have k165 := (hts (.fieldLink RX9 165 "ResolutionProverModel" "point" "I") (List.mem_of_getElem? (i := 3) rfl))
  have hiX9 : ∀ w ∈ wsX90, w ∈ wsX9_skips := (memIn_p [14, 15, 16, 17, 18, 19, 20, 21, 22, 23, 24, 25, 26, 27, 28, 29, 30, 31, 32, 33, 34, 35, 36, 37, 38, 39, 40] rfl)
  have hl : lv_has ls 1 [(0, .ref (q 0))] := hl
  obtain ⟨j39, ej39, hf⟩ := jn_ob hf
  have hp39 : ∀ (z1_39 : OS) (H : Heap) (locs : List Loc) (ls : Array Slot), j39 z1_39 = some y1 → va_P D vwCl (wM cI cB cZ q z1_39) H → va_D A (wM cI cB cZ q z1_39) → va_S A s.heap H locs → lv_has ls 1 [] → W p l e (headSpec wsX9_skips { frames := 1, cells := 0, slots := 0, locals := 25 }).room s m args below meth c H locs 0 0 (MQ below (Qw D A none (wM cI cB cZ q y1)) args s 0 0 A) (F0 m 39 ls []) := by
    intro z1_39 H locs ls hf hP hD hS hl
    rw [ej39] at hf
    exact rW_v hx hb hr hlocks hP hD hS (congrArg (fun (q9 : (OS)) => wM cI cB cZ q q9) (so_ob hf)) dX9_skips_39
  have hL0 : ∀ (n_0 : Nat) (z1_0 : OS) (H : Heap) (locs : List Loc) (ls : Array Slot), lX9_skips_0 fu j39 n_0 z1_0 = some y1 → va_P D vwCl (wM cI cB cZ q z1_0) H → va_D A (wM cI cB cZ q z1_0) → va_S A s.heap H locs → lv_has ls 1 [(0, .ref (q 0))] → W p l e (headSpec wsX9_skips { frames := 1, cells := 0, slots := 0, locals := 25 }).room s m args below meth c H locs 0 0 (MQ below (Qw D A none (wM cI cB cZ q y1)) args s 0 0 A) (F0 m 0 ls []) := by
    intro n_0
    induction n_0 with
    | zero =>
      intro z1_0 H locs ls hf
      exact no_ob hf
    | succ n_0 ih0 =>
      intro z1_0 H locs ls hf hP hD hS hl
      rw [lX9_skips_0] at hf
      refine lv_aload_n hx hb dX9_skips_0 rfl (lv_at hl 0 rfl) ?_
      obtain ⟨r_1, hc_2, hf⟩ := bd_ob hf
      refine rdV (As := []) (rest := []) ⟨hx, hb, hml, hown, hts⟩ (mX9_ahead l D cI cB cZ cO q fu z1_0 hc_2) (cwV 0 hts gX9_skips_X9_ahead rfl rfl rfl (by decide +kernel) ⟨Nat.le_of_ble_eq_true rfl, Nat.le_of_ble_eq_true rfl⟩) hK hP (va_recv hK hP (ci := 8) (q0 := 0) rfl rfl) rfl hl.1 rfl (Nat.le_of_ble_eq_true rfl) dX9_skips_1 ⟨Nat.zero_le _, Nat.zero_le _⟩ ?_
      refine lv_i2l hx hb dX9_skips_4 rfl ?_
      refine lv_ldc2 hx hb hown k174 dX9_skips_5 ?_
      refine lv_ldc2 hx hb hown k176 dX9_skips_8 ?_
      obtain ⟨r_3, hc_4, hf⟩ := bd_ob hf
      refine rdN (As := [.long ((r_1).toInt64), .long (9 : Int64), .long (10 : Int64)]) (rest := []) ⟨hx, hb, hml, hown, hts⟩ (mX9_in l D cI cB cZ cO fu ((r_1).toInt64) (9 : Int64) (10 : Int64) hc_4) (va_cwS 3 hts gX9_skips_X9_in rfl rfl rfl (by decide +kernel) ⟨Nat.le_of_ble_eq_true rfl, Nat.le_of_ble_eq_true rfl⟩) rfl hl.1 rfl (Nat.le_of_ble_eq_true rfl) dX9_skips_11 ⟨Nat.zero_le _, Nat.zero_le _⟩ ?_
      obtain ⟨j26, ej26, hf⟩ := jn_ob hf
      have hp26 : ∀  (H : Heap) (locs : List Loc) (ls : Array Slot), j26 = some y1 → va_P D vwCl (wM cI cB cZ q z1_0) H → va_D A (wM cI cB cZ q z1_0) → va_S A s.heap H locs → lv_has ls 1 [(0, .ref (q 0))] → W p l e (headSpec wsX9_skips { frames := 1, cells := 0, slots := 0, locals := 25 }).room s m args below meth c H locs 0 0 (MQ below (Qw D A none (wM cI cB cZ q y1)) args s 0 0 A) (F0 m 26 ls []) := by
        intro H locs ls hf hP hD hS hl
        rw [ej26] at hf
        refine lv_aload_n hx hb dX9_skips_26 rfl (lv_at hl 0 rfl) ?_
        refine lv_dup hx hb dX9_skips_27 rfl ?_
        refine va_get (D := D) (ci := 8) (v := .int (z1_0.1 19)) (C := RX9) (T := TX9) (N := 27) hx hb hts hiX9 hown hK hP 0 rfl rfl 19 (by decide) k165 (fun _ h9 => h9) rfl dX9_skips_28 ?_
        refine lv_iconst (v := 1) hx hb dX9_skips_31 (by decide) ?_
        refine lv_iadd hx hb dX9_skips_32 ?_
        refine va_put (D := D) (ci := 8) (v := .int ((z1_0.1 19) + (1 : Int32))) (ty := .int) (C := RX9) (T := TX9) (N := 27) hx hb hts hiX9 tyX9 tyX9_ok nmX9 hown hK hP hD hS 0 rfl rfl 19 (by decide) k165 (fun _ h9 => h9) rfl (by decide +kernel) rfl rfl (Nat.le_of_ble_eq_true rfl) dX9_skips_33 (fun H locs hP hD hS => ?_)
        obtain ⟨z_5, ez_5, hf⟩ := nm_ob hf
        have hP : va_P D vwCl (wM cI cB cZ q z_5) H := by rw [ez_5]; exact hP
        have hD : va_D A (wM cI cB cZ q z_5) := by rw [ez_5]; exact hD
        refine lv_goto (tgt := 0) hx hb dX9_skips_36 (by decide) ?_
        exact ih0 z_5 _ _ _ hf hP hD hS hl
      refine lv_if_ne (tgt := 26) hx hb dX9_skips_14 (by decide) (fun c_14 => ?_) (fun c_14 => ?_)
      · have hf := ip c_14 hf
        exact hp26 _ _ _ hf hP hD hS hl
      · have hf := iqn c_14 hf
        refine lv_aload_n hx hb dX9_skips_17 rfl (lv_at hl 0 rfl) ?_
        obtain ⟨r_6, hc_7, hf⟩ := bd_ob hf
        refine rdV (As := []) (rest := []) ⟨hx, hb, hml, hown, hts⟩ (mX9_ahead l D cI cB cZ cO q fu z1_0 hc_7) (cwV 0 hts gX9_skips_X9_ahead rfl rfl rfl (by decide +kernel) ⟨Nat.le_of_ble_eq_true rfl, Nat.le_of_ble_eq_true rfl⟩) hK hP (va_recv hK hP (ci := 8) (q0 := 0) rfl rfl) rfl hl.1 rfl (Nat.le_of_ble_eq_true rfl) dX9_skips_18 ⟨Nat.zero_le _, Nat.zero_le _⟩ ?_
        refine lv_bipush (v := 32) hx hb dX9_skips_21 (by decide) ?_
        refine lv_icmp_ne (tgt := 39) hx hb dX9_skips_23 (by decide) (fun c_23 => ?_) (fun c_23 => ?_)
        · have hf := ip c_23 hf
          exact hp39 z1_0 _ _ _ hf hP hD hS (lv_sub hl [] rfl)
        · have hf := iqn c_23 hf
          exact hp26 _ _ _ hf hP hD hS hl
  exact hL0 fu z _ _ _ hf hP hD hS hl

def fX9_hasFailed (fu : Nat) (z : OS) : Option (Int32) :=
  (if (z.1 21) = (-1 : Int32) then gd (isZ (0 : Int32)) (some (0 : Int32)) else gd (isZ (1 : Int32)) (some (1 : Int32)))
set_option maxRecDepth 100000 in
set_option maxHeartbeats 4000000 in
theorem mX9_hasFailed (l : Launch) (D : va_G) (cI cB cZ cO : ClassId) (q : Nat → Nat) (fu : Nat) (z : OS) {r : Int32} (hf : fX9_hasFailed fu z = some r) : Met l yX9_hasFailed wsX9_hasFailed ({ frames := 0, cells := 0, slots := 0, locals := 0 }) (va_Pc [.ref (q 0)] (Pr D (gT cI cB cZ cO) (wM cI cB cZ q z))) (Qr (some (.int r))) 0 0 (fun _ => False) := by
  unfold fX9_hasFailed at hf
  refine metR (ret := (some .boolean)) (own := RX9) rfl (by decide) rfl (Nat.le_of_ble_eq_true rfl) (fun p e s m args below meth c ls hx hb hr hml hown hlocks hts hP hK hl => ?_)
  have k182 := (hts (.fieldLink RX9 182 "ResolutionProverModel" "faultAt" "I") (List.mem_of_getElem? (i := 1) rfl))
  have hiX9 : ∀ w ∈ wsX90, w ∈ wsX9_hasFailed := (memIn_p [2, 3, 4, 5, 6, 7, 8, 9, 10, 11, 12, 13, 14, 15, 16, 17, 18, 19, 20, 21, 22, 23, 24, 25, 26, 27, 28] rfl)
  have hl : lv_has ls 1 [(0, .ref (q 0))] := hl
  refine lv_aload_n hx hb dX9_hasFailed_0 rfl (lv_at hl 0 rfl) ?_
  refine va_get (D := D) (ci := 8) (v := .int (z.1 21)) (C := RX9) (T := TX9) (N := 27) hx hb hts hiX9 hown hK hP 0 rfl rfl 21 (by decide) k182 (fun _ h9 => h9) rfl dX9_hasFailed_1 ?_
  refine lv_iconst (v := (-1)) hx hb dX9_hasFailed_4 (by decide) ?_
  refine lv_icmp_eq (tgt := 12) hx hb dX9_hasFailed_5 (by decide) (fun c_5 => ?_) (fun c_5 => ?_)
  · have hf := ip c_5 hf
    refine lv_iconst (v := 0) hx hb dX9_hasFailed_12 (by decide) ?_
    obtain ⟨hz, hf⟩ := gd_ob hf
    exact rR_z hx hb hr hlocks hz (so_ob hf) dX9_hasFailed_13
  · have hf := iq c_5 hf
    refine lv_iconst (v := 1) hx hb dX9_hasFailed_8 (by decide) ?_
    refine lv_goto (tgt := 13) hx hb dX9_hasFailed_9 (by decide) ?_
    obtain ⟨hz, hf⟩ := gd_ob hf
    exact rR_z hx hb hr hlocks hz (so_ob hf) dX9_hasFailed_13

def fX9_fails (fu : Nat) (z : OS) (p1 : Int32) (p2 : Int32) : Option ((OS)) :=
  bd (fX9_hasFailed fu z) (fun (r_1 : Int32) => (if ¬ r_1 = (0 : Int32) then some z else nm (sI z 21 p1) (fun (z_3 : OS) => nm (sI z_3 22 p2) (fun (z_4 : OS) => some z_4))))
set_option maxRecDepth 100000 in
set_option maxHeartbeats 4000000 in
theorem mX9_fails (l : Launch) (D : va_G) (cI cB cZ cO : ClassId) (q : Nat → Nat) (sz : Nat) (fu : Nat) (z : OS) (p1 : Int32) (p2 : Int32) {y1 : OS} (hf : fX9_fails fu z p1 p2 = some y1) : Met l yX9_fails wsX9_fails ({ frames := 1, cells := 0, slots := 0, locals := 20 }) (va_Pc [.ref (q 0), .int p1, .int p2] (Pw D (gT cI cB cZ cO) (wM cI cB cZ q z) sz)) (Qw D (va_A (wM cI cB cZ q z) sz) none (wM cI cB cZ q y1)) 0 0 (va_A (wM cI cB cZ q z) sz) := by
  unfold fX9_fails at hf
  refine metW (ret := none) (own := RX9) rfl (by decide) rfl (Nat.le_of_ble_eq_true rfl) (fun p e s m args below meth c ls A hx hb hr hml hown hlocks hts hK hA hP hD hS hl => ?_)
  have k182 := (hts (.fieldLink RX9 182 "ResolutionProverModel" "faultAt" "I") (List.mem_of_getElem? (i := 1) rfl))
  have k188 := (hts (.fieldLink RX9 188 "ResolutionProverModel" "faultCode" "I") (List.mem_of_getElem? (i := 2) rfl))
  have hiX9 : ∀ w ∈ wsX90, w ∈ wsX9_fails := (memIn_p [8, 9, 10, 11, 12, 13, 14, 15, 16, 17, 18, 19, 20, 21, 22, 23, 24, 25, 26, 27, 28, 29, 30, 31, 32, 33, 34] rfl)
  have hl : lv_has ls 3 [(0, .ref (q 0)), (1, .int p1), (2, .int p2)] := hl
  refine lv_aload_n hx hb dX9_fails_0 rfl (lv_at hl 0 rfl) ?_
  obtain ⟨r_1, hc_2, hf⟩ := bd_ob hf
  refine rdV (As := []) (rest := []) ⟨hx, hb, hml, hown, hts⟩ (mX9_hasFailed l D cI cB cZ cO q fu z hc_2) (cwV 0 hts gX9_fails_X9_hasFailed rfl rfl rfl (by decide +kernel) ⟨Nat.le_of_ble_eq_true rfl, Nat.le_of_ble_eq_true rfl⟩) hK hP (va_recv hK hP (ci := 8) (q0 := 0) rfl rfl) rfl hl.1 rfl (Nat.le_of_ble_eq_true rfl) dX9_fails_1 ⟨Nat.zero_le _, Nat.zero_le _⟩ ?_
  refine lv_if_ne (tgt := 17) hx hb dX9_fails_4 (by decide) (fun c_4 => ?_) (fun c_4 => ?_)
  · have hf := ip c_4 hf
    exact rW_v hx hb hr hlocks hP hD hS (congrArg (fun (q9 : (OS)) => wM cI cB cZ q q9) (so_ob hf)) dX9_fails_17
  · have hf := iqn c_4 hf
    refine lv_aload_n hx hb dX9_fails_7 rfl (lv_at hl 0 rfl) ?_
    refine lv_iload_n hx hb dX9_fails_8 rfl (lv_at hl 1 rfl) ?_
    refine va_put (D := D) (ci := 8) (v := .int p1) (ty := .int) (C := RX9) (T := TX9) (N := 27) hx hb hts hiX9 tyX9 tyX9_ok nmX9 hown hK hP hD hS 0 rfl rfl 21 (by decide) k182 (fun _ h9 => h9) rfl (by decide +kernel) rfl rfl (Nat.le_of_ble_eq_true rfl) dX9_fails_9 (fun H locs hP hD hS => ?_)
    obtain ⟨z_3, ez_3, hf⟩ := nm_ob hf
    have hP : va_P D vwCl (wM cI cB cZ q z_3) H := by rw [ez_3]; exact hP
    have hD : va_D A (wM cI cB cZ q z_3) := by rw [ez_3]; exact hD
    refine lv_aload_n hx hb dX9_fails_12 rfl (lv_at hl 0 rfl) ?_
    refine lv_iload_n hx hb dX9_fails_13 rfl (lv_at hl 2 rfl) ?_
    refine va_put (D := D) (ci := 8) (v := .int p2) (ty := .int) (C := RX9) (T := TX9) (N := 27) hx hb hts hiX9 tyX9 tyX9_ok nmX9 hown hK hP hD hS 0 rfl rfl 22 (by decide) k188 (fun _ h9 => h9) rfl (by decide +kernel) rfl rfl (Nat.le_of_ble_eq_true rfl) dX9_fails_14 (fun H locs hP hD hS => ?_)
    obtain ⟨z_4, ez_4, hf⟩ := nm_ob hf
    have hP : va_P D vwCl (wM cI cB cZ q z_4) H := by rw [ez_4]; exact hP
    have hD : va_D A (wM cI cB cZ q z_4) := by rw [ez_4]; exact hD
    exact rW_v hx hb hr hlocks hP hD hS (congrArg (fun (q9 : (OS)) => wM cI cB cZ q q9) (so_ob hf)) dX9_fails_17

def lX9_takesWord_12 (fu : Nat) (j42 : OS → Option ((OS))) : Nat → OS → Option ((OS))
  | 0, _ => none
  | n_12 + 1, z1_12 => bd (fX9_ahead fu z1_12) (fun (r_5 : Int32) => bd (fX9_in fu ((r_5).toInt64) (97 : Int64) (122 : Int64)) (fun (r_7 : Int32) => (if r_7 = (0 : Int32) then j42 z1_12 else nm (sI z1_12 19 ((z1_12.1 19) + (1 : Int32))) (fun (z_9 : OS) => lX9_takesWord_12 fu j42 n_12 z_9))))
def fX9_takesWord (fu : Nat) (z : OS) : Option ((OS)) :=
  bd (fX9_skips fu z) (fun (z_1 : OS) => nm (sI z_1 23 (z_1.1 19)) (fun (z_3 : OS) => jn (κ := OS → Option ((OS))) (fun (z1_42 : OS) => nm (sI z1_42 24 ((z1_42.1 19) - (z1_42.1 23))) (fun (z_4 : OS) => some z_4)) (fun j42 => lX9_takesWord_12 fu j42 fu z_3)))
set_option maxRecDepth 100000 in
set_option maxHeartbeats 4000000 in
theorem mX9_takesWord (l : Launch) (D : va_G) (cI cB cZ cO : ClassId) (q : Nat → Nat) (sz : Nat) (fu : Nat) (z : OS) {y1 : OS} (hf : fX9_takesWord fu z = some y1) : Met l yX9_takesWord wsX9_takesWord ({ frames := 2, cells := 0, slots := 0, locals := 45 }) (va_Pc [.ref (q 0)] (Pw D (gT cI cB cZ cO) (wM cI cB cZ q z) sz)) (Qw D (va_A (wM cI cB cZ q z) sz) none (wM cI cB cZ q y1)) 0 0 (va_A (wM cI cB cZ q z) sz) := by
  unfold fX9_takesWord at hf
  refine metW (ret := none) (own := RX9) rfl (by decide) rfl (Nat.le_of_ble_eq_true rfl) (fun p e s m args below meth c ls A hx hb hr hml hown hlocks hts hK hA hP hD hS hl => ?_)
  have k165 := (hts (.fieldLink RX9 165 "ResolutionProverModel" "point" "I") (List.mem_of_getElem? (i := 1) rfl))
  have k194 := (hts (.fieldLink RX9 194 "ResolutionProverModel" "tokenBegin" "I") (List.mem_of_getElem? (i := 2) rfl))
  have k201 := (hts (.fieldLink RX9 201 "ResolutionProverModel" "tokenLong" "I") (List.mem_of_getElem? (i := 5) rfl))
  have k197 := (hts (.constantLong RX9 197 (97)) (List.mem_of_getElem? (i := 3) rfl))
  have k199 := (hts (.constantLong RX9 199 (122)) (List.mem_of_getElem? (i := 4) rfl))
  have hiX9 : ∀ w ∈ wsX90, w ∈ wsX9_takesWord := (memIn_p [22, 23, 24, 25, 26, 27, 28, 29, 30, 31, 32, 33, 34, 35, 36, 37, 38, 39, 40, 41, 42, 43, 44, 45, 46, 47, 48] rfl)
  have hl : lv_has ls 1 [(0, .ref (q 0))] := hl
  refine lv_aload_n hx hb dX9_takesWord_0 rfl (lv_at hl 0 rfl) ?_
  obtain ⟨z_1, hc_2, hf⟩ := bd_ob hf
  refine weV (As := []) (rest := []) ⟨hx, hb, hml, hown, hts⟩ (mX9_skips l D cI cB cZ cO q _ fu z hc_2) (cwV 0 hts gX9_takesWord_X9_skips rfl rfl rfl (by decide +kernel) ⟨Nat.le_of_ble_eq_true rfl, Nat.le_of_ble_eq_true rfl⟩) hK hP hD hS hA (va_recv hK hP (ci := 8) (q0 := 0) rfl rfl) rfl hl.1 rfl (Nat.le_of_ble_eq_true rfl) dX9_takesWord_1 ⟨Nat.zero_le _, Nat.zero_le _⟩ (fun H locs hP hD hS => ?_)
  refine lv_aload_n hx hb dX9_takesWord_4 rfl (lv_at hl 0 rfl) ?_
  refine lv_aload_n hx hb dX9_takesWord_5 rfl (lv_at hl 0 rfl) ?_
  refine va_get (D := D) (ci := 8) (v := .int (z_1.1 19)) (C := RX9) (T := TX9) (N := 27) hx hb hts hiX9 hown hK hP 0 rfl rfl 19 (by decide) k165 (fun _ h9 => h9) rfl dX9_takesWord_6 ?_
  refine va_put (D := D) (ci := 8) (v := .int (z_1.1 19)) (ty := .int) (C := RX9) (T := TX9) (N := 27) hx hb hts hiX9 tyX9 tyX9_ok nmX9 hown hK hP hD hS 0 rfl rfl 23 (by decide) k194 (fun _ h9 => h9) rfl (by decide +kernel) rfl rfl (Nat.le_of_ble_eq_true rfl) dX9_takesWord_9 (fun H locs hP hD hS => ?_)
  obtain ⟨z_3, ez_3, hf⟩ := nm_ob hf
  have hP : va_P D vwCl (wM cI cB cZ q z_3) H := by rw [ez_3]; exact hP
  have hD : va_D A (wM cI cB cZ q z_3) := by rw [ez_3]; exact hD
  obtain ⟨j42, ej42, hf⟩ := jn_ob hf
  have hp42 : ∀ (z1_42 : OS) (H : Heap) (locs : List Loc) (ls : Array Slot), j42 z1_42 = some y1 → va_P D vwCl (wM cI cB cZ q z1_42) H → va_D A (wM cI cB cZ q z1_42) → va_S A s.heap H locs → lv_has ls 1 [(0, .ref (q 0))] → W p l e (headSpec wsX9_takesWord { frames := 2, cells := 0, slots := 0, locals := 45 }).room s m args below meth c H locs 0 0 (MQ below (Qw D A none (wM cI cB cZ q y1)) args s 0 0 A) (F0 m 42 ls []) := by
    intro z1_42 H locs ls hf hP hD hS hl
    rw [ej42] at hf
    refine lv_aload_n hx hb dX9_takesWord_42 rfl (lv_at hl 0 rfl) ?_
    refine lv_aload_n hx hb dX9_takesWord_43 rfl (lv_at hl 0 rfl) ?_
    refine va_get (D := D) (ci := 8) (v := .int (z1_42.1 19)) (C := RX9) (T := TX9) (N := 27) hx hb hts hiX9 hown hK hP 0 rfl rfl 19 (by decide) k165 (fun _ h9 => h9) rfl dX9_takesWord_44 ?_
    refine lv_aload_n hx hb dX9_takesWord_47 rfl (lv_at hl 0 rfl) ?_
    refine va_get (D := D) (ci := 8) (v := .int (z1_42.1 23)) (C := RX9) (T := TX9) (N := 27) hx hb hts hiX9 hown hK hP 0 rfl rfl 23 (by decide) k194 (fun _ h9 => h9) rfl dX9_takesWord_48 ?_
    refine lv_isub hx hb dX9_takesWord_51 ?_
    refine va_put (D := D) (ci := 8) (v := .int ((z1_42.1 19) - (z1_42.1 23))) (ty := .int) (C := RX9) (T := TX9) (N := 27) hx hb hts hiX9 tyX9 tyX9_ok nmX9 hown hK hP hD hS 0 rfl rfl 24 (by decide) k201 (fun _ h9 => h9) rfl (by decide +kernel) rfl rfl (Nat.le_of_ble_eq_true rfl) dX9_takesWord_52 (fun H locs hP hD hS => ?_)
    obtain ⟨z_4, ez_4, hf⟩ := nm_ob hf
    have hP : va_P D vwCl (wM cI cB cZ q z_4) H := by rw [ez_4]; exact hP
    have hD : va_D A (wM cI cB cZ q z_4) := by rw [ez_4]; exact hD
    exact rW_v hx hb hr hlocks hP hD hS (congrArg (fun (q9 : (OS)) => wM cI cB cZ q q9) (so_ob hf)) dX9_takesWord_55
  have hL12 : ∀ (n_12 : Nat) (z1_12 : OS) (H : Heap) (locs : List Loc) (ls : Array Slot), lX9_takesWord_12 fu j42 n_12 z1_12 = some y1 → va_P D vwCl (wM cI cB cZ q z1_12) H → va_D A (wM cI cB cZ q z1_12) → va_S A s.heap H locs → lv_has ls 1 [(0, .ref (q 0))] → W p l e (headSpec wsX9_takesWord { frames := 2, cells := 0, slots := 0, locals := 45 }).room s m args below meth c H locs 0 0 (MQ below (Qw D A none (wM cI cB cZ q y1)) args s 0 0 A) (F0 m 12 ls []) := by
    intro n_12
    induction n_12 with
    | zero =>
      intro z1_12 H locs ls hf
      exact no_ob hf
    | succ n_12 ih12 =>
      intro z1_12 H locs ls hf hP hD hS hl
      rw [lX9_takesWord_12] at hf
      refine lv_aload_n hx hb dX9_takesWord_12 rfl (lv_at hl 0 rfl) ?_
      obtain ⟨r_5, hc_6, hf⟩ := bd_ob hf
      refine rdV (As := []) (rest := []) ⟨hx, hb, hml, hown, hts⟩ (mX9_ahead l D cI cB cZ cO q fu z1_12 hc_6) (cwV 0 hts gX9_takesWord_X9_ahead rfl rfl rfl (by decide +kernel) ⟨Nat.le_of_ble_eq_true rfl, Nat.le_of_ble_eq_true rfl⟩) hK hP (va_recv hK hP (ci := 8) (q0 := 0) rfl rfl) rfl hl.1 rfl (Nat.le_of_ble_eq_true rfl) dX9_takesWord_13 ⟨Nat.zero_le _, Nat.zero_le _⟩ ?_
      refine lv_i2l hx hb dX9_takesWord_16 rfl ?_
      refine lv_ldc2 hx hb hown k197 dX9_takesWord_17 ?_
      refine lv_ldc2 hx hb hown k199 dX9_takesWord_20 ?_
      obtain ⟨r_7, hc_8, hf⟩ := bd_ob hf
      refine rdN (As := [.long ((r_5).toInt64), .long (97 : Int64), .long (122 : Int64)]) (rest := []) ⟨hx, hb, hml, hown, hts⟩ (mX9_in l D cI cB cZ cO fu ((r_5).toInt64) (97 : Int64) (122 : Int64) hc_8) (va_cwS 3 hts gX9_takesWord_X9_in rfl rfl rfl (by decide +kernel) ⟨Nat.le_of_ble_eq_true rfl, Nat.le_of_ble_eq_true rfl⟩) rfl hl.1 rfl (Nat.le_of_ble_eq_true rfl) dX9_takesWord_23 ⟨Nat.zero_le _, Nat.zero_le _⟩ ?_
      refine lv_if_eq (tgt := 42) hx hb dX9_takesWord_26 (by decide) (fun c_26 => ?_) (fun c_26 => ?_)
      · have hf := ip c_26 hf
        exact hp42 z1_12 _ _ _ hf hP hD hS hl
      · have hf := iq c_26 hf
        refine lv_aload_n hx hb dX9_takesWord_29 rfl (lv_at hl 0 rfl) ?_
        refine lv_dup hx hb dX9_takesWord_30 rfl ?_
        refine va_get (D := D) (ci := 8) (v := .int (z1_12.1 19)) (C := RX9) (T := TX9) (N := 27) hx hb hts hiX9 hown hK hP 0 rfl rfl 19 (by decide) k165 (fun _ h9 => h9) rfl dX9_takesWord_31 ?_
        refine lv_iconst (v := 1) hx hb dX9_takesWord_34 (by decide) ?_
        refine lv_iadd hx hb dX9_takesWord_35 ?_
        refine va_put (D := D) (ci := 8) (v := .int ((z1_12.1 19) + (1 : Int32))) (ty := .int) (C := RX9) (T := TX9) (N := 27) hx hb hts hiX9 tyX9 tyX9_ok nmX9 hown hK hP hD hS 0 rfl rfl 19 (by decide) k165 (fun _ h9 => h9) rfl (by decide +kernel) rfl rfl (Nat.le_of_ble_eq_true rfl) dX9_takesWord_36 (fun H locs hP hD hS => ?_)
        obtain ⟨z_9, ez_9, hf⟩ := nm_ob hf
        have hP : va_P D vwCl (wM cI cB cZ q z_9) H := by rw [ez_9]; exact hP
        have hD : va_D A (wM cI cB cZ q z_9) := by rw [ez_9]; exact hD
        refine lv_goto (tgt := 12) hx hb dX9_takesWord_39 (by decide) ?_
        exact ih12 z_9 _ _ _ hf hP hD hS hl
  exact hL12 fu z_3 _ _ _ hf hP hD hS hl

def lX9_isToken_15 (z : OS) (tx : List Int32) (j50 : Option (Int32)) : Nat → Int32 → Option (Int32)
  | 0, _ => none
  | n_15 + 1, v2_15 => (if (z.1 24) ≤ v2_15 then j50 else gd (inB ((z.1 23) + v2_15) 500) (gd (inB v2_15 (tx).length) ((if (z.2 15 (((z.1 23) + v2_15)).toNatClampNeg) = ((tx).getD (v2_15).toNatClampNeg 0 &&& (255 : Int32)) then nm (v2_15 + (1 : Int32)) (fun (v2_1 : Int32) => lX9_isToken_15 z tx j50 n_15 v2_1) else gd (isZ (0 : Int32)) (some (0 : Int32))))))
def fX9_isToken (fu : Nat) (z : OS) (tx : List Int32) : Option (Int32) :=
  (if (z.1 24) = (nI (tx).length) then jn (κ := Option (Int32)) (gd (isZ (1 : Int32)) (some (1 : Int32))) (fun j50 => lX9_isToken_15 z tx j50 fu (0 : Int32)) else gd (isZ (0 : Int32)) (some (0 : Int32)))
set_option maxRecDepth 100000 in
set_option maxHeartbeats 4000000 in
theorem mX9_isToken (l : Launch) (D : va_G) (cI cB cZ cO : ClassId) (sa av : Nat) (q : Nat → Nat) (fu : Nat) (z : OS) (tx : List Int32) {r : Int32} (hf : fX9_isToken fu z tx = some r) : Met l yX9_isToken wsX9_isToken ({ frames := 4, cells := 0, slots := 0, locals := 85 }) (va_Pc [.ref (q 0), .ref sa] (PrX (ET tx sa av) D (gT cI cB cZ cO) (wM cI cB cZ q z))) (Qr (some (.int r))) 0 0 (fun _ => False) := by
  unfold fX9_isToken at hf
  refine metRX (ret := (some .boolean)) (own := RX9) rfl (by decide) rfl (Nat.le_of_ble_eq_true rfl) (fun p e s m args below meth c ls hx hb hr hml hown hlocks hts hP hK hE hl => ?_)
  have k201 := (hts (.fieldLink RX9 201 "ResolutionProverModel" "tokenLong" "I") (List.mem_of_getElem? (i := 1) rfl))
  have k35 := (hts (.fieldLink RX9 35 "ResolutionProverModel" "tape" "[B") (List.mem_of_getElem? (i := 2) rfl))
  have k194 := (hts (.fieldLink RX9 194 "ResolutionProverModel" "tokenBegin" "I") (List.mem_of_getElem? (i := 3) rfl))
  have hiX9 : ∀ w ∈ wsX90, w ∈ wsX9_isToken := (memIn_p [53, 54, 55, 56, 57, 58, 59, 60, 61, 62, 63, 64, 65, 66, 67, 68, 69, 70, 71, 72, 73, 74, 75, 76, 77, 78, 79] rfl)
  have hl : lv_has ls 3 [(0, .ref (q 0)), (1, .ref sa)] := hl
  refine lv_aload_n hx hb dX9_isToken_0 rfl (lv_at hl 0 rfl) ?_
  refine va_get (D := D) (ci := 8) (v := .int (z.1 24)) (C := RX9) (T := TX9) (N := 27) hx hb hts hiX9 hown hK hP 0 rfl rfl 24 (by decide) k201 (fun _ h9 => h9) rfl dX9_isToken_1 ?_
  refine lv_aload_n hx hb dX9_isToken_4 rfl (lv_at hl 1 rfl) ?_
  refine rdVG (As := []) (rest := [.int (z.1 24)]) ⟨hx, hb, hml, hown, hts⟩ (tJ0_length l tx sa av) (cwV 0 hts gX9_isToken_J0_length_8abf5 rfl rfl rfl (by decide +kernel) ⟨Nat.le_of_ble_eq_true rfl, Nat.le_of_ble_eq_true rfl⟩) PT_blind (fun U hU hW => by show Txt _ _ _ _ _ _; rw [hU]; exact (hE).off.moved hW) (hE).recv rfl hl.1 rfl (Nat.le_of_ble_eq_true rfl) dX9_isToken_5 ⟨Nat.zero_le _, Nat.zero_le _⟩ ?_
  refine lv_icmp_eq (tgt := 13) hx hb dX9_isToken_8 (by decide) (fun c_8 => ?_) (fun c_8 => ?_)
  · have hf := ip c_8 hf
    refine lv_iconst (v := 0) hx hb dX9_isToken_13 (by decide) ?_
    refine lv_istore_n (lv' := [(2, .int (0 : Int32)), (0, .ref (q 0)), (1, .ref sa)]) hx hb dX9_isToken_14 rfl hl (by decide) rfl (fun ls hl => ?_)
    obtain ⟨j50, ej50, hf⟩ := jn_ob hf
    have hp50 : ∀  (ls : Array Slot), j50 = some r → lv_has ls 3 [] → W p l e (headSpec wsX9_isToken { frames := 4, cells := 0, slots := 0, locals := 85 }).room s m args below meth c s.heap [] 0 0 (MQ below (Qr (some (.int r))) args s 0 0 (fun _ => False)) (F0 m 50 ls []) := by
      intro ls hf hl
      rw [ej50] at hf
      refine lv_iconst (v := 1) hx hb dX9_isToken_50 (by decide) ?_
      obtain ⟨hz, hf⟩ := gd_ob hf
      exact rR_z hx hb hr hlocks hz (so_ob hf) dX9_isToken_51
    have hL15 : ∀ (n_15 : Nat) (v2_15 : Int32) (ls : Array Slot), lX9_isToken_15 z tx j50 n_15 v2_15 = some r → lv_has ls 3 [(0, .ref (q 0)), (1, .ref sa), (2, .int v2_15)] → W p l e (headSpec wsX9_isToken { frames := 4, cells := 0, slots := 0, locals := 85 }).room s m args below meth c s.heap [] 0 0 (MQ below (Qr (some (.int r))) args s 0 0 (fun _ => False)) (F0 m 15 ls []) := by
      intro n_15
      induction n_15 with
      | zero =>
        intro v2_15 ls hf
        exact no_ob hf
      | succ n_15 ih15 =>
        intro v2_15 ls hf hl
        rw [lX9_isToken_15] at hf
        refine lv_iload_n hx hb dX9_isToken_15 rfl (lv_at hl 2 rfl) ?_
        refine lv_aload_n hx hb dX9_isToken_16 rfl (lv_at hl 0 rfl) ?_
        refine va_get (D := D) (ci := 8) (v := .int (z.1 24)) (C := RX9) (T := TX9) (N := 27) hx hb hts hiX9 hown hK hP 0 rfl rfl 24 (by decide) k201 (fun _ h9 => h9) rfl dX9_isToken_17 ?_
        refine lv_icmp_ge (tgt := 50) hx hb dX9_isToken_20 (by decide) (fun c_20 => ?_) (fun c_20 => ?_)
        · have hf := ip c_20 hf
          exact hp50 _ hf (lv_sub hl [] rfl)
        · have hf := iq c_20 hf
          refine lv_aload_n hx hb dX9_isToken_23 rfl (lv_at hl 0 rfl) ?_
          refine va_get (D := D) (ci := 8) (v := .ref (q 9)) (C := RX9) (T := TX9) (N := 27) hx hb hts hiX9 hown hK hP 0 rfl rfl 15 (by decide) k35 (fun _ h9 => h9) rfl dX9_isToken_24 ?_
          refine lv_aload_n hx hb dX9_isToken_27 rfl (lv_at hl 0 rfl) ?_
          refine va_get (D := D) (ci := 8) (v := .int (z.1 23)) (C := RX9) (T := TX9) (N := 27) hx hb hts hiX9 hown hK hP 0 rfl rfl 23 (by decide) k194 (fun _ h9 => h9) rfl dX9_isToken_28 ?_
          refine lv_iload_n hx hb dX9_isToken_31 rfl (lv_at hl 2 rfl) ?_
          refine lv_iadd hx hb dX9_isToken_32 ?_
          obtain ⟨hi_, hf⟩ := gd_ob hf
          refine va_bald hx hb hK hP 9 1 rfl rfl (inB_in hi_) dX9_isToken_33 ?_
          refine lv_aload_n hx hb dX9_isToken_34 rfl (lv_at hl 1 rfl) ?_
          refine lv_iload_n hx hb dX9_isToken_35 rfl (lv_at hl 2 rfl) ?_
          obtain ⟨hi_, hf⟩ := gd_ob hf
          refine rdVG (As := [.int v2_15]) (rest := [.int (z.2 15 (((z.1 23) + v2_15)).toNatClampNeg)]) ⟨hx, hb, hml, hown, hts⟩ (tJ0_charAt l tx sa av v2_15 hi_) (cwV 1 hts gX9_isToken_J0_charAt_5068e rfl rfl rfl (by decide +kernel) ⟨Nat.le_of_ble_eq_true rfl, Nat.le_of_ble_eq_true rfl⟩) PT_blind (fun U hU hW => by show Txt _ _ _ _ _ _; rw [hU]; exact (hE).off.moved hW) (hE).recv rfl hl.1 rfl (Nat.le_of_ble_eq_true rfl) dX9_isToken_36 ⟨Nat.zero_le _, Nat.zero_le _⟩ ?_
          refine lv_icmp_eq (tgt := 44) hx hb dX9_isToken_39 (by decide) (fun c_39 => ?_) (fun c_39 => ?_)
          · have hf := ip c_39 hf
            obtain ⟨v2_1, ev2_1, hf⟩ := nm_ob hf
            refine lv_iinc (v := v2_1) (lv' := [(2, .int v2_1), (0, .ref (q 0)), (1, .ref sa)]) hx hb dX9_isToken_44 hl (k := 2) rfl (by rw [ev2_1]; rfl) (by decide) rfl (fun ls hl => ?_)
            refine lv_goto (tgt := 15) hx hb dX9_isToken_47 (by decide) ?_
            exact ih15 v2_1 _ hf (lv_sub hl [1, 2, 0] rfl)
          · have hf := iq c_39 hf
            refine lv_iconst (v := 0) hx hb dX9_isToken_42 (by decide) ?_
            obtain ⟨hz, hf⟩ := gd_ob hf
            exact rR_z hx hb hr hlocks hz (so_ob hf) dX9_isToken_43
    exact hL15 fu (0 : Int32) _ hf (lv_sub hl [1, 2, 0] rfl)
  · have hf := iq c_8 hf
    refine lv_iconst (v := 0) hx hb dX9_isToken_11 (by decide) ?_
    obtain ⟨hz, hf⟩ := gd_ob hf
    exact rR_z hx hb hr hlocks hz (so_ob hf) dX9_isToken_12

def lX9_number_23 (fu : Nat) (j79 : Int32 → OS → Option (Int32 × (OS))) : Nat → Int32 → OS → Option (Int32 × (OS))
  | 0, _, _ => none
  | n_23 + 1, v3_23, z1_23 => bd (fX9_ahead fu z1_23) (fun (r_14 : Int32) => bd (fX9_in fu ((r_14).toInt64) (48 : Int64) (57 : Int64)) (fun (r_16 : Int32) => (if r_16 = (0 : Int32) then j79 v3_23 z1_23 else jn (κ := Int32 → Option (Int32 × (OS))) (fun (v3_66 : Int32) => nm (sI z1_23 19 ((z1_23.1 19) + (1 : Int32))) (fun (z_18 : OS) => lX9_number_23 fu j79 n_23 v3_66 z_18)) (fun j66 => (if (4 : Int32) ≤ ((z1_23.1 19) - (z1_23.1 23)) then j66 v3_23 else bd (fX9_ahead fu z1_23) (fun (r_19 : Int32) => nm ((((10 : Int32) * v3_23) + r_19) - (48 : Int32)) (fun (v3_21 : Int32) => j66 v3_21)))))))
def fX9_number (fu : Nat) (z : OS) (p1 : Int32) (p2 : Int32) : Option (Int32 × (OS)) :=
  bd (fX9_hasFailed fu z) (fun (r_1 : Int32) => (if r_1 = (0 : Int32) then bd (fX9_skips fu z) (fun (z_3 : OS) => nm (sI z_3 23 (z_3.1 19)) (fun (z_5 : OS) => jn (κ := Int32 → OS → Option (Int32 × (OS))) (fun (v3_79 : Int32) (z1_79 : OS) => jn (κ := Int32 → OS → Option (Int32 × (OS))) (fun (v3_136 : Int32) (z1_136 : OS) => bd (fX9_hasFailed fu z1_136) (fun (r_6 : Int32) => (if r_6 = (0 : Int32) then some (v3_136, z1_136) else some ((if (0 : Int32) < p1 then p1 else (0 : Int32)), z1_136)))) (fun j136 => (if ¬ (z1_79.1 19) = (z1_79.1 23) then jn (κ := Int32 → OS → Option (Int32 × (OS))) (fun (v3_127 : Int32) (z1_127 : OS) => bd (fX9_fails fu z1_127 (z1_127.1 23) (2 : Int32)) (fun (z_8 : OS) => j136 v3_127 z_8)) (fun j127 => (if (4 : Int32) < ((z1_79.1 19) - (z1_79.1 23)) then j127 v3_79 z1_79 else bd (fX9_in fu ((v3_79).toInt64) ((p1).toInt64) ((p2).toInt64)) (fun (r_10 : Int32) => (if ¬ r_10 = (0 : Int32) then j136 v3_79 z1_79 else j127 v3_79 z1_79)))) else bd (fX9_fails fu z1_79 (z1_79.1 23) (1 : Int32)) (fun (z_12 : OS) => j136 v3_79 z_12)))) (fun j79 => lX9_number_23 fu j79 fu (0 : Int32) z_5))) else some (p1, z)))
set_option maxRecDepth 100000 in
set_option maxHeartbeats 4000000 in
theorem mX9_number (l : Launch) (D : va_G) (cI cB cZ cO : ClassId) (q : Nat → Nat) (sz : Nat) (fu : Nat) (z : OS) (p1 : Int32) (p2 : Int32) {r : Int32} {y1 : OS} (hf : fX9_number fu z p1 p2 = some (r, y1)) : Met l yX9_number wsX9_number ({ frames := 2, cells := 0, slots := 0, locals := 45 }) (va_Pc [.ref (q 0), .int p1, .int p2] (Pw D (gT cI cB cZ cO) (wM cI cB cZ q z) sz)) (Qw D (va_A (wM cI cB cZ q z) sz) (some (.int r)) (wM cI cB cZ q y1)) 0 0 (va_A (wM cI cB cZ q z) sz) := by
  unfold fX9_number at hf
  refine metW (ret := (some .int)) (own := RX9) rfl (by decide) rfl (Nat.le_of_ble_eq_true rfl) (fun p e s m args below meth c ls A hx hb hr hml hown hlocks hts hK hA hP hD hS hl => ?_)
  have k165 := (hts (.fieldLink RX9 165 "ResolutionProverModel" "point" "I") (List.mem_of_getElem? (i := 1) rfl))
  have k194 := (hts (.fieldLink RX9 194 "ResolutionProverModel" "tokenBegin" "I") (List.mem_of_getElem? (i := 2) rfl))
  have k213 := (hts (.constantLong RX9 213 (48)) (List.mem_of_getElem? (i := 3) rfl))
  have k215 := (hts (.constantLong RX9 215 (57)) (List.mem_of_getElem? (i := 4) rfl))
  have hiX9 : ∀ w ∈ wsX90, w ∈ wsX9_number := (memIn_p [35, 36, 37, 38, 39, 40, 41, 42, 43, 44, 45, 46, 47, 48, 49, 50, 51, 52, 53, 54, 55, 56, 57, 58, 59, 60, 61] rfl)
  have hl : lv_has ls 4 [(0, .ref (q 0)), (1, .int p1), (2, .int p2)] := hl
  refine lv_aload_n hx hb dX9_number_0 rfl (lv_at hl 0 rfl) ?_
  obtain ⟨r_1, hc_2, hf⟩ := bd_ob hf
  refine rdV (As := []) (rest := []) ⟨hx, hb, hml, hown, hts⟩ (mX9_hasFailed l D cI cB cZ cO q fu z hc_2) (cwV 0 hts gX9_number_X9_hasFailed rfl rfl rfl (by decide +kernel) ⟨Nat.le_of_ble_eq_true rfl, Nat.le_of_ble_eq_true rfl⟩) hK hP (va_recv hK hP (ci := 8) (q0 := 0) rfl rfl) rfl hl.1 rfl (Nat.le_of_ble_eq_true rfl) dX9_number_1 ⟨Nat.zero_le _, Nat.zero_le _⟩ ?_
  refine lv_if_eq (tgt := 9) hx hb dX9_number_4 (by decide) (fun c_4 => ?_) (fun c_4 => ?_)
  · have hf := ip c_4 hf
    refine lv_aload_n hx hb dX9_number_9 rfl (lv_at hl 0 rfl) ?_
    obtain ⟨z_3, hc_4, hf⟩ := bd_ob hf
    refine weV (As := []) (rest := []) ⟨hx, hb, hml, hown, hts⟩ (mX9_skips l D cI cB cZ cO q _ fu z hc_4) (cwV 0 hts gX9_number_X9_skips rfl rfl rfl (by decide +kernel) ⟨Nat.le_of_ble_eq_true rfl, Nat.le_of_ble_eq_true rfl⟩) hK hP hD hS hA (va_recv hK hP (ci := 8) (q0 := 0) rfl rfl) rfl hl.1 rfl (Nat.le_of_ble_eq_true rfl) dX9_number_10 ⟨Nat.zero_le _, Nat.zero_le _⟩ (fun H locs hP hD hS => ?_)
    refine lv_aload_n hx hb dX9_number_13 rfl (lv_at hl 0 rfl) ?_
    refine lv_aload_n hx hb dX9_number_14 rfl (lv_at hl 0 rfl) ?_
    refine va_get (D := D) (ci := 8) (v := .int (z_3.1 19)) (C := RX9) (T := TX9) (N := 27) hx hb hts hiX9 hown hK hP 0 rfl rfl 19 (by decide) k165 (fun _ h9 => h9) rfl dX9_number_15 ?_
    refine va_put (D := D) (ci := 8) (v := .int (z_3.1 19)) (ty := .int) (C := RX9) (T := TX9) (N := 27) hx hb hts hiX9 tyX9 tyX9_ok nmX9 hown hK hP hD hS 0 rfl rfl 23 (by decide) k194 (fun _ h9 => h9) rfl (by decide +kernel) rfl rfl (Nat.le_of_ble_eq_true rfl) dX9_number_18 (fun H locs hP hD hS => ?_)
    obtain ⟨z_5, ez_5, hf⟩ := nm_ob hf
    have hP : va_P D vwCl (wM cI cB cZ q z_5) H := by rw [ez_5]; exact hP
    have hD : va_D A (wM cI cB cZ q z_5) := by rw [ez_5]; exact hD
    refine lv_iconst (v := 0) hx hb dX9_number_21 (by decide) ?_
    refine lv_istore_n (lv' := [(3, .int (0 : Int32)), (0, .ref (q 0)), (1, .int p1), (2, .int p2)]) hx hb dX9_number_22 rfl hl (by decide) rfl (fun ls hl => ?_)
    obtain ⟨j79, ej79, hf⟩ := jn_ob hf
    have hp79 : ∀ (v3_79 : Int32) (z1_79 : OS) (H : Heap) (locs : List Loc) (ls : Array Slot), j79 v3_79 z1_79 = some (r, y1) → va_P D vwCl (wM cI cB cZ q z1_79) H → va_D A (wM cI cB cZ q z1_79) → va_S A s.heap H locs → lv_has ls 4 [(0, .ref (q 0)), (1, .int p1), (2, .int p2), (3, .int v3_79)] → W p l e (headSpec wsX9_number { frames := 2, cells := 0, slots := 0, locals := 45 }).room s m args below meth c H locs 0 0 (MQ below (Qw D A (some (.int r)) (wM cI cB cZ q y1)) args s 0 0 A) (F0 m 79 ls []) := by
      intro v3_79 z1_79 H locs ls hf hP hD hS hl
      rw [ej79] at hf
      refine lv_aload_n hx hb dX9_number_79 rfl (lv_at hl 0 rfl) ?_
      refine va_get (D := D) (ci := 8) (v := .int (z1_79.1 19)) (C := RX9) (T := TX9) (N := 27) hx hb hts hiX9 hown hK hP 0 rfl rfl 19 (by decide) k165 (fun _ h9 => h9) rfl dX9_number_80 ?_
      refine lv_aload_n hx hb dX9_number_83 rfl (lv_at hl 0 rfl) ?_
      refine va_get (D := D) (ci := 8) (v := .int (z1_79.1 23)) (C := RX9) (T := TX9) (N := 27) hx hb hts hiX9 hown hK hP 0 rfl rfl 23 (by decide) k194 (fun _ h9 => h9) rfl dX9_number_84 ?_
      obtain ⟨j136, ej136, hf⟩ := jn_ob hf
      have hp136 : ∀ (v3_136 : Int32) (z1_136 : OS) (H : Heap) (locs : List Loc) (ls : Array Slot), j136 v3_136 z1_136 = some (r, y1) → va_P D vwCl (wM cI cB cZ q z1_136) H → va_D A (wM cI cB cZ q z1_136) → va_S A s.heap H locs → lv_has ls 4 [(0, .ref (q 0)), (1, .int p1), (3, .int v3_136)] → W p l e (headSpec wsX9_number { frames := 2, cells := 0, slots := 0, locals := 45 }).room s m args below meth c H locs 0 0 (MQ below (Qw D A (some (.int r)) (wM cI cB cZ q y1)) args s 0 0 A) (F0 m 136 ls []) := by
        intro v3_136 z1_136 H locs ls hf hP hD hS hl
        rw [ej136] at hf
        refine lv_aload_n hx hb dX9_number_136 rfl (lv_at hl 0 rfl) ?_
        obtain ⟨r_6, hc_7, hf⟩ := bd_ob hf
        refine rdV (As := []) (rest := []) ⟨hx, hb, hml, hown, hts⟩ (mX9_hasFailed l D cI cB cZ cO q fu z1_136 hc_7) (cwV 0 hts gX9_number_X9_hasFailed rfl rfl rfl (by decide +kernel) ⟨Nat.le_of_ble_eq_true rfl, Nat.le_of_ble_eq_true rfl⟩) hK hP (va_recv hK hP (ci := 8) (q0 := 0) rfl rfl) rfl hl.1 rfl (Nat.le_of_ble_eq_true rfl) dX9_number_137 ⟨Nat.zero_le _, Nat.zero_le _⟩ ?_
        refine lv_if_eq (tgt := 151) hx hb dX9_number_140 (by decide) (fun c_140 => ?_) (fun c_140 => ?_)
        · have hf := ip c_140 hf
          refine lv_iload_n hx hb dX9_number_151 rfl (lv_at hl 2 rfl) ?_
          exact rW_i hx hb hr hlocks hP hD hS (congrArg (fun q9 => q9.1) (so_ob hf)) (congrArg (fun (q9 : Int32 × (OS)) => wM cI cB cZ q q9.2) (so_ob hf)) dX9_number_152
        · have hf := iq c_140 hf
          refine lv_iconst (v := 0) hx hb dX9_number_143 (by decide) ?_
          refine lv_iload_n hx hb dX9_number_144 rfl (lv_at hl 1 rfl) ?_
          refine va_mmax hx hb (by rw [hml]; exact hl.1.symm) hown (hts (.methodLink RX9 126 Lib.Math.max.name) (List.mem_of_getElem? (i := 5) rfl)) (hts (.static Lib.Math.max.name) (List.mem_of_getElem? (i := 6) rfl)) (hts (.initialized "java/lang/Math") (List.mem_of_getElem? (i := 7) rfl)) (hts (.code Lib.Math.max.name Lib.Math.max.code 2 (some .int)) (List.mem_of_getElem? (i := 8) rfl)) (Nat.le_of_ble_eq_true rfl) (Nat.le_of_ble_eq_true rfl) (Nat.zero_le _) (Nat.zero_le _) dX9_number_145 ?_
          refine lv_goto (tgt := 152) hx hb dX9_number_148 (by decide) ?_
          exact rW_i hx hb hr hlocks hP hD hS (congrArg (fun q9 => q9.1) (so_ob hf)) (congrArg (fun (q9 : Int32 × (OS)) => wM cI cB cZ q q9.2) (so_ob hf)) dX9_number_152
      refine lv_icmp_ne (tgt := 102) hx hb dX9_number_87 (by decide) (fun c_87 => ?_) (fun c_87 => ?_)
      · have hf := ip c_87 hf
        refine lv_aload_n hx hb dX9_number_102 rfl (lv_at hl 0 rfl) ?_
        refine va_get (D := D) (ci := 8) (v := .int (z1_79.1 19)) (C := RX9) (T := TX9) (N := 27) hx hb hts hiX9 hown hK hP 0 rfl rfl 19 (by decide) k165 (fun _ h9 => h9) rfl dX9_number_103 ?_
        refine lv_aload_n hx hb dX9_number_106 rfl (lv_at hl 0 rfl) ?_
        refine va_get (D := D) (ci := 8) (v := .int (z1_79.1 23)) (C := RX9) (T := TX9) (N := 27) hx hb hts hiX9 hown hK hP 0 rfl rfl 23 (by decide) k194 (fun _ h9 => h9) rfl dX9_number_107 ?_
        refine lv_isub hx hb dX9_number_110 ?_
        refine lv_iconst (v := 4) hx hb dX9_number_111 (by decide) ?_
        obtain ⟨j127, ej127, hf⟩ := jn_ob hf
        have hp127 : ∀ (v3_127 : Int32) (z1_127 : OS) (H : Heap) (locs : List Loc) (ls : Array Slot), j127 v3_127 z1_127 = some (r, y1) → va_P D vwCl (wM cI cB cZ q z1_127) H → va_D A (wM cI cB cZ q z1_127) → va_S A s.heap H locs → lv_has ls 4 [(0, .ref (q 0)), (1, .int p1), (3, .int v3_127)] → W p l e (headSpec wsX9_number { frames := 2, cells := 0, slots := 0, locals := 45 }).room s m args below meth c H locs 0 0 (MQ below (Qw D A (some (.int r)) (wM cI cB cZ q y1)) args s 0 0 A) (F0 m 127 ls []) := by
          intro v3_127 z1_127 H locs ls hf hP hD hS hl
          rw [ej127] at hf
          refine lv_aload_n hx hb dX9_number_127 rfl (lv_at hl 0 rfl) ?_
          refine lv_aload_n hx hb dX9_number_128 rfl (lv_at hl 0 rfl) ?_
          refine va_get (D := D) (ci := 8) (v := .int (z1_127.1 23)) (C := RX9) (T := TX9) (N := 27) hx hb hts hiX9 hown hK hP 0 rfl rfl 23 (by decide) k194 (fun _ h9 => h9) rfl dX9_number_129 ?_
          refine lv_iconst (v := 2) hx hb dX9_number_132 (by decide) ?_
          obtain ⟨z_8, hc_9, hf⟩ := bd_ob hf
          refine weV (As := [.int (z1_127.1 23), .int (2 : Int32)]) (rest := []) ⟨hx, hb, hml, hown, hts⟩ (mX9_fails l D cI cB cZ cO q _ fu z1_127 (z1_127.1 23) (2 : Int32) hc_9) (cwV 2 hts gX9_number_X9_fails rfl rfl rfl (by decide +kernel) ⟨Nat.le_of_ble_eq_true rfl, Nat.le_of_ble_eq_true rfl⟩) hK hP hD hS hA (va_recv hK hP (ci := 8) (q0 := 0) rfl rfl) rfl hl.1 rfl (Nat.le_of_ble_eq_true rfl) dX9_number_133 ⟨Nat.zero_le _, Nat.zero_le _⟩ (fun H locs hP hD hS => ?_)
          exact hp136 v3_127 z_8 _ _ _ hf hP hD hS hl
        refine lv_icmp_gt (tgt := 127) hx hb dX9_number_112 (by decide) (fun c_112 => ?_) (fun c_112 => ?_)
        · have hf := ip c_112 hf
          exact hp127 v3_79 z1_79 _ _ _ hf hP hD hS (lv_sub hl [0, 1, 3] rfl)
        · have hf := iq c_112 hf
          refine lv_iload_n hx hb dX9_number_115 rfl (lv_at hl 3 rfl) ?_
          refine lv_i2l hx hb dX9_number_116 rfl ?_
          refine lv_iload_n hx hb dX9_number_117 rfl (lv_at hl 1 rfl) ?_
          refine lv_i2l hx hb dX9_number_118 rfl ?_
          refine lv_iload_n hx hb dX9_number_119 rfl (lv_at hl 2 rfl) ?_
          refine lv_i2l hx hb dX9_number_120 rfl ?_
          obtain ⟨r_10, hc_11, hf⟩ := bd_ob hf
          refine rdN (As := [.long ((v3_79).toInt64), .long ((p1).toInt64), .long ((p2).toInt64)]) (rest := []) ⟨hx, hb, hml, hown, hts⟩ (mX9_in l D cI cB cZ cO fu ((v3_79).toInt64) ((p1).toInt64) ((p2).toInt64) hc_11) (va_cwS 3 hts gX9_number_X9_in rfl rfl rfl (by decide +kernel) ⟨Nat.le_of_ble_eq_true rfl, Nat.le_of_ble_eq_true rfl⟩) rfl hl.1 rfl (Nat.le_of_ble_eq_true rfl) dX9_number_121 ⟨Nat.zero_le _, Nat.zero_le _⟩ ?_
          refine lv_if_ne (tgt := 136) hx hb dX9_number_124 (by decide) (fun c_124 => ?_) (fun c_124 => ?_)
          · have hf := ip c_124 hf
            exact hp136 v3_79 z1_79 _ _ _ hf hP hD hS (lv_sub hl [0, 1, 3] rfl)
          · have hf := iqn c_124 hf
            exact hp127 v3_79 z1_79 _ _ _ hf hP hD hS (lv_sub hl [0, 1, 3] rfl)
      · have hf := iqn c_87 hf
        refine lv_aload_n hx hb dX9_number_90 rfl (lv_at hl 0 rfl) ?_
        refine lv_aload_n hx hb dX9_number_91 rfl (lv_at hl 0 rfl) ?_
        refine va_get (D := D) (ci := 8) (v := .int (z1_79.1 23)) (C := RX9) (T := TX9) (N := 27) hx hb hts hiX9 hown hK hP 0 rfl rfl 23 (by decide) k194 (fun _ h9 => h9) rfl dX9_number_92 ?_
        refine lv_iconst (v := 1) hx hb dX9_number_95 (by decide) ?_
        obtain ⟨z_12, hc_13, hf⟩ := bd_ob hf
        refine weV (As := [.int (z1_79.1 23), .int (1 : Int32)]) (rest := []) ⟨hx, hb, hml, hown, hts⟩ (mX9_fails l D cI cB cZ cO q _ fu z1_79 (z1_79.1 23) (1 : Int32) hc_13) (cwV 2 hts gX9_number_X9_fails rfl rfl rfl (by decide +kernel) ⟨Nat.le_of_ble_eq_true rfl, Nat.le_of_ble_eq_true rfl⟩) hK hP hD hS hA (va_recv hK hP (ci := 8) (q0 := 0) rfl rfl) rfl hl.1 rfl (Nat.le_of_ble_eq_true rfl) dX9_number_96 ⟨Nat.zero_le _, Nat.zero_le _⟩ (fun H locs hP hD hS => ?_)
        refine lv_goto (tgt := 136) hx hb dX9_number_99 (by decide) ?_
        exact hp136 v3_79 z_12 _ _ _ hf hP hD hS (lv_sub hl [0, 1, 3] rfl)
    have hL23 : ∀ (n_23 : Nat) (v3_23 : Int32) (z1_23 : OS) (H : Heap) (locs : List Loc) (ls : Array Slot), lX9_number_23 fu j79 n_23 v3_23 z1_23 = some (r, y1) → va_P D vwCl (wM cI cB cZ q z1_23) H → va_D A (wM cI cB cZ q z1_23) → va_S A s.heap H locs → lv_has ls 4 [(0, .ref (q 0)), (1, .int p1), (2, .int p2), (3, .int v3_23)] → W p l e (headSpec wsX9_number { frames := 2, cells := 0, slots := 0, locals := 45 }).room s m args below meth c H locs 0 0 (MQ below (Qw D A (some (.int r)) (wM cI cB cZ q y1)) args s 0 0 A) (F0 m 23 ls []) := by
      intro n_23
      induction n_23 with
      | zero =>
        intro v3_23 z1_23 H locs ls hf
        exact no_ob hf
      | succ n_23 ih23 =>
        intro v3_23 z1_23 H locs ls hf hP hD hS hl
        rw [lX9_number_23] at hf
        refine lv_aload_n hx hb dX9_number_23 rfl (lv_at hl 0 rfl) ?_
        obtain ⟨r_14, hc_15, hf⟩ := bd_ob hf
        refine rdV (As := []) (rest := []) ⟨hx, hb, hml, hown, hts⟩ (mX9_ahead l D cI cB cZ cO q fu z1_23 hc_15) (cwV 0 hts gX9_number_X9_ahead rfl rfl rfl (by decide +kernel) ⟨Nat.le_of_ble_eq_true rfl, Nat.le_of_ble_eq_true rfl⟩) hK hP (va_recv hK hP (ci := 8) (q0 := 0) rfl rfl) rfl hl.1 rfl (Nat.le_of_ble_eq_true rfl) dX9_number_24 ⟨Nat.zero_le _, Nat.zero_le _⟩ ?_
        refine lv_i2l hx hb dX9_number_27 rfl ?_
        refine lv_ldc2 hx hb hown k213 dX9_number_28 ?_
        refine lv_ldc2 hx hb hown k215 dX9_number_31 ?_
        obtain ⟨r_16, hc_17, hf⟩ := bd_ob hf
        refine rdN (As := [.long ((r_14).toInt64), .long (48 : Int64), .long (57 : Int64)]) (rest := []) ⟨hx, hb, hml, hown, hts⟩ (mX9_in l D cI cB cZ cO fu ((r_14).toInt64) (48 : Int64) (57 : Int64) hc_17) (va_cwS 3 hts gX9_number_X9_in rfl rfl rfl (by decide +kernel) ⟨Nat.le_of_ble_eq_true rfl, Nat.le_of_ble_eq_true rfl⟩) rfl hl.1 rfl (Nat.le_of_ble_eq_true rfl) dX9_number_34 ⟨Nat.zero_le _, Nat.zero_le _⟩ ?_
        refine lv_if_eq (tgt := 79) hx hb dX9_number_37 (by decide) (fun c_37 => ?_) (fun c_37 => ?_)
        · have hf := ip c_37 hf
          exact hp79 v3_23 z1_23 _ _ _ hf hP hD hS hl
        · have hf := iq c_37 hf
          refine lv_aload_n hx hb dX9_number_40 rfl (lv_at hl 0 rfl) ?_
          refine va_get (D := D) (ci := 8) (v := .int (z1_23.1 19)) (C := RX9) (T := TX9) (N := 27) hx hb hts hiX9 hown hK hP 0 rfl rfl 19 (by decide) k165 (fun _ h9 => h9) rfl dX9_number_41 ?_
          refine lv_aload_n hx hb dX9_number_44 rfl (lv_at hl 0 rfl) ?_
          refine va_get (D := D) (ci := 8) (v := .int (z1_23.1 23)) (C := RX9) (T := TX9) (N := 27) hx hb hts hiX9 hown hK hP 0 rfl rfl 23 (by decide) k194 (fun _ h9 => h9) rfl dX9_number_45 ?_
          refine lv_isub hx hb dX9_number_48 ?_
          refine lv_iconst (v := 4) hx hb dX9_number_49 (by decide) ?_
          obtain ⟨j66, ej66, hf⟩ := jn_ob hf
          have hp66 : ∀ (v3_66 : Int32) (H : Heap) (locs : List Loc) (ls : Array Slot), j66 v3_66 = some (r, y1) → va_P D vwCl (wM cI cB cZ q z1_23) H → va_D A (wM cI cB cZ q z1_23) → va_S A s.heap H locs → lv_has ls 4 [(0, .ref (q 0)), (1, .int p1), (2, .int p2), (3, .int v3_66)] → W p l e (headSpec wsX9_number { frames := 2, cells := 0, slots := 0, locals := 45 }).room s m args below meth c H locs 0 0 (MQ below (Qw D A (some (.int r)) (wM cI cB cZ q y1)) args s 0 0 A) (F0 m 66 ls []) := by
            intro v3_66 H locs ls hf hP hD hS hl
            rw [ej66] at hf
            refine lv_aload_n hx hb dX9_number_66 rfl (lv_at hl 0 rfl) ?_
            refine lv_dup hx hb dX9_number_67 rfl ?_
            refine va_get (D := D) (ci := 8) (v := .int (z1_23.1 19)) (C := RX9) (T := TX9) (N := 27) hx hb hts hiX9 hown hK hP 0 rfl rfl 19 (by decide) k165 (fun _ h9 => h9) rfl dX9_number_68 ?_
            refine lv_iconst (v := 1) hx hb dX9_number_71 (by decide) ?_
            refine lv_iadd hx hb dX9_number_72 ?_
            refine va_put (D := D) (ci := 8) (v := .int ((z1_23.1 19) + (1 : Int32))) (ty := .int) (C := RX9) (T := TX9) (N := 27) hx hb hts hiX9 tyX9 tyX9_ok nmX9 hown hK hP hD hS 0 rfl rfl 19 (by decide) k165 (fun _ h9 => h9) rfl (by decide +kernel) rfl rfl (Nat.le_of_ble_eq_true rfl) dX9_number_73 (fun H locs hP hD hS => ?_)
            obtain ⟨z_18, ez_18, hf⟩ := nm_ob hf
            have hP : va_P D vwCl (wM cI cB cZ q z_18) H := by rw [ez_18]; exact hP
            have hD : va_D A (wM cI cB cZ q z_18) := by rw [ez_18]; exact hD
            refine lv_goto (tgt := 23) hx hb dX9_number_76 (by decide) ?_
            exact ih23 v3_66 z_18 _ _ _ hf hP hD hS hl
          refine lv_icmp_ge (tgt := 66) hx hb dX9_number_50 (by decide) (fun c_50 => ?_) (fun c_50 => ?_)
          · have hf := ip c_50 hf
            exact hp66 v3_23 _ _ _ hf hP hD hS hl
          · have hf := iq c_50 hf
            refine lv_bipush (v := 10) hx hb dX9_number_53 (by decide) ?_
            refine lv_iload_n hx hb dX9_number_55 rfl (lv_at hl 3 rfl) ?_
            refine lv_imul hx hb dX9_number_56 ?_
            refine lv_aload_n hx hb dX9_number_57 rfl (lv_at hl 0 rfl) ?_
            obtain ⟨r_19, hc_20, hf⟩ := bd_ob hf
            refine rdV (As := []) (rest := [.int ((10 : Int32) * v3_23)]) ⟨hx, hb, hml, hown, hts⟩ (mX9_ahead l D cI cB cZ cO q fu z1_23 hc_20) (cwV 0 hts gX9_number_X9_ahead rfl rfl rfl (by decide +kernel) ⟨Nat.le_of_ble_eq_true rfl, Nat.le_of_ble_eq_true rfl⟩) hK hP (va_recv hK hP (ci := 8) (q0 := 0) rfl rfl) rfl hl.1 rfl (Nat.le_of_ble_eq_true rfl) dX9_number_58 ⟨Nat.zero_le _, Nat.zero_le _⟩ ?_
            refine lv_iadd hx hb dX9_number_61 ?_
            refine lv_bipush (v := 48) hx hb dX9_number_62 (by decide) ?_
            refine lv_isub hx hb dX9_number_64 ?_
            obtain ⟨v3_21, ev3_21, hf⟩ := nm_ob hf
            refine lv_nmi ev3_21 ?_
            refine lv_istore_n (lv' := [(3, .int v3_21), (0, .ref (q 0)), (1, .int p1), (2, .int p2)]) hx hb dX9_number_65 rfl hl (by decide) rfl (fun ls hl => ?_)
            exact hp66 v3_21 _ _ _ hf hP hD hS (lv_sub hl [1, 2, 3, 0] rfl)
    exact hL23 fu (0 : Int32) z_5 _ _ _ hf hP hD hS (lv_sub hl [1, 2, 3, 0] rfl)
  · have hf := iq c_4 hf
    refine lv_iload_n hx hb dX9_number_7 rfl (lv_at hl 1 rfl) ?_
    exact rW_i hx hb hr hlocks hP hD hS (congrArg (fun q9 => q9.1) (so_ob hf)) (congrArg (fun (q9 : Int32 × (OS)) => wM cI cB cZ q q9.2) (so_ob hf)) dX9_number_8

def fX9_takesVariable (fu : Nat) (z : OS) : Option (Int32 × (OS)) :=
  bd (fX9_hasFailed fu z) (fun (r_1 : Int32) => (if r_1 = (0 : Int32) then bd (fX9_takesWord fu z) (fun (z_3 : OS) => (if (z_3.1 24) = (1 : Int32) then gd (inB (z_3.1 23) 500) (nm ((z_3.2 15 ((z_3.1 23)).toNatClampNeg) - (97 : Int32)) (fun (v1_5 : Int32) => bd (fX9_wide fu z_3) (fun (r_6 : Int32) => jn (κ := OS → Option (Int32 × (OS))) (fun (z1_62 : OS) => bd (fX9_hasFailed fu z1_62) (fun (r_8 : Int32) => (if r_8 = (0 : Int32) then some (v1_5, z1_62) else some ((0 : Int32), z1_62)))) (fun j62 => (if v1_5 < r_6 then j62 z_3 else bd (fX9_fails fu z_3 (z_3.1 23) (2 : Int32)) (fun (z_10 : OS) => j62 z_10)))))) else bd (fX9_fails fu z_3 (z_3.1 23) (1 : Int32)) (fun (z_12 : OS) => some ((0 : Int32), z_12)))) else some ((0 : Int32), z)))
set_option maxRecDepth 100000 in
set_option maxHeartbeats 4000000 in
theorem mX9_takesVariable (l : Launch) (D : va_G) (cI cB cZ cO : ClassId) (q : Nat → Nat) (sz : Nat) (fu : Nat) (z : OS) {r : Int32} {y1 : OS} (hf : fX9_takesVariable fu z = some (r, y1)) : Met l yX9_takesVariable wsX9_takesVariable ({ frames := 3, cells := 0, slots := 0, locals := 65 }) (va_Pc [.ref (q 0)] (Pw D (gT cI cB cZ cO) (wM cI cB cZ q z) sz)) (Qw D (va_A (wM cI cB cZ q z) sz) (some (.int r)) (wM cI cB cZ q y1)) 0 0 (va_A (wM cI cB cZ q z) sz) := by
  unfold fX9_takesVariable at hf
  refine metW (ret := (some .int)) (own := RX9) rfl (by decide) rfl (Nat.le_of_ble_eq_true rfl) (fun p e s m args below meth c ls A hx hb hr hml hown hlocks hts hK hA hP hD hS hl => ?_)
  have k201 := (hts (.fieldLink RX9 201 "ResolutionProverModel" "tokenLong" "I") (List.mem_of_getElem? (i := 1) rfl))
  have k35 := (hts (.fieldLink RX9 35 "ResolutionProverModel" "tape" "[B") (List.mem_of_getElem? (i := 3) rfl))
  have k194 := (hts (.fieldLink RX9 194 "ResolutionProverModel" "tokenBegin" "I") (List.mem_of_getElem? (i := 2) rfl))
  have hiX9 : ∀ w ∈ wsX90, w ∈ wsX9_takesVariable := (memIn_p [41, 42, 43, 44, 45, 46, 47, 48, 49, 50, 51, 52, 53, 54, 55, 56, 57, 58, 59, 60, 61, 62, 63, 64, 65, 66, 67] rfl)
  have hl : lv_has ls 2 [(0, .ref (q 0))] := hl
  refine lv_aload_n hx hb dX9_takesVariable_0 rfl (lv_at hl 0 rfl) ?_
  obtain ⟨r_1, hc_2, hf⟩ := bd_ob hf
  refine rdV (As := []) (rest := []) ⟨hx, hb, hml, hown, hts⟩ (mX9_hasFailed l D cI cB cZ cO q fu z hc_2) (cwV 0 hts gX9_takesVariable_X9_hasFailed rfl rfl rfl (by decide +kernel) ⟨Nat.le_of_ble_eq_true rfl, Nat.le_of_ble_eq_true rfl⟩) hK hP (va_recv hK hP (ci := 8) (q0 := 0) rfl rfl) rfl hl.1 rfl (Nat.le_of_ble_eq_true rfl) dX9_takesVariable_1 ⟨Nat.zero_le _, Nat.zero_le _⟩ ?_
  refine lv_if_eq (tgt := 9) hx hb dX9_takesVariable_4 (by decide) (fun c_4 => ?_) (fun c_4 => ?_)
  · have hf := ip c_4 hf
    refine lv_aload_n hx hb dX9_takesVariable_9 rfl (lv_at hl 0 rfl) ?_
    obtain ⟨z_3, hc_4, hf⟩ := bd_ob hf
    refine weV (As := []) (rest := []) ⟨hx, hb, hml, hown, hts⟩ (mX9_takesWord l D cI cB cZ cO q _ fu z hc_4) (cwV 0 hts gX9_takesVariable_X9_takesWord rfl rfl rfl (by decide +kernel) ⟨Nat.le_of_ble_eq_true rfl, Nat.le_of_ble_eq_true rfl⟩) hK hP hD hS hA (va_recv hK hP (ci := 8) (q0 := 0) rfl rfl) rfl hl.1 rfl (Nat.le_of_ble_eq_true rfl) dX9_takesVariable_10 ⟨Nat.zero_le _, Nat.zero_le _⟩ (fun H locs hP hD hS => ?_)
    refine lv_aload_n hx hb dX9_takesVariable_13 rfl (lv_at hl 0 rfl) ?_
    refine va_get (D := D) (ci := 8) (v := .int (z_3.1 24)) (C := RX9) (T := TX9) (N := 27) hx hb hts hiX9 hown hK hP 0 rfl rfl 24 (by decide) k201 (fun _ h9 => h9) rfl dX9_takesVariable_14 ?_
    refine lv_iconst (v := 1) hx hb dX9_takesVariable_17 (by decide) ?_
    refine lv_icmp_eq (tgt := 32) hx hb dX9_takesVariable_18 (by decide) (fun c_18 => ?_) (fun c_18 => ?_)
    · have hf := ip c_18 hf
      refine lv_aload_n hx hb dX9_takesVariable_32 rfl (lv_at hl 0 rfl) ?_
      refine va_get (D := D) (ci := 8) (v := .ref (q 9)) (C := RX9) (T := TX9) (N := 27) hx hb hts hiX9 hown hK hP 0 rfl rfl 15 (by decide) k35 (fun _ h9 => h9) rfl dX9_takesVariable_33 ?_
      refine lv_aload_n hx hb dX9_takesVariable_36 rfl (lv_at hl 0 rfl) ?_
      refine va_get (D := D) (ci := 8) (v := .int (z_3.1 23)) (C := RX9) (T := TX9) (N := 27) hx hb hts hiX9 hown hK hP 0 rfl rfl 23 (by decide) k194 (fun _ h9 => h9) rfl dX9_takesVariable_37 ?_
      obtain ⟨hi_, hf⟩ := gd_ob hf
      refine va_bald hx hb hK hP 9 1 rfl rfl (inB_in hi_) dX9_takesVariable_40 ?_
      refine lv_bipush (v := 97) hx hb dX9_takesVariable_41 (by decide) ?_
      refine lv_isub hx hb dX9_takesVariable_43 ?_
      obtain ⟨v1_5, ev1_5, hf⟩ := nm_ob hf
      refine lv_nmi ev1_5 ?_
      refine lv_istore_n (lv' := [(1, .int v1_5), (0, .ref (q 0))]) hx hb dX9_takesVariable_44 rfl hl (by decide) rfl (fun ls hl => ?_)
      refine lv_iload_n hx hb dX9_takesVariable_45 rfl (lv_at hl 0 rfl) ?_
      refine lv_aload_n hx hb dX9_takesVariable_46 rfl (lv_at hl 1 rfl) ?_
      obtain ⟨r_6, hc_7, hf⟩ := bd_ob hf
      refine rdV (As := []) (rest := [.int v1_5]) ⟨hx, hb, hml, hown, hts⟩ (mX9_wide l D cI cB cZ cO q fu z_3 hc_7) (cwV 0 hts gX9_takesVariable_X9_wide rfl rfl rfl (by decide +kernel) ⟨Nat.le_of_ble_eq_true rfl, Nat.le_of_ble_eq_true rfl⟩) hK hP (va_recv hK hP (ci := 8) (q0 := 0) rfl rfl) rfl hl.1 rfl (Nat.le_of_ble_eq_true rfl) dX9_takesVariable_47 ⟨Nat.zero_le _, Nat.zero_le _⟩ ?_
      obtain ⟨j62, ej62, hf⟩ := jn_ob hf
      have hp62 : ∀ (z1_62 : OS) (H : Heap) (locs : List Loc) (ls : Array Slot), j62 z1_62 = some (r, y1) → va_P D vwCl (wM cI cB cZ q z1_62) H → va_D A (wM cI cB cZ q z1_62) → va_S A s.heap H locs → lv_has ls 2 [(0, .ref (q 0)), (1, .int v1_5)] → W p l e (headSpec wsX9_takesVariable { frames := 3, cells := 0, slots := 0, locals := 65 }).room s m args below meth c H locs 0 0 (MQ below (Qw D A (some (.int r)) (wM cI cB cZ q y1)) args s 0 0 A) (F0 m 62 ls []) := by
        intro z1_62 H locs ls hf hP hD hS hl
        rw [ej62] at hf
        refine lv_aload_n hx hb dX9_takesVariable_62 rfl (lv_at hl 0 rfl) ?_
        obtain ⟨r_8, hc_9, hf⟩ := bd_ob hf
        refine rdV (As := []) (rest := []) ⟨hx, hb, hml, hown, hts⟩ (mX9_hasFailed l D cI cB cZ cO q fu z1_62 hc_9) (cwV 0 hts gX9_takesVariable_X9_hasFailed rfl rfl rfl (by decide +kernel) ⟨Nat.le_of_ble_eq_true rfl, Nat.le_of_ble_eq_true rfl⟩) hK hP (va_recv hK hP (ci := 8) (q0 := 0) rfl rfl) rfl hl.1 rfl (Nat.le_of_ble_eq_true rfl) dX9_takesVariable_63 ⟨Nat.zero_le _, Nat.zero_le _⟩ ?_
        refine lv_if_eq (tgt := 73) hx hb dX9_takesVariable_66 (by decide) (fun c_66 => ?_) (fun c_66 => ?_)
        · have hf := ip c_66 hf
          refine lv_iload_n hx hb dX9_takesVariable_73 rfl (lv_at hl 1 rfl) ?_
          exact rW_i hx hb hr hlocks hP hD hS (congrArg (fun q9 => q9.1) (so_ob hf)) (congrArg (fun (q9 : Int32 × (OS)) => wM cI cB cZ q q9.2) (so_ob hf)) dX9_takesVariable_74
        · have hf := iq c_66 hf
          refine lv_iconst (v := 0) hx hb dX9_takesVariable_69 (by decide) ?_
          refine lv_goto (tgt := 74) hx hb dX9_takesVariable_70 (by decide) ?_
          exact rW_i hx hb hr hlocks hP hD hS (congrArg (fun q9 => q9.1) (so_ob hf)) (congrArg (fun (q9 : Int32 × (OS)) => wM cI cB cZ q q9.2) (so_ob hf)) dX9_takesVariable_74
      refine lv_icmp_lt (tgt := 62) hx hb dX9_takesVariable_50 (by decide) (fun c_50 => ?_) (fun c_50 => ?_)
      · have hf := ip c_50 hf
        exact hp62 z_3 _ _ _ hf hP hD hS (lv_sub hl [1, 0] rfl)
      · have hf := iq c_50 hf
        refine lv_aload_n hx hb dX9_takesVariable_53 rfl (lv_at hl 1 rfl) ?_
        refine lv_aload_n hx hb dX9_takesVariable_54 rfl (lv_at hl 1 rfl) ?_
        refine va_get (D := D) (ci := 8) (v := .int (z_3.1 23)) (C := RX9) (T := TX9) (N := 27) hx hb hts hiX9 hown hK hP 0 rfl rfl 23 (by decide) k194 (fun _ h9 => h9) rfl dX9_takesVariable_55 ?_
        refine lv_iconst (v := 2) hx hb dX9_takesVariable_58 (by decide) ?_
        obtain ⟨z_10, hc_11, hf⟩ := bd_ob hf
        refine weV (As := [.int (z_3.1 23), .int (2 : Int32)]) (rest := []) ⟨hx, hb, hml, hown, hts⟩ (mX9_fails l D cI cB cZ cO q _ fu z_3 (z_3.1 23) (2 : Int32) hc_11) (cwV 2 hts gX9_takesVariable_X9_fails rfl rfl rfl (by decide +kernel) ⟨Nat.le_of_ble_eq_true rfl, Nat.le_of_ble_eq_true rfl⟩) hK hP hD hS hA (va_recv hK hP (ci := 8) (q0 := 0) rfl rfl) rfl hl.1 rfl (Nat.le_of_ble_eq_true rfl) dX9_takesVariable_59 ⟨Nat.zero_le _, Nat.zero_le _⟩ (fun H locs hP hD hS => ?_)
        exact hp62 z_10 _ _ _ hf hP hD hS (lv_sub hl [1, 0] rfl)
    · have hf := iq c_18 hf
      refine lv_aload_n hx hb dX9_takesVariable_21 rfl (lv_at hl 0 rfl) ?_
      refine lv_aload_n hx hb dX9_takesVariable_22 rfl (lv_at hl 0 rfl) ?_
      refine va_get (D := D) (ci := 8) (v := .int (z_3.1 23)) (C := RX9) (T := TX9) (N := 27) hx hb hts hiX9 hown hK hP 0 rfl rfl 23 (by decide) k194 (fun _ h9 => h9) rfl dX9_takesVariable_23 ?_
      refine lv_iconst (v := 1) hx hb dX9_takesVariable_26 (by decide) ?_
      obtain ⟨z_12, hc_13, hf⟩ := bd_ob hf
      refine weV (As := [.int (z_3.1 23), .int (1 : Int32)]) (rest := []) ⟨hx, hb, hml, hown, hts⟩ (mX9_fails l D cI cB cZ cO q _ fu z_3 (z_3.1 23) (1 : Int32) hc_13) (cwV 2 hts gX9_takesVariable_X9_fails rfl rfl rfl (by decide +kernel) ⟨Nat.le_of_ble_eq_true rfl, Nat.le_of_ble_eq_true rfl⟩) hK hP hD hS hA (va_recv hK hP (ci := 8) (q0 := 0) rfl rfl) rfl hl.1 rfl (Nat.le_of_ble_eq_true rfl) dX9_takesVariable_27 ⟨Nat.zero_le _, Nat.zero_le _⟩ (fun H locs hP hD hS => ?_)
      refine lv_iconst (v := 0) hx hb dX9_takesVariable_30 (by decide) ?_
      exact rW_i hx hb hr hlocks hP hD hS (congrArg (fun q9 => q9.1) (so_ob hf)) (congrArg (fun (q9 : Int32 × (OS)) => wM cI cB cZ q q9.2) (so_ob hf)) dX9_takesVariable_31
  · have hf := iq c_4 hf
    refine lv_iconst (v := 0) hx hb dX9_takesVariable_7 (by decide) ?_
    exact rW_i hx hb hr hlocks hP hD hS (congrArg (fun q9 => q9.1) (so_ob hf)) (congrArg (fun (q9 : Int32 × (OS)) => wM cI cB cZ q q9.2) (so_ob hf)) dX9_takesVariable_8

def lX9_takesLiterals_10 (fu : Nat) (j146 : OS → Option ((OS))) : Nat → OS → Option ((OS))
  | 0, _ => none
  | n_10 + 1, z1_10 => bd (fX9_hasFailed fu z1_10) (fun (r_5 : Int32) => (if ¬ r_5 = (0 : Int32) then j146 z1_10 else bd (fX9_ahead fu z1_10) (fun (r_7 : Int32) => jn (κ := Option ((OS))) (bd (fX9_ahead fu z1_10) (fun (r_9 : Int32) => jn (κ := Int32 → Option ((OS))) (fun (t0_57 : Int32) => jn (κ := Int32 → Int32 → Option ((OS))) (fun (t1_72 : Int32) (t2_72 : Int32) => nm (sI z1_10 19 (t1_72 + t2_72)) (fun (z_11 : OS) => bd (fX9_takesVariable fu z_11) (fun (w_14 : Int32 × OS) => nm w_14.1 (fun (r_12 : Int32) => nm w_14.2 (fun (z_13 : OS) => jn (κ := Int32 → Option ((OS))) (fun (t0_90 : Int32) => bd (fX9_hasFailed fu z_13) (fun (r_16 : Int32) => jn (κ := OS → Option ((OS))) (fun (z1_122 : OS) => bd (fX9_hasFailed fu z1_122) (fun (r_18 : Int32) => jn (κ := OS → Option ((OS))) (fun (z1_139 : OS) => bd (fX9_skips fu z1_139) (fun (z_20 : OS) => lX9_takesLiterals_10 fu j146 n_10 z_20)) (fun j139 => (if ¬ r_18 = (0 : Int32) then j139 z1_122 else bd (fX9_many fu z1_122) (fun (r_22 : Int32) => bd (fX9_puts fu z1_122 r_22 r_12 t0_90) (fun (z_24 : OS) => j139 z_24)))))) (fun j122 => (if ¬ r_16 = (0 : Int32) then j122 z_13 else bd (fX9_many fu z_13) (fun (r_26 : Int32) => bd (fX9_sign fu z_13 r_26 r_12) (fun (r_28 : Int32) => (if ¬ r_28 = ((3 : Int32) - t0_90) then j122 z_13 else bd (fX9_fails fu z_13 (z_13.1 23) (3 : Int32)) (fun (z_30 : OS) => j122 z_30)))))))) (fun j90 => (if t0_57 = (0 : Int32) then j90 (1 : Int32) else j90 (2 : Int32)))))))) (fun j72 => (if t0_57 = (0 : Int32) then j72 (z1_10.1 19) (0 : Int32) else j72 (z1_10.1 19) (1 : Int32)))) (fun j57 => (if ¬ r_9 = (45 : Int32) then j57 (0 : Int32) else j57 (1 : Int32))))) (fun j43 => (if r_7 = (45 : Int32) then j43 else bd (fX9_ahead fu z1_10) (fun (r_32 : Int32) => bd (fX9_in fu ((r_32).toInt64) (97 : Int64) (122 : Int64)) (fun (r_34 : Int32) => (if r_34 = (0 : Int32) then j146 z1_10 else j43))))))))
def fX9_takesLiterals (fu : Nat) (z : OS) : Option ((OS)) :=
  bd (fX9_lays fu z (0 : Int32) (0 : Int32)) (fun (z_1 : OS) => bd (fX9_skips fu z_1) (fun (z_3 : OS) => jn (κ := OS → Option ((OS))) (fun (z1_146 : OS) => some z1_146) (fun j146 => lX9_takesLiterals_10 fu j146 fu z_3)))
set_option maxRecDepth 100000 in
set_option maxHeartbeats 4000000 in
theorem mX9_takesLiterals (l : Launch) (D : va_G) (cI cB cZ cO : ClassId) (q : Nat → Nat) (sz : Nat) (fu : Nat) (z : OS) {y1 : OS} (hf : fX9_takesLiterals fu z = some y1) : Met l yX9_takesLiterals wsX9_takesLiterals ({ frames := 4, cells := 0, slots := 0, locals := 86 }) (va_Pc [.ref (q 0)] (Pw D (gT cI cB cZ cO) (wM cI cB cZ q z) sz)) (Qw D (va_A (wM cI cB cZ q z) sz) none (wM cI cB cZ q y1)) 0 0 (va_A (wM cI cB cZ q z) sz) := by
  unfold fX9_takesLiterals at hf
  refine metW (ret := none) (own := RX9) rfl (by decide) rfl (Nat.le_of_ble_eq_true rfl) (fun p e s m args below meth c ls A hx hb hr hml hown hlocks hts hK hA hP hD hS hl => ?_)
  have k165 := (hts (.fieldLink RX9 165 "ResolutionProverModel" "point" "I") (List.mem_of_getElem? (i := 3) rfl))
  have k194 := (hts (.fieldLink RX9 194 "ResolutionProverModel" "tokenBegin" "I") (List.mem_of_getElem? (i := 4) rfl))
  have k197 := (hts (.constantLong RX9 197 (97)) (List.mem_of_getElem? (i := 1) rfl))
  have k199 := (hts (.constantLong RX9 199 (122)) (List.mem_of_getElem? (i := 2) rfl))
  have hiX9 : ∀ w ∈ wsX90, w ∈ wsX9_takesLiterals := (memIn_p [61, 62, 63, 64, 65, 66, 67, 68, 69, 70, 71, 72, 73, 74, 75, 76, 77, 78, 79, 80, 81, 82, 83, 84, 85, 86, 87] rfl)
  have hl : lv_has ls 4 [(0, .ref (q 0))] := hl
  refine lv_aload_n hx hb dX9_takesLiterals_0 rfl (lv_at hl 0 rfl) ?_
  refine lv_iconst (v := 0) hx hb dX9_takesLiterals_1 (by decide) ?_
  refine lv_iconst (v := 0) hx hb dX9_takesLiterals_2 (by decide) ?_
  obtain ⟨z_1, hc_2, hf⟩ := bd_ob hf
  refine weV (As := [.int (0 : Int32), .int (0 : Int32)]) (rest := []) ⟨hx, hb, hml, hown, hts⟩ (mX9_lays l D cI cB cZ cO q _ fu z (0 : Int32) (0 : Int32) hc_2) (cwV 2 hts gX9_takesLiterals_X9_lays rfl rfl rfl (by decide +kernel) ⟨Nat.le_of_ble_eq_true rfl, Nat.le_of_ble_eq_true rfl⟩) hK hP hD hS hA (va_recv hK hP (ci := 8) (q0 := 0) rfl rfl) rfl hl.1 rfl (Nat.le_of_ble_eq_true rfl) dX9_takesLiterals_3 ⟨Nat.zero_le _, Nat.zero_le _⟩ (fun H locs hP hD hS => ?_)
  refine lv_aload_n hx hb dX9_takesLiterals_6 rfl (lv_at hl 0 rfl) ?_
  obtain ⟨z_3, hc_4, hf⟩ := bd_ob hf
  refine weV (As := []) (rest := []) ⟨hx, hb, hml, hown, hts⟩ (mX9_skips l D cI cB cZ cO q _ fu z_1 hc_4) (cwV 0 hts gX9_takesLiterals_X9_skips rfl rfl rfl (by decide +kernel) ⟨Nat.le_of_ble_eq_true rfl, Nat.le_of_ble_eq_true rfl⟩) hK hP hD hS hA (va_recv hK hP (ci := 8) (q0 := 0) rfl rfl) rfl hl.1 rfl (Nat.le_of_ble_eq_true rfl) dX9_takesLiterals_7 ⟨Nat.zero_le _, Nat.zero_le _⟩ (fun H locs hP hD hS => ?_)
  obtain ⟨j146, ej146, hf⟩ := jn_ob hf
  have hp146 : ∀ (z1_146 : OS) (H : Heap) (locs : List Loc) (ls : Array Slot), j146 z1_146 = some y1 → va_P D vwCl (wM cI cB cZ q z1_146) H → va_D A (wM cI cB cZ q z1_146) → va_S A s.heap H locs → lv_has ls 4 [] → W p l e (headSpec wsX9_takesLiterals { frames := 4, cells := 0, slots := 0, locals := 86 }).room s m args below meth c H locs 0 0 (MQ below (Qw D A none (wM cI cB cZ q y1)) args s 0 0 A) (F0 m 146 ls []) := by
    intro z1_146 H locs ls hf hP hD hS hl
    rw [ej146] at hf
    exact rW_v hx hb hr hlocks hP hD hS (congrArg (fun (q9 : (OS)) => wM cI cB cZ q q9) (so_ob hf)) dX9_takesLiterals_146
  have hL10 : ∀ (n_10 : Nat) (z1_10 : OS) (H : Heap) (locs : List Loc) (ls : Array Slot), lX9_takesLiterals_10 fu j146 n_10 z1_10 = some y1 → va_P D vwCl (wM cI cB cZ q z1_10) H → va_D A (wM cI cB cZ q z1_10) → va_S A s.heap H locs → lv_has ls 4 [(0, .ref (q 0))] → W p l e (headSpec wsX9_takesLiterals { frames := 4, cells := 0, slots := 0, locals := 86 }).room s m args below meth c H locs 0 0 (MQ below (Qw D A none (wM cI cB cZ q y1)) args s 0 0 A) (F0 m 10 ls []) := by
    intro n_10
    induction n_10 with
    | zero =>
      intro z1_10 H locs ls hf
      exact no_ob hf
    | succ n_10 ih10 =>
      intro z1_10 H locs ls hf hP hD hS hl
      rw [lX9_takesLiterals_10] at hf
      refine lv_aload_n hx hb dX9_takesLiterals_10 rfl (lv_at hl 0 rfl) ?_
      obtain ⟨r_5, hc_6, hf⟩ := bd_ob hf
      refine rdV (As := []) (rest := []) ⟨hx, hb, hml, hown, hts⟩ (mX9_hasFailed l D cI cB cZ cO q fu z1_10 hc_6) (cwV 0 hts gX9_takesLiterals_X9_hasFailed rfl rfl rfl (by decide +kernel) ⟨Nat.le_of_ble_eq_true rfl, Nat.le_of_ble_eq_true rfl⟩) hK hP (va_recv hK hP (ci := 8) (q0 := 0) rfl rfl) rfl hl.1 rfl (Nat.le_of_ble_eq_true rfl) dX9_takesLiterals_11 ⟨Nat.zero_le _, Nat.zero_le _⟩ ?_
      refine lv_if_ne (tgt := 146) hx hb dX9_takesLiterals_14 (by decide) (fun c_14 => ?_) (fun c_14 => ?_)
      · have hf := ip c_14 hf
        exact hp146 z1_10 _ _ _ hf hP hD hS (lv_sub hl [] rfl)
      · have hf := iqn c_14 hf
        refine lv_aload_n hx hb dX9_takesLiterals_17 rfl (lv_at hl 0 rfl) ?_
        obtain ⟨r_7, hc_8, hf⟩ := bd_ob hf
        refine rdV (As := []) (rest := []) ⟨hx, hb, hml, hown, hts⟩ (mX9_ahead l D cI cB cZ cO q fu z1_10 hc_8) (cwV 0 hts gX9_takesLiterals_X9_ahead rfl rfl rfl (by decide +kernel) ⟨Nat.le_of_ble_eq_true rfl, Nat.le_of_ble_eq_true rfl⟩) hK hP (va_recv hK hP (ci := 8) (q0 := 0) rfl rfl) rfl hl.1 rfl (Nat.le_of_ble_eq_true rfl) dX9_takesLiterals_18 ⟨Nat.zero_le _, Nat.zero_le _⟩ ?_
        refine lv_bipush (v := 45) hx hb dX9_takesLiterals_21 (by decide) ?_
        obtain ⟨j43, ej43, hf⟩ := jn_ob hf
        have hp43 : ∀  (H : Heap) (locs : List Loc) (ls : Array Slot), j43 = some y1 → va_P D vwCl (wM cI cB cZ q z1_10) H → va_D A (wM cI cB cZ q z1_10) → va_S A s.heap H locs → lv_has ls 4 [(0, .ref (q 0))] → W p l e (headSpec wsX9_takesLiterals { frames := 4, cells := 0, slots := 0, locals := 86 }).room s m args below meth c H locs 0 0 (MQ below (Qw D A none (wM cI cB cZ q y1)) args s 0 0 A) (F0 m 43 ls []) := by
          intro H locs ls hf hP hD hS hl
          rw [ej43] at hf
          refine lv_aload_n hx hb dX9_takesLiterals_43 rfl (lv_at hl 0 rfl) ?_
          obtain ⟨r_9, hc_10, hf⟩ := bd_ob hf
          refine rdV (As := []) (rest := []) ⟨hx, hb, hml, hown, hts⟩ (mX9_ahead l D cI cB cZ cO q fu z1_10 hc_10) (cwV 0 hts gX9_takesLiterals_X9_ahead rfl rfl rfl (by decide +kernel) ⟨Nat.le_of_ble_eq_true rfl, Nat.le_of_ble_eq_true rfl⟩) hK hP (va_recv hK hP (ci := 8) (q0 := 0) rfl rfl) rfl hl.1 rfl (Nat.le_of_ble_eq_true rfl) dX9_takesLiterals_44 ⟨Nat.zero_le _, Nat.zero_le _⟩ ?_
          refine lv_bipush (v := 45) hx hb dX9_takesLiterals_47 (by decide) ?_
          obtain ⟨j57, ej57, hf⟩ := jn_ob hf
          have hp57 : ∀ (t0_57 : Int32) (H : Heap) (locs : List Loc) (ls : Array Slot), j57 t0_57 = some y1 → va_P D vwCl (wM cI cB cZ q z1_10) H → va_D A (wM cI cB cZ q z1_10) → va_S A s.heap H locs → lv_has ls 4 [(0, .ref (q 0))] → W p l e (headSpec wsX9_takesLiterals { frames := 4, cells := 0, slots := 0, locals := 86 }).room s m args below meth c H locs 0 0 (MQ below (Qw D A none (wM cI cB cZ q y1)) args s 0 0 A) (F0 m 57 ls [.int t0_57]) := by
            intro t0_57 H locs ls hf hP hD hS hl
            rw [ej57] at hf
            refine lv_istore_n (lv' := [(1, .int t0_57), (0, .ref (q 0))]) hx hb dX9_takesLiterals_57 rfl hl (by decide) rfl (fun ls hl => ?_)
            refine lv_aload_n hx hb dX9_takesLiterals_58 rfl (lv_at hl 1 rfl) ?_
            refine lv_dup hx hb dX9_takesLiterals_59 rfl ?_
            refine va_get (D := D) (ci := 8) (v := .int (z1_10.1 19)) (C := RX9) (T := TX9) (N := 27) hx hb hts hiX9 hown hK hP 0 rfl rfl 19 (by decide) k165 (fun _ h9 => h9) rfl dX9_takesLiterals_60 ?_
            refine lv_iload_n hx hb dX9_takesLiterals_63 rfl (lv_at hl 0 rfl) ?_
            obtain ⟨j72, ej72, hf⟩ := jn_ob hf
            have hp72 : ∀ (t1_72 : Int32) (t2_72 : Int32) (H : Heap) (locs : List Loc) (ls : Array Slot), j72 t1_72 t2_72 = some y1 → va_P D vwCl (wM cI cB cZ q z1_10) H → va_D A (wM cI cB cZ q z1_10) → va_S A s.heap H locs → lv_has ls 4 [(0, .ref (q 0)), (1, .int t0_57)] → W p l e (headSpec wsX9_takesLiterals { frames := 4, cells := 0, slots := 0, locals := 86 }).room s m args below meth c H locs 0 0 (MQ below (Qw D A none (wM cI cB cZ q y1)) args s 0 0 A) (F0 m 72 ls [.int t2_72, .int t1_72, .ref (q 0)]) := by
              intro t1_72 t2_72 H locs ls hf hP hD hS hl
              rw [ej72] at hf
              refine lv_iadd hx hb dX9_takesLiterals_72 ?_
              refine va_put (D := D) (ci := 8) (v := .int (t1_72 + t2_72)) (ty := .int) (C := RX9) (T := TX9) (N := 27) hx hb hts hiX9 tyX9 tyX9_ok nmX9 hown hK hP hD hS 0 rfl rfl 19 (by decide) k165 (fun _ h9 => h9) rfl (by decide +kernel) rfl rfl (Nat.le_of_ble_eq_true rfl) dX9_takesLiterals_73 (fun H locs hP hD hS => ?_)
              obtain ⟨z_11, ez_11, hf⟩ := nm_ob hf
              have hP : va_P D vwCl (wM cI cB cZ q z_11) H := by rw [ez_11]; exact hP
              have hD : va_D A (wM cI cB cZ q z_11) := by rw [ez_11]; exact hD
              refine lv_aload_n hx hb dX9_takesLiterals_76 rfl (lv_at hl 0 rfl) ?_
              obtain ⟨⟨r_12, z_13⟩, hc_15, hf⟩ := bd_ob hf
              have hf := nm_st hf
              have hf := nm_st hf
              refine weV (As := []) (rest := []) ⟨hx, hb, hml, hown, hts⟩ (mX9_takesVariable l D cI cB cZ cO q _ fu z_11 hc_15) (cwV 0 hts gX9_takesLiterals_X9_takesVariable rfl rfl rfl (by decide +kernel) ⟨Nat.le_of_ble_eq_true rfl, Nat.le_of_ble_eq_true rfl⟩) hK hP hD hS hA (va_recv hK hP (ci := 8) (q0 := 0) rfl rfl) rfl hl.1 rfl (Nat.le_of_ble_eq_true rfl) dX9_takesLiterals_77 ⟨Nat.zero_le _, Nat.zero_le _⟩ (fun H locs hP hD hS => ?_)
              refine lv_istore_n (lv' := [(2, .int r_12), (0, .ref (q 0)), (1, .int t0_57)]) hx hb dX9_takesLiterals_80 rfl hl (by decide) rfl (fun ls hl => ?_)
              refine lv_iload_n hx hb dX9_takesLiterals_81 rfl (lv_at hl 2 rfl) ?_
              obtain ⟨j90, ej90, hf⟩ := jn_ob hf
              have hp90 : ∀ (t0_90 : Int32) (H : Heap) (locs : List Loc) (ls : Array Slot), j90 t0_90 = some y1 → va_P D vwCl (wM cI cB cZ q z_13) H → va_D A (wM cI cB cZ q z_13) → va_S A s.heap H locs → lv_has ls 4 [(0, .ref (q 0)), (2, .int r_12)] → W p l e (headSpec wsX9_takesLiterals { frames := 4, cells := 0, slots := 0, locals := 86 }).room s m args below meth c H locs 0 0 (MQ below (Qw D A none (wM cI cB cZ q y1)) args s 0 0 A) (F0 m 90 ls [.int t0_90]) := by
                intro t0_90 H locs ls hf hP hD hS hl
                rw [ej90] at hf
                refine lv_istore_n (lv' := [(3, .int t0_90), (0, .ref (q 0)), (2, .int r_12)]) hx hb dX9_takesLiterals_90 rfl hl (by decide) rfl (fun ls hl => ?_)
                refine lv_aload_n hx hb dX9_takesLiterals_91 rfl (lv_at hl 1 rfl) ?_
                obtain ⟨r_16, hc_17, hf⟩ := bd_ob hf
                refine rdV (As := []) (rest := []) ⟨hx, hb, hml, hown, hts⟩ (mX9_hasFailed l D cI cB cZ cO q fu z_13 hc_17) (cwV 0 hts gX9_takesLiterals_X9_hasFailed rfl rfl rfl (by decide +kernel) ⟨Nat.le_of_ble_eq_true rfl, Nat.le_of_ble_eq_true rfl⟩) hK hP (va_recv hK hP (ci := 8) (q0 := 0) rfl rfl) rfl hl.1 rfl (Nat.le_of_ble_eq_true rfl) dX9_takesLiterals_92 ⟨Nat.zero_le _, Nat.zero_le _⟩ ?_
                obtain ⟨j122, ej122, hf⟩ := jn_ob hf
                have hp122 : ∀ (z1_122 : OS) (H : Heap) (locs : List Loc) (ls : Array Slot), j122 z1_122 = some y1 → va_P D vwCl (wM cI cB cZ q z1_122) H → va_D A (wM cI cB cZ q z1_122) → va_S A s.heap H locs → lv_has ls 4 [(0, .ref (q 0)), (2, .int r_12), (3, .int t0_90)] → W p l e (headSpec wsX9_takesLiterals { frames := 4, cells := 0, slots := 0, locals := 86 }).room s m args below meth c H locs 0 0 (MQ below (Qw D A none (wM cI cB cZ q y1)) args s 0 0 A) (F0 m 122 ls []) := by
                  intro z1_122 H locs ls hf hP hD hS hl
                  rw [ej122] at hf
                  refine lv_aload_n hx hb dX9_takesLiterals_122 rfl (lv_at hl 0 rfl) ?_
                  obtain ⟨r_18, hc_19, hf⟩ := bd_ob hf
                  refine rdV (As := []) (rest := []) ⟨hx, hb, hml, hown, hts⟩ (mX9_hasFailed l D cI cB cZ cO q fu z1_122 hc_19) (cwV 0 hts gX9_takesLiterals_X9_hasFailed rfl rfl rfl (by decide +kernel) ⟨Nat.le_of_ble_eq_true rfl, Nat.le_of_ble_eq_true rfl⟩) hK hP (va_recv hK hP (ci := 8) (q0 := 0) rfl rfl) rfl hl.1 rfl (Nat.le_of_ble_eq_true rfl) dX9_takesLiterals_123 ⟨Nat.zero_le _, Nat.zero_le _⟩ ?_
                  obtain ⟨j139, ej139, hf⟩ := jn_ob hf
                  have hp139 : ∀ (z1_139 : OS) (H : Heap) (locs : List Loc) (ls : Array Slot), j139 z1_139 = some y1 → va_P D vwCl (wM cI cB cZ q z1_139) H → va_D A (wM cI cB cZ q z1_139) → va_S A s.heap H locs → lv_has ls 4 [(0, .ref (q 0))] → W p l e (headSpec wsX9_takesLiterals { frames := 4, cells := 0, slots := 0, locals := 86 }).room s m args below meth c H locs 0 0 (MQ below (Qw D A none (wM cI cB cZ q y1)) args s 0 0 A) (F0 m 139 ls []) := by
                    intro z1_139 H locs ls hf hP hD hS hl
                    rw [ej139] at hf
                    refine lv_aload_n hx hb dX9_takesLiterals_139 rfl (lv_at hl 0 rfl) ?_
                    obtain ⟨z_20, hc_21, hf⟩ := bd_ob hf
                    refine weV (As := []) (rest := []) ⟨hx, hb, hml, hown, hts⟩ (mX9_skips l D cI cB cZ cO q _ fu z1_139 hc_21) (cwV 0 hts gX9_takesLiterals_X9_skips rfl rfl rfl (by decide +kernel) ⟨Nat.le_of_ble_eq_true rfl, Nat.le_of_ble_eq_true rfl⟩) hK hP hD hS hA (va_recv hK hP (ci := 8) (q0 := 0) rfl rfl) rfl hl.1 rfl (Nat.le_of_ble_eq_true rfl) dX9_takesLiterals_140 ⟨Nat.zero_le _, Nat.zero_le _⟩ (fun H locs hP hD hS => ?_)
                    refine lv_goto (tgt := 10) hx hb dX9_takesLiterals_143 (by decide) ?_
                    exact ih10 z_20 _ _ _ hf hP hD hS hl
                  refine lv_if_ne (tgt := 139) hx hb dX9_takesLiterals_126 (by decide) (fun c_126 => ?_) (fun c_126 => ?_)
                  · have hf := ip c_126 hf
                    exact hp139 z1_122 _ _ _ hf hP hD hS (lv_sub hl [0] rfl)
                  · have hf := iqn c_126 hf
                    refine lv_aload_n hx hb dX9_takesLiterals_129 rfl (lv_at hl 0 rfl) ?_
                    refine lv_aload_n hx hb dX9_takesLiterals_130 rfl (lv_at hl 0 rfl) ?_
                    obtain ⟨r_22, hc_23, hf⟩ := bd_ob hf
                    refine rdV (As := []) (rest := [.ref (q 0)]) ⟨hx, hb, hml, hown, hts⟩ (mX9_many l D cI cB cZ cO q fu z1_122 hc_23) (cwV 0 hts gX9_takesLiterals_X9_many rfl rfl rfl (by decide +kernel) ⟨Nat.le_of_ble_eq_true rfl, Nat.le_of_ble_eq_true rfl⟩) hK hP (va_recv hK hP (ci := 8) (q0 := 0) rfl rfl) rfl hl.1 rfl (Nat.le_of_ble_eq_true rfl) dX9_takesLiterals_131 ⟨Nat.zero_le _, Nat.zero_le _⟩ ?_
                    refine lv_iload_n hx hb dX9_takesLiterals_134 rfl (lv_at hl 1 rfl) ?_
                    refine lv_iload_n hx hb dX9_takesLiterals_135 rfl (lv_at hl 2 rfl) ?_
                    obtain ⟨z_24, hc_25, hf⟩ := bd_ob hf
                    refine weV (As := [.int r_22, .int r_12, .int t0_90]) (rest := []) ⟨hx, hb, hml, hown, hts⟩ (mX9_puts l D cI cB cZ cO q _ fu z1_122 r_22 r_12 t0_90 hc_25) (cwV 3 hts gX9_takesLiterals_X9_puts rfl rfl rfl (by decide +kernel) ⟨Nat.le_of_ble_eq_true rfl, Nat.le_of_ble_eq_true rfl⟩) hK hP hD hS hA (va_recv hK hP (ci := 8) (q0 := 0) rfl rfl) rfl hl.1 rfl (Nat.le_of_ble_eq_true rfl) dX9_takesLiterals_136 ⟨Nat.zero_le _, Nat.zero_le _⟩ (fun H locs hP hD hS => ?_)
                    exact hp139 z_24 _ _ _ hf hP hD hS (lv_sub hl [0] rfl)
                refine lv_if_ne (tgt := 122) hx hb dX9_takesLiterals_95 (by decide) (fun c_95 => ?_) (fun c_95 => ?_)
                · have hf := ip c_95 hf
                  exact hp122 z_13 _ _ _ hf hP hD hS (lv_sub hl [1, 2, 0] rfl)
                · have hf := iqn c_95 hf
                  refine lv_aload_n hx hb dX9_takesLiterals_98 rfl (lv_at hl 1 rfl) ?_
                  refine lv_aload_n hx hb dX9_takesLiterals_99 rfl (lv_at hl 1 rfl) ?_
                  obtain ⟨r_26, hc_27, hf⟩ := bd_ob hf
                  refine rdV (As := []) (rest := [.ref (q 0)]) ⟨hx, hb, hml, hown, hts⟩ (mX9_many l D cI cB cZ cO q fu z_13 hc_27) (cwV 0 hts gX9_takesLiterals_X9_many rfl rfl rfl (by decide +kernel) ⟨Nat.le_of_ble_eq_true rfl, Nat.le_of_ble_eq_true rfl⟩) hK hP (va_recv hK hP (ci := 8) (q0 := 0) rfl rfl) rfl hl.1 rfl (Nat.le_of_ble_eq_true rfl) dX9_takesLiterals_100 ⟨Nat.zero_le _, Nat.zero_le _⟩ ?_
                  refine lv_iload_n hx hb dX9_takesLiterals_103 rfl (lv_at hl 2 rfl) ?_
                  obtain ⟨r_28, hc_29, hf⟩ := bd_ob hf
                  refine rdV (As := [.int r_26, .int r_12]) (rest := []) ⟨hx, hb, hml, hown, hts⟩ (mX9_sign l D cI cB cZ cO q fu z_13 r_26 r_12 hc_29) (cwV 2 hts gX9_takesLiterals_X9_sign rfl rfl rfl (by decide +kernel) ⟨Nat.le_of_ble_eq_true rfl, Nat.le_of_ble_eq_true rfl⟩) hK hP (va_recv hK hP (ci := 8) (q0 := 0) rfl rfl) rfl hl.1 rfl (Nat.le_of_ble_eq_true rfl) dX9_takesLiterals_104 ⟨Nat.zero_le _, Nat.zero_le _⟩ ?_
                  refine lv_iconst (v := 3) hx hb dX9_takesLiterals_107 (by decide) ?_
                  refine lv_iload_n hx hb dX9_takesLiterals_108 rfl (lv_at hl 0 rfl) ?_
                  refine lv_isub hx hb dX9_takesLiterals_109 ?_
                  refine lv_icmp_ne (tgt := 122) hx hb dX9_takesLiterals_110 (by decide) (fun c_110 => ?_) (fun c_110 => ?_)
                  · have hf := ip c_110 hf
                    exact hp122 z_13 _ _ _ hf hP hD hS (lv_sub hl [1, 2, 0] rfl)
                  · have hf := iqn c_110 hf
                    refine lv_aload_n hx hb dX9_takesLiterals_113 rfl (lv_at hl 1 rfl) ?_
                    refine lv_aload_n hx hb dX9_takesLiterals_114 rfl (lv_at hl 1 rfl) ?_
                    refine va_get (D := D) (ci := 8) (v := .int (z_13.1 23)) (C := RX9) (T := TX9) (N := 27) hx hb hts hiX9 hown hK hP 0 rfl rfl 23 (by decide) k194 (fun _ h9 => h9) rfl dX9_takesLiterals_115 ?_
                    refine lv_iconst (v := 3) hx hb dX9_takesLiterals_118 (by decide) ?_
                    obtain ⟨z_30, hc_31, hf⟩ := bd_ob hf
                    refine weV (As := [.int (z_13.1 23), .int (3 : Int32)]) (rest := []) ⟨hx, hb, hml, hown, hts⟩ (mX9_fails l D cI cB cZ cO q _ fu z_13 (z_13.1 23) (3 : Int32) hc_31) (cwV 2 hts gX9_takesLiterals_X9_fails rfl rfl rfl (by decide +kernel) ⟨Nat.le_of_ble_eq_true rfl, Nat.le_of_ble_eq_true rfl⟩) hK hP hD hS hA (va_recv hK hP (ci := 8) (q0 := 0) rfl rfl) rfl hl.1 rfl (Nat.le_of_ble_eq_true rfl) dX9_takesLiterals_119 ⟨Nat.zero_le _, Nat.zero_le _⟩ (fun H locs hP hD hS => ?_)
                    exact hp122 z_30 _ _ _ hf hP hD hS (lv_sub hl [1, 2, 0] rfl)
              refine lv_if_eq (tgt := 89) hx hb dX9_takesLiterals_82 (by decide) (fun c_82 => ?_) (fun c_82 => ?_)
              · have hf := ip c_82 hf
                refine lv_iconst (v := 1) hx hb dX9_takesLiterals_89 (by decide) ?_
                exact hp90 (1 : Int32) _ _ _ hf hP hD hS (lv_sub hl [1, 0] rfl)
              · have hf := iq c_82 hf
                refine lv_iconst (v := 2) hx hb dX9_takesLiterals_85 (by decide) ?_
                refine lv_goto (tgt := 90) hx hb dX9_takesLiterals_86 (by decide) ?_
                exact hp90 (2 : Int32) _ _ _ hf hP hD hS (lv_sub hl [1, 0] rfl)
            refine lv_if_eq (tgt := 71) hx hb dX9_takesLiterals_64 (by decide) (fun c_64 => ?_) (fun c_64 => ?_)
            · have hf := ip c_64 hf
              refine lv_iconst (v := 0) hx hb dX9_takesLiterals_71 (by decide) ?_
              exact hp72 (z1_10.1 19) (0 : Int32) _ _ _ hf hP hD hS (lv_sub hl [1, 0] rfl)
            · have hf := iq c_64 hf
              refine lv_iconst (v := 1) hx hb dX9_takesLiterals_67 (by decide) ?_
              refine lv_goto (tgt := 72) hx hb dX9_takesLiterals_68 (by decide) ?_
              exact hp72 (z1_10.1 19) (1 : Int32) _ _ _ hf hP hD hS (lv_sub hl [1, 0] rfl)
          refine lv_icmp_ne (tgt := 56) hx hb dX9_takesLiterals_49 (by decide) (fun c_49 => ?_) (fun c_49 => ?_)
          · have hf := ip c_49 hf
            refine lv_iconst (v := 0) hx hb dX9_takesLiterals_56 (by decide) ?_
            exact hp57 (0 : Int32) _ _ _ hf hP hD hS hl
          · have hf := iqn c_49 hf
            refine lv_iconst (v := 1) hx hb dX9_takesLiterals_52 (by decide) ?_
            refine lv_goto (tgt := 57) hx hb dX9_takesLiterals_53 (by decide) ?_
            exact hp57 (1 : Int32) _ _ _ hf hP hD hS hl
        refine lv_icmp_eq (tgt := 43) hx hb dX9_takesLiterals_23 (by decide) (fun c_23 => ?_) (fun c_23 => ?_)
        · have hf := ip c_23 hf
          exact hp43 _ _ _ hf hP hD hS hl
        · have hf := iq c_23 hf
          refine lv_aload_n hx hb dX9_takesLiterals_26 rfl (lv_at hl 0 rfl) ?_
          obtain ⟨r_32, hc_33, hf⟩ := bd_ob hf
          refine rdV (As := []) (rest := []) ⟨hx, hb, hml, hown, hts⟩ (mX9_ahead l D cI cB cZ cO q fu z1_10 hc_33) (cwV 0 hts gX9_takesLiterals_X9_ahead rfl rfl rfl (by decide +kernel) ⟨Nat.le_of_ble_eq_true rfl, Nat.le_of_ble_eq_true rfl⟩) hK hP (va_recv hK hP (ci := 8) (q0 := 0) rfl rfl) rfl hl.1 rfl (Nat.le_of_ble_eq_true rfl) dX9_takesLiterals_27 ⟨Nat.zero_le _, Nat.zero_le _⟩ ?_
          refine lv_i2l hx hb dX9_takesLiterals_30 rfl ?_
          refine lv_ldc2 hx hb hown k197 dX9_takesLiterals_31 ?_
          refine lv_ldc2 hx hb hown k199 dX9_takesLiterals_34 ?_
          obtain ⟨r_34, hc_35, hf⟩ := bd_ob hf
          refine rdN (As := [.long ((r_32).toInt64), .long (97 : Int64), .long (122 : Int64)]) (rest := []) ⟨hx, hb, hml, hown, hts⟩ (mX9_in l D cI cB cZ cO fu ((r_32).toInt64) (97 : Int64) (122 : Int64) hc_35) (va_cwS 3 hts gX9_takesLiterals_X9_in rfl rfl rfl (by decide +kernel) ⟨Nat.le_of_ble_eq_true rfl, Nat.le_of_ble_eq_true rfl⟩) rfl hl.1 rfl (Nat.le_of_ble_eq_true rfl) dX9_takesLiterals_37 ⟨Nat.zero_le _, Nat.zero_le _⟩ ?_
          refine lv_if_eq (tgt := 146) hx hb dX9_takesLiterals_40 (by decide) (fun c_40 => ?_) (fun c_40 => ?_)
          · have hf := ip c_40 hf
            exact hp146 z1_10 _ _ _ hf hP hD hS (lv_sub hl [] rfl)
          · have hf := iq c_40 hf
            exact hp43 _ _ _ hf hP hD hS hl
  exact hL10 fu z_3 _ _ _ hf hP hD hS hl

def fX9_takesClause (fu : Nat) (z : OS) : Option (Int32 × (OS)) :=
  bd (fX9_many fu z) (fun (r_1 : Int32) => bd (fX9_number fu z (0 : Int32) (r_1 - (1 : Int32))) (fun (w_5 : Int32 × OS) => nm w_5.1 (fun (r_3 : Int32) => nm w_5.2 (fun (z_4 : OS) => some (r_3, z_4)))))
set_option maxRecDepth 100000 in
set_option maxHeartbeats 4000000 in
theorem mX9_takesClause (l : Launch) (D : va_G) (cI cB cZ cO : ClassId) (q : Nat → Nat) (sz : Nat) (fu : Nat) (z : OS) {r : Int32} {y1 : OS} (hf : fX9_takesClause fu z = some (r, y1)) : Met l yX9_takesClause wsX9_takesClause ({ frames := 3, cells := 0, slots := 0, locals := 68 }) (va_Pc [.ref (q 0)] (Pw D (gT cI cB cZ cO) (wM cI cB cZ q z) sz)) (Qw D (va_A (wM cI cB cZ q z) sz) (some (.int r)) (wM cI cB cZ q y1)) 0 0 (va_A (wM cI cB cZ q z) sz) := by
  unfold fX9_takesClause at hf
  refine metW (ret := (some .int)) (own := RX9) rfl (by decide) rfl (Nat.le_of_ble_eq_true rfl) (fun p e s m args below meth c ls A hx hb hr hml hown hlocks hts hK hA hP hD hS hl => ?_)
  have hl : lv_has ls 1 [(0, .ref (q 0))] := hl
  refine lv_aload_n hx hb dX9_takesClause_0 rfl (lv_at hl 0 rfl) ?_
  refine lv_iconst (v := 0) hx hb dX9_takesClause_1 (by decide) ?_
  refine lv_aload_n hx hb dX9_takesClause_2 rfl (lv_at hl 0 rfl) ?_
  obtain ⟨r_1, hc_2, hf⟩ := bd_ob hf
  refine rdV (As := []) (rest := [.int (0 : Int32), .ref (q 0)]) ⟨hx, hb, hml, hown, hts⟩ (mX9_many l D cI cB cZ cO q fu z hc_2) (cwV 0 hts gX9_takesClause_X9_many rfl rfl rfl (by decide +kernel) ⟨Nat.le_of_ble_eq_true rfl, Nat.le_of_ble_eq_true rfl⟩) hK hP (va_recv hK hP (ci := 8) (q0 := 0) rfl rfl) rfl hl.1 rfl (Nat.le_of_ble_eq_true rfl) dX9_takesClause_3 ⟨Nat.zero_le _, Nat.zero_le _⟩ ?_
  refine lv_iconst (v := 1) hx hb dX9_takesClause_6 (by decide) ?_
  refine lv_isub hx hb dX9_takesClause_7 ?_
  obtain ⟨⟨r_3, z_4⟩, hc_6, hf⟩ := bd_ob hf
  have hf := nm_st hf
  have hf := nm_st hf
  refine weV (As := [.int (0 : Int32), .int (r_1 - (1 : Int32))]) (rest := []) ⟨hx, hb, hml, hown, hts⟩ (mX9_number l D cI cB cZ cO q _ fu z (0 : Int32) (r_1 - (1 : Int32)) hc_6) (cwV 2 hts gX9_takesClause_X9_number rfl rfl rfl (by decide +kernel) ⟨Nat.le_of_ble_eq_true rfl, Nat.le_of_ble_eq_true rfl⟩) hK hP hD hS hA (va_recv hK hP (ci := 8) (q0 := 0) rfl rfl) rfl hl.1 rfl (Nat.le_of_ble_eq_true rfl) dX9_takesClause_8 ⟨Nat.zero_le _, Nat.zero_le _⟩ (fun H locs hP hD hS => ?_)
  exact rW_i hx hb hr hlocks hP hD hS (congrArg (fun q9 => q9.1) (so_ob hf)) (congrArg (fun (q9 : Int32 × (OS)) => wM cI cB cZ q q9.2) (so_ob hf)) dX9_takesClause_11

def fX9_isEnd (fu : Nat) (z : OS) : Option (Int32 × (OS)) :=
  bd (fX9_hasFailed fu z) (fun (r_1 : Int32) => (if r_1 = (0 : Int32) then bd (fX9_skips fu z) (fun (z_3 : OS) => bd (fX9_ahead fu z_3) (fun (r_5 : Int32) => jn (κ := OS → Option (Int32 × (OS))) (fun (z1_31 : OS) => nm (sI z1_31 19 ((z1_31.1 19) + (1 : Int32))) (fun (z_7 : OS) => bd (fX9_hasFailed fu z_7) (fun (r_8 : Int32) => (if ¬ r_8 = (0 : Int32) then gd (isZ (0 : Int32)) (some ((0 : Int32), z_7)) else gd (isZ (1 : Int32)) (some ((1 : Int32), z_7)))))) (fun j31 => (if r_5 = (59 : Int32) then j31 z_3 else bd (fX9_fails fu z_3 (z_3.1 19) (1 : Int32)) (fun (z_10 : OS) => j31 z_10))))) else gd (isZ (0 : Int32)) (some ((0 : Int32), z))))
set_option maxRecDepth 100000 in
set_option maxHeartbeats 4000000 in
theorem mX9_isEnd (l : Launch) (D : va_G) (cI cB cZ cO : ClassId) (q : Nat → Nat) (sz : Nat) (fu : Nat) (z : OS) {r : Int32} {y1 : OS} (hf : fX9_isEnd fu z = some (r, y1)) : Met l yX9_isEnd wsX9_isEnd ({ frames := 2, cells := 0, slots := 0, locals := 45 }) (va_Pc [.ref (q 0)] (Pw D (gT cI cB cZ cO) (wM cI cB cZ q z) sz)) (Qw D (va_A (wM cI cB cZ q z) sz) (some (.int r)) (wM cI cB cZ q y1)) 0 0 (va_A (wM cI cB cZ q z) sz) := by
  unfold fX9_isEnd at hf
  refine metW (ret := (some .boolean)) (own := RX9) rfl (by decide) rfl (Nat.le_of_ble_eq_true rfl) (fun p e s m args below meth c ls A hx hb hr hml hown hlocks hts hK hA hP hD hS hl => ?_)
  have k165 := (hts (.fieldLink RX9 165 "ResolutionProverModel" "point" "I") (List.mem_of_getElem? (i := 1) rfl))
  have hiX9 : ∀ w ∈ wsX90, w ∈ wsX9_isEnd := (memIn_p [28, 29, 30, 31, 32, 33, 34, 35, 36, 37, 38, 39, 40, 41, 42, 43, 44, 45, 46, 47, 48, 49, 50, 51, 52, 53, 54] rfl)
  have hl : lv_has ls 1 [(0, .ref (q 0))] := hl
  refine lv_aload_n hx hb dX9_isEnd_0 rfl (lv_at hl 0 rfl) ?_
  obtain ⟨r_1, hc_2, hf⟩ := bd_ob hf
  refine rdV (As := []) (rest := []) ⟨hx, hb, hml, hown, hts⟩ (mX9_hasFailed l D cI cB cZ cO q fu z hc_2) (cwV 0 hts gX9_isEnd_X9_hasFailed rfl rfl rfl (by decide +kernel) ⟨Nat.le_of_ble_eq_true rfl, Nat.le_of_ble_eq_true rfl⟩) hK hP (va_recv hK hP (ci := 8) (q0 := 0) rfl rfl) rfl hl.1 rfl (Nat.le_of_ble_eq_true rfl) dX9_isEnd_1 ⟨Nat.zero_le _, Nat.zero_le _⟩ ?_
  refine lv_if_eq (tgt := 9) hx hb dX9_isEnd_4 (by decide) (fun c_4 => ?_) (fun c_4 => ?_)
  · have hf := ip c_4 hf
    refine lv_aload_n hx hb dX9_isEnd_9 rfl (lv_at hl 0 rfl) ?_
    obtain ⟨z_3, hc_4, hf⟩ := bd_ob hf
    refine weV (As := []) (rest := []) ⟨hx, hb, hml, hown, hts⟩ (mX9_skips l D cI cB cZ cO q _ fu z hc_4) (cwV 0 hts gX9_isEnd_X9_skips rfl rfl rfl (by decide +kernel) ⟨Nat.le_of_ble_eq_true rfl, Nat.le_of_ble_eq_true rfl⟩) hK hP hD hS hA (va_recv hK hP (ci := 8) (q0 := 0) rfl rfl) rfl hl.1 rfl (Nat.le_of_ble_eq_true rfl) dX9_isEnd_10 ⟨Nat.zero_le _, Nat.zero_le _⟩ (fun H locs hP hD hS => ?_)
    refine lv_aload_n hx hb dX9_isEnd_13 rfl (lv_at hl 0 rfl) ?_
    obtain ⟨r_5, hc_6, hf⟩ := bd_ob hf
    refine rdV (As := []) (rest := []) ⟨hx, hb, hml, hown, hts⟩ (mX9_ahead l D cI cB cZ cO q fu z_3 hc_6) (cwV 0 hts gX9_isEnd_X9_ahead rfl rfl rfl (by decide +kernel) ⟨Nat.le_of_ble_eq_true rfl, Nat.le_of_ble_eq_true rfl⟩) hK hP (va_recv hK hP (ci := 8) (q0 := 0) rfl rfl) rfl hl.1 rfl (Nat.le_of_ble_eq_true rfl) dX9_isEnd_14 ⟨Nat.zero_le _, Nat.zero_le _⟩ ?_
    refine lv_bipush (v := 59) hx hb dX9_isEnd_17 (by decide) ?_
    obtain ⟨j31, ej31, hf⟩ := jn_ob hf
    have hp31 : ∀ (z1_31 : OS) (H : Heap) (locs : List Loc) (ls : Array Slot), j31 z1_31 = some (r, y1) → va_P D vwCl (wM cI cB cZ q z1_31) H → va_D A (wM cI cB cZ q z1_31) → va_S A s.heap H locs → lv_has ls 1 [(0, .ref (q 0))] → W p l e (headSpec wsX9_isEnd { frames := 2, cells := 0, slots := 0, locals := 45 }).room s m args below meth c H locs 0 0 (MQ below (Qw D A (some (.int r)) (wM cI cB cZ q y1)) args s 0 0 A) (F0 m 31 ls []) := by
      intro z1_31 H locs ls hf hP hD hS hl
      rw [ej31] at hf
      refine lv_aload_n hx hb dX9_isEnd_31 rfl (lv_at hl 0 rfl) ?_
      refine lv_dup hx hb dX9_isEnd_32 rfl ?_
      refine va_get (D := D) (ci := 8) (v := .int (z1_31.1 19)) (C := RX9) (T := TX9) (N := 27) hx hb hts hiX9 hown hK hP 0 rfl rfl 19 (by decide) k165 (fun _ h9 => h9) rfl dX9_isEnd_33 ?_
      refine lv_iconst (v := 1) hx hb dX9_isEnd_36 (by decide) ?_
      refine lv_iadd hx hb dX9_isEnd_37 ?_
      refine va_put (D := D) (ci := 8) (v := .int ((z1_31.1 19) + (1 : Int32))) (ty := .int) (C := RX9) (T := TX9) (N := 27) hx hb hts hiX9 tyX9 tyX9_ok nmX9 hown hK hP hD hS 0 rfl rfl 19 (by decide) k165 (fun _ h9 => h9) rfl (by decide +kernel) rfl rfl (Nat.le_of_ble_eq_true rfl) dX9_isEnd_38 (fun H locs hP hD hS => ?_)
      obtain ⟨z_7, ez_7, hf⟩ := nm_ob hf
      have hP : va_P D vwCl (wM cI cB cZ q z_7) H := by rw [ez_7]; exact hP
      have hD : va_D A (wM cI cB cZ q z_7) := by rw [ez_7]; exact hD
      refine lv_aload_n hx hb dX9_isEnd_41 rfl (lv_at hl 0 rfl) ?_
      obtain ⟨r_8, hc_9, hf⟩ := bd_ob hf
      refine rdV (As := []) (rest := []) ⟨hx, hb, hml, hown, hts⟩ (mX9_hasFailed l D cI cB cZ cO q fu z_7 hc_9) (cwV 0 hts gX9_isEnd_X9_hasFailed rfl rfl rfl (by decide +kernel) ⟨Nat.le_of_ble_eq_true rfl, Nat.le_of_ble_eq_true rfl⟩) hK hP (va_recv hK hP (ci := 8) (q0 := 0) rfl rfl) rfl hl.1 rfl (Nat.le_of_ble_eq_true rfl) dX9_isEnd_42 ⟨Nat.zero_le _, Nat.zero_le _⟩ ?_
      refine lv_if_ne (tgt := 52) hx hb dX9_isEnd_45 (by decide) (fun c_45 => ?_) (fun c_45 => ?_)
      · have hf := ip c_45 hf
        refine lv_iconst (v := 0) hx hb dX9_isEnd_52 (by decide) ?_
        obtain ⟨hz, hf⟩ := gd_ob hf
        exact rW_z hx hb hr hlocks hP hD hS hz (congrArg (fun q9 => q9.1) (so_ob hf)) (congrArg (fun (q9 : Int32 × (OS)) => wM cI cB cZ q q9.2) (so_ob hf)) dX9_isEnd_53
      · have hf := iqn c_45 hf
        refine lv_iconst (v := 1) hx hb dX9_isEnd_48 (by decide) ?_
        refine lv_goto (tgt := 53) hx hb dX9_isEnd_49 (by decide) ?_
        obtain ⟨hz, hf⟩ := gd_ob hf
        exact rW_z hx hb hr hlocks hP hD hS hz (congrArg (fun q9 => q9.1) (so_ob hf)) (congrArg (fun (q9 : Int32 × (OS)) => wM cI cB cZ q q9.2) (so_ob hf)) dX9_isEnd_53
    refine lv_icmp_eq (tgt := 31) hx hb dX9_isEnd_19 (by decide) (fun c_19 => ?_) (fun c_19 => ?_)
    · have hf := ip c_19 hf
      exact hp31 z_3 _ _ _ hf hP hD hS hl
    · have hf := iq c_19 hf
      refine lv_aload_n hx hb dX9_isEnd_22 rfl (lv_at hl 0 rfl) ?_
      refine lv_aload_n hx hb dX9_isEnd_23 rfl (lv_at hl 0 rfl) ?_
      refine va_get (D := D) (ci := 8) (v := .int (z_3.1 19)) (C := RX9) (T := TX9) (N := 27) hx hb hts hiX9 hown hK hP 0 rfl rfl 19 (by decide) k165 (fun _ h9 => h9) rfl dX9_isEnd_24 ?_
      refine lv_iconst (v := 1) hx hb dX9_isEnd_27 (by decide) ?_
      obtain ⟨z_10, hc_11, hf⟩ := bd_ob hf
      refine weV (As := [.int (z_3.1 19), .int (1 : Int32)]) (rest := []) ⟨hx, hb, hml, hown, hts⟩ (mX9_fails l D cI cB cZ cO q _ fu z_3 (z_3.1 19) (1 : Int32) hc_11) (cwV 2 hts gX9_isEnd_X9_fails rfl rfl rfl (by decide +kernel) ⟨Nat.le_of_ble_eq_true rfl, Nat.le_of_ble_eq_true rfl⟩) hK hP hD hS hA (va_recv hK hP (ci := 8) (q0 := 0) rfl rfl) rfl hl.1 rfl (Nat.le_of_ble_eq_true rfl) dX9_isEnd_28 ⟨Nat.zero_le _, Nat.zero_le _⟩ (fun H locs hP hD hS => ?_)
      exact hp31 z_10 _ _ _ hf hP hD hS hl
  · have hf := iq c_4 hf
    refine lv_iconst (v := 0) hx hb dX9_isEnd_7 (by decide) ?_
    obtain ⟨hz, hf⟩ := gd_ob hf
    exact rW_z hx hb hr hlocks hP hD hS hz (congrArg (fun q9 => q9.1) (so_ob hf)) (congrArg (fun (q9 : Int32 × (OS)) => wM cI cB cZ q q9.2) (so_ob hf)) dX9_isEnd_8

def fX9_takesNewClause (fu : Nat) (z : OS) (p1 : Int32) : Option ((OS)) :=
  bd (fX9_many fu z) (fun (r_1 : Int32) => jn (κ := OS → Option ((OS))) (fun (z1_15 : OS) => bd (fX9_takesLiterals fu z1_15) (fun (z_3 : OS) => bd (fX9_hasFailed fu z_3) (fun (r_5 : Int32) => jn (κ := OS → Option ((OS))) (fun (z1_40 : OS) => bd (fX9_isEnd fu z1_40) (fun (w_9 : Int32 × OS) => nm w_9.1 (fun (r_7 : Int32) => nm w_9.2 (fun (z_8 : OS) => (if r_7 = (0 : Int32) then some z_8 else bd (fX9_adds fu z_8 (-1 : Int32) (-1 : Int32) (-1 : Int32)) (fun (w_13 : Int32 × OS) => nm w_13.1 (fun (r_11 : Int32) => nm w_13.2 (fun (z_12 : OS) => some z_12)))))))) (fun j40 => (if ¬ r_5 = (0 : Int32) then j40 z_3 else bd (fX9_same fu z_3) (fun (r_15 : Int32) => (if r_15 = (-1 : Int32) then j40 z_3 else bd (fX9_fails fu z_3 p1 (4 : Int32)) (fun (z_17 : OS) => j40 z_17)))))))) (fun j15 => (if ¬ r_1 = (60 : Int32) then j15 z else bd (fX9_fails fu z p1 (4 : Int32)) (fun (z_19 : OS) => j15 z_19))))
set_option maxRecDepth 100000 in
set_option maxHeartbeats 4000000 in
theorem mX9_takesNewClause (l : Launch) (D : va_G) (cI cB cZ cO : ClassId) (q : Nat → Nat) (sz : Nat) (fu : Nat) (z : OS) (p1 : Int32) {y1 : OS} (hf : fX9_takesNewClause fu z p1 = some y1) : Met l yX9_takesNewClause wsX9_takesNewClause ({ frames := 5, cells := 0, slots := 0, locals := 109 }) (va_Pc [.ref (q 0), .int p1] (Pw D (gT cI cB cZ cO) (wM cI cB cZ q z) sz)) (Qw D (va_A (wM cI cB cZ q z) sz) none (wM cI cB cZ q y1)) 0 0 (va_A (wM cI cB cZ q z) sz) := by
  unfold fX9_takesNewClause at hf
  refine metW (ret := none) (own := RX9) rfl (by decide) rfl (Nat.le_of_ble_eq_true rfl) (fun p e s m args below meth c ls A hx hb hr hml hown hlocks hts hK hA hP hD hS hl => ?_)
  have hl : lv_has ls 3 [(0, .ref (q 0)), (1, .int p1)] := hl
  refine lv_aload_n hx hb dX9_takesNewClause_0 rfl (lv_at hl 0 rfl) ?_
  obtain ⟨r_1, hc_2, hf⟩ := bd_ob hf
  refine rdV (As := []) (rest := []) ⟨hx, hb, hml, hown, hts⟩ (mX9_many l D cI cB cZ cO q fu z hc_2) (cwV 0 hts gX9_takesNewClause_X9_many rfl rfl rfl (by decide +kernel) ⟨Nat.le_of_ble_eq_true rfl, Nat.le_of_ble_eq_true rfl⟩) hK hP (va_recv hK hP (ci := 8) (q0 := 0) rfl rfl) rfl hl.1 rfl (Nat.le_of_ble_eq_true rfl) dX9_takesNewClause_1 ⟨Nat.zero_le _, Nat.zero_le _⟩ ?_
  refine lv_bipush (v := 60) hx hb dX9_takesNewClause_4 (by decide) ?_
  obtain ⟨j15, ej15, hf⟩ := jn_ob hf
  have hp15 : ∀ (z1_15 : OS) (H : Heap) (locs : List Loc) (ls : Array Slot), j15 z1_15 = some y1 → va_P D vwCl (wM cI cB cZ q z1_15) H → va_D A (wM cI cB cZ q z1_15) → va_S A s.heap H locs → lv_has ls 3 [(0, .ref (q 0)), (1, .int p1)] → W p l e (headSpec wsX9_takesNewClause { frames := 5, cells := 0, slots := 0, locals := 109 }).room s m args below meth c H locs 0 0 (MQ below (Qw D A none (wM cI cB cZ q y1)) args s 0 0 A) (F0 m 15 ls []) := by
    intro z1_15 H locs ls hf hP hD hS hl
    rw [ej15] at hf
    refine lv_aload_n hx hb dX9_takesNewClause_15 rfl (lv_at hl 0 rfl) ?_
    obtain ⟨z_3, hc_4, hf⟩ := bd_ob hf
    refine weV (As := []) (rest := []) ⟨hx, hb, hml, hown, hts⟩ (mX9_takesLiterals l D cI cB cZ cO q _ fu z1_15 hc_4) (cwV 0 hts gX9_takesNewClause_X9_takesLiterals rfl rfl rfl (by decide +kernel) ⟨Nat.le_of_ble_eq_true rfl, Nat.le_of_ble_eq_true rfl⟩) hK hP hD hS hA (va_recv hK hP (ci := 8) (q0 := 0) rfl rfl) rfl hl.1 rfl (Nat.le_of_ble_eq_true rfl) dX9_takesNewClause_16 ⟨Nat.zero_le _, Nat.zero_le _⟩ (fun H locs hP hD hS => ?_)
    refine lv_aload_n hx hb dX9_takesNewClause_19 rfl (lv_at hl 0 rfl) ?_
    obtain ⟨r_5, hc_6, hf⟩ := bd_ob hf
    refine rdV (As := []) (rest := []) ⟨hx, hb, hml, hown, hts⟩ (mX9_hasFailed l D cI cB cZ cO q fu z_3 hc_6) (cwV 0 hts gX9_takesNewClause_X9_hasFailed rfl rfl rfl (by decide +kernel) ⟨Nat.le_of_ble_eq_true rfl, Nat.le_of_ble_eq_true rfl⟩) hK hP (va_recv hK hP (ci := 8) (q0 := 0) rfl rfl) rfl hl.1 rfl (Nat.le_of_ble_eq_true rfl) dX9_takesNewClause_20 ⟨Nat.zero_le _, Nat.zero_le _⟩ ?_
    obtain ⟨j40, ej40, hf⟩ := jn_ob hf
    have hp40 : ∀ (z1_40 : OS) (H : Heap) (locs : List Loc) (ls : Array Slot), j40 z1_40 = some y1 → va_P D vwCl (wM cI cB cZ q z1_40) H → va_D A (wM cI cB cZ q z1_40) → va_S A s.heap H locs → lv_has ls 3 [(0, .ref (q 0))] → W p l e (headSpec wsX9_takesNewClause { frames := 5, cells := 0, slots := 0, locals := 109 }).room s m args below meth c H locs 0 0 (MQ below (Qw D A none (wM cI cB cZ q y1)) args s 0 0 A) (F0 m 40 ls []) := by
      intro z1_40 H locs ls hf hP hD hS hl
      rw [ej40] at hf
      refine lv_aload_n hx hb dX9_takesNewClause_40 rfl (lv_at hl 0 rfl) ?_
      obtain ⟨⟨r_7, z_8⟩, hc_10, hf⟩ := bd_ob hf
      have hf := nm_st hf
      have hf := nm_st hf
      refine weV (As := []) (rest := []) ⟨hx, hb, hml, hown, hts⟩ (mX9_isEnd l D cI cB cZ cO q _ fu z1_40 hc_10) (cwV 0 hts gX9_takesNewClause_X9_isEnd rfl rfl rfl (by decide +kernel) ⟨Nat.le_of_ble_eq_true rfl, Nat.le_of_ble_eq_true rfl⟩) hK hP hD hS hA (va_recv hK hP (ci := 8) (q0 := 0) rfl rfl) rfl hl.1 rfl (Nat.le_of_ble_eq_true rfl) dX9_takesNewClause_41 ⟨Nat.zero_le _, Nat.zero_le _⟩ (fun H locs hP hD hS => ?_)
      refine lv_if_eq (tgt := 55) hx hb dX9_takesNewClause_44 (by decide) (fun c_44 => ?_) (fun c_44 => ?_)
      · have hf := ip c_44 hf
        exact rW_v hx hb hr hlocks hP hD hS (congrArg (fun (q9 : (OS)) => wM cI cB cZ q q9) (so_ob hf)) dX9_takesNewClause_55
      · have hf := iq c_44 hf
        refine lv_aload_n hx hb dX9_takesNewClause_47 rfl (lv_at hl 0 rfl) ?_
        refine lv_iconst (v := (-1)) hx hb dX9_takesNewClause_48 (by decide) ?_
        refine lv_iconst (v := (-1)) hx hb dX9_takesNewClause_49 (by decide) ?_
        refine lv_iconst (v := (-1)) hx hb dX9_takesNewClause_50 (by decide) ?_
        obtain ⟨⟨r_11, z_12⟩, hc_14, hf⟩ := bd_ob hf
        have hf := nm_st hf
        have hf := nm_st hf
        refine weV (As := [.int (-1 : Int32), .int (-1 : Int32), .int (-1 : Int32)]) (rest := []) ⟨hx, hb, hml, hown, hts⟩ (mX9_adds l D cI cB cZ cO q _ fu z_8 (-1 : Int32) (-1 : Int32) (-1 : Int32) hc_14) (cwV 3 hts gX9_takesNewClause_X9_adds rfl rfl rfl (by decide +kernel) ⟨Nat.le_of_ble_eq_true rfl, Nat.le_of_ble_eq_true rfl⟩) hK hP hD hS hA (va_recv hK hP (ci := 8) (q0 := 0) rfl rfl) rfl hl.1 rfl (Nat.le_of_ble_eq_true rfl) dX9_takesNewClause_51 ⟨Nat.zero_le _, Nat.zero_le _⟩ (fun H locs hP hD hS => ?_)
        refine lv_istore_n (lv' := [(2, .int r_11), (0, .ref (q 0))]) hx hb dX9_takesNewClause_54 rfl hl (by decide) rfl (fun ls hl => ?_)
        exact rW_v hx hb hr hlocks hP hD hS (congrArg (fun (q9 : (OS)) => wM cI cB cZ q q9) (so_ob hf)) dX9_takesNewClause_55
    refine lv_if_ne (tgt := 40) hx hb dX9_takesNewClause_23 (by decide) (fun c_23 => ?_) (fun c_23 => ?_)
    · have hf := ip c_23 hf
      exact hp40 z_3 _ _ _ hf hP hD hS (lv_sub hl [0] rfl)
    · have hf := iqn c_23 hf
      refine lv_aload_n hx hb dX9_takesNewClause_26 rfl (lv_at hl 0 rfl) ?_
      obtain ⟨r_15, hc_16, hf⟩ := bd_ob hf
      refine rdV (As := []) (rest := []) ⟨hx, hb, hml, hown, hts⟩ (mX9_same l D cI cB cZ cO q fu z_3 hc_16) (cwV 0 hts gX9_takesNewClause_X9_same rfl rfl rfl (by decide +kernel) ⟨Nat.le_of_ble_eq_true rfl, Nat.le_of_ble_eq_true rfl⟩) hK hP (va_recv hK hP (ci := 8) (q0 := 0) rfl rfl) rfl hl.1 rfl (Nat.le_of_ble_eq_true rfl) dX9_takesNewClause_27 ⟨Nat.zero_le _, Nat.zero_le _⟩ ?_
      refine lv_iconst (v := (-1)) hx hb dX9_takesNewClause_30 (by decide) ?_
      refine lv_icmp_eq (tgt := 40) hx hb dX9_takesNewClause_31 (by decide) (fun c_31 => ?_) (fun c_31 => ?_)
      · have hf := ip c_31 hf
        exact hp40 z_3 _ _ _ hf hP hD hS (lv_sub hl [0] rfl)
      · have hf := iq c_31 hf
        refine lv_aload_n hx hb dX9_takesNewClause_34 rfl (lv_at hl 0 rfl) ?_
        refine lv_iload_n hx hb dX9_takesNewClause_35 rfl (lv_at hl 1 rfl) ?_
        refine lv_iconst (v := 4) hx hb dX9_takesNewClause_36 (by decide) ?_
        obtain ⟨z_17, hc_18, hf⟩ := bd_ob hf
        refine weV (As := [.int p1, .int (4 : Int32)]) (rest := []) ⟨hx, hb, hml, hown, hts⟩ (mX9_fails l D cI cB cZ cO q _ fu z_3 p1 (4 : Int32) hc_18) (cwV 2 hts gX9_takesNewClause_X9_fails rfl rfl rfl (by decide +kernel) ⟨Nat.le_of_ble_eq_true rfl, Nat.le_of_ble_eq_true rfl⟩) hK hP hD hS hA (va_recv hK hP (ci := 8) (q0 := 0) rfl rfl) rfl hl.1 rfl (Nat.le_of_ble_eq_true rfl) dX9_takesNewClause_37 ⟨Nat.zero_le _, Nat.zero_le _⟩ (fun H locs hP hD hS => ?_)
        exact hp40 z_17 _ _ _ hf hP hD hS (lv_sub hl [0] rfl)
  refine lv_icmp_ne (tgt := 15) hx hb dX9_takesNewClause_6 (by decide) (fun c_6 => ?_) (fun c_6 => ?_)
  · have hf := ip c_6 hf
    exact hp15 z _ _ _ hf hP hD hS hl
  · have hf := iqn c_6 hf
    refine lv_aload_n hx hb dX9_takesNewClause_9 rfl (lv_at hl 0 rfl) ?_
    refine lv_iload_n hx hb dX9_takesNewClause_10 rfl (lv_at hl 1 rfl) ?_
    refine lv_iconst (v := 4) hx hb dX9_takesNewClause_11 (by decide) ?_
    obtain ⟨z_19, hc_20, hf⟩ := bd_ob hf
    refine weV (As := [.int p1, .int (4 : Int32)]) (rest := []) ⟨hx, hb, hml, hown, hts⟩ (mX9_fails l D cI cB cZ cO q _ fu z p1 (4 : Int32) hc_20) (cwV 2 hts gX9_takesNewClause_X9_fails rfl rfl rfl (by decide +kernel) ⟨Nat.le_of_ble_eq_true rfl, Nat.le_of_ble_eq_true rfl⟩) hK hP hD hS hA (va_recv hK hP (ci := 8) (q0 := 0) rfl rfl) rfl hl.1 rfl (Nat.le_of_ble_eq_true rfl) dX9_takesNewClause_12 ⟨Nat.zero_le _, Nat.zero_le _⟩ (fun H locs hP hD hS => ?_)
    exact hp15 z_19 _ _ _ hf hP hD hS hl

def fX9_takesResolve (fu : Nat) (z : OS) : Option ((OS)) :=
  bd (fX9_takesClause fu z) (fun (w_3 : Int32 × OS) => nm w_3.1 (fun (r_1 : Int32) => nm w_3.2 (fun (z_2 : OS) => bd (fX9_takesClause fu z_2) (fun (w_7 : Int32 × OS) => nm w_7.1 (fun (r_5 : Int32) => nm w_7.2 (fun (z_6 : OS) => bd (fX9_hasFailed fu z_6) (fun (r_9 : Int32) => jn (κ := OS → Option ((OS))) (fun (z1_45 : OS) => bd (fX9_hasFailed fu z1_45) (fun (r_11 : Int32) => jn (κ := OS → Option ((OS))) (fun (z1_75 : OS) => bd (fX9_isEnd fu z1_75) (fun (w_15 : Int32 × OS) => nm w_15.1 (fun (r_13 : Int32) => nm w_15.2 (fun (z_14 : OS) => (if r_13 = (0 : Int32) then some z_14 else bd (fX9_addsResolvent fu z_14 r_1 r_5) (fun (w_19 : Int32 × OS) => nm w_19.1 (fun (r_17 : Int32) => nm w_19.2 (fun (z_18 : OS) => some z_18)))))))) (fun j75 => (if ¬ r_11 = (0 : Int32) then j75 z1_45 else bd (fX9_resolves fu z1_45 r_1 r_5) (fun (z_21 : OS) => bd (fX9_same fu z_21) (fun (r_23 : Int32) => (if r_23 = (-1 : Int32) then j75 z_21 else bd (fX9_fails fu z_21 (z_21.1 23) (4 : Int32)) (fun (z_25 : OS) => j75 z_25)))))))) (fun j45 => (if ¬ r_9 = (0 : Int32) then j45 z_6 else bd (fX9_many fu z_6) (fun (r_27 : Int32) => jn (κ := Option ((OS))) (bd (fX9_fails fu z_6 (z_6.1 23) (4 : Int32)) (fun (z_29 : OS) => j45 z_29)) (fun j36 => (if r_27 = (60 : Int32) then j36 else bd (fX9_clashing fu z_6 r_1 r_5) (fun (r_31 : Int32) => (if r_31 = (1 : Int32) then j45 z_6 else j36))))))))))))))
set_option maxRecDepth 100000 in
set_option maxHeartbeats 4000000 in
theorem mX9_takesResolve (l : Launch) (D : va_G) (cI cB cZ cO : ClassId) (q : Nat → Nat) (sz : Nat) (fu : Nat) (z : OS) {y1 : OS} (hf : fX9_takesResolve fu z = some y1) : Met l yX9_takesResolve wsX9_takesResolve ({ frames := 4, cells := 0, slots := 0, locals := 94 }) (va_Pc [.ref (q 0)] (Pw D (gT cI cB cZ cO) (wM cI cB cZ q z) sz)) (Qw D (va_A (wM cI cB cZ q z) sz) none (wM cI cB cZ q y1)) 0 0 (va_A (wM cI cB cZ q z) sz) := by
  unfold fX9_takesResolve at hf
  refine metW (ret := none) (own := RX9) rfl (by decide) rfl (Nat.le_of_ble_eq_true rfl) (fun p e s m args below meth c ls A hx hb hr hml hown hlocks hts hK hA hP hD hS hl => ?_)
  have k194 := (hts (.fieldLink RX9 194 "ResolutionProverModel" "tokenBegin" "I") (List.mem_of_getElem? (i := 1) rfl))
  have hiX9 : ∀ w ∈ wsX90, w ∈ wsX9_takesResolve := (memIn_p [92, 93, 94, 95, 96, 97, 98, 99, 100, 101, 102, 103, 104, 105, 106, 107, 108, 109, 110, 111, 112, 113, 114, 115, 116, 117, 118] rfl)
  have hl : lv_has ls 4 [(0, .ref (q 0))] := hl
  refine lv_aload_n hx hb dX9_takesResolve_0 rfl (lv_at hl 0 rfl) ?_
  obtain ⟨⟨r_1, z_2⟩, hc_4, hf⟩ := bd_ob hf
  have hf := nm_st hf
  have hf := nm_st hf
  refine weV (As := []) (rest := []) ⟨hx, hb, hml, hown, hts⟩ (mX9_takesClause l D cI cB cZ cO q _ fu z hc_4) (cwV 0 hts gX9_takesResolve_X9_takesClause rfl rfl rfl (by decide +kernel) ⟨Nat.le_of_ble_eq_true rfl, Nat.le_of_ble_eq_true rfl⟩) hK hP hD hS hA (va_recv hK hP (ci := 8) (q0 := 0) rfl rfl) rfl hl.1 rfl (Nat.le_of_ble_eq_true rfl) dX9_takesResolve_1 ⟨Nat.zero_le _, Nat.zero_le _⟩ (fun H locs hP hD hS => ?_)
  refine lv_istore_n (lv' := [(1, .int r_1), (0, .ref (q 0))]) hx hb dX9_takesResolve_4 rfl hl (by decide) rfl (fun ls hl => ?_)
  refine lv_aload_n hx hb dX9_takesResolve_5 rfl (lv_at hl 1 rfl) ?_
  obtain ⟨⟨r_5, z_6⟩, hc_8, hf⟩ := bd_ob hf
  have hf := nm_st hf
  have hf := nm_st hf
  refine weV (As := []) (rest := []) ⟨hx, hb, hml, hown, hts⟩ (mX9_takesClause l D cI cB cZ cO q _ fu z_2 hc_8) (cwV 0 hts gX9_takesResolve_X9_takesClause rfl rfl rfl (by decide +kernel) ⟨Nat.le_of_ble_eq_true rfl, Nat.le_of_ble_eq_true rfl⟩) hK hP hD hS hA (va_recv hK hP (ci := 8) (q0 := 0) rfl rfl) rfl hl.1 rfl (Nat.le_of_ble_eq_true rfl) dX9_takesResolve_6 ⟨Nat.zero_le _, Nat.zero_le _⟩ (fun H locs hP hD hS => ?_)
  refine lv_istore_n (lv' := [(2, .int r_5), (1, .int r_1), (0, .ref (q 0))]) hx hb dX9_takesResolve_9 rfl hl (by decide) rfl (fun ls hl => ?_)
  refine lv_aload_n hx hb dX9_takesResolve_10 rfl (lv_at hl 2 rfl) ?_
  obtain ⟨r_9, hc_10, hf⟩ := bd_ob hf
  refine rdV (As := []) (rest := []) ⟨hx, hb, hml, hown, hts⟩ (mX9_hasFailed l D cI cB cZ cO q fu z_6 hc_10) (cwV 0 hts gX9_takesResolve_X9_hasFailed rfl rfl rfl (by decide +kernel) ⟨Nat.le_of_ble_eq_true rfl, Nat.le_of_ble_eq_true rfl⟩) hK hP (va_recv hK hP (ci := 8) (q0 := 0) rfl rfl) rfl hl.1 rfl (Nat.le_of_ble_eq_true rfl) dX9_takesResolve_11 ⟨Nat.zero_le _, Nat.zero_le _⟩ ?_
  obtain ⟨j45, ej45, hf⟩ := jn_ob hf
  have hp45 : ∀ (z1_45 : OS) (H : Heap) (locs : List Loc) (ls : Array Slot), j45 z1_45 = some y1 → va_P D vwCl (wM cI cB cZ q z1_45) H → va_D A (wM cI cB cZ q z1_45) → va_S A s.heap H locs → lv_has ls 4 [(0, .ref (q 0)), (1, .int r_1), (2, .int r_5)] → W p l e (headSpec wsX9_takesResolve { frames := 4, cells := 0, slots := 0, locals := 94 }).room s m args below meth c H locs 0 0 (MQ below (Qw D A none (wM cI cB cZ q y1)) args s 0 0 A) (F0 m 45 ls []) := by
    intro z1_45 H locs ls hf hP hD hS hl
    rw [ej45] at hf
    refine lv_aload_n hx hb dX9_takesResolve_45 rfl (lv_at hl 0 rfl) ?_
    obtain ⟨r_11, hc_12, hf⟩ := bd_ob hf
    refine rdV (As := []) (rest := []) ⟨hx, hb, hml, hown, hts⟩ (mX9_hasFailed l D cI cB cZ cO q fu z1_45 hc_12) (cwV 0 hts gX9_takesResolve_X9_hasFailed rfl rfl rfl (by decide +kernel) ⟨Nat.le_of_ble_eq_true rfl, Nat.le_of_ble_eq_true rfl⟩) hK hP (va_recv hK hP (ci := 8) (q0 := 0) rfl rfl) rfl hl.1 rfl (Nat.le_of_ble_eq_true rfl) dX9_takesResolve_46 ⟨Nat.zero_le _, Nat.zero_le _⟩ ?_
    obtain ⟨j75, ej75, hf⟩ := jn_ob hf
    have hp75 : ∀ (z1_75 : OS) (H : Heap) (locs : List Loc) (ls : Array Slot), j75 z1_75 = some y1 → va_P D vwCl (wM cI cB cZ q z1_75) H → va_D A (wM cI cB cZ q z1_75) → va_S A s.heap H locs → lv_has ls 4 [(0, .ref (q 0)), (1, .int r_1), (2, .int r_5)] → W p l e (headSpec wsX9_takesResolve { frames := 4, cells := 0, slots := 0, locals := 94 }).room s m args below meth c H locs 0 0 (MQ below (Qw D A none (wM cI cB cZ q y1)) args s 0 0 A) (F0 m 75 ls []) := by
      intro z1_75 H locs ls hf hP hD hS hl
      rw [ej75] at hf
      refine lv_aload_n hx hb dX9_takesResolve_75 rfl (lv_at hl 0 rfl) ?_
      obtain ⟨⟨r_13, z_14⟩, hc_16, hf⟩ := bd_ob hf
      have hf := nm_st hf
      have hf := nm_st hf
      refine weV (As := []) (rest := []) ⟨hx, hb, hml, hown, hts⟩ (mX9_isEnd l D cI cB cZ cO q _ fu z1_75 hc_16) (cwV 0 hts gX9_takesResolve_X9_isEnd rfl rfl rfl (by decide +kernel) ⟨Nat.le_of_ble_eq_true rfl, Nat.le_of_ble_eq_true rfl⟩) hK hP hD hS hA (va_recv hK hP (ci := 8) (q0 := 0) rfl rfl) rfl hl.1 rfl (Nat.le_of_ble_eq_true rfl) dX9_takesResolve_76 ⟨Nat.zero_le _, Nat.zero_le _⟩ (fun H locs hP hD hS => ?_)
      refine lv_if_eq (tgt := 89) hx hb dX9_takesResolve_79 (by decide) (fun c_79 => ?_) (fun c_79 => ?_)
      · have hf := ip c_79 hf
        exact rW_v hx hb hr hlocks hP hD hS (congrArg (fun (q9 : (OS)) => wM cI cB cZ q q9) (so_ob hf)) dX9_takesResolve_89
      · have hf := iq c_79 hf
        refine lv_aload_n hx hb dX9_takesResolve_82 rfl (lv_at hl 0 rfl) ?_
        refine lv_iload_n hx hb dX9_takesResolve_83 rfl (lv_at hl 1 rfl) ?_
        refine lv_iload_n hx hb dX9_takesResolve_84 rfl (lv_at hl 2 rfl) ?_
        obtain ⟨⟨r_17, z_18⟩, hc_20, hf⟩ := bd_ob hf
        have hf := nm_st hf
        have hf := nm_st hf
        refine weV (As := [.int r_1, .int r_5]) (rest := []) ⟨hx, hb, hml, hown, hts⟩ (mX9_addsResolvent l D cI cB cZ cO q _ fu z_14 r_1 r_5 hc_20) (cwV 2 hts gX9_takesResolve_X9_addsResolvent rfl rfl rfl (by decide +kernel) ⟨Nat.le_of_ble_eq_true rfl, Nat.le_of_ble_eq_true rfl⟩) hK hP hD hS hA (va_recv hK hP (ci := 8) (q0 := 0) rfl rfl) rfl hl.1 rfl (Nat.le_of_ble_eq_true rfl) dX9_takesResolve_85 ⟨Nat.zero_le _, Nat.zero_le _⟩ (fun H locs hP hD hS => ?_)
        refine lv_istore_n (lv' := [(3, .int r_17), (0, .ref (q 0)), (1, .int r_1), (2, .int r_5)]) hx hb dX9_takesResolve_88 rfl hl (by decide) rfl (fun ls hl => ?_)
        exact rW_v hx hb hr hlocks hP hD hS (congrArg (fun (q9 : (OS)) => wM cI cB cZ q q9) (so_ob hf)) dX9_takesResolve_89
    refine lv_if_ne (tgt := 75) hx hb dX9_takesResolve_49 (by decide) (fun c_49 => ?_) (fun c_49 => ?_)
    · have hf := ip c_49 hf
      exact hp75 z1_45 _ _ _ hf hP hD hS hl
    · have hf := iqn c_49 hf
      refine lv_aload_n hx hb dX9_takesResolve_52 rfl (lv_at hl 0 rfl) ?_
      refine lv_iload_n hx hb dX9_takesResolve_53 rfl (lv_at hl 1 rfl) ?_
      refine lv_iload_n hx hb dX9_takesResolve_54 rfl (lv_at hl 2 rfl) ?_
      obtain ⟨z_21, hc_22, hf⟩ := bd_ob hf
      refine weV (As := [.int r_1, .int r_5]) (rest := []) ⟨hx, hb, hml, hown, hts⟩ (mX9_resolves l D cI cB cZ cO q _ fu z1_45 r_1 r_5 hc_22) (cwV 2 hts gX9_takesResolve_X9_resolves rfl rfl rfl (by decide +kernel) ⟨Nat.le_of_ble_eq_true rfl, Nat.le_of_ble_eq_true rfl⟩) hK hP hD hS hA (va_recv hK hP (ci := 8) (q0 := 0) rfl rfl) rfl hl.1 rfl (Nat.le_of_ble_eq_true rfl) dX9_takesResolve_55 ⟨Nat.zero_le _, Nat.zero_le _⟩ (fun H locs hP hD hS => ?_)
      refine lv_aload_n hx hb dX9_takesResolve_58 rfl (lv_at hl 0 rfl) ?_
      obtain ⟨r_23, hc_24, hf⟩ := bd_ob hf
      refine rdV (As := []) (rest := []) ⟨hx, hb, hml, hown, hts⟩ (mX9_same l D cI cB cZ cO q fu z_21 hc_24) (cwV 0 hts gX9_takesResolve_X9_same rfl rfl rfl (by decide +kernel) ⟨Nat.le_of_ble_eq_true rfl, Nat.le_of_ble_eq_true rfl⟩) hK hP (va_recv hK hP (ci := 8) (q0 := 0) rfl rfl) rfl hl.1 rfl (Nat.le_of_ble_eq_true rfl) dX9_takesResolve_59 ⟨Nat.zero_le _, Nat.zero_le _⟩ ?_
      refine lv_iconst (v := (-1)) hx hb dX9_takesResolve_62 (by decide) ?_
      refine lv_icmp_eq (tgt := 75) hx hb dX9_takesResolve_63 (by decide) (fun c_63 => ?_) (fun c_63 => ?_)
      · have hf := ip c_63 hf
        exact hp75 z_21 _ _ _ hf hP hD hS hl
      · have hf := iq c_63 hf
        refine lv_aload_n hx hb dX9_takesResolve_66 rfl (lv_at hl 0 rfl) ?_
        refine lv_aload_n hx hb dX9_takesResolve_67 rfl (lv_at hl 0 rfl) ?_
        refine va_get (D := D) (ci := 8) (v := .int (z_21.1 23)) (C := RX9) (T := TX9) (N := 27) hx hb hts hiX9 hown hK hP 0 rfl rfl 23 (by decide) k194 (fun _ h9 => h9) rfl dX9_takesResolve_68 ?_
        refine lv_iconst (v := 4) hx hb dX9_takesResolve_71 (by decide) ?_
        obtain ⟨z_25, hc_26, hf⟩ := bd_ob hf
        refine weV (As := [.int (z_21.1 23), .int (4 : Int32)]) (rest := []) ⟨hx, hb, hml, hown, hts⟩ (mX9_fails l D cI cB cZ cO q _ fu z_21 (z_21.1 23) (4 : Int32) hc_26) (cwV 2 hts gX9_takesResolve_X9_fails rfl rfl rfl (by decide +kernel) ⟨Nat.le_of_ble_eq_true rfl, Nat.le_of_ble_eq_true rfl⟩) hK hP hD hS hA (va_recv hK hP (ci := 8) (q0 := 0) rfl rfl) rfl hl.1 rfl (Nat.le_of_ble_eq_true rfl) dX9_takesResolve_72 ⟨Nat.zero_le _, Nat.zero_le _⟩ (fun H locs hP hD hS => ?_)
        exact hp75 z_25 _ _ _ hf hP hD hS hl
  refine lv_if_ne (tgt := 45) hx hb dX9_takesResolve_14 (by decide) (fun c_14 => ?_) (fun c_14 => ?_)
  · have hf := ip c_14 hf
    exact hp45 z_6 _ _ _ hf hP hD hS (lv_sub hl [2, 1, 0] rfl)
  · have hf := iqn c_14 hf
    refine lv_aload_n hx hb dX9_takesResolve_17 rfl (lv_at hl 2 rfl) ?_
    obtain ⟨r_27, hc_28, hf⟩ := bd_ob hf
    refine rdV (As := []) (rest := []) ⟨hx, hb, hml, hown, hts⟩ (mX9_many l D cI cB cZ cO q fu z_6 hc_28) (cwV 0 hts gX9_takesResolve_X9_many rfl rfl rfl (by decide +kernel) ⟨Nat.le_of_ble_eq_true rfl, Nat.le_of_ble_eq_true rfl⟩) hK hP (va_recv hK hP (ci := 8) (q0 := 0) rfl rfl) rfl hl.1 rfl (Nat.le_of_ble_eq_true rfl) dX9_takesResolve_18 ⟨Nat.zero_le _, Nat.zero_le _⟩ ?_
    refine lv_bipush (v := 60) hx hb dX9_takesResolve_21 (by decide) ?_
    obtain ⟨j36, ej36, hf⟩ := jn_ob hf
    have hp36 : ∀  (H : Heap) (locs : List Loc) (ls : Array Slot), j36 = some y1 → va_P D vwCl (wM cI cB cZ q z_6) H → va_D A (wM cI cB cZ q z_6) → va_S A s.heap H locs → lv_has ls 4 [(0, .ref (q 0)), (1, .int r_1), (2, .int r_5)] → W p l e (headSpec wsX9_takesResolve { frames := 4, cells := 0, slots := 0, locals := 94 }).room s m args below meth c H locs 0 0 (MQ below (Qw D A none (wM cI cB cZ q y1)) args s 0 0 A) (F0 m 36 ls []) := by
      intro H locs ls hf hP hD hS hl
      rw [ej36] at hf
      refine lv_aload_n hx hb dX9_takesResolve_36 rfl (lv_at hl 0 rfl) ?_
      refine lv_aload_n hx hb dX9_takesResolve_37 rfl (lv_at hl 0 rfl) ?_
      refine va_get (D := D) (ci := 8) (v := .int (z_6.1 23)) (C := RX9) (T := TX9) (N := 27) hx hb hts hiX9 hown hK hP 0 rfl rfl 23 (by decide) k194 (fun _ h9 => h9) rfl dX9_takesResolve_38 ?_
      refine lv_iconst (v := 4) hx hb dX9_takesResolve_41 (by decide) ?_
      obtain ⟨z_29, hc_30, hf⟩ := bd_ob hf
      refine weV (As := [.int (z_6.1 23), .int (4 : Int32)]) (rest := []) ⟨hx, hb, hml, hown, hts⟩ (mX9_fails l D cI cB cZ cO q _ fu z_6 (z_6.1 23) (4 : Int32) hc_30) (cwV 2 hts gX9_takesResolve_X9_fails rfl rfl rfl (by decide +kernel) ⟨Nat.le_of_ble_eq_true rfl, Nat.le_of_ble_eq_true rfl⟩) hK hP hD hS hA (va_recv hK hP (ci := 8) (q0 := 0) rfl rfl) rfl hl.1 rfl (Nat.le_of_ble_eq_true rfl) dX9_takesResolve_42 ⟨Nat.zero_le _, Nat.zero_le _⟩ (fun H locs hP hD hS => ?_)
      exact hp45 z_29 _ _ _ hf hP hD hS hl
    refine lv_icmp_eq (tgt := 36) hx hb dX9_takesResolve_23 (by decide) (fun c_23 => ?_) (fun c_23 => ?_)
    · have hf := ip c_23 hf
      exact hp36 _ _ _ hf hP hD hS (lv_sub hl [2, 1, 0] rfl)
    · have hf := iq c_23 hf
      refine lv_aload_n hx hb dX9_takesResolve_26 rfl (lv_at hl 2 rfl) ?_
      refine lv_iload_n hx hb dX9_takesResolve_27 rfl (lv_at hl 1 rfl) ?_
      refine lv_iload_n hx hb dX9_takesResolve_28 rfl (lv_at hl 0 rfl) ?_
      obtain ⟨r_31, hc_32, hf⟩ := bd_ob hf
      refine rdV (As := [.int r_1, .int r_5]) (rest := []) ⟨hx, hb, hml, hown, hts⟩ (mX9_clashing l D cI cB cZ cO q fu z_6 r_1 r_5 hc_32) (cwV 2 hts gX9_takesResolve_X9_clashing rfl rfl rfl (by decide +kernel) ⟨Nat.le_of_ble_eq_true rfl, Nat.le_of_ble_eq_true rfl⟩) hK hP (va_recv hK hP (ci := 8) (q0 := 0) rfl rfl) rfl hl.1 rfl (Nat.le_of_ble_eq_true rfl) dX9_takesResolve_29 ⟨Nat.zero_le _, Nat.zero_le _⟩ ?_
      refine lv_iconst (v := 1) hx hb dX9_takesResolve_32 (by decide) ?_
      refine lv_icmp_eq (tgt := 45) hx hb dX9_takesResolve_33 (by decide) (fun c_33 => ?_) (fun c_33 => ?_)
      · have hf := ip c_33 hf
        exact hp45 z_6 _ _ _ hf hP hD hS (lv_sub hl [2, 1, 0] rfl)
      · have hf := iq c_33 hf
        exact hp36 _ _ _ hf hP hD hS (lv_sub hl [2, 1, 0] rfl)

def fX9_takesDrop (fu : Nat) (z : OS) : Option ((OS)) :=
  bd (fX9_takesClause fu z) (fun (w_3 : Int32 × OS) => nm w_3.1 (fun (r_1 : Int32) => nm w_3.2 (fun (z_2 : OS) => bd (fX9_hasFailed fu z_2) (fun (r_5 : Int32) => jn (κ := OS → Option ((OS))) (fun (z1_29 : OS) => bd (fX9_isEnd fu z1_29) (fun (w_9 : Int32 × OS) => nm w_9.1 (fun (r_7 : Int32) => nm w_9.2 (fun (z_8 : OS) => (if r_7 = (0 : Int32) then some z_8 else bd (fX9_drops fu z_8 r_1) (fun (z_11 : OS) => some z_11)))))) (fun j29 => (if ¬ r_5 = (0 : Int32) then j29 z_2 else bd (fX9_isParent fu z_2 r_1) (fun (r_13 : Int32) => (if r_13 = (0 : Int32) then j29 z_2 else bd (fX9_fails fu z_2 (z_2.1 23) (4 : Int32)) (fun (z_15 : OS) => j29 z_15)))))))))
set_option maxRecDepth 100000 in
set_option maxHeartbeats 4000000 in
theorem mX9_takesDrop (l : Launch) (D : va_G) (cI cB cZ cO : ClassId) (q : Nat → Nat) (sz : Nat) (fu : Nat) (z : OS) {y1 : OS} (hf : fX9_takesDrop fu z = some y1) : Met l yX9_takesDrop wsX9_takesDrop ({ frames := 4, cells := 0, slots := 0, locals := 88 }) (va_Pc [.ref (q 0)] (Pw D (gT cI cB cZ cO) (wM cI cB cZ q z) sz)) (Qw D (va_A (wM cI cB cZ q z) sz) none (wM cI cB cZ q y1)) 0 0 (va_A (wM cI cB cZ q z) sz) := by
  unfold fX9_takesDrop at hf
  refine metW (ret := none) (own := RX9) rfl (by decide) rfl (Nat.le_of_ble_eq_true rfl) (fun p e s m args below meth c ls A hx hb hr hml hown hlocks hts hK hA hP hD hS hl => ?_)
  have k194 := (hts (.fieldLink RX9 194 "ResolutionProverModel" "tokenBegin" "I") (List.mem_of_getElem? (i := 1) rfl))
  have hiX9 : ∀ w ∈ wsX90, w ∈ wsX9_takesDrop := (memIn_p [68, 69, 70, 71, 72, 73, 74, 75, 76, 77, 78, 79, 80, 81, 82, 83, 84, 85, 86, 87, 88, 89, 90, 91, 92, 93, 94] rfl)
  have hl : lv_has ls 2 [(0, .ref (q 0))] := hl
  refine lv_aload_n hx hb dX9_takesDrop_0 rfl (lv_at hl 0 rfl) ?_
  obtain ⟨⟨r_1, z_2⟩, hc_4, hf⟩ := bd_ob hf
  have hf := nm_st hf
  have hf := nm_st hf
  refine weV (As := []) (rest := []) ⟨hx, hb, hml, hown, hts⟩ (mX9_takesClause l D cI cB cZ cO q _ fu z hc_4) (cwV 0 hts gX9_takesDrop_X9_takesClause rfl rfl rfl (by decide +kernel) ⟨Nat.le_of_ble_eq_true rfl, Nat.le_of_ble_eq_true rfl⟩) hK hP hD hS hA (va_recv hK hP (ci := 8) (q0 := 0) rfl rfl) rfl hl.1 rfl (Nat.le_of_ble_eq_true rfl) dX9_takesDrop_1 ⟨Nat.zero_le _, Nat.zero_le _⟩ (fun H locs hP hD hS => ?_)
  refine lv_istore_n (lv' := [(1, .int r_1), (0, .ref (q 0))]) hx hb dX9_takesDrop_4 rfl hl (by decide) rfl (fun ls hl => ?_)
  refine lv_aload_n hx hb dX9_takesDrop_5 rfl (lv_at hl 1 rfl) ?_
  obtain ⟨r_5, hc_6, hf⟩ := bd_ob hf
  refine rdV (As := []) (rest := []) ⟨hx, hb, hml, hown, hts⟩ (mX9_hasFailed l D cI cB cZ cO q fu z_2 hc_6) (cwV 0 hts gX9_takesDrop_X9_hasFailed rfl rfl rfl (by decide +kernel) ⟨Nat.le_of_ble_eq_true rfl, Nat.le_of_ble_eq_true rfl⟩) hK hP (va_recv hK hP (ci := 8) (q0 := 0) rfl rfl) rfl hl.1 rfl (Nat.le_of_ble_eq_true rfl) dX9_takesDrop_6 ⟨Nat.zero_le _, Nat.zero_le _⟩ ?_
  obtain ⟨j29, ej29, hf⟩ := jn_ob hf
  have hp29 : ∀ (z1_29 : OS) (H : Heap) (locs : List Loc) (ls : Array Slot), j29 z1_29 = some y1 → va_P D vwCl (wM cI cB cZ q z1_29) H → va_D A (wM cI cB cZ q z1_29) → va_S A s.heap H locs → lv_has ls 2 [(0, .ref (q 0)), (1, .int r_1)] → W p l e (headSpec wsX9_takesDrop { frames := 4, cells := 0, slots := 0, locals := 88 }).room s m args below meth c H locs 0 0 (MQ below (Qw D A none (wM cI cB cZ q y1)) args s 0 0 A) (F0 m 29 ls []) := by
    intro z1_29 H locs ls hf hP hD hS hl
    rw [ej29] at hf
    refine lv_aload_n hx hb dX9_takesDrop_29 rfl (lv_at hl 0 rfl) ?_
    obtain ⟨⟨r_7, z_8⟩, hc_10, hf⟩ := bd_ob hf
    have hf := nm_st hf
    have hf := nm_st hf
    refine weV (As := []) (rest := []) ⟨hx, hb, hml, hown, hts⟩ (mX9_isEnd l D cI cB cZ cO q _ fu z1_29 hc_10) (cwV 0 hts gX9_takesDrop_X9_isEnd rfl rfl rfl (by decide +kernel) ⟨Nat.le_of_ble_eq_true rfl, Nat.le_of_ble_eq_true rfl⟩) hK hP hD hS hA (va_recv hK hP (ci := 8) (q0 := 0) rfl rfl) rfl hl.1 rfl (Nat.le_of_ble_eq_true rfl) dX9_takesDrop_30 ⟨Nat.zero_le _, Nat.zero_le _⟩ (fun H locs hP hD hS => ?_)
    refine lv_if_eq (tgt := 41) hx hb dX9_takesDrop_33 (by decide) (fun c_33 => ?_) (fun c_33 => ?_)
    · have hf := ip c_33 hf
      exact rW_v hx hb hr hlocks hP hD hS (congrArg (fun (q9 : (OS)) => wM cI cB cZ q q9) (so_ob hf)) dX9_takesDrop_41
    · have hf := iq c_33 hf
      refine lv_aload_n hx hb dX9_takesDrop_36 rfl (lv_at hl 0 rfl) ?_
      refine lv_iload_n hx hb dX9_takesDrop_37 rfl (lv_at hl 1 rfl) ?_
      obtain ⟨z_11, hc_12, hf⟩ := bd_ob hf
      refine weV (As := [.int r_1]) (rest := []) ⟨hx, hb, hml, hown, hts⟩ (mX9_drops l D cI cB cZ cO q _ fu z_8 r_1 hc_12) (cwV 1 hts gX9_takesDrop_X9_drops rfl rfl rfl (by decide +kernel) ⟨Nat.le_of_ble_eq_true rfl, Nat.le_of_ble_eq_true rfl⟩) hK hP hD hS hA (va_recv hK hP (ci := 8) (q0 := 0) rfl rfl) rfl hl.1 rfl (Nat.le_of_ble_eq_true rfl) dX9_takesDrop_38 ⟨Nat.zero_le _, Nat.zero_le _⟩ (fun H locs hP hD hS => ?_)
      exact rW_v hx hb hr hlocks hP hD hS (congrArg (fun (q9 : (OS)) => wM cI cB cZ q q9) (so_ob hf)) dX9_takesDrop_41
  refine lv_if_ne (tgt := 29) hx hb dX9_takesDrop_9 (by decide) (fun c_9 => ?_) (fun c_9 => ?_)
  · have hf := ip c_9 hf
    exact hp29 z_2 _ _ _ hf hP hD hS (lv_sub hl [1, 0] rfl)
  · have hf := iqn c_9 hf
    refine lv_aload_n hx hb dX9_takesDrop_12 rfl (lv_at hl 1 rfl) ?_
    refine lv_iload_n hx hb dX9_takesDrop_13 rfl (lv_at hl 0 rfl) ?_
    obtain ⟨r_13, hc_14, hf⟩ := bd_ob hf
    refine rdV (As := [.int r_1]) (rest := []) ⟨hx, hb, hml, hown, hts⟩ (mX9_isParent l D cI cB cZ cO q fu z_2 r_1 hc_14) (cwV 1 hts gX9_takesDrop_X9_isParent rfl rfl rfl (by decide +kernel) ⟨Nat.le_of_ble_eq_true rfl, Nat.le_of_ble_eq_true rfl⟩) hK hP (va_recv hK hP (ci := 8) (q0 := 0) rfl rfl) rfl hl.1 rfl (Nat.le_of_ble_eq_true rfl) dX9_takesDrop_14 ⟨Nat.zero_le _, Nat.zero_le _⟩ ?_
    refine lv_if_eq (tgt := 29) hx hb dX9_takesDrop_17 (by decide) (fun c_17 => ?_) (fun c_17 => ?_)
    · have hf := ip c_17 hf
      exact hp29 z_2 _ _ _ hf hP hD hS (lv_sub hl [1, 0] rfl)
    · have hf := iq c_17 hf
      refine lv_aload_n hx hb dX9_takesDrop_20 rfl (lv_at hl 1 rfl) ?_
      refine lv_aload_n hx hb dX9_takesDrop_21 rfl (lv_at hl 1 rfl) ?_
      refine va_get (D := D) (ci := 8) (v := .int (z_2.1 23)) (C := RX9) (T := TX9) (N := 27) hx hb hts hiX9 hown hK hP 0 rfl rfl 23 (by decide) k194 (fun _ h9 => h9) rfl dX9_takesDrop_22 ?_
      refine lv_iconst (v := 4) hx hb dX9_takesDrop_25 (by decide) ?_
      obtain ⟨z_15, hc_16, hf⟩ := bd_ob hf
      refine weV (As := [.int (z_2.1 23), .int (4 : Int32)]) (rest := []) ⟨hx, hb, hml, hown, hts⟩ (mX9_fails l D cI cB cZ cO q _ fu z_2 (z_2.1 23) (4 : Int32) hc_16) (cwV 2 hts gX9_takesDrop_X9_fails rfl rfl rfl (by decide +kernel) ⟨Nat.le_of_ble_eq_true rfl, Nat.le_of_ble_eq_true rfl⟩) hK hP hD hS hA (va_recv hK hP (ci := 8) (q0 := 0) rfl rfl) rfl hl.1 rfl (Nat.le_of_ble_eq_true rfl) dX9_takesDrop_26 ⟨Nat.zero_le _, Nat.zero_le _⟩ (fun H locs hP hD hS => ?_)
      exact hp29 z_15 _ _ _ hf hP hD hS (lv_sub hl [1, 0] rfl)

def fX9_isLiteralFixed (fu : Nat) (z : OS) : Option (Int32 × (OS)) :=
  bd (fX9_skips fu z) (fun (z_1 : OS) => bd (fX9_ahead fu z_1) (fun (r_3 : Int32) => jn (κ := Int32 → Option (Int32 × (OS))) (fun (t0_18 : Int32) => jn (κ := Int32 → Int32 → Option (Int32 × (OS))) (fun (t1_33 : Int32) (t2_33 : Int32) => nm (sI z_1 19 (t1_33 + t2_33)) (fun (z_5 : OS) => bd (fX9_takesVariable fu z_5) (fun (w_8 : Int32 × OS) => nm w_8.1 (fun (r_6 : Int32) => nm w_8.2 (fun (z_7 : OS) => bd (fX9_hasFailed fu z_7) (fun (r_10 : Int32) => (if r_10 = (0 : Int32) then bd (fX9_propagates fu z_7) (fun (z_12 : OS) => jn (κ := Int32 → Int32 → Option (Int32 × (OS))) (fun (t1_66 : Int32) (t2_66 : Int32) => bd (fX9_isFixed fu z_12 t1_66 t2_66) (fun (r_14 : Int32) => gd (isZ r_14) (some (r_14, z_12)))) (fun j66 => (if t0_18 = (0 : Int32) then j66 r_6 (1 : Int32) else j66 r_6 (2 : Int32)))) else gd (isZ (0 : Int32)) (some ((0 : Int32), z_7))))))))) (fun j33 => (if t0_18 = (0 : Int32) then j33 (z_1.1 19) (0 : Int32) else j33 (z_1.1 19) (1 : Int32)))) (fun j18 => (if ¬ r_3 = (45 : Int32) then j18 (0 : Int32) else j18 (1 : Int32)))))
set_option maxRecDepth 100000 in
set_option maxHeartbeats 4000000 in
theorem mX9_isLiteralFixed (l : Launch) (D : va_G) (cI cB cZ cO : ClassId) (q : Nat → Nat) (sz : Nat) (fu : Nat) (z : OS) {r : Int32} {y1 : OS} (hf : fX9_isLiteralFixed fu z = some (r, y1)) : Met l yX9_isLiteralFixed wsX9_isLiteralFixed ({ frames := 4, cells := 0, slots := 0, locals := 92 }) (va_Pc [.ref (q 0)] (Pw D (gT cI cB cZ cO) (wM cI cB cZ q z) sz)) (Qw D (va_A (wM cI cB cZ q z) sz) (some (.int r)) (wM cI cB cZ q y1)) 0 0 (va_A (wM cI cB cZ q z) sz) := by
  unfold fX9_isLiteralFixed at hf
  refine metW (ret := (some .boolean)) (own := RX9) rfl (by decide) rfl (Nat.le_of_ble_eq_true rfl) (fun p e s m args below meth c ls A hx hb hr hml hown hlocks hts hK hA hP hD hS hl => ?_)
  have k165 := (hts (.fieldLink RX9 165 "ResolutionProverModel" "point" "I") (List.mem_of_getElem? (i := 1) rfl))
  have hiX9 : ∀ w ∈ wsX90, w ∈ wsX9_isLiteralFixed := (memIn_p [76, 77, 78, 79, 80, 81, 82, 83, 84, 85, 86, 87, 88, 89, 90, 91, 92, 93, 94, 95, 96, 97, 98, 99, 100, 101, 102] rfl)
  have hl : lv_has ls 3 [(0, .ref (q 0))] := hl
  refine lv_aload_n hx hb dX9_isLiteralFixed_0 rfl (lv_at hl 0 rfl) ?_
  obtain ⟨z_1, hc_2, hf⟩ := bd_ob hf
  refine weV (As := []) (rest := []) ⟨hx, hb, hml, hown, hts⟩ (mX9_skips l D cI cB cZ cO q _ fu z hc_2) (cwV 0 hts gX9_isLiteralFixed_X9_skips rfl rfl rfl (by decide +kernel) ⟨Nat.le_of_ble_eq_true rfl, Nat.le_of_ble_eq_true rfl⟩) hK hP hD hS hA (va_recv hK hP (ci := 8) (q0 := 0) rfl rfl) rfl hl.1 rfl (Nat.le_of_ble_eq_true rfl) dX9_isLiteralFixed_1 ⟨Nat.zero_le _, Nat.zero_le _⟩ (fun H locs hP hD hS => ?_)
  refine lv_aload_n hx hb dX9_isLiteralFixed_4 rfl (lv_at hl 0 rfl) ?_
  obtain ⟨r_3, hc_4, hf⟩ := bd_ob hf
  refine rdV (As := []) (rest := []) ⟨hx, hb, hml, hown, hts⟩ (mX9_ahead l D cI cB cZ cO q fu z_1 hc_4) (cwV 0 hts gX9_isLiteralFixed_X9_ahead rfl rfl rfl (by decide +kernel) ⟨Nat.le_of_ble_eq_true rfl, Nat.le_of_ble_eq_true rfl⟩) hK hP (va_recv hK hP (ci := 8) (q0 := 0) rfl rfl) rfl hl.1 rfl (Nat.le_of_ble_eq_true rfl) dX9_isLiteralFixed_5 ⟨Nat.zero_le _, Nat.zero_le _⟩ ?_
  refine lv_bipush (v := 45) hx hb dX9_isLiteralFixed_8 (by decide) ?_
  obtain ⟨j18, ej18, hf⟩ := jn_ob hf
  have hp18 : ∀ (t0_18 : Int32) (H : Heap) (locs : List Loc) (ls : Array Slot), j18 t0_18 = some (r, y1) → va_P D vwCl (wM cI cB cZ q z_1) H → va_D A (wM cI cB cZ q z_1) → va_S A s.heap H locs → lv_has ls 3 [(0, .ref (q 0))] → W p l e (headSpec wsX9_isLiteralFixed { frames := 4, cells := 0, slots := 0, locals := 92 }).room s m args below meth c H locs 0 0 (MQ below (Qw D A (some (.int r)) (wM cI cB cZ q y1)) args s 0 0 A) (F0 m 18 ls [.int t0_18]) := by
    intro t0_18 H locs ls hf hP hD hS hl
    rw [ej18] at hf
    refine lv_istore_n (lv' := [(1, .int t0_18), (0, .ref (q 0))]) hx hb dX9_isLiteralFixed_18 rfl hl (by decide) rfl (fun ls hl => ?_)
    refine lv_aload_n hx hb dX9_isLiteralFixed_19 rfl (lv_at hl 1 rfl) ?_
    refine lv_dup hx hb dX9_isLiteralFixed_20 rfl ?_
    refine va_get (D := D) (ci := 8) (v := .int (z_1.1 19)) (C := RX9) (T := TX9) (N := 27) hx hb hts hiX9 hown hK hP 0 rfl rfl 19 (by decide) k165 (fun _ h9 => h9) rfl dX9_isLiteralFixed_21 ?_
    refine lv_iload_n hx hb dX9_isLiteralFixed_24 rfl (lv_at hl 0 rfl) ?_
    obtain ⟨j33, ej33, hf⟩ := jn_ob hf
    have hp33 : ∀ (t1_33 : Int32) (t2_33 : Int32) (H : Heap) (locs : List Loc) (ls : Array Slot), j33 t1_33 t2_33 = some (r, y1) → va_P D vwCl (wM cI cB cZ q z_1) H → va_D A (wM cI cB cZ q z_1) → va_S A s.heap H locs → lv_has ls 3 [(0, .ref (q 0)), (1, .int t0_18)] → W p l e (headSpec wsX9_isLiteralFixed { frames := 4, cells := 0, slots := 0, locals := 92 }).room s m args below meth c H locs 0 0 (MQ below (Qw D A (some (.int r)) (wM cI cB cZ q y1)) args s 0 0 A) (F0 m 33 ls [.int t2_33, .int t1_33, .ref (q 0)]) := by
      intro t1_33 t2_33 H locs ls hf hP hD hS hl
      rw [ej33] at hf
      refine lv_iadd hx hb dX9_isLiteralFixed_33 ?_
      refine va_put (D := D) (ci := 8) (v := .int (t1_33 + t2_33)) (ty := .int) (C := RX9) (T := TX9) (N := 27) hx hb hts hiX9 tyX9 tyX9_ok nmX9 hown hK hP hD hS 0 rfl rfl 19 (by decide) k165 (fun _ h9 => h9) rfl (by decide +kernel) rfl rfl (Nat.le_of_ble_eq_true rfl) dX9_isLiteralFixed_34 (fun H locs hP hD hS => ?_)
      obtain ⟨z_5, ez_5, hf⟩ := nm_ob hf
      have hP : va_P D vwCl (wM cI cB cZ q z_5) H := by rw [ez_5]; exact hP
      have hD : va_D A (wM cI cB cZ q z_5) := by rw [ez_5]; exact hD
      refine lv_aload_n hx hb dX9_isLiteralFixed_37 rfl (lv_at hl 0 rfl) ?_
      obtain ⟨⟨r_6, z_7⟩, hc_9, hf⟩ := bd_ob hf
      have hf := nm_st hf
      have hf := nm_st hf
      refine weV (As := []) (rest := []) ⟨hx, hb, hml, hown, hts⟩ (mX9_takesVariable l D cI cB cZ cO q _ fu z_5 hc_9) (cwV 0 hts gX9_isLiteralFixed_X9_takesVariable rfl rfl rfl (by decide +kernel) ⟨Nat.le_of_ble_eq_true rfl, Nat.le_of_ble_eq_true rfl⟩) hK hP hD hS hA (va_recv hK hP (ci := 8) (q0 := 0) rfl rfl) rfl hl.1 rfl (Nat.le_of_ble_eq_true rfl) dX9_isLiteralFixed_38 ⟨Nat.zero_le _, Nat.zero_le _⟩ (fun H locs hP hD hS => ?_)
      refine lv_istore_n (lv' := [(2, .int r_6), (0, .ref (q 0)), (1, .int t0_18)]) hx hb dX9_isLiteralFixed_41 rfl hl (by decide) rfl (fun ls hl => ?_)
      refine lv_aload_n hx hb dX9_isLiteralFixed_42 rfl (lv_at hl 1 rfl) ?_
      obtain ⟨r_10, hc_11, hf⟩ := bd_ob hf
      refine rdV (As := []) (rest := []) ⟨hx, hb, hml, hown, hts⟩ (mX9_hasFailed l D cI cB cZ cO q fu z_7 hc_11) (cwV 0 hts gX9_isLiteralFixed_X9_hasFailed rfl rfl rfl (by decide +kernel) ⟨Nat.le_of_ble_eq_true rfl, Nat.le_of_ble_eq_true rfl⟩) hK hP (va_recv hK hP (ci := 8) (q0 := 0) rfl rfl) rfl hl.1 rfl (Nat.le_of_ble_eq_true rfl) dX9_isLiteralFixed_43 ⟨Nat.zero_le _, Nat.zero_le _⟩ ?_
      refine lv_if_eq (tgt := 51) hx hb dX9_isLiteralFixed_46 (by decide) (fun c_46 => ?_) (fun c_46 => ?_)
      · have hf := ip c_46 hf
        refine lv_aload_n hx hb dX9_isLiteralFixed_51 rfl (lv_at hl 1 rfl) ?_
        obtain ⟨z_12, hc_13, hf⟩ := bd_ob hf
        refine weV (As := []) (rest := []) ⟨hx, hb, hml, hown, hts⟩ (mX9_propagates l D cI cB cZ cO q _ fu z_7 hc_13) (cwV 0 hts gX9_isLiteralFixed_X9_propagates rfl rfl rfl (by decide +kernel) ⟨Nat.le_of_ble_eq_true rfl, Nat.le_of_ble_eq_true rfl⟩) hK hP hD hS hA (va_recv hK hP (ci := 8) (q0 := 0) rfl rfl) rfl hl.1 rfl (Nat.le_of_ble_eq_true rfl) dX9_isLiteralFixed_52 ⟨Nat.zero_le _, Nat.zero_le _⟩ (fun H locs hP hD hS => ?_)
        refine lv_aload_n hx hb dX9_isLiteralFixed_55 rfl (lv_at hl 1 rfl) ?_
        refine lv_iload_n hx hb dX9_isLiteralFixed_56 rfl (lv_at hl 0 rfl) ?_
        refine lv_iload_n hx hb dX9_isLiteralFixed_57 rfl (lv_at hl 2 rfl) ?_
        obtain ⟨j66, ej66, hf⟩ := jn_ob hf
        have hp66 : ∀ (t1_66 : Int32) (t2_66 : Int32) (H : Heap) (locs : List Loc) (ls : Array Slot), j66 t1_66 t2_66 = some (r, y1) → va_P D vwCl (wM cI cB cZ q z_12) H → va_D A (wM cI cB cZ q z_12) → va_S A s.heap H locs → lv_has ls 3 [] → W p l e (headSpec wsX9_isLiteralFixed { frames := 4, cells := 0, slots := 0, locals := 92 }).room s m args below meth c H locs 0 0 (MQ below (Qw D A (some (.int r)) (wM cI cB cZ q y1)) args s 0 0 A) (F0 m 66 ls [.int t2_66, .int t1_66, .ref (q 0)]) := by
          intro t1_66 t2_66 H locs ls hf hP hD hS hl
          rw [ej66] at hf
          obtain ⟨r_14, hc_15, hf⟩ := bd_ob hf
          refine rdV (As := [.int t1_66, .int t2_66]) (rest := []) ⟨hx, hb, hml, hown, hts⟩ (mX9_isFixed l D cI cB cZ cO q fu z_12 t1_66 t2_66 hc_15) (cwV 2 hts gX9_isLiteralFixed_X9_isFixed rfl rfl rfl (by decide +kernel) ⟨Nat.le_of_ble_eq_true rfl, Nat.le_of_ble_eq_true rfl⟩) hK hP (va_recv hK hP (ci := 8) (q0 := 0) rfl rfl) rfl hl.1 rfl (Nat.le_of_ble_eq_true rfl) dX9_isLiteralFixed_66 ⟨Nat.zero_le _, Nat.zero_le _⟩ ?_
          obtain ⟨hz, hf⟩ := gd_ob hf
          exact rW_z hx hb hr hlocks hP hD hS hz (congrArg (fun q9 => q9.1) (so_ob hf)) (congrArg (fun (q9 : Int32 × (OS)) => wM cI cB cZ q q9.2) (so_ob hf)) dX9_isLiteralFixed_69
        refine lv_if_eq (tgt := 65) hx hb dX9_isLiteralFixed_58 (by decide) (fun c_58 => ?_) (fun c_58 => ?_)
        · have hf := ip c_58 hf
          refine lv_iconst (v := 1) hx hb dX9_isLiteralFixed_65 (by decide) ?_
          exact hp66 r_6 (1 : Int32) _ _ _ hf hP hD hS (lv_sub hl [] rfl)
        · have hf := iq c_58 hf
          refine lv_iconst (v := 2) hx hb dX9_isLiteralFixed_61 (by decide) ?_
          refine lv_goto (tgt := 66) hx hb dX9_isLiteralFixed_62 (by decide) ?_
          exact hp66 r_6 (2 : Int32) _ _ _ hf hP hD hS (lv_sub hl [] rfl)
      · have hf := iq c_46 hf
        refine lv_iconst (v := 0) hx hb dX9_isLiteralFixed_49 (by decide) ?_
        obtain ⟨hz, hf⟩ := gd_ob hf
        exact rW_z hx hb hr hlocks hP hD hS hz (congrArg (fun q9 => q9.1) (so_ob hf)) (congrArg (fun (q9 : Int32 × (OS)) => wM cI cB cZ q q9.2) (so_ob hf)) dX9_isLiteralFixed_50
    refine lv_if_eq (tgt := 32) hx hb dX9_isLiteralFixed_25 (by decide) (fun c_25 => ?_) (fun c_25 => ?_)
    · have hf := ip c_25 hf
      refine lv_iconst (v := 0) hx hb dX9_isLiteralFixed_32 (by decide) ?_
      exact hp33 (z_1.1 19) (0 : Int32) _ _ _ hf hP hD hS (lv_sub hl [1, 0] rfl)
    · have hf := iq c_25 hf
      refine lv_iconst (v := 1) hx hb dX9_isLiteralFixed_28 (by decide) ?_
      refine lv_goto (tgt := 33) hx hb dX9_isLiteralFixed_29 (by decide) ?_
      exact hp33 (z_1.1 19) (1 : Int32) _ _ _ hf hP hD hS (lv_sub hl [1, 0] rfl)
  refine lv_icmp_ne (tgt := 17) hx hb dX9_isLiteralFixed_10 (by decide) (fun c_10 => ?_) (fun c_10 => ?_)
  · have hf := ip c_10 hf
    refine lv_iconst (v := 0) hx hb dX9_isLiteralFixed_17 (by decide) ?_
    exact hp18 (0 : Int32) _ _ _ hf hP hD hS hl
  · have hf := iqn c_10 hf
    refine lv_iconst (v := 1) hx hb dX9_isLiteralFixed_13 (by decide) ?_
    refine lv_goto (tgt := 18) hx hb dX9_isLiteralFixed_14 (by decide) ?_
    exact hp18 (1 : Int32) _ _ _ hf hP hD hS hl

def fX9_takesExpect (fu : Nat) (z : OS) (p1 : Int32) : Option ((OS)) :=
  bd (fX9_takesWord fu z) (fun (z_1 : OS) => bd (fX9_isToken fu z_1 (lt 9)) (fun (r_3 : Int32) => jn (κ := Int32 → OS → Option ((OS))) (fun (v2_331 : Int32) (z1_331 : OS) => jn (κ := OS → Option ((OS))) (fun (z1_341 : OS) => bd (fX9_isEnd fu z1_341) (fun (w_7 : Int32 × OS) => nm w_7.1 (fun (r_5 : Int32) => nm w_7.2 (fun (z_6 : OS) => some z_6)))) (fun j341 => (if ¬ v2_331 = (0 : Int32) then j341 z1_331 else bd (fX9_fails fu z1_331 p1 (5 : Int32)) (fun (z_9 : OS) => j341 z_9)))) (fun j331 => (if r_3 = (0 : Int32) then bd (fX9_isToken fu z_1 (lt 10)) (fun (r_11 : Int32) => (if r_11 = (0 : Int32) then bd (fX9_isToken fu z_1 (lt 11)) (fun (r_13 : Int32) => (if r_13 = (0 : Int32) then bd (fX9_isToken fu z_1 (lt 12)) (fun (r_15 : Int32) => (if r_15 = (0 : Int32) then bd (fX9_isToken fu z_1 (lt 14)) (fun (r_17 : Int32) => (if r_17 = (0 : Int32) then bd (fX9_isToken fu z_1 (lt 15)) (fun (r_19 : Int32) => (if r_19 = (0 : Int32) then bd (fX9_isToken fu z_1 (lt 16)) (fun (r_21 : Int32) => (if r_21 = (0 : Int32) then bd (fX9_isToken fu z_1 (lt 17)) (fun (r_23 : Int32) => (if r_23 = (0 : Int32) then bd (fX9_isToken fu z_1 (lt 13)) (fun (r_25 : Int32) => (if r_25 = (0 : Int32) then bd (fX9_fails fu z_1 (z_1.1 23) (1 : Int32)) (fun (z_27 : OS) => j331 (0 : Int32) z_27) else bd (fX9_takesLiterals fu z_1) (fun (z_29 : OS) => bd (fX9_hasFailed fu z_29) (fun (r_31 : Int32) => jn (κ := Int32 → Option ((OS))) (fun (t0_318 : Int32) => j331 t0_318 z_29) (fun j318 => jn (κ := Option ((OS))) (j318 (0 : Int32)) (fun j317 => (if ¬ r_31 = (0 : Int32) then j317 else bd (fX9_many fu z_29) (fun (r_33 : Int32) => bd (fX9_follows fu z_29 r_33 (-1 : Int32)) (fun (r_35 : Int32) => (if r_35 = (0 : Int32) then j317 else j318 (1 : Int32))))))))))) else bd (fX9_takesClause fu z_1) (fun (w_39 : Int32 × OS) => nm w_39.1 (fun (r_37 : Int32) => nm w_39.2 (fun (z_38 : OS) => bd (fX9_number fu z_38 (0 : Int32) (9999 : Int32)) (fun (w_43 : Int32 × OS) => nm w_43.1 (fun (r_41 : Int32) => nm w_43.2 (fun (z_42 : OS) => bd (fX9_hasFailed fu z_42) (fun (r_45 : Int32) => jn (κ := Int32 → OS → Option ((OS))) (fun (t0_276 : Int32) (z1_276 : OS) => j331 t0_276 z1_276) (fun j276 => jn (κ := OS → Option ((OS))) (fun (z1_275 : OS) => j276 (0 : Int32) z1_275) (fun j275 => (if ¬ r_45 = (0 : Int32) then j275 z_42 else bd (fX9_depthAt fu z_42 r_37) (fun (w_49 : Int32 × OS) => nm w_49.1 (fun (r_47 : Int32) => nm w_49.2 (fun (z_48 : OS) => (if ¬ r_47 = r_41 then j275 z_48 else j276 (1 : Int32) z_48)))))))))))))))) else bd (fX9_takesClause fu z_1) (fun (w_53 : Int32 × OS) => nm w_53.1 (fun (r_51 : Int32) => nm w_53.2 (fun (z_52 : OS) => bd (fX9_number fu z_52 (0 : Int32) (9999 : Int32)) (fun (w_57 : Int32 × OS) => nm w_57.1 (fun (r_55 : Int32) => nm w_57.2 (fun (z_56 : OS) => bd (fX9_hasFailed fu z_56) (fun (r_59 : Int32) => jn (κ := Int32 → Option ((OS))) (fun (t0_225 : Int32) => j331 t0_225 z_56) (fun j225 => jn (κ := Option ((OS))) (j225 (0 : Int32)) (fun j224 => (if ¬ r_59 = (0 : Int32) then j224 else bd (fX9_literals fu z_56 r_51) (fun (r_61 : Int32) => (if ¬ r_61 = r_55 then j224 else j225 (1 : Int32))))))))))))))) else bd (fX9_number fu z_1 (0 : Int32) (9999 : Int32)) (fun (w_65 : Int32 × OS) => nm w_65.1 (fun (r_63 : Int32) => nm w_65.2 (fun (z_64 : OS) => bd (fX9_subsumed fu z_64) (fun (r_67 : Int32) => jn (κ := Int32 → Option ((OS))) (fun (t0_174 : Int32) => j331 t0_174 z_64) (fun j174 => (if ¬ r_63 = r_67 then j174 (0 : Int32) else j174 (1 : Int32))))))))) else bd (fX9_isLiteralFixed fu z_1) (fun (w_71 : Int32 × OS) => nm w_71.1 (fun (r_69 : Int32) => nm w_71.2 (fun (z_70 : OS) => j331 r_69 z_70))))) else bd (fX9_empty fu z_1) (fun (r_73 : Int32) => jn (κ := Int32 → Option ((OS))) (fun (t0_122 : Int32) => j331 t0_122 z_1) (fun j122 => (if ¬ r_73 = (-1 : Int32) then j122 (0 : Int32) else j122 (1 : Int32)))))) else bd (fX9_empty fu z_1) (fun (r_75 : Int32) => jn (κ := Int32 → Option ((OS))) (fun (t0_95 : Int32) => j331 t0_95 z_1) (fun j95 => (if r_75 = (-1 : Int32) then j95 (0 : Int32) else j95 (1 : Int32)))))) else bd (fX9_number fu z_1 (0 : Int32) (9999 : Int32)) (fun (w_79 : Int32 × OS) => nm w_79.1 (fun (r_77 : Int32) => nm w_79.2 (fun (z_78 : OS) => bd (fX9_models fu z_78) (fun (r_81 : Int32) => jn (κ := Int32 → Option ((OS))) (fun (t0_68 : Int32) => j331 t0_68 z_78) (fun j68 => (if ¬ r_77 = r_81 then j68 (0 : Int32) else j68 (1 : Int32))))))))) else bd (fX9_number fu z_1 (0 : Int32) (9999 : Int32)) (fun (w_85 : Int32 × OS) => nm w_85.1 (fun (r_83 : Int32) => nm w_85.2 (fun (z_84 : OS) => bd (fX9_many fu z_84) (fun (r_87 : Int32) => jn (κ := Int32 → Option ((OS))) (fun (t0_35 : Int32) => j331 t0_35 z_84) (fun j35 => (if ¬ r_83 = r_87 then j35 (0 : Int32) else j35 (1 : Int32)))))))))))
set_option maxRecDepth 100000 in
set_option maxHeartbeats 4000000 in
theorem mX9_takesExpect (l : Launch) (D : va_G) (cI cB cZ cO : ClassId) (aK aV : Nat → Nat) (q : Nat → Nat) (sz : Nat) (fu : Nat) (z : OS) (p1 : Int32) {y1 : OS} (hf : fX9_takesExpect fu z p1 = some y1) : Met l yX9_takesExpect wsX9_takesExpect ({ frames := 5, cells := 0, slots := 0, locals := 114 }) (va_Pc [.ref (q 0), .int p1] (PwX (EL aK aV) D (gT cI cB cZ cO) (wM cI cB cZ q z) sz)) (Qw D (va_A (wM cI cB cZ q z) sz) none (wM cI cB cZ q y1)) 0 0 (va_A (wM cI cB cZ q z) sz) := by
  unfold fX9_takesExpect at hf
  refine metWX (ret := none) (own := RX9) rfl (by decide) rfl (Nat.le_of_ble_eq_true rfl) (fun p e s m args below meth c ls A hx hb hr hml hown hlocks hts hK hA hP hD hS hE hl => ?_)
  have k194 := (hts (.fieldLink RX9 194 "ResolutionProverModel" "tokenBegin" "I") (List.mem_of_getElem? (i := 1) rfl))
  have hiX9 : ∀ w ∈ wsX90, w ∈ wsX9_takesExpect := (memIn_p [212, 213, 214, 215, 216, 217, 218, 219, 220, 221, 222, 223, 224, 225, 226, 227, 228, 229, 230, 231, 232, 233, 234, 235, 236, 237, 238] rfl)
  have hl : lv_has ls 5 [(0, .ref (q 0)), (1, .int p1)] := hl
  refine lv_aload_n hx hb dX9_takesExpect_0 rfl (lv_at hl 0 rfl) ?_
  obtain ⟨z_1, hc_2, hf⟩ := bd_ob hf
  refine weV (As := []) (rest := []) ⟨hx, hb, hml, hown, hts⟩ (mX9_takesWord l D cI cB cZ cO q _ fu z hc_2) (cwV 0 hts gX9_takesExpect_X9_takesWord rfl rfl rfl (by decide +kernel) ⟨Nat.le_of_ble_eq_true rfl, Nat.le_of_ble_eq_true rfl⟩) hK hP hD hS hA (va_recv hK hP (ci := 8) (q0 := 0) rfl rfl) rfl hl.1 rfl (Nat.le_of_ble_eq_true rfl) dX9_takesExpect_1 ⟨Nat.zero_le _, Nat.zero_le _⟩ (fun H locs hP hD hS => ?_)
  refine lv_iconst (v := 0) hx hb dX9_takesExpect_4 (by decide) ?_
  refine lv_istore_n (lv' := [(2, .int (0 : Int32)), (0, .ref (q 0)), (1, .int p1)]) hx hb dX9_takesExpect_5 rfl hl (by decide) rfl (fun ls hl => ?_)
  refine lv_aload_n hx hb dX9_takesExpect_6 rfl (lv_at hl 1 rfl) ?_
  refine va_ldcS hx hb hown (EL_m9 hE) dX9_takesExpect_7 ?_
  obtain ⟨r_3, hc_4, hf⟩ := bd_ob hf
  refine rdVX (As := [.ref (aK 9)]) (rest := []) ⟨hx, hb, hml, hown, hts⟩ (mX9_isToken l D cI cB cZ cO (aK 9) (aV 9) q fu z_1 (lt 9) hc_4) (cwV 1 hts gX9_takesExpect_X9_isToken rfl rfl rfl (by decide +kernel) ⟨Nat.le_of_ble_eq_true rfl, Nat.le_of_ble_eq_true rfl⟩) (ET_ok _ _ _) ((hE.1 9).kept hS.2.1) hK hP (va_recv hK hP (ci := 8) (q0 := 0) rfl rfl) rfl hl.1 rfl (Nat.le_of_ble_eq_true rfl) dX9_takesExpect_9 ⟨Nat.zero_le _, Nat.zero_le _⟩ ?_
  obtain ⟨j331, ej331, hf⟩ := jn_ob hf
  have hp331 : ∀ (v2_331 : Int32) (z1_331 : OS) (H : Heap) (locs : List Loc) (ls : Array Slot), j331 v2_331 z1_331 = some y1 → va_P D vwCl (wM cI cB cZ q z1_331) H → va_D A (wM cI cB cZ q z1_331) → va_S A s.heap H locs → lv_has ls 5 [(0, .ref (q 0)), (1, .int p1), (2, .int v2_331)] → W p l e (headSpec wsX9_takesExpect { frames := 5, cells := 0, slots := 0, locals := 114 }).room s m args below meth c H locs 0 0 (MQ below (Qw D A none (wM cI cB cZ q y1)) args s 0 0 A) (F0 m 331 ls []) := by
    intro v2_331 z1_331 H locs ls hf hP hD hS hl
    rw [ej331] at hf
    refine lv_iload_n hx hb dX9_takesExpect_331 rfl (lv_at hl 2 rfl) ?_
    obtain ⟨j341, ej341, hf⟩ := jn_ob hf
    have hp341 : ∀ (z1_341 : OS) (H : Heap) (locs : List Loc) (ls : Array Slot), j341 z1_341 = some y1 → va_P D vwCl (wM cI cB cZ q z1_341) H → va_D A (wM cI cB cZ q z1_341) → va_S A s.heap H locs → lv_has ls 5 [(0, .ref (q 0))] → W p l e (headSpec wsX9_takesExpect { frames := 5, cells := 0, slots := 0, locals := 114 }).room s m args below meth c H locs 0 0 (MQ below (Qw D A none (wM cI cB cZ q y1)) args s 0 0 A) (F0 m 341 ls []) := by
      intro z1_341 H locs ls hf hP hD hS hl
      rw [ej341] at hf
      refine lv_aload_n hx hb dX9_takesExpect_341 rfl (lv_at hl 0 rfl) ?_
      obtain ⟨⟨r_5, z_6⟩, hc_8, hf⟩ := bd_ob hf
      have hf := nm_st hf
      have hf := nm_st hf
      refine weV (As := []) (rest := []) ⟨hx, hb, hml, hown, hts⟩ (mX9_isEnd l D cI cB cZ cO q _ fu z1_341 hc_8) (cwV 0 hts gX9_takesExpect_X9_isEnd rfl rfl rfl (by decide +kernel) ⟨Nat.le_of_ble_eq_true rfl, Nat.le_of_ble_eq_true rfl⟩) hK hP hD hS hA (va_recv hK hP (ci := 8) (q0 := 0) rfl rfl) rfl hl.1 rfl (Nat.le_of_ble_eq_true rfl) dX9_takesExpect_342 ⟨Nat.zero_le _, Nat.zero_le _⟩ (fun H locs hP hD hS => ?_)
      refine lv_istore_n (lv' := [(3, .int r_5), (0, .ref (q 0))]) hx hb dX9_takesExpect_345 rfl hl (by decide) rfl (fun ls hl => ?_)
      exact rW_v hx hb hr hlocks hP hD hS (congrArg (fun (q9 : (OS)) => wM cI cB cZ q q9) (so_ob hf)) dX9_takesExpect_346
    refine lv_if_ne (tgt := 341) hx hb dX9_takesExpect_332 (by decide) (fun c_332 => ?_) (fun c_332 => ?_)
    · have hf := ip c_332 hf
      exact hp341 z1_331 _ _ _ hf hP hD hS (lv_sub hl [0] rfl)
    · have hf := iqn c_332 hf
      refine lv_aload_n hx hb dX9_takesExpect_335 rfl (lv_at hl 0 rfl) ?_
      refine lv_iload_n hx hb dX9_takesExpect_336 rfl (lv_at hl 1 rfl) ?_
      refine lv_iconst (v := 5) hx hb dX9_takesExpect_337 (by decide) ?_
      obtain ⟨z_9, hc_10, hf⟩ := bd_ob hf
      refine weV (As := [.int p1, .int (5 : Int32)]) (rest := []) ⟨hx, hb, hml, hown, hts⟩ (mX9_fails l D cI cB cZ cO q _ fu z1_331 p1 (5 : Int32) hc_10) (cwV 2 hts gX9_takesExpect_X9_fails rfl rfl rfl (by decide +kernel) ⟨Nat.le_of_ble_eq_true rfl, Nat.le_of_ble_eq_true rfl⟩) hK hP hD hS hA (va_recv hK hP (ci := 8) (q0 := 0) rfl rfl) rfl hl.1 rfl (Nat.le_of_ble_eq_true rfl) dX9_takesExpect_338 ⟨Nat.zero_le _, Nat.zero_le _⟩ (fun H locs hP hD hS => ?_)
      exact hp341 z_9 _ _ _ hf hP hD hS (lv_sub hl [0] rfl)
  refine lv_if_eq (tgt := 39) hx hb dX9_takesExpect_12 (by decide) (fun c_12 => ?_) (fun c_12 => ?_)
  · have hf := ip c_12 hf
    refine lv_aload_n hx hb dX9_takesExpect_39 rfl (lv_at hl 1 rfl) ?_
    refine va_ldcS hx hb hown (EL_m10 hE) dX9_takesExpect_40 ?_
    obtain ⟨r_11, hc_12, hf⟩ := bd_ob hf
    refine rdVX (As := [.ref (aK 10)]) (rest := []) ⟨hx, hb, hml, hown, hts⟩ (mX9_isToken l D cI cB cZ cO (aK 10) (aV 10) q fu z_1 (lt 10) hc_12) (cwV 1 hts gX9_takesExpect_X9_isToken rfl rfl rfl (by decide +kernel) ⟨Nat.le_of_ble_eq_true rfl, Nat.le_of_ble_eq_true rfl⟩) (ET_ok _ _ _) ((hE.1 10).kept hS.2.1) hK hP (va_recv hK hP (ci := 8) (q0 := 0) rfl rfl) rfl hl.1 rfl (Nat.le_of_ble_eq_true rfl) dX9_takesExpect_42 ⟨Nat.zero_le _, Nat.zero_le _⟩ ?_
    refine lv_if_eq (tgt := 72) hx hb dX9_takesExpect_45 (by decide) (fun c_45 => ?_) (fun c_45 => ?_)
    · have hf := ip c_45 hf
      refine lv_aload_n hx hb dX9_takesExpect_72 rfl (lv_at hl 1 rfl) ?_
      refine va_ldcwS hx hb hown (EL_m11 hE) dX9_takesExpect_73 ?_
      obtain ⟨r_13, hc_14, hf⟩ := bd_ob hf
      refine rdVX (As := [.ref (aK 11)]) (rest := []) ⟨hx, hb, hml, hown, hts⟩ (mX9_isToken l D cI cB cZ cO (aK 11) (aV 11) q fu z_1 (lt 11) hc_14) (cwV 1 hts gX9_takesExpect_X9_isToken rfl rfl rfl (by decide +kernel) ⟨Nat.le_of_ble_eq_true rfl, Nat.le_of_ble_eq_true rfl⟩) (ET_ok _ _ _) ((hE.1 11).kept hS.2.1) hK hP (va_recv hK hP (ci := 8) (q0 := 0) rfl rfl) rfl hl.1 rfl (Nat.le_of_ble_eq_true rfl) dX9_takesExpect_76 ⟨Nat.zero_le _, Nat.zero_le _⟩ ?_
      refine lv_if_eq (tgt := 99) hx hb dX9_takesExpect_79 (by decide) (fun c_79 => ?_) (fun c_79 => ?_)
      · have hf := ip c_79 hf
        refine lv_aload_n hx hb dX9_takesExpect_99 rfl (lv_at hl 1 rfl) ?_
        refine va_ldcwS hx hb hown (EL_m12 hE) dX9_takesExpect_100 ?_
        obtain ⟨r_15, hc_16, hf⟩ := bd_ob hf
        refine rdVX (As := [.ref (aK 12)]) (rest := []) ⟨hx, hb, hml, hown, hts⟩ (mX9_isToken l D cI cB cZ cO (aK 12) (aV 12) q fu z_1 (lt 12) hc_16) (cwV 1 hts gX9_takesExpect_X9_isToken rfl rfl rfl (by decide +kernel) ⟨Nat.le_of_ble_eq_true rfl, Nat.le_of_ble_eq_true rfl⟩) (ET_ok _ _ _) ((hE.1 12).kept hS.2.1) hK hP (va_recv hK hP (ci := 8) (q0 := 0) rfl rfl) rfl hl.1 rfl (Nat.le_of_ble_eq_true rfl) dX9_takesExpect_103 ⟨Nat.zero_le _, Nat.zero_le _⟩ ?_
        refine lv_if_eq (tgt := 126) hx hb dX9_takesExpect_106 (by decide) (fun c_106 => ?_) (fun c_106 => ?_)
        · have hf := ip c_106 hf
          refine lv_aload_n hx hb dX9_takesExpect_126 rfl (lv_at hl 1 rfl) ?_
          refine va_ldcwS hx hb hown (EL_m14 hE) dX9_takesExpect_127 ?_
          obtain ⟨r_17, hc_18, hf⟩ := bd_ob hf
          refine rdVX (As := [.ref (aK 14)]) (rest := []) ⟨hx, hb, hml, hown, hts⟩ (mX9_isToken l D cI cB cZ cO (aK 14) (aV 14) q fu z_1 (lt 14) hc_18) (cwV 1 hts gX9_takesExpect_X9_isToken rfl rfl rfl (by decide +kernel) ⟨Nat.le_of_ble_eq_true rfl, Nat.le_of_ble_eq_true rfl⟩) (ET_ok _ _ _) ((hE.1 14).kept hS.2.1) hK hP (va_recv hK hP (ci := 8) (q0 := 0) rfl rfl) rfl hl.1 rfl (Nat.le_of_ble_eq_true rfl) dX9_takesExpect_130 ⟨Nat.zero_le _, Nat.zero_le _⟩ ?_
          refine lv_if_eq (tgt := 144) hx hb dX9_takesExpect_133 (by decide) (fun c_133 => ?_) (fun c_133 => ?_)
          · have hf := ip c_133 hf
            refine lv_aload_n hx hb dX9_takesExpect_144 rfl (lv_at hl 1 rfl) ?_
            refine va_ldcwS hx hb hown (EL_m15 hE) dX9_takesExpect_145 ?_
            obtain ⟨r_19, hc_20, hf⟩ := bd_ob hf
            refine rdVX (As := [.ref (aK 15)]) (rest := []) ⟨hx, hb, hml, hown, hts⟩ (mX9_isToken l D cI cB cZ cO (aK 15) (aV 15) q fu z_1 (lt 15) hc_20) (cwV 1 hts gX9_takesExpect_X9_isToken rfl rfl rfl (by decide +kernel) ⟨Nat.le_of_ble_eq_true rfl, Nat.le_of_ble_eq_true rfl⟩) (ET_ok _ _ _) ((hE.1 15).kept hS.2.1) hK hP (va_recv hK hP (ci := 8) (q0 := 0) rfl rfl) rfl hl.1 rfl (Nat.le_of_ble_eq_true rfl) dX9_takesExpect_148 ⟨Nat.zero_le _, Nat.zero_le _⟩ ?_
            refine lv_if_eq (tgt := 178) hx hb dX9_takesExpect_151 (by decide) (fun c_151 => ?_) (fun c_151 => ?_)
            · have hf := ip c_151 hf
              refine lv_aload_n hx hb dX9_takesExpect_178 rfl (lv_at hl 1 rfl) ?_
              refine va_ldcwS hx hb hown (EL_m16 hE) dX9_takesExpect_179 ?_
              obtain ⟨r_21, hc_22, hf⟩ := bd_ob hf
              refine rdVX (As := [.ref (aK 16)]) (rest := []) ⟨hx, hb, hml, hown, hts⟩ (mX9_isToken l D cI cB cZ cO (aK 16) (aV 16) q fu z_1 (lt 16) hc_22) (cwV 1 hts gX9_takesExpect_X9_isToken rfl rfl rfl (by decide +kernel) ⟨Nat.le_of_ble_eq_true rfl, Nat.le_of_ble_eq_true rfl⟩) (ET_ok _ _ _) ((hE.1 16).kept hS.2.1) hK hP (va_recv hK hP (ci := 8) (q0 := 0) rfl rfl) rfl hl.1 rfl (Nat.le_of_ble_eq_true rfl) dX9_takesExpect_182 ⟨Nat.zero_le _, Nat.zero_le _⟩ ?_
              refine lv_if_eq (tgt := 229) hx hb dX9_takesExpect_185 (by decide) (fun c_185 => ?_) (fun c_185 => ?_)
              · have hf := ip c_185 hf
                refine lv_aload_n hx hb dX9_takesExpect_229 rfl (lv_at hl 1 rfl) ?_
                refine va_ldcwS hx hb hown (EL_m17 hE) dX9_takesExpect_230 ?_
                obtain ⟨r_23, hc_24, hf⟩ := bd_ob hf
                refine rdVX (As := [.ref (aK 17)]) (rest := []) ⟨hx, hb, hml, hown, hts⟩ (mX9_isToken l D cI cB cZ cO (aK 17) (aV 17) q fu z_1 (lt 17) hc_24) (cwV 1 hts gX9_takesExpect_X9_isToken rfl rfl rfl (by decide +kernel) ⟨Nat.le_of_ble_eq_true rfl, Nat.le_of_ble_eq_true rfl⟩) (ET_ok _ _ _) ((hE.1 17).kept hS.2.1) hK hP (va_recv hK hP (ci := 8) (q0 := 0) rfl rfl) rfl hl.1 rfl (Nat.le_of_ble_eq_true rfl) dX9_takesExpect_233 ⟨Nat.zero_le _, Nat.zero_le _⟩ ?_
                refine lv_if_eq (tgt := 280) hx hb dX9_takesExpect_236 (by decide) (fun c_236 => ?_) (fun c_236 => ?_)
                · have hf := ip c_236 hf
                  refine lv_aload_n hx hb dX9_takesExpect_280 rfl (lv_at hl 1 rfl) ?_
                  refine va_ldcwS hx hb hown (EL_m13 hE) dX9_takesExpect_281 ?_
                  obtain ⟨r_25, hc_26, hf⟩ := bd_ob hf
                  refine rdVX (As := [.ref (aK 13)]) (rest := []) ⟨hx, hb, hml, hown, hts⟩ (mX9_isToken l D cI cB cZ cO (aK 13) (aV 13) q fu z_1 (lt 13) hc_26) (cwV 1 hts gX9_takesExpect_X9_isToken rfl rfl rfl (by decide +kernel) ⟨Nat.le_of_ble_eq_true rfl, Nat.le_of_ble_eq_true rfl⟩) (ET_ok _ _ _) ((hE.1 13).kept hS.2.1) hK hP (va_recv hK hP (ci := 8) (q0 := 0) rfl rfl) rfl hl.1 rfl (Nat.le_of_ble_eq_true rfl) dX9_takesExpect_284 ⟨Nat.zero_le _, Nat.zero_le _⟩ ?_
                  refine lv_if_eq (tgt := 322) hx hb dX9_takesExpect_287 (by decide) (fun c_287 => ?_) (fun c_287 => ?_)
                  · have hf := ip c_287 hf
                    refine lv_aload_n hx hb dX9_takesExpect_322 rfl (lv_at hl 1 rfl) ?_
                    refine lv_aload_n hx hb dX9_takesExpect_323 rfl (lv_at hl 1 rfl) ?_
                    refine va_get (D := D) (ci := 8) (v := .int (z_1.1 23)) (C := RX9) (T := TX9) (N := 27) hx hb hts hiX9 hown hK hP 0 rfl rfl 23 (by decide) k194 (fun _ h9 => h9) rfl dX9_takesExpect_324 ?_
                    refine lv_iconst (v := 1) hx hb dX9_takesExpect_327 (by decide) ?_
                    obtain ⟨z_27, hc_28, hf⟩ := bd_ob hf
                    refine weV (As := [.int (z_1.1 23), .int (1 : Int32)]) (rest := []) ⟨hx, hb, hml, hown, hts⟩ (mX9_fails l D cI cB cZ cO q _ fu z_1 (z_1.1 23) (1 : Int32) hc_28) (cwV 2 hts gX9_takesExpect_X9_fails rfl rfl rfl (by decide +kernel) ⟨Nat.le_of_ble_eq_true rfl, Nat.le_of_ble_eq_true rfl⟩) hK hP hD hS hA (va_recv hK hP (ci := 8) (q0 := 0) rfl rfl) rfl hl.1 rfl (Nat.le_of_ble_eq_true rfl) dX9_takesExpect_328 ⟨Nat.zero_le _, Nat.zero_le _⟩ (fun H locs hP hD hS => ?_)
                    exact hp331 (0 : Int32) z_27 _ _ _ hf hP hD hS (lv_sub hl [1, 2, 0] rfl)
                  · have hf := iq c_287 hf
                    refine lv_aload_n hx hb dX9_takesExpect_290 rfl (lv_at hl 1 rfl) ?_
                    obtain ⟨z_29, hc_30, hf⟩ := bd_ob hf
                    refine weV (As := []) (rest := []) ⟨hx, hb, hml, hown, hts⟩ (mX9_takesLiterals l D cI cB cZ cO q _ fu z_1 hc_30) (cwV 0 hts gX9_takesExpect_X9_takesLiterals rfl rfl rfl (by decide +kernel) ⟨Nat.le_of_ble_eq_true rfl, Nat.le_of_ble_eq_true rfl⟩) hK hP hD hS hA (va_recv hK hP (ci := 8) (q0 := 0) rfl rfl) rfl hl.1 rfl (Nat.le_of_ble_eq_true rfl) dX9_takesExpect_291 ⟨Nat.zero_le _, Nat.zero_le _⟩ (fun H locs hP hD hS => ?_)
                    refine lv_aload_n hx hb dX9_takesExpect_294 rfl (lv_at hl 1 rfl) ?_
                    obtain ⟨r_31, hc_32, hf⟩ := bd_ob hf
                    refine rdV (As := []) (rest := []) ⟨hx, hb, hml, hown, hts⟩ (mX9_hasFailed l D cI cB cZ cO q fu z_29 hc_32) (cwV 0 hts gX9_takesExpect_X9_hasFailed rfl rfl rfl (by decide +kernel) ⟨Nat.le_of_ble_eq_true rfl, Nat.le_of_ble_eq_true rfl⟩) hK hP (va_recv hK hP (ci := 8) (q0 := 0) rfl rfl) rfl hl.1 rfl (Nat.le_of_ble_eq_true rfl) dX9_takesExpect_295 ⟨Nat.zero_le _, Nat.zero_le _⟩ ?_
                    obtain ⟨j318, ej318, hf⟩ := jn_ob hf
                    have hp318 : ∀ (t0_318 : Int32) (H : Heap) (locs : List Loc) (ls : Array Slot), j318 t0_318 = some y1 → va_P D vwCl (wM cI cB cZ q z_29) H → va_D A (wM cI cB cZ q z_29) → va_S A s.heap H locs → lv_has ls 5 [(0, .ref (q 0)), (1, .int p1)] → W p l e (headSpec wsX9_takesExpect { frames := 5, cells := 0, slots := 0, locals := 114 }).room s m args below meth c H locs 0 0 (MQ below (Qw D A none (wM cI cB cZ q y1)) args s 0 0 A) (F0 m 318 ls [.int t0_318]) := by
                      intro t0_318 H locs ls hf hP hD hS hl
                      rw [ej318] at hf
                      refine lv_istore_n (lv' := [(2, .int t0_318), (0, .ref (q 0)), (1, .int p1)]) hx hb dX9_takesExpect_318 rfl hl (by decide) rfl (fun ls hl => ?_)
                      refine lv_goto (tgt := 331) hx hb dX9_takesExpect_319 (by decide) ?_
                      exact hp331 t0_318 z_29 _ _ _ hf hP hD hS (lv_sub hl [1, 2, 0] rfl)
                    obtain ⟨j317, ej317, hf⟩ := jn_ob hf
                    have hp317 : ∀  (H : Heap) (locs : List Loc) (ls : Array Slot), j317 = some y1 → va_P D vwCl (wM cI cB cZ q z_29) H → va_D A (wM cI cB cZ q z_29) → va_S A s.heap H locs → lv_has ls 5 [(0, .ref (q 0)), (1, .int p1)] → W p l e (headSpec wsX9_takesExpect { frames := 5, cells := 0, slots := 0, locals := 114 }).room s m args below meth c H locs 0 0 (MQ below (Qw D A none (wM cI cB cZ q y1)) args s 0 0 A) (F0 m 317 ls []) := by
                      intro H locs ls hf hP hD hS hl
                      rw [ej317] at hf
                      refine lv_iconst (v := 0) hx hb dX9_takesExpect_317 (by decide) ?_
                      exact hp318 (0 : Int32) _ _ _ hf hP hD hS hl
                    refine lv_if_ne (tgt := 317) hx hb dX9_takesExpect_298 (by decide) (fun c_298 => ?_) (fun c_298 => ?_)
                    · have hf := ip c_298 hf
                      exact hp317 _ _ _ hf hP hD hS (lv_sub hl [1, 2] rfl)
                    · have hf := iqn c_298 hf
                      refine lv_aload_n hx hb dX9_takesExpect_301 rfl (lv_at hl 1 rfl) ?_
                      refine lv_aload_n hx hb dX9_takesExpect_302 rfl (lv_at hl 1 rfl) ?_
                      obtain ⟨r_33, hc_34, hf⟩ := bd_ob hf
                      refine rdV (As := []) (rest := [.ref (q 0)]) ⟨hx, hb, hml, hown, hts⟩ (mX9_many l D cI cB cZ cO q fu z_29 hc_34) (cwV 0 hts gX9_takesExpect_X9_many rfl rfl rfl (by decide +kernel) ⟨Nat.le_of_ble_eq_true rfl, Nat.le_of_ble_eq_true rfl⟩) hK hP (va_recv hK hP (ci := 8) (q0 := 0) rfl rfl) rfl hl.1 rfl (Nat.le_of_ble_eq_true rfl) dX9_takesExpect_303 ⟨Nat.zero_le _, Nat.zero_le _⟩ ?_
                      refine lv_iconst (v := (-1)) hx hb dX9_takesExpect_306 (by decide) ?_
                      obtain ⟨r_35, hc_36, hf⟩ := bd_ob hf
                      refine rdV (As := [.int r_33, .int (-1 : Int32)]) (rest := []) ⟨hx, hb, hml, hown, hts⟩ (mX9_follows l D cI cB cZ cO q fu z_29 r_33 (-1 : Int32) hc_36) (cwV 2 hts gX9_takesExpect_X9_follows rfl rfl rfl (by decide +kernel) ⟨Nat.le_of_ble_eq_true rfl, Nat.le_of_ble_eq_true rfl⟩) hK hP (va_recv hK hP (ci := 8) (q0 := 0) rfl rfl) rfl hl.1 rfl (Nat.le_of_ble_eq_true rfl) dX9_takesExpect_307 ⟨Nat.zero_le _, Nat.zero_le _⟩ ?_
                      refine lv_if_eq (tgt := 317) hx hb dX9_takesExpect_310 (by decide) (fun c_310 => ?_) (fun c_310 => ?_)
                      · have hf := ip c_310 hf
                        exact hp317 _ _ _ hf hP hD hS (lv_sub hl [1, 2] rfl)
                      · have hf := iq c_310 hf
                        refine lv_iconst (v := 1) hx hb dX9_takesExpect_313 (by decide) ?_
                        refine lv_goto (tgt := 318) hx hb dX9_takesExpect_314 (by decide) ?_
                        exact hp318 (1 : Int32) _ _ _ hf hP hD hS (lv_sub hl [1, 2] rfl)
                · have hf := iq c_236 hf
                  refine lv_aload_n hx hb dX9_takesExpect_239 rfl (lv_at hl 1 rfl) ?_
                  obtain ⟨⟨r_37, z_38⟩, hc_40, hf⟩ := bd_ob hf
                  have hf := nm_st hf
                  have hf := nm_st hf
                  refine weV (As := []) (rest := []) ⟨hx, hb, hml, hown, hts⟩ (mX9_takesClause l D cI cB cZ cO q _ fu z_1 hc_40) (cwV 0 hts gX9_takesExpect_X9_takesClause rfl rfl rfl (by decide +kernel) ⟨Nat.le_of_ble_eq_true rfl, Nat.le_of_ble_eq_true rfl⟩) hK hP hD hS hA (va_recv hK hP (ci := 8) (q0 := 0) rfl rfl) rfl hl.1 rfl (Nat.le_of_ble_eq_true rfl) dX9_takesExpect_240 ⟨Nat.zero_le _, Nat.zero_le _⟩ (fun H locs hP hD hS => ?_)
                  refine lv_istore_n (lv' := [(3, .int r_37), (2, .int (0 : Int32)), (0, .ref (q 0)), (1, .int p1)]) hx hb dX9_takesExpect_243 rfl hl (by decide) rfl (fun ls hl => ?_)
                  refine lv_aload_n hx hb dX9_takesExpect_244 rfl (lv_at hl 2 rfl) ?_
                  refine lv_iconst (v := 0) hx hb dX9_takesExpect_245 (by decide) ?_
                  refine lv_sipush (v := 9999) hx hb dX9_takesExpect_246 (by decide) ?_
                  obtain ⟨⟨r_41, z_42⟩, hc_44, hf⟩ := bd_ob hf
                  have hf := nm_st hf
                  have hf := nm_st hf
                  refine weV (As := [.int (0 : Int32), .int (9999 : Int32)]) (rest := []) ⟨hx, hb, hml, hown, hts⟩ (mX9_number l D cI cB cZ cO q _ fu z_38 (0 : Int32) (9999 : Int32) hc_44) (cwV 2 hts gX9_takesExpect_X9_number rfl rfl rfl (by decide +kernel) ⟨Nat.le_of_ble_eq_true rfl, Nat.le_of_ble_eq_true rfl⟩) hK hP hD hS hA (va_recv hK hP (ci := 8) (q0 := 0) rfl rfl) rfl hl.1 rfl (Nat.le_of_ble_eq_true rfl) dX9_takesExpect_249 ⟨Nat.zero_le _, Nat.zero_le _⟩ (fun H locs hP hD hS => ?_)
                  refine lv_istore (lv' := [(4, .int r_41), (3, .int r_37), (2, .int (0 : Int32)), (0, .ref (q 0)), (1, .int p1)]) hx hb dX9_takesExpect_252 hl (by decide) rfl (fun ls hl => ?_)
                  refine lv_aload_n hx hb dX9_takesExpect_254 rfl (lv_at hl 3 rfl) ?_
                  obtain ⟨r_45, hc_46, hf⟩ := bd_ob hf
                  refine rdV (As := []) (rest := []) ⟨hx, hb, hml, hown, hts⟩ (mX9_hasFailed l D cI cB cZ cO q fu z_42 hc_46) (cwV 0 hts gX9_takesExpect_X9_hasFailed rfl rfl rfl (by decide +kernel) ⟨Nat.le_of_ble_eq_true rfl, Nat.le_of_ble_eq_true rfl⟩) hK hP (va_recv hK hP (ci := 8) (q0 := 0) rfl rfl) rfl hl.1 rfl (Nat.le_of_ble_eq_true rfl) dX9_takesExpect_255 ⟨Nat.zero_le _, Nat.zero_le _⟩ ?_
                  obtain ⟨j276, ej276, hf⟩ := jn_ob hf
                  have hp276 : ∀ (t0_276 : Int32) (z1_276 : OS) (H : Heap) (locs : List Loc) (ls : Array Slot), j276 t0_276 z1_276 = some y1 → va_P D vwCl (wM cI cB cZ q z1_276) H → va_D A (wM cI cB cZ q z1_276) → va_S A s.heap H locs → lv_has ls 5 [(0, .ref (q 0)), (1, .int p1)] → W p l e (headSpec wsX9_takesExpect { frames := 5, cells := 0, slots := 0, locals := 114 }).room s m args below meth c H locs 0 0 (MQ below (Qw D A none (wM cI cB cZ q y1)) args s 0 0 A) (F0 m 276 ls [.int t0_276]) := by
                    intro t0_276 z1_276 H locs ls hf hP hD hS hl
                    rw [ej276] at hf
                    refine lv_istore_n (lv' := [(2, .int t0_276), (0, .ref (q 0)), (1, .int p1)]) hx hb dX9_takesExpect_276 rfl hl (by decide) rfl (fun ls hl => ?_)
                    refine lv_goto (tgt := 331) hx hb dX9_takesExpect_277 (by decide) ?_
                    exact hp331 t0_276 z1_276 _ _ _ hf hP hD hS (lv_sub hl [1, 2, 0] rfl)
                  obtain ⟨j275, ej275, hf⟩ := jn_ob hf
                  have hp275 : ∀ (z1_275 : OS) (H : Heap) (locs : List Loc) (ls : Array Slot), j275 z1_275 = some y1 → va_P D vwCl (wM cI cB cZ q z1_275) H → va_D A (wM cI cB cZ q z1_275) → va_S A s.heap H locs → lv_has ls 5 [(0, .ref (q 0)), (1, .int p1)] → W p l e (headSpec wsX9_takesExpect { frames := 5, cells := 0, slots := 0, locals := 114 }).room s m args below meth c H locs 0 0 (MQ below (Qw D A none (wM cI cB cZ q y1)) args s 0 0 A) (F0 m 275 ls []) := by
                    intro z1_275 H locs ls hf hP hD hS hl
                    rw [ej275] at hf
                    refine lv_iconst (v := 0) hx hb dX9_takesExpect_275 (by decide) ?_
                    exact hp276 (0 : Int32) z1_275 _ _ _ hf hP hD hS hl
                  refine lv_if_ne (tgt := 275) hx hb dX9_takesExpect_258 (by decide) (fun c_258 => ?_) (fun c_258 => ?_)
                  · have hf := ip c_258 hf
                    exact hp275 z_42 _ _ _ hf hP hD hS (lv_sub hl [3, 4] rfl)
                  · have hf := iqn c_258 hf
                    refine lv_aload_n hx hb dX9_takesExpect_261 rfl (lv_at hl 3 rfl) ?_
                    refine lv_iload_n hx hb dX9_takesExpect_262 rfl (lv_at hl 1 rfl) ?_
                    obtain ⟨⟨r_47, z_48⟩, hc_50, hf⟩ := bd_ob hf
                    have hf := nm_st hf
                    have hf := nm_st hf
                    refine weV (As := [.int r_37]) (rest := []) ⟨hx, hb, hml, hown, hts⟩ (mX9_depthAt l D cI cB cZ cO q _ fu z_42 r_37 hc_50) (cwV 1 hts gX9_takesExpect_X9_depthAt rfl rfl rfl (by decide +kernel) ⟨Nat.le_of_ble_eq_true rfl, Nat.le_of_ble_eq_true rfl⟩) hK hP hD hS hA (va_recv hK hP (ci := 8) (q0 := 0) rfl rfl) rfl hl.1 rfl (Nat.le_of_ble_eq_true rfl) dX9_takesExpect_263 ⟨Nat.zero_le _, Nat.zero_le _⟩ (fun H locs hP hD hS => ?_)
                    refine lv_iload hx hb dX9_takesExpect_266 (lv_at hl 0 rfl) ?_
                    refine lv_icmp_ne (tgt := 275) hx hb dX9_takesExpect_268 (by decide) (fun c_268 => ?_) (fun c_268 => ?_)
                    · have hf := ip c_268 hf
                      exact hp275 z_48 _ _ _ hf hP hD hS (lv_sub hl [3, 4] rfl)
                    · have hf := iqn c_268 hf
                      refine lv_iconst (v := 1) hx hb dX9_takesExpect_271 (by decide) ?_
                      refine lv_goto (tgt := 276) hx hb dX9_takesExpect_272 (by decide) ?_
                      exact hp276 (1 : Int32) z_48 _ _ _ hf hP hD hS (lv_sub hl [3, 4] rfl)
              · have hf := iq c_185 hf
                refine lv_aload_n hx hb dX9_takesExpect_188 rfl (lv_at hl 1 rfl) ?_
                obtain ⟨⟨r_51, z_52⟩, hc_54, hf⟩ := bd_ob hf
                have hf := nm_st hf
                have hf := nm_st hf
                refine weV (As := []) (rest := []) ⟨hx, hb, hml, hown, hts⟩ (mX9_takesClause l D cI cB cZ cO q _ fu z_1 hc_54) (cwV 0 hts gX9_takesExpect_X9_takesClause rfl rfl rfl (by decide +kernel) ⟨Nat.le_of_ble_eq_true rfl, Nat.le_of_ble_eq_true rfl⟩) hK hP hD hS hA (va_recv hK hP (ci := 8) (q0 := 0) rfl rfl) rfl hl.1 rfl (Nat.le_of_ble_eq_true rfl) dX9_takesExpect_189 ⟨Nat.zero_le _, Nat.zero_le _⟩ (fun H locs hP hD hS => ?_)
                refine lv_istore_n (lv' := [(3, .int r_51), (2, .int (0 : Int32)), (0, .ref (q 0)), (1, .int p1)]) hx hb dX9_takesExpect_192 rfl hl (by decide) rfl (fun ls hl => ?_)
                refine lv_aload_n hx hb dX9_takesExpect_193 rfl (lv_at hl 2 rfl) ?_
                refine lv_iconst (v := 0) hx hb dX9_takesExpect_194 (by decide) ?_
                refine lv_sipush (v := 9999) hx hb dX9_takesExpect_195 (by decide) ?_
                obtain ⟨⟨r_55, z_56⟩, hc_58, hf⟩ := bd_ob hf
                have hf := nm_st hf
                have hf := nm_st hf
                refine weV (As := [.int (0 : Int32), .int (9999 : Int32)]) (rest := []) ⟨hx, hb, hml, hown, hts⟩ (mX9_number l D cI cB cZ cO q _ fu z_52 (0 : Int32) (9999 : Int32) hc_58) (cwV 2 hts gX9_takesExpect_X9_number rfl rfl rfl (by decide +kernel) ⟨Nat.le_of_ble_eq_true rfl, Nat.le_of_ble_eq_true rfl⟩) hK hP hD hS hA (va_recv hK hP (ci := 8) (q0 := 0) rfl rfl) rfl hl.1 rfl (Nat.le_of_ble_eq_true rfl) dX9_takesExpect_198 ⟨Nat.zero_le _, Nat.zero_le _⟩ (fun H locs hP hD hS => ?_)
                refine lv_istore (lv' := [(4, .int r_55), (3, .int r_51), (2, .int (0 : Int32)), (0, .ref (q 0)), (1, .int p1)]) hx hb dX9_takesExpect_201 hl (by decide) rfl (fun ls hl => ?_)
                refine lv_aload_n hx hb dX9_takesExpect_203 rfl (lv_at hl 3 rfl) ?_
                obtain ⟨r_59, hc_60, hf⟩ := bd_ob hf
                refine rdV (As := []) (rest := []) ⟨hx, hb, hml, hown, hts⟩ (mX9_hasFailed l D cI cB cZ cO q fu z_56 hc_60) (cwV 0 hts gX9_takesExpect_X9_hasFailed rfl rfl rfl (by decide +kernel) ⟨Nat.le_of_ble_eq_true rfl, Nat.le_of_ble_eq_true rfl⟩) hK hP (va_recv hK hP (ci := 8) (q0 := 0) rfl rfl) rfl hl.1 rfl (Nat.le_of_ble_eq_true rfl) dX9_takesExpect_204 ⟨Nat.zero_le _, Nat.zero_le _⟩ ?_
                obtain ⟨j225, ej225, hf⟩ := jn_ob hf
                have hp225 : ∀ (t0_225 : Int32) (H : Heap) (locs : List Loc) (ls : Array Slot), j225 t0_225 = some y1 → va_P D vwCl (wM cI cB cZ q z_56) H → va_D A (wM cI cB cZ q z_56) → va_S A s.heap H locs → lv_has ls 5 [(0, .ref (q 0)), (1, .int p1)] → W p l e (headSpec wsX9_takesExpect { frames := 5, cells := 0, slots := 0, locals := 114 }).room s m args below meth c H locs 0 0 (MQ below (Qw D A none (wM cI cB cZ q y1)) args s 0 0 A) (F0 m 225 ls [.int t0_225]) := by
                  intro t0_225 H locs ls hf hP hD hS hl
                  rw [ej225] at hf
                  refine lv_istore_n (lv' := [(2, .int t0_225), (0, .ref (q 0)), (1, .int p1)]) hx hb dX9_takesExpect_225 rfl hl (by decide) rfl (fun ls hl => ?_)
                  refine lv_goto (tgt := 331) hx hb dX9_takesExpect_226 (by decide) ?_
                  exact hp331 t0_225 z_56 _ _ _ hf hP hD hS (lv_sub hl [1, 2, 0] rfl)
                obtain ⟨j224, ej224, hf⟩ := jn_ob hf
                have hp224 : ∀  (H : Heap) (locs : List Loc) (ls : Array Slot), j224 = some y1 → va_P D vwCl (wM cI cB cZ q z_56) H → va_D A (wM cI cB cZ q z_56) → va_S A s.heap H locs → lv_has ls 5 [(0, .ref (q 0)), (1, .int p1)] → W p l e (headSpec wsX9_takesExpect { frames := 5, cells := 0, slots := 0, locals := 114 }).room s m args below meth c H locs 0 0 (MQ below (Qw D A none (wM cI cB cZ q y1)) args s 0 0 A) (F0 m 224 ls []) := by
                  intro H locs ls hf hP hD hS hl
                  rw [ej224] at hf
                  refine lv_iconst (v := 0) hx hb dX9_takesExpect_224 (by decide) ?_
                  exact hp225 (0 : Int32) _ _ _ hf hP hD hS hl
                refine lv_if_ne (tgt := 224) hx hb dX9_takesExpect_207 (by decide) (fun c_207 => ?_) (fun c_207 => ?_)
                · have hf := ip c_207 hf
                  exact hp224 _ _ _ hf hP hD hS (lv_sub hl [3, 4] rfl)
                · have hf := iqn c_207 hf
                  refine lv_aload_n hx hb dX9_takesExpect_210 rfl (lv_at hl 3 rfl) ?_
                  refine lv_iload_n hx hb dX9_takesExpect_211 rfl (lv_at hl 1 rfl) ?_
                  obtain ⟨r_61, hc_62, hf⟩ := bd_ob hf
                  refine rdV (As := [.int r_51]) (rest := []) ⟨hx, hb, hml, hown, hts⟩ (mX9_literals l D cI cB cZ cO q fu z_56 r_51 hc_62) (cwV 1 hts gX9_takesExpect_X9_literals rfl rfl rfl (by decide +kernel) ⟨Nat.le_of_ble_eq_true rfl, Nat.le_of_ble_eq_true rfl⟩) hK hP (va_recv hK hP (ci := 8) (q0 := 0) rfl rfl) rfl hl.1 rfl (Nat.le_of_ble_eq_true rfl) dX9_takesExpect_212 ⟨Nat.zero_le _, Nat.zero_le _⟩ ?_
                  refine lv_iload hx hb dX9_takesExpect_215 (lv_at hl 0 rfl) ?_
                  refine lv_icmp_ne (tgt := 224) hx hb dX9_takesExpect_217 (by decide) (fun c_217 => ?_) (fun c_217 => ?_)
                  · have hf := ip c_217 hf
                    exact hp224 _ _ _ hf hP hD hS (lv_sub hl [3, 4] rfl)
                  · have hf := iqn c_217 hf
                    refine lv_iconst (v := 1) hx hb dX9_takesExpect_220 (by decide) ?_
                    refine lv_goto (tgt := 225) hx hb dX9_takesExpect_221 (by decide) ?_
                    exact hp225 (1 : Int32) _ _ _ hf hP hD hS (lv_sub hl [3, 4] rfl)
            · have hf := iq c_151 hf
              refine lv_aload_n hx hb dX9_takesExpect_154 rfl (lv_at hl 1 rfl) ?_
              refine lv_iconst (v := 0) hx hb dX9_takesExpect_155 (by decide) ?_
              refine lv_sipush (v := 9999) hx hb dX9_takesExpect_156 (by decide) ?_
              obtain ⟨⟨r_63, z_64⟩, hc_66, hf⟩ := bd_ob hf
              have hf := nm_st hf
              have hf := nm_st hf
              refine weV (As := [.int (0 : Int32), .int (9999 : Int32)]) (rest := []) ⟨hx, hb, hml, hown, hts⟩ (mX9_number l D cI cB cZ cO q _ fu z_1 (0 : Int32) (9999 : Int32) hc_66) (cwV 2 hts gX9_takesExpect_X9_number rfl rfl rfl (by decide +kernel) ⟨Nat.le_of_ble_eq_true rfl, Nat.le_of_ble_eq_true rfl⟩) hK hP hD hS hA (va_recv hK hP (ci := 8) (q0 := 0) rfl rfl) rfl hl.1 rfl (Nat.le_of_ble_eq_true rfl) dX9_takesExpect_159 ⟨Nat.zero_le _, Nat.zero_le _⟩ (fun H locs hP hD hS => ?_)
              refine lv_aload_n hx hb dX9_takesExpect_162 rfl (lv_at hl 1 rfl) ?_
              obtain ⟨r_67, hc_68, hf⟩ := bd_ob hf
              refine rdV (As := []) (rest := [.int r_63]) ⟨hx, hb, hml, hown, hts⟩ (mX9_subsumed l D cI cB cZ cO q fu z_64 hc_68) (cwV 0 hts gX9_takesExpect_X9_subsumed rfl rfl rfl (by decide +kernel) ⟨Nat.le_of_ble_eq_true rfl, Nat.le_of_ble_eq_true rfl⟩) hK hP (va_recv hK hP (ci := 8) (q0 := 0) rfl rfl) rfl hl.1 rfl (Nat.le_of_ble_eq_true rfl) dX9_takesExpect_163 ⟨Nat.zero_le _, Nat.zero_le _⟩ ?_
              obtain ⟨j174, ej174, hf⟩ := jn_ob hf
              have hp174 : ∀ (t0_174 : Int32) (H : Heap) (locs : List Loc) (ls : Array Slot), j174 t0_174 = some y1 → va_P D vwCl (wM cI cB cZ q z_64) H → va_D A (wM cI cB cZ q z_64) → va_S A s.heap H locs → lv_has ls 5 [(0, .ref (q 0)), (1, .int p1)] → W p l e (headSpec wsX9_takesExpect { frames := 5, cells := 0, slots := 0, locals := 114 }).room s m args below meth c H locs 0 0 (MQ below (Qw D A none (wM cI cB cZ q y1)) args s 0 0 A) (F0 m 174 ls [.int t0_174]) := by
                intro t0_174 H locs ls hf hP hD hS hl
                rw [ej174] at hf
                refine lv_istore_n (lv' := [(2, .int t0_174), (0, .ref (q 0)), (1, .int p1)]) hx hb dX9_takesExpect_174 rfl hl (by decide) rfl (fun ls hl => ?_)
                refine lv_goto (tgt := 331) hx hb dX9_takesExpect_175 (by decide) ?_
                exact hp331 t0_174 z_64 _ _ _ hf hP hD hS (lv_sub hl [1, 2, 0] rfl)
              refine lv_icmp_ne (tgt := 173) hx hb dX9_takesExpect_166 (by decide) (fun c_166 => ?_) (fun c_166 => ?_)
              · have hf := ip c_166 hf
                refine lv_iconst (v := 0) hx hb dX9_takesExpect_173 (by decide) ?_
                exact hp174 (0 : Int32) _ _ _ hf hP hD hS (lv_sub hl [1, 2] rfl)
              · have hf := iqn c_166 hf
                refine lv_iconst (v := 1) hx hb dX9_takesExpect_169 (by decide) ?_
                refine lv_goto (tgt := 174) hx hb dX9_takesExpect_170 (by decide) ?_
                exact hp174 (1 : Int32) _ _ _ hf hP hD hS (lv_sub hl [1, 2] rfl)
          · have hf := iq c_133 hf
            refine lv_aload_n hx hb dX9_takesExpect_136 rfl (lv_at hl 1 rfl) ?_
            obtain ⟨⟨r_69, z_70⟩, hc_72, hf⟩ := bd_ob hf
            have hf := nm_st hf
            have hf := nm_st hf
            refine weV (As := []) (rest := []) ⟨hx, hb, hml, hown, hts⟩ (mX9_isLiteralFixed l D cI cB cZ cO q _ fu z_1 hc_72) (cwV 0 hts gX9_takesExpect_X9_isLiteralFixed rfl rfl rfl (by decide +kernel) ⟨Nat.le_of_ble_eq_true rfl, Nat.le_of_ble_eq_true rfl⟩) hK hP hD hS hA (va_recv hK hP (ci := 8) (q0 := 0) rfl rfl) rfl hl.1 rfl (Nat.le_of_ble_eq_true rfl) dX9_takesExpect_137 ⟨Nat.zero_le _, Nat.zero_le _⟩ (fun H locs hP hD hS => ?_)
            refine lv_istore_n (lv' := [(2, .int r_69), (0, .ref (q 0)), (1, .int p1)]) hx hb dX9_takesExpect_140 rfl hl (by decide) rfl (fun ls hl => ?_)
            refine lv_goto (tgt := 331) hx hb dX9_takesExpect_141 (by decide) ?_
            exact hp331 r_69 z_70 _ _ _ hf hP hD hS (lv_sub hl [1, 2, 0] rfl)
        · have hf := iq c_106 hf
          refine lv_aload_n hx hb dX9_takesExpect_109 rfl (lv_at hl 1 rfl) ?_
          obtain ⟨r_73, hc_74, hf⟩ := bd_ob hf
          refine rdV (As := []) (rest := []) ⟨hx, hb, hml, hown, hts⟩ (mX9_empty l D cI cB cZ cO q fu z_1 hc_74) (cwV 0 hts gX9_takesExpect_X9_empty rfl rfl rfl (by decide +kernel) ⟨Nat.le_of_ble_eq_true rfl, Nat.le_of_ble_eq_true rfl⟩) hK hP (va_recv hK hP (ci := 8) (q0 := 0) rfl rfl) rfl hl.1 rfl (Nat.le_of_ble_eq_true rfl) dX9_takesExpect_110 ⟨Nat.zero_le _, Nat.zero_le _⟩ ?_
          refine lv_iconst (v := (-1)) hx hb dX9_takesExpect_113 (by decide) ?_
          obtain ⟨j122, ej122, hf⟩ := jn_ob hf
          have hp122 : ∀ (t0_122 : Int32) (H : Heap) (locs : List Loc) (ls : Array Slot), j122 t0_122 = some y1 → va_P D vwCl (wM cI cB cZ q z_1) H → va_D A (wM cI cB cZ q z_1) → va_S A s.heap H locs → lv_has ls 5 [(0, .ref (q 0)), (1, .int p1)] → W p l e (headSpec wsX9_takesExpect { frames := 5, cells := 0, slots := 0, locals := 114 }).room s m args below meth c H locs 0 0 (MQ below (Qw D A none (wM cI cB cZ q y1)) args s 0 0 A) (F0 m 122 ls [.int t0_122]) := by
            intro t0_122 H locs ls hf hP hD hS hl
            rw [ej122] at hf
            refine lv_istore_n (lv' := [(2, .int t0_122), (0, .ref (q 0)), (1, .int p1)]) hx hb dX9_takesExpect_122 rfl hl (by decide) rfl (fun ls hl => ?_)
            refine lv_goto (tgt := 331) hx hb dX9_takesExpect_123 (by decide) ?_
            exact hp331 t0_122 z_1 _ _ _ hf hP hD hS (lv_sub hl [1, 2, 0] rfl)
          refine lv_icmp_ne (tgt := 121) hx hb dX9_takesExpect_114 (by decide) (fun c_114 => ?_) (fun c_114 => ?_)
          · have hf := ip c_114 hf
            refine lv_iconst (v := 0) hx hb dX9_takesExpect_121 (by decide) ?_
            exact hp122 (0 : Int32) _ _ _ hf hP hD hS (lv_sub hl [1, 2] rfl)
          · have hf := iqn c_114 hf
            refine lv_iconst (v := 1) hx hb dX9_takesExpect_117 (by decide) ?_
            refine lv_goto (tgt := 122) hx hb dX9_takesExpect_118 (by decide) ?_
            exact hp122 (1 : Int32) _ _ _ hf hP hD hS (lv_sub hl [1, 2] rfl)
      · have hf := iq c_79 hf
        refine lv_aload_n hx hb dX9_takesExpect_82 rfl (lv_at hl 1 rfl) ?_
        obtain ⟨r_75, hc_76, hf⟩ := bd_ob hf
        refine rdV (As := []) (rest := []) ⟨hx, hb, hml, hown, hts⟩ (mX9_empty l D cI cB cZ cO q fu z_1 hc_76) (cwV 0 hts gX9_takesExpect_X9_empty rfl rfl rfl (by decide +kernel) ⟨Nat.le_of_ble_eq_true rfl, Nat.le_of_ble_eq_true rfl⟩) hK hP (va_recv hK hP (ci := 8) (q0 := 0) rfl rfl) rfl hl.1 rfl (Nat.le_of_ble_eq_true rfl) dX9_takesExpect_83 ⟨Nat.zero_le _, Nat.zero_le _⟩ ?_
        refine lv_iconst (v := (-1)) hx hb dX9_takesExpect_86 (by decide) ?_
        obtain ⟨j95, ej95, hf⟩ := jn_ob hf
        have hp95 : ∀ (t0_95 : Int32) (H : Heap) (locs : List Loc) (ls : Array Slot), j95 t0_95 = some y1 → va_P D vwCl (wM cI cB cZ q z_1) H → va_D A (wM cI cB cZ q z_1) → va_S A s.heap H locs → lv_has ls 5 [(0, .ref (q 0)), (1, .int p1)] → W p l e (headSpec wsX9_takesExpect { frames := 5, cells := 0, slots := 0, locals := 114 }).room s m args below meth c H locs 0 0 (MQ below (Qw D A none (wM cI cB cZ q y1)) args s 0 0 A) (F0 m 95 ls [.int t0_95]) := by
          intro t0_95 H locs ls hf hP hD hS hl
          rw [ej95] at hf
          refine lv_istore_n (lv' := [(2, .int t0_95), (0, .ref (q 0)), (1, .int p1)]) hx hb dX9_takesExpect_95 rfl hl (by decide) rfl (fun ls hl => ?_)
          refine lv_goto (tgt := 331) hx hb dX9_takesExpect_96 (by decide) ?_
          exact hp331 t0_95 z_1 _ _ _ hf hP hD hS (lv_sub hl [1, 2, 0] rfl)
        refine lv_icmp_eq (tgt := 94) hx hb dX9_takesExpect_87 (by decide) (fun c_87 => ?_) (fun c_87 => ?_)
        · have hf := ip c_87 hf
          refine lv_iconst (v := 0) hx hb dX9_takesExpect_94 (by decide) ?_
          exact hp95 (0 : Int32) _ _ _ hf hP hD hS (lv_sub hl [1, 2] rfl)
        · have hf := iq c_87 hf
          refine lv_iconst (v := 1) hx hb dX9_takesExpect_90 (by decide) ?_
          refine lv_goto (tgt := 95) hx hb dX9_takesExpect_91 (by decide) ?_
          exact hp95 (1 : Int32) _ _ _ hf hP hD hS (lv_sub hl [1, 2] rfl)
    · have hf := iq c_45 hf
      refine lv_aload_n hx hb dX9_takesExpect_48 rfl (lv_at hl 1 rfl) ?_
      refine lv_iconst (v := 0) hx hb dX9_takesExpect_49 (by decide) ?_
      refine lv_sipush (v := 9999) hx hb dX9_takesExpect_50 (by decide) ?_
      obtain ⟨⟨r_77, z_78⟩, hc_80, hf⟩ := bd_ob hf
      have hf := nm_st hf
      have hf := nm_st hf
      refine weV (As := [.int (0 : Int32), .int (9999 : Int32)]) (rest := []) ⟨hx, hb, hml, hown, hts⟩ (mX9_number l D cI cB cZ cO q _ fu z_1 (0 : Int32) (9999 : Int32) hc_80) (cwV 2 hts gX9_takesExpect_X9_number rfl rfl rfl (by decide +kernel) ⟨Nat.le_of_ble_eq_true rfl, Nat.le_of_ble_eq_true rfl⟩) hK hP hD hS hA (va_recv hK hP (ci := 8) (q0 := 0) rfl rfl) rfl hl.1 rfl (Nat.le_of_ble_eq_true rfl) dX9_takesExpect_53 ⟨Nat.zero_le _, Nat.zero_le _⟩ (fun H locs hP hD hS => ?_)
      refine lv_aload_n hx hb dX9_takesExpect_56 rfl (lv_at hl 1 rfl) ?_
      obtain ⟨r_81, hc_82, hf⟩ := bd_ob hf
      refine rdV (As := []) (rest := [.int r_77]) ⟨hx, hb, hml, hown, hts⟩ (mX9_models l D cI cB cZ cO q fu z_78 hc_82) (cwV 0 hts gX9_takesExpect_X9_models rfl rfl rfl (by decide +kernel) ⟨Nat.le_of_ble_eq_true rfl, Nat.le_of_ble_eq_true rfl⟩) hK hP (va_recv hK hP (ci := 8) (q0 := 0) rfl rfl) rfl hl.1 rfl (Nat.le_of_ble_eq_true rfl) dX9_takesExpect_57 ⟨Nat.zero_le _, Nat.zero_le _⟩ ?_
      obtain ⟨j68, ej68, hf⟩ := jn_ob hf
      have hp68 : ∀ (t0_68 : Int32) (H : Heap) (locs : List Loc) (ls : Array Slot), j68 t0_68 = some y1 → va_P D vwCl (wM cI cB cZ q z_78) H → va_D A (wM cI cB cZ q z_78) → va_S A s.heap H locs → lv_has ls 5 [(0, .ref (q 0)), (1, .int p1)] → W p l e (headSpec wsX9_takesExpect { frames := 5, cells := 0, slots := 0, locals := 114 }).room s m args below meth c H locs 0 0 (MQ below (Qw D A none (wM cI cB cZ q y1)) args s 0 0 A) (F0 m 68 ls [.int t0_68]) := by
        intro t0_68 H locs ls hf hP hD hS hl
        rw [ej68] at hf
        refine lv_istore_n (lv' := [(2, .int t0_68), (0, .ref (q 0)), (1, .int p1)]) hx hb dX9_takesExpect_68 rfl hl (by decide) rfl (fun ls hl => ?_)
        refine lv_goto (tgt := 331) hx hb dX9_takesExpect_69 (by decide) ?_
        exact hp331 t0_68 z_78 _ _ _ hf hP hD hS (lv_sub hl [1, 2, 0] rfl)
      refine lv_icmp_ne (tgt := 67) hx hb dX9_takesExpect_60 (by decide) (fun c_60 => ?_) (fun c_60 => ?_)
      · have hf := ip c_60 hf
        refine lv_iconst (v := 0) hx hb dX9_takesExpect_67 (by decide) ?_
        exact hp68 (0 : Int32) _ _ _ hf hP hD hS (lv_sub hl [1, 2] rfl)
      · have hf := iqn c_60 hf
        refine lv_iconst (v := 1) hx hb dX9_takesExpect_63 (by decide) ?_
        refine lv_goto (tgt := 68) hx hb dX9_takesExpect_64 (by decide) ?_
        exact hp68 (1 : Int32) _ _ _ hf hP hD hS (lv_sub hl [1, 2] rfl)
  · have hf := iq c_12 hf
    refine lv_aload_n hx hb dX9_takesExpect_15 rfl (lv_at hl 1 rfl) ?_
    refine lv_iconst (v := 0) hx hb dX9_takesExpect_16 (by decide) ?_
    refine lv_sipush (v := 9999) hx hb dX9_takesExpect_17 (by decide) ?_
    obtain ⟨⟨r_83, z_84⟩, hc_86, hf⟩ := bd_ob hf
    have hf := nm_st hf
    have hf := nm_st hf
    refine weV (As := [.int (0 : Int32), .int (9999 : Int32)]) (rest := []) ⟨hx, hb, hml, hown, hts⟩ (mX9_number l D cI cB cZ cO q _ fu z_1 (0 : Int32) (9999 : Int32) hc_86) (cwV 2 hts gX9_takesExpect_X9_number rfl rfl rfl (by decide +kernel) ⟨Nat.le_of_ble_eq_true rfl, Nat.le_of_ble_eq_true rfl⟩) hK hP hD hS hA (va_recv hK hP (ci := 8) (q0 := 0) rfl rfl) rfl hl.1 rfl (Nat.le_of_ble_eq_true rfl) dX9_takesExpect_20 ⟨Nat.zero_le _, Nat.zero_le _⟩ (fun H locs hP hD hS => ?_)
    refine lv_aload_n hx hb dX9_takesExpect_23 rfl (lv_at hl 1 rfl) ?_
    obtain ⟨r_87, hc_88, hf⟩ := bd_ob hf
    refine rdV (As := []) (rest := [.int r_83]) ⟨hx, hb, hml, hown, hts⟩ (mX9_many l D cI cB cZ cO q fu z_84 hc_88) (cwV 0 hts gX9_takesExpect_X9_many rfl rfl rfl (by decide +kernel) ⟨Nat.le_of_ble_eq_true rfl, Nat.le_of_ble_eq_true rfl⟩) hK hP (va_recv hK hP (ci := 8) (q0 := 0) rfl rfl) rfl hl.1 rfl (Nat.le_of_ble_eq_true rfl) dX9_takesExpect_24 ⟨Nat.zero_le _, Nat.zero_le _⟩ ?_
    obtain ⟨j35, ej35, hf⟩ := jn_ob hf
    have hp35 : ∀ (t0_35 : Int32) (H : Heap) (locs : List Loc) (ls : Array Slot), j35 t0_35 = some y1 → va_P D vwCl (wM cI cB cZ q z_84) H → va_D A (wM cI cB cZ q z_84) → va_S A s.heap H locs → lv_has ls 5 [(0, .ref (q 0)), (1, .int p1)] → W p l e (headSpec wsX9_takesExpect { frames := 5, cells := 0, slots := 0, locals := 114 }).room s m args below meth c H locs 0 0 (MQ below (Qw D A none (wM cI cB cZ q y1)) args s 0 0 A) (F0 m 35 ls [.int t0_35]) := by
      intro t0_35 H locs ls hf hP hD hS hl
      rw [ej35] at hf
      refine lv_istore_n (lv' := [(2, .int t0_35), (0, .ref (q 0)), (1, .int p1)]) hx hb dX9_takesExpect_35 rfl hl (by decide) rfl (fun ls hl => ?_)
      refine lv_goto (tgt := 331) hx hb dX9_takesExpect_36 (by decide) ?_
      exact hp331 t0_35 z_84 _ _ _ hf hP hD hS (lv_sub hl [1, 2, 0] rfl)
    refine lv_icmp_ne (tgt := 34) hx hb dX9_takesExpect_27 (by decide) (fun c_27 => ?_) (fun c_27 => ?_)
    · have hf := ip c_27 hf
      refine lv_iconst (v := 0) hx hb dX9_takesExpect_34 (by decide) ?_
      exact hp35 (0 : Int32) _ _ _ hf hP hD hS (lv_sub hl [1, 2] rfl)
    · have hf := iqn c_27 hf
      refine lv_iconst (v := 1) hx hb dX9_takesExpect_30 (by decide) ?_
      refine lv_goto (tgt := 35) hx hb dX9_takesExpect_31 (by decide) ?_
      exact hp35 (1 : Int32) _ _ _ hf hP hD hS (lv_sub hl [1, 2] rfl)

def lX9_takesCommand_145 (fu : Nat) (j165 : OS → Option ((OS))) : Nat → Int32 → OS → Option ((OS))
  | 0, _, _ => none
  | n_145 + 1, v2_145, z1_145 => bd (fX9_wide fu z1_145) (fun (r_36 : Int32) => (if r_36 ≤ v2_145 then j165 z1_145 else bd (fX9_negates fu z1_145 v2_145) (fun (w_40 : Int32 × OS) => nm w_40.1 (fun (r_38 : Int32) => nm w_40.2 (fun (z_39 : OS) => nm (v2_145 + (1 : Int32)) (fun (v2_42 : Int32) => lX9_takesCommand_145 fu j165 n_145 v2_42 z_39))))))
def fX9_takesCommand (fu : Nat) (z : OS) : Option ((OS)) :=
  bd (fX9_takesWord fu z) (fun (z_1 : OS) => nm (z_1.1 23) (fun (v1_3 : Int32) => bd (fX9_isToken fu z_1 (lt 1)) (fun (r_4 : Int32) => (if r_4 = (0 : Int32) then bd (fX9_isToken fu z_1 (lt 2)) (fun (r_6 : Int32) => (if r_6 = (0 : Int32) then bd (fX9_isToken fu z_1 (lt 3)) (fun (r_8 : Int32) => (if r_8 = (0 : Int32) then bd (fX9_isToken fu z_1 (lt 4)) (fun (r_10 : Int32) => (if r_10 = (0 : Int32) then bd (fX9_isToken fu z_1 (lt 5)) (fun (r_12 : Int32) => (if r_12 = (0 : Int32) then bd (fX9_isToken fu z_1 (lt 6)) (fun (r_14 : Int32) => (if r_14 = (0 : Int32) then bd (fX9_isToken fu z_1 (lt 7)) (fun (r_16 : Int32) => (if r_16 = (0 : Int32) then bd (fX9_isToken fu z_1 (lt 8)) (fun (r_18 : Int32) => (if r_18 = (0 : Int32) then bd (fX9_fails fu z_1 v1_3 (1 : Int32)) (fun (z_20 : OS) => some z_20) else bd (fX9_takesExpect fu z_1 v1_3) (fun (z_22 : OS) => some z_22))) else bd (fX9_isEnd fu z_1) (fun (w_26 : Int32 × OS) => nm w_26.1 (fun (r_24 : Int32) => nm w_26.2 (fun (z_25 : OS) => (if r_24 = (0 : Int32) then some z_25 else bd (fX9_reduces fu z_25) (fun (w_30 : Int32 × OS) => nm w_30.1 (fun (r_28 : Int32) => nm w_30.2 (fun (z_29 : OS) => some z_29))))))))) else bd (fX9_isEnd fu z_1) (fun (w_34 : Int32 × OS) => nm w_34.1 (fun (r_32 : Int32) => nm w_34.2 (fun (z_33 : OS) => (if r_32 = (0 : Int32) then some z_33 else jn (κ := OS → Option ((OS))) (fun (z1_165 : OS) => some z1_165) (fun j165 => lX9_takesCommand_145 fu j165 fu (0 : Int32) z_33))))))) else bd (fX9_takesVariable fu z_1) (fun (w_45 : Int32 × OS) => nm w_45.1 (fun (r_43 : Int32) => nm w_45.2 (fun (z_44 : OS) => bd (fX9_isEnd fu z_44) (fun (w_49 : Int32 × OS) => nm w_49.1 (fun (r_47 : Int32) => nm w_49.2 (fun (z_48 : OS) => jn (κ := OS → Option ((OS))) (fun (z1_123 : OS) => some z1_123) (fun j123 => (if r_47 = (0 : Int32) then j123 z_48 else bd (fX9_negates fu z_48 r_43) (fun (w_53 : Int32 × OS) => nm w_53.1 (fun (r_51 : Int32) => nm w_53.2 (fun (z_52 : OS) => j123 z_52))))))))))))) else bd (fX9_takesDrop fu z_1) (fun (z_55 : OS) => some z_55))) else bd (fX9_number fu z_1 (1 : Int32) (99 : Int32)) (fun (w_59 : Int32 × OS) => nm w_59.1 (fun (r_57 : Int32) => nm w_59.2 (fun (z_58 : OS) => bd (fX9_isEnd fu z_58) (fun (w_63 : Int32 × OS) => nm w_63.1 (fun (r_61 : Int32) => nm w_63.2 (fun (z_62 : OS) => jn (κ := OS → Option ((OS))) (fun (z1_75 : OS) => some z1_75) (fun j75 => (if r_61 = (0 : Int32) then j75 z_62 else bd (fX9_steps fu z_62 r_57) (fun (w_67 : Int32 × OS) => nm w_67.1 (fun (r_65 : Int32) => nm w_67.2 (fun (z_66 : OS) => j75 z_66))))))))))))) else bd (fX9_takesResolve fu z_1) (fun (z_69 : OS) => some z_69))) else bd (fX9_takesNewClause fu z_1 v1_3) (fun (z_71 : OS) => some z_71)))))
set_option maxRecDepth 100000 in
set_option maxHeartbeats 4000000 in
theorem mX9_takesCommand (l : Launch) (D : va_G) (cI cB cZ cO : ClassId) (aK aV : Nat → Nat) (q : Nat → Nat) (sz : Nat) (fu : Nat) (z : OS) {y1 : OS} (hf : fX9_takesCommand fu z = some y1) : Met l yX9_takesCommand wsX9_takesCommand ({ frames := 6, cells := 0, slots := 0, locals := 138 }) (va_Pc [.ref (q 0)] (PwX (EL aK aV) D (gT cI cB cZ cO) (wM cI cB cZ q z) sz)) (Qw D (va_A (wM cI cB cZ q z) sz) none (wM cI cB cZ q y1)) 0 0 (va_A (wM cI cB cZ q z) sz) := by
  unfold fX9_takesCommand at hf
  refine metWX (ret := none) (own := RX9) rfl (by decide) rfl (Nat.le_of_ble_eq_true rfl) (fun p e s m args below meth c ls A hx hb hr hml hown hlocks hts hK hA hP hD hS hE hl => ?_)
  have k194 := (hts (.fieldLink RX9 194 "ResolutionProverModel" "tokenBegin" "I") (List.mem_of_getElem? (i := 1) rfl))
  have hiX9 : ∀ w ∈ wsX90, w ∈ wsX9_takesCommand := (memIn_p [282, 283, 284, 285, 286, 287, 288, 289, 290, 291, 292, 293, 294, 295, 296, 297, 298, 299, 300, 301, 302, 303, 304, 305, 306, 307, 308] rfl)
  have hl : lv_has ls 4 [(0, .ref (q 0))] := hl
  refine lv_aload_n hx hb dX9_takesCommand_0 rfl (lv_at hl 0 rfl) ?_
  obtain ⟨z_1, hc_2, hf⟩ := bd_ob hf
  refine weV (As := []) (rest := []) ⟨hx, hb, hml, hown, hts⟩ (mX9_takesWord l D cI cB cZ cO q _ fu z hc_2) (cwV 0 hts gX9_takesCommand_X9_takesWord rfl rfl rfl (by decide +kernel) ⟨Nat.le_of_ble_eq_true rfl, Nat.le_of_ble_eq_true rfl⟩) hK hP hD hS hA (va_recv hK hP (ci := 8) (q0 := 0) rfl rfl) rfl hl.1 rfl (Nat.le_of_ble_eq_true rfl) dX9_takesCommand_1 ⟨Nat.zero_le _, Nat.zero_le _⟩ (fun H locs hP hD hS => ?_)
  refine lv_aload_n hx hb dX9_takesCommand_4 rfl (lv_at hl 0 rfl) ?_
  refine va_get (D := D) (ci := 8) (v := .int (z_1.1 23)) (C := RX9) (T := TX9) (N := 27) hx hb hts hiX9 hown hK hP 0 rfl rfl 23 (by decide) k194 (fun _ h9 => h9) rfl dX9_takesCommand_5 ?_
  obtain ⟨v1_3, ev1_3, hf⟩ := nm_ob hf
  refine lv_nmi ev1_3 ?_
  refine lv_istore_n (lv' := [(1, .int v1_3), (0, .ref (q 0))]) hx hb dX9_takesCommand_8 rfl hl (by decide) rfl (fun ls hl => ?_)
  refine lv_aload_n hx hb dX9_takesCommand_9 rfl (lv_at hl 1 rfl) ?_
  refine va_ldcwS hx hb hown (EL_m1 hE) dX9_takesCommand_10 ?_
  obtain ⟨r_4, hc_5, hf⟩ := bd_ob hf
  refine rdVX (As := [.ref (aK 1)]) (rest := []) ⟨hx, hb, hml, hown, hts⟩ (mX9_isToken l D cI cB cZ cO (aK 1) (aV 1) q fu z_1 (lt 1) hc_5) (cwV 1 hts gX9_takesCommand_X9_isToken rfl rfl rfl (by decide +kernel) ⟨Nat.le_of_ble_eq_true rfl, Nat.le_of_ble_eq_true rfl⟩) (ET_ok _ _ _) ((hE.1 1).kept hS.2.1) hK hP (va_recv hK hP (ci := 8) (q0 := 0) rfl rfl) rfl hl.1 rfl (Nat.le_of_ble_eq_true rfl) dX9_takesCommand_13 ⟨Nat.zero_le _, Nat.zero_le _⟩ ?_
  refine lv_if_eq (tgt := 27) hx hb dX9_takesCommand_16 (by decide) (fun c_16 => ?_) (fun c_16 => ?_)
  · have hf := ip c_16 hf
    refine lv_aload_n hx hb dX9_takesCommand_27 rfl (lv_at hl 1 rfl) ?_
    refine va_ldcwS hx hb hown (EL_m2 hE) dX9_takesCommand_28 ?_
    obtain ⟨r_6, hc_7, hf⟩ := bd_ob hf
    refine rdVX (As := [.ref (aK 2)]) (rest := []) ⟨hx, hb, hml, hown, hts⟩ (mX9_isToken l D cI cB cZ cO (aK 2) (aV 2) q fu z_1 (lt 2) hc_7) (cwV 1 hts gX9_takesCommand_X9_isToken rfl rfl rfl (by decide +kernel) ⟨Nat.le_of_ble_eq_true rfl, Nat.le_of_ble_eq_true rfl⟩) (ET_ok _ _ _) ((hE.1 2).kept hS.2.1) hK hP (va_recv hK hP (ci := 8) (q0 := 0) rfl rfl) rfl hl.1 rfl (Nat.le_of_ble_eq_true rfl) dX9_takesCommand_31 ⟨Nat.zero_le _, Nat.zero_le _⟩ ?_
    refine lv_if_eq (tgt := 44) hx hb dX9_takesCommand_34 (by decide) (fun c_34 => ?_) (fun c_34 => ?_)
    · have hf := ip c_34 hf
      refine lv_aload_n hx hb dX9_takesCommand_44 rfl (lv_at hl 1 rfl) ?_
      refine va_ldcwS hx hb hown (EL_m3 hE) dX9_takesCommand_45 ?_
      obtain ⟨r_8, hc_9, hf⟩ := bd_ob hf
      refine rdVX (As := [.ref (aK 3)]) (rest := []) ⟨hx, hb, hml, hown, hts⟩ (mX9_isToken l D cI cB cZ cO (aK 3) (aV 3) q fu z_1 (lt 3) hc_9) (cwV 1 hts gX9_takesCommand_X9_isToken rfl rfl rfl (by decide +kernel) ⟨Nat.le_of_ble_eq_true rfl, Nat.le_of_ble_eq_true rfl⟩) (ET_ok _ _ _) ((hE.1 3).kept hS.2.1) hK hP (va_recv hK hP (ci := 8) (q0 := 0) rfl rfl) rfl hl.1 rfl (Nat.le_of_ble_eq_true rfl) dX9_takesCommand_48 ⟨Nat.zero_le _, Nat.zero_le _⟩ ?_
      refine lv_if_eq (tgt := 78) hx hb dX9_takesCommand_51 (by decide) (fun c_51 => ?_) (fun c_51 => ?_)
      · have hf := ip c_51 hf
        refine lv_aload_n hx hb dX9_takesCommand_78 rfl (lv_at hl 1 rfl) ?_
        refine va_ldcwS hx hb hown (EL_m4 hE) dX9_takesCommand_79 ?_
        obtain ⟨r_10, hc_11, hf⟩ := bd_ob hf
        refine rdVX (As := [.ref (aK 4)]) (rest := []) ⟨hx, hb, hml, hown, hts⟩ (mX9_isToken l D cI cB cZ cO (aK 4) (aV 4) q fu z_1 (lt 4) hc_11) (cwV 1 hts gX9_takesCommand_X9_isToken rfl rfl rfl (by decide +kernel) ⟨Nat.le_of_ble_eq_true rfl, Nat.le_of_ble_eq_true rfl⟩) (ET_ok _ _ _) ((hE.1 4).kept hS.2.1) hK hP (va_recv hK hP (ci := 8) (q0 := 0) rfl rfl) rfl hl.1 rfl (Nat.le_of_ble_eq_true rfl) dX9_takesCommand_82 ⟨Nat.zero_le _, Nat.zero_le _⟩ ?_
        refine lv_if_eq (tgt := 95) hx hb dX9_takesCommand_85 (by decide) (fun c_85 => ?_) (fun c_85 => ?_)
        · have hf := ip c_85 hf
          refine lv_aload_n hx hb dX9_takesCommand_95 rfl (lv_at hl 1 rfl) ?_
          refine va_ldcwS hx hb hown (EL_m5 hE) dX9_takesCommand_96 ?_
          obtain ⟨r_12, hc_13, hf⟩ := bd_ob hf
          refine rdVX (As := [.ref (aK 5)]) (rest := []) ⟨hx, hb, hml, hown, hts⟩ (mX9_isToken l D cI cB cZ cO (aK 5) (aV 5) q fu z_1 (lt 5) hc_13) (cwV 1 hts gX9_takesCommand_X9_isToken rfl rfl rfl (by decide +kernel) ⟨Nat.le_of_ble_eq_true rfl, Nat.le_of_ble_eq_true rfl⟩) (ET_ok _ _ _) ((hE.1 5).kept hS.2.1) hK hP (va_recv hK hP (ci := 8) (q0 := 0) rfl rfl) rfl hl.1 rfl (Nat.le_of_ble_eq_true rfl) dX9_takesCommand_99 ⟨Nat.zero_le _, Nat.zero_le _⟩ ?_
          refine lv_if_eq (tgt := 126) hx hb dX9_takesCommand_102 (by decide) (fun c_102 => ?_) (fun c_102 => ?_)
          · have hf := ip c_102 hf
            refine lv_aload_n hx hb dX9_takesCommand_126 rfl (lv_at hl 1 rfl) ?_
            refine va_ldcwS hx hb hown (EL_m6 hE) dX9_takesCommand_127 ?_
            obtain ⟨r_14, hc_15, hf⟩ := bd_ob hf
            refine rdVX (As := [.ref (aK 6)]) (rest := []) ⟨hx, hb, hml, hown, hts⟩ (mX9_isToken l D cI cB cZ cO (aK 6) (aV 6) q fu z_1 (lt 6) hc_15) (cwV 1 hts gX9_takesCommand_X9_isToken rfl rfl rfl (by decide +kernel) ⟨Nat.le_of_ble_eq_true rfl, Nat.le_of_ble_eq_true rfl⟩) (ET_ok _ _ _) ((hE.1 6).kept hS.2.1) hK hP (va_recv hK hP (ci := 8) (q0 := 0) rfl rfl) rfl hl.1 rfl (Nat.le_of_ble_eq_true rfl) dX9_takesCommand_130 ⟨Nat.zero_le _, Nat.zero_le _⟩ ?_
            refine lv_if_eq (tgt := 168) hx hb dX9_takesCommand_133 (by decide) (fun c_133 => ?_) (fun c_133 => ?_)
            · have hf := ip c_133 hf
              refine lv_aload_n hx hb dX9_takesCommand_168 rfl (lv_at hl 1 rfl) ?_
              refine va_ldcwS hx hb hown (EL_m7 hE) dX9_takesCommand_169 ?_
              obtain ⟨r_16, hc_17, hf⟩ := bd_ob hf
              refine rdVX (As := [.ref (aK 7)]) (rest := []) ⟨hx, hb, hml, hown, hts⟩ (mX9_isToken l D cI cB cZ cO (aK 7) (aV 7) q fu z_1 (lt 7) hc_17) (cwV 1 hts gX9_takesCommand_X9_isToken rfl rfl rfl (by decide +kernel) ⟨Nat.le_of_ble_eq_true rfl, Nat.le_of_ble_eq_true rfl⟩) (ET_ok _ _ _) ((hE.1 7).kept hS.2.1) hK hP (va_recv hK hP (ci := 8) (q0 := 0) rfl rfl) rfl hl.1 rfl (Nat.le_of_ble_eq_true rfl) dX9_takesCommand_172 ⟨Nat.zero_le _, Nat.zero_le _⟩ ?_
              refine lv_if_eq (tgt := 193) hx hb dX9_takesCommand_175 (by decide) (fun c_175 => ?_) (fun c_175 => ?_)
              · have hf := ip c_175 hf
                refine lv_aload_n hx hb dX9_takesCommand_193 rfl (lv_at hl 1 rfl) ?_
                refine va_ldcwS hx hb hown (EL_m8 hE) dX9_takesCommand_194 ?_
                obtain ⟨r_18, hc_19, hf⟩ := bd_ob hf
                refine rdVX (As := [.ref (aK 8)]) (rest := []) ⟨hx, hb, hml, hown, hts⟩ (mX9_isToken l D cI cB cZ cO (aK 8) (aV 8) q fu z_1 (lt 8) hc_19) (cwV 1 hts gX9_takesCommand_X9_isToken rfl rfl rfl (by decide +kernel) ⟨Nat.le_of_ble_eq_true rfl, Nat.le_of_ble_eq_true rfl⟩) (ET_ok _ _ _) ((hE.1 8).kept hS.2.1) hK hP (va_recv hK hP (ci := 8) (q0 := 0) rfl rfl) rfl hl.1 rfl (Nat.le_of_ble_eq_true rfl) dX9_takesCommand_197 ⟨Nat.zero_le _, Nat.zero_le _⟩ ?_
                refine lv_if_eq (tgt := 211) hx hb dX9_takesCommand_200 (by decide) (fun c_200 => ?_) (fun c_200 => ?_)
                · have hf := ip c_200 hf
                  refine lv_aload_n hx hb dX9_takesCommand_211 rfl (lv_at hl 1 rfl) ?_
                  refine lv_iload_n hx hb dX9_takesCommand_212 rfl (lv_at hl 0 rfl) ?_
                  refine lv_iconst (v := 1) hx hb dX9_takesCommand_213 (by decide) ?_
                  obtain ⟨z_20, hc_21, hf⟩ := bd_ob hf
                  refine weV (As := [.int v1_3, .int (1 : Int32)]) (rest := []) ⟨hx, hb, hml, hown, hts⟩ (mX9_fails l D cI cB cZ cO q _ fu z_1 v1_3 (1 : Int32) hc_21) (cwV 2 hts gX9_takesCommand_X9_fails rfl rfl rfl (by decide +kernel) ⟨Nat.le_of_ble_eq_true rfl, Nat.le_of_ble_eq_true rfl⟩) hK hP hD hS hA (va_recv hK hP (ci := 8) (q0 := 0) rfl rfl) rfl hl.1 rfl (Nat.le_of_ble_eq_true rfl) dX9_takesCommand_214 ⟨Nat.zero_le _, Nat.zero_le _⟩ (fun H locs hP hD hS => ?_)
                  exact rW_v hx hb hr hlocks hP hD hS (congrArg (fun (q9 : (OS)) => wM cI cB cZ q q9) (so_ob hf)) dX9_takesCommand_217
                · have hf := iq c_200 hf
                  refine lv_aload_n hx hb dX9_takesCommand_203 rfl (lv_at hl 1 rfl) ?_
                  refine lv_iload_n hx hb dX9_takesCommand_204 rfl (lv_at hl 0 rfl) ?_
                  obtain ⟨z_22, hc_23, hf⟩ := bd_ob hf
                  refine weVX (As := [.int v1_3]) (rest := []) ⟨hx, hb, hml, hown, hts⟩ (mX9_takesExpect l D cI cB cZ cO aK aV q _ fu z_1 v1_3 hc_23) (cwV 1 hts gX9_takesCommand_X9_takesExpect rfl rfl rfl (by decide +kernel) ⟨Nat.le_of_ble_eq_true rfl, Nat.le_of_ble_eq_true rfl⟩) (EL_ok aK aV) ((EL_ok aK aV).2.2.1 _ _ _ _ hS.2.1 hE) hK hP hD hS hA (va_recv hK hP (ci := 8) (q0 := 0) rfl rfl) rfl hl.1 rfl (Nat.le_of_ble_eq_true rfl) dX9_takesCommand_205 ⟨Nat.zero_le _, Nat.zero_le _⟩ (fun H locs hP hD hS => ?_)
                  refine lv_goto (tgt := 217) hx hb dX9_takesCommand_208 (by decide) ?_
                  exact rW_v hx hb hr hlocks hP hD hS (congrArg (fun (q9 : (OS)) => wM cI cB cZ q q9) (so_ob hf)) dX9_takesCommand_217
              · have hf := iq c_175 hf
                refine lv_aload_n hx hb dX9_takesCommand_178 rfl (lv_at hl 1 rfl) ?_
                obtain ⟨⟨r_24, z_25⟩, hc_27, hf⟩ := bd_ob hf
                have hf := nm_st hf
                have hf := nm_st hf
                refine weV (As := []) (rest := []) ⟨hx, hb, hml, hown, hts⟩ (mX9_isEnd l D cI cB cZ cO q _ fu z_1 hc_27) (cwV 0 hts gX9_takesCommand_X9_isEnd rfl rfl rfl (by decide +kernel) ⟨Nat.le_of_ble_eq_true rfl, Nat.le_of_ble_eq_true rfl⟩) hK hP hD hS hA (va_recv hK hP (ci := 8) (q0 := 0) rfl rfl) rfl hl.1 rfl (Nat.le_of_ble_eq_true rfl) dX9_takesCommand_179 ⟨Nat.zero_le _, Nat.zero_le _⟩ (fun H locs hP hD hS => ?_)
                refine lv_if_eq (tgt := 217) hx hb dX9_takesCommand_182 (by decide) (fun c_182 => ?_) (fun c_182 => ?_)
                · have hf := ip c_182 hf
                  exact rW_v hx hb hr hlocks hP hD hS (congrArg (fun (q9 : (OS)) => wM cI cB cZ q q9) (so_ob hf)) dX9_takesCommand_217
                · have hf := iq c_182 hf
                  refine lv_aload_n hx hb dX9_takesCommand_185 rfl (lv_at hl 1 rfl) ?_
                  obtain ⟨⟨r_28, z_29⟩, hc_31, hf⟩ := bd_ob hf
                  have hf := nm_st hf
                  have hf := nm_st hf
                  refine weV (As := []) (rest := []) ⟨hx, hb, hml, hown, hts⟩ (mX9_reduces l D cI cB cZ cO q _ fu z_25 hc_31) (cwV 0 hts gX9_takesCommand_X9_reduces rfl rfl rfl (by decide +kernel) ⟨Nat.le_of_ble_eq_true rfl, Nat.le_of_ble_eq_true rfl⟩) hK hP hD hS hA (va_recv hK hP (ci := 8) (q0 := 0) rfl rfl) rfl hl.1 rfl (Nat.le_of_ble_eq_true rfl) dX9_takesCommand_186 ⟨Nat.zero_le _, Nat.zero_le _⟩ (fun H locs hP hD hS => ?_)
                  refine lv_istore_n (lv' := [(2, .int r_28), (1, .int v1_3), (0, .ref (q 0))]) hx hb dX9_takesCommand_189 rfl hl (by decide) rfl (fun ls hl => ?_)
                  refine lv_goto (tgt := 217) hx hb dX9_takesCommand_190 (by decide) ?_
                  exact rW_v hx hb hr hlocks hP hD hS (congrArg (fun (q9 : (OS)) => wM cI cB cZ q q9) (so_ob hf)) dX9_takesCommand_217
            · have hf := iq c_133 hf
              refine lv_aload_n hx hb dX9_takesCommand_136 rfl (lv_at hl 1 rfl) ?_
              obtain ⟨⟨r_32, z_33⟩, hc_35, hf⟩ := bd_ob hf
              have hf := nm_st hf
              have hf := nm_st hf
              refine weV (As := []) (rest := []) ⟨hx, hb, hml, hown, hts⟩ (mX9_isEnd l D cI cB cZ cO q _ fu z_1 hc_35) (cwV 0 hts gX9_takesCommand_X9_isEnd rfl rfl rfl (by decide +kernel) ⟨Nat.le_of_ble_eq_true rfl, Nat.le_of_ble_eq_true rfl⟩) hK hP hD hS hA (va_recv hK hP (ci := 8) (q0 := 0) rfl rfl) rfl hl.1 rfl (Nat.le_of_ble_eq_true rfl) dX9_takesCommand_137 ⟨Nat.zero_le _, Nat.zero_le _⟩ (fun H locs hP hD hS => ?_)
              refine lv_if_eq (tgt := 217) hx hb dX9_takesCommand_140 (by decide) (fun c_140 => ?_) (fun c_140 => ?_)
              · have hf := ip c_140 hf
                exact rW_v hx hb hr hlocks hP hD hS (congrArg (fun (q9 : (OS)) => wM cI cB cZ q q9) (so_ob hf)) dX9_takesCommand_217
              · have hf := iq c_140 hf
                refine lv_iconst (v := 0) hx hb dX9_takesCommand_143 (by decide) ?_
                refine lv_istore_n (lv' := [(2, .int (0 : Int32)), (1, .int v1_3), (0, .ref (q 0))]) hx hb dX9_takesCommand_144 rfl hl (by decide) rfl (fun ls hl => ?_)
                obtain ⟨j165, ej165, hf⟩ := jn_ob hf
                have hp165 : ∀ (z1_165 : OS) (H : Heap) (locs : List Loc) (ls : Array Slot), j165 z1_165 = some y1 → va_P D vwCl (wM cI cB cZ q z1_165) H → va_D A (wM cI cB cZ q z1_165) → va_S A s.heap H locs → lv_has ls 4 [] → W p l e (headSpec wsX9_takesCommand { frames := 6, cells := 0, slots := 0, locals := 138 }).room s m args below meth c H locs 0 0 (MQ below (Qw D A none (wM cI cB cZ q y1)) args s 0 0 A) (F0 m 165 ls []) := by
                  intro z1_165 H locs ls hf hP hD hS hl
                  rw [ej165] at hf
                  refine lv_goto (tgt := 217) hx hb dX9_takesCommand_165 (by decide) ?_
                  exact rW_v hx hb hr hlocks hP hD hS (congrArg (fun (q9 : (OS)) => wM cI cB cZ q q9) (so_ob hf)) dX9_takesCommand_217
                have hL145 : ∀ (n_145 : Nat) (v2_145 : Int32) (z1_145 : OS) (H : Heap) (locs : List Loc) (ls : Array Slot), lX9_takesCommand_145 fu j165 n_145 v2_145 z1_145 = some y1 → va_P D vwCl (wM cI cB cZ q z1_145) H → va_D A (wM cI cB cZ q z1_145) → va_S A s.heap H locs → lv_has ls 4 [(0, .ref (q 0)), (2, .int v2_145)] → W p l e (headSpec wsX9_takesCommand { frames := 6, cells := 0, slots := 0, locals := 138 }).room s m args below meth c H locs 0 0 (MQ below (Qw D A none (wM cI cB cZ q y1)) args s 0 0 A) (F0 m 145 ls []) := by
                  intro n_145
                  induction n_145 with
                  | zero =>
                    intro v2_145 z1_145 H locs ls hf
                    exact no_ob hf
                  | succ n_145 ih145 =>
                    intro v2_145 z1_145 H locs ls hf hP hD hS hl
                    rw [lX9_takesCommand_145] at hf
                    refine lv_iload_n hx hb dX9_takesCommand_145 rfl (lv_at hl 1 rfl) ?_
                    refine lv_aload_n hx hb dX9_takesCommand_146 rfl (lv_at hl 0 rfl) ?_
                    obtain ⟨r_36, hc_37, hf⟩ := bd_ob hf
                    refine rdV (As := []) (rest := [.int v2_145]) ⟨hx, hb, hml, hown, hts⟩ (mX9_wide l D cI cB cZ cO q fu z1_145 hc_37) (cwV 0 hts gX9_takesCommand_X9_wide rfl rfl rfl (by decide +kernel) ⟨Nat.le_of_ble_eq_true rfl, Nat.le_of_ble_eq_true rfl⟩) hK hP (va_recv hK hP (ci := 8) (q0 := 0) rfl rfl) rfl hl.1 rfl (Nat.le_of_ble_eq_true rfl) dX9_takesCommand_147 ⟨Nat.zero_le _, Nat.zero_le _⟩ ?_
                    refine lv_icmp_ge (tgt := 165) hx hb dX9_takesCommand_150 (by decide) (fun c_150 => ?_) (fun c_150 => ?_)
                    · have hf := ip c_150 hf
                      exact hp165 z1_145 _ _ _ hf hP hD hS (lv_sub hl [] rfl)
                    · have hf := iq c_150 hf
                      refine lv_aload_n hx hb dX9_takesCommand_153 rfl (lv_at hl 0 rfl) ?_
                      refine lv_iload_n hx hb dX9_takesCommand_154 rfl (lv_at hl 1 rfl) ?_
                      obtain ⟨⟨r_38, z_39⟩, hc_41, hf⟩ := bd_ob hf
                      have hf := nm_st hf
                      have hf := nm_st hf
                      refine weV (As := [.int v2_145]) (rest := []) ⟨hx, hb, hml, hown, hts⟩ (mX9_negates l D cI cB cZ cO q _ fu z1_145 v2_145 hc_41) (cwV 1 hts gX9_takesCommand_X9_negates rfl rfl rfl (by decide +kernel) ⟨Nat.le_of_ble_eq_true rfl, Nat.le_of_ble_eq_true rfl⟩) hK hP hD hS hA (va_recv hK hP (ci := 8) (q0 := 0) rfl rfl) rfl hl.1 rfl (Nat.le_of_ble_eq_true rfl) dX9_takesCommand_155 ⟨Nat.zero_le _, Nat.zero_le _⟩ (fun H locs hP hD hS => ?_)
                      refine lv_istore_n (lv' := [(3, .int r_38), (0, .ref (q 0)), (2, .int v2_145)]) hx hb dX9_takesCommand_158 rfl hl (by decide) rfl (fun ls hl => ?_)
                      obtain ⟨v2_42, ev2_42, hf⟩ := nm_ob hf
                      refine lv_iinc (v := v2_42) (lv' := [(2, .int v2_42), (3, .int r_38), (0, .ref (q 0))]) hx hb dX9_takesCommand_159 hl (k := 2) rfl (by rw [ev2_42]; rfl) (by decide) rfl (fun ls hl => ?_)
                      refine lv_goto (tgt := 145) hx hb dX9_takesCommand_162 (by decide) ?_
                      exact ih145 v2_42 z_39 _ _ _ hf hP hD hS (lv_sub hl [2, 0] rfl)
                exact hL145 fu (0 : Int32) z_33 _ _ _ hf hP hD hS (lv_sub hl [2, 0] rfl)
          · have hf := iq c_102 hf
            refine lv_aload_n hx hb dX9_takesCommand_105 rfl (lv_at hl 1 rfl) ?_
            obtain ⟨⟨r_43, z_44⟩, hc_46, hf⟩ := bd_ob hf
            have hf := nm_st hf
            have hf := nm_st hf
            refine weV (As := []) (rest := []) ⟨hx, hb, hml, hown, hts⟩ (mX9_takesVariable l D cI cB cZ cO q _ fu z_1 hc_46) (cwV 0 hts gX9_takesCommand_X9_takesVariable rfl rfl rfl (by decide +kernel) ⟨Nat.le_of_ble_eq_true rfl, Nat.le_of_ble_eq_true rfl⟩) hK hP hD hS hA (va_recv hK hP (ci := 8) (q0 := 0) rfl rfl) rfl hl.1 rfl (Nat.le_of_ble_eq_true rfl) dX9_takesCommand_106 ⟨Nat.zero_le _, Nat.zero_le _⟩ (fun H locs hP hD hS => ?_)
            refine lv_istore_n (lv' := [(2, .int r_43), (1, .int v1_3), (0, .ref (q 0))]) hx hb dX9_takesCommand_109 rfl hl (by decide) rfl (fun ls hl => ?_)
            refine lv_aload_n hx hb dX9_takesCommand_110 rfl (lv_at hl 2 rfl) ?_
            obtain ⟨⟨r_47, z_48⟩, hc_50, hf⟩ := bd_ob hf
            have hf := nm_st hf
            have hf := nm_st hf
            refine weV (As := []) (rest := []) ⟨hx, hb, hml, hown, hts⟩ (mX9_isEnd l D cI cB cZ cO q _ fu z_44 hc_50) (cwV 0 hts gX9_takesCommand_X9_isEnd rfl rfl rfl (by decide +kernel) ⟨Nat.le_of_ble_eq_true rfl, Nat.le_of_ble_eq_true rfl⟩) hK hP hD hS hA (va_recv hK hP (ci := 8) (q0 := 0) rfl rfl) rfl hl.1 rfl (Nat.le_of_ble_eq_true rfl) dX9_takesCommand_111 ⟨Nat.zero_le _, Nat.zero_le _⟩ (fun H locs hP hD hS => ?_)
            obtain ⟨j123, ej123, hf⟩ := jn_ob hf
            have hp123 : ∀ (z1_123 : OS) (H : Heap) (locs : List Loc) (ls : Array Slot), j123 z1_123 = some y1 → va_P D vwCl (wM cI cB cZ q z1_123) H → va_D A (wM cI cB cZ q z1_123) → va_S A s.heap H locs → lv_has ls 4 [] → W p l e (headSpec wsX9_takesCommand { frames := 6, cells := 0, slots := 0, locals := 138 }).room s m args below meth c H locs 0 0 (MQ below (Qw D A none (wM cI cB cZ q y1)) args s 0 0 A) (F0 m 123 ls []) := by
              intro z1_123 H locs ls hf hP hD hS hl
              rw [ej123] at hf
              refine lv_goto (tgt := 217) hx hb dX9_takesCommand_123 (by decide) ?_
              exact rW_v hx hb hr hlocks hP hD hS (congrArg (fun (q9 : (OS)) => wM cI cB cZ q q9) (so_ob hf)) dX9_takesCommand_217
            refine lv_if_eq (tgt := 123) hx hb dX9_takesCommand_114 (by decide) (fun c_114 => ?_) (fun c_114 => ?_)
            · have hf := ip c_114 hf
              exact hp123 z_48 _ _ _ hf hP hD hS (lv_sub hl [] rfl)
            · have hf := iq c_114 hf
              refine lv_aload_n hx hb dX9_takesCommand_117 rfl (lv_at hl 2 rfl) ?_
              refine lv_iload_n hx hb dX9_takesCommand_118 rfl (lv_at hl 0 rfl) ?_
              obtain ⟨⟨r_51, z_52⟩, hc_54, hf⟩ := bd_ob hf
              have hf := nm_st hf
              have hf := nm_st hf
              refine weV (As := [.int r_43]) (rest := []) ⟨hx, hb, hml, hown, hts⟩ (mX9_negates l D cI cB cZ cO q _ fu z_48 r_43 hc_54) (cwV 1 hts gX9_takesCommand_X9_negates rfl rfl rfl (by decide +kernel) ⟨Nat.le_of_ble_eq_true rfl, Nat.le_of_ble_eq_true rfl⟩) hK hP hD hS hA (va_recv hK hP (ci := 8) (q0 := 0) rfl rfl) rfl hl.1 rfl (Nat.le_of_ble_eq_true rfl) dX9_takesCommand_119 ⟨Nat.zero_le _, Nat.zero_le _⟩ (fun H locs hP hD hS => ?_)
              refine lv_istore_n (lv' := [(3, .int r_51), (2, .int r_43), (1, .int v1_3), (0, .ref (q 0))]) hx hb dX9_takesCommand_122 rfl hl (by decide) rfl (fun ls hl => ?_)
              exact hp123 z_52 _ _ _ hf hP hD hS (lv_sub hl [] rfl)
        · have hf := iq c_85 hf
          refine lv_aload_n hx hb dX9_takesCommand_88 rfl (lv_at hl 1 rfl) ?_
          obtain ⟨z_55, hc_56, hf⟩ := bd_ob hf
          refine weV (As := []) (rest := []) ⟨hx, hb, hml, hown, hts⟩ (mX9_takesDrop l D cI cB cZ cO q _ fu z_1 hc_56) (cwV 0 hts gX9_takesCommand_X9_takesDrop rfl rfl rfl (by decide +kernel) ⟨Nat.le_of_ble_eq_true rfl, Nat.le_of_ble_eq_true rfl⟩) hK hP hD hS hA (va_recv hK hP (ci := 8) (q0 := 0) rfl rfl) rfl hl.1 rfl (Nat.le_of_ble_eq_true rfl) dX9_takesCommand_89 ⟨Nat.zero_le _, Nat.zero_le _⟩ (fun H locs hP hD hS => ?_)
          refine lv_goto (tgt := 217) hx hb dX9_takesCommand_92 (by decide) ?_
          exact rW_v hx hb hr hlocks hP hD hS (congrArg (fun (q9 : (OS)) => wM cI cB cZ q q9) (so_ob hf)) dX9_takesCommand_217
      · have hf := iq c_51 hf
        refine lv_aload_n hx hb dX9_takesCommand_54 rfl (lv_at hl 1 rfl) ?_
        refine lv_iconst (v := 1) hx hb dX9_takesCommand_55 (by decide) ?_
        refine lv_bipush (v := 99) hx hb dX9_takesCommand_56 (by decide) ?_
        obtain ⟨⟨r_57, z_58⟩, hc_60, hf⟩ := bd_ob hf
        have hf := nm_st hf
        have hf := nm_st hf
        refine weV (As := [.int (1 : Int32), .int (99 : Int32)]) (rest := []) ⟨hx, hb, hml, hown, hts⟩ (mX9_number l D cI cB cZ cO q _ fu z_1 (1 : Int32) (99 : Int32) hc_60) (cwV 2 hts gX9_takesCommand_X9_number rfl rfl rfl (by decide +kernel) ⟨Nat.le_of_ble_eq_true rfl, Nat.le_of_ble_eq_true rfl⟩) hK hP hD hS hA (va_recv hK hP (ci := 8) (q0 := 0) rfl rfl) rfl hl.1 rfl (Nat.le_of_ble_eq_true rfl) dX9_takesCommand_58 ⟨Nat.zero_le _, Nat.zero_le _⟩ (fun H locs hP hD hS => ?_)
        refine lv_istore_n (lv' := [(2, .int r_57), (1, .int v1_3), (0, .ref (q 0))]) hx hb dX9_takesCommand_61 rfl hl (by decide) rfl (fun ls hl => ?_)
        refine lv_aload_n hx hb dX9_takesCommand_62 rfl (lv_at hl 2 rfl) ?_
        obtain ⟨⟨r_61, z_62⟩, hc_64, hf⟩ := bd_ob hf
        have hf := nm_st hf
        have hf := nm_st hf
        refine weV (As := []) (rest := []) ⟨hx, hb, hml, hown, hts⟩ (mX9_isEnd l D cI cB cZ cO q _ fu z_58 hc_64) (cwV 0 hts gX9_takesCommand_X9_isEnd rfl rfl rfl (by decide +kernel) ⟨Nat.le_of_ble_eq_true rfl, Nat.le_of_ble_eq_true rfl⟩) hK hP hD hS hA (va_recv hK hP (ci := 8) (q0 := 0) rfl rfl) rfl hl.1 rfl (Nat.le_of_ble_eq_true rfl) dX9_takesCommand_63 ⟨Nat.zero_le _, Nat.zero_le _⟩ (fun H locs hP hD hS => ?_)
        obtain ⟨j75, ej75, hf⟩ := jn_ob hf
        have hp75 : ∀ (z1_75 : OS) (H : Heap) (locs : List Loc) (ls : Array Slot), j75 z1_75 = some y1 → va_P D vwCl (wM cI cB cZ q z1_75) H → va_D A (wM cI cB cZ q z1_75) → va_S A s.heap H locs → lv_has ls 4 [] → W p l e (headSpec wsX9_takesCommand { frames := 6, cells := 0, slots := 0, locals := 138 }).room s m args below meth c H locs 0 0 (MQ below (Qw D A none (wM cI cB cZ q y1)) args s 0 0 A) (F0 m 75 ls []) := by
          intro z1_75 H locs ls hf hP hD hS hl
          rw [ej75] at hf
          refine lv_goto (tgt := 217) hx hb dX9_takesCommand_75 (by decide) ?_
          exact rW_v hx hb hr hlocks hP hD hS (congrArg (fun (q9 : (OS)) => wM cI cB cZ q q9) (so_ob hf)) dX9_takesCommand_217
        refine lv_if_eq (tgt := 75) hx hb dX9_takesCommand_66 (by decide) (fun c_66 => ?_) (fun c_66 => ?_)
        · have hf := ip c_66 hf
          exact hp75 z_62 _ _ _ hf hP hD hS (lv_sub hl [] rfl)
        · have hf := iq c_66 hf
          refine lv_aload_n hx hb dX9_takesCommand_69 rfl (lv_at hl 2 rfl) ?_
          refine lv_iload_n hx hb dX9_takesCommand_70 rfl (lv_at hl 0 rfl) ?_
          obtain ⟨⟨r_65, z_66⟩, hc_68, hf⟩ := bd_ob hf
          have hf := nm_st hf
          have hf := nm_st hf
          refine weV (As := [.int r_57]) (rest := []) ⟨hx, hb, hml, hown, hts⟩ (mX9_steps l D cI cB cZ cO q _ fu z_62 r_57 hc_68) (cwV 1 hts gX9_takesCommand_X9_steps rfl rfl rfl (by decide +kernel) ⟨Nat.le_of_ble_eq_true rfl, Nat.le_of_ble_eq_true rfl⟩) hK hP hD hS hA (va_recv hK hP (ci := 8) (q0 := 0) rfl rfl) rfl hl.1 rfl (Nat.le_of_ble_eq_true rfl) dX9_takesCommand_71 ⟨Nat.zero_le _, Nat.zero_le _⟩ (fun H locs hP hD hS => ?_)
          refine lv_istore_n (lv' := [(3, .int r_65), (2, .int r_57), (1, .int v1_3), (0, .ref (q 0))]) hx hb dX9_takesCommand_74 rfl hl (by decide) rfl (fun ls hl => ?_)
          exact hp75 z_66 _ _ _ hf hP hD hS (lv_sub hl [] rfl)
    · have hf := iq c_34 hf
      refine lv_aload_n hx hb dX9_takesCommand_37 rfl (lv_at hl 1 rfl) ?_
      obtain ⟨z_69, hc_70, hf⟩ := bd_ob hf
      refine weV (As := []) (rest := []) ⟨hx, hb, hml, hown, hts⟩ (mX9_takesResolve l D cI cB cZ cO q _ fu z_1 hc_70) (cwV 0 hts gX9_takesCommand_X9_takesResolve rfl rfl rfl (by decide +kernel) ⟨Nat.le_of_ble_eq_true rfl, Nat.le_of_ble_eq_true rfl⟩) hK hP hD hS hA (va_recv hK hP (ci := 8) (q0 := 0) rfl rfl) rfl hl.1 rfl (Nat.le_of_ble_eq_true rfl) dX9_takesCommand_38 ⟨Nat.zero_le _, Nat.zero_le _⟩ (fun H locs hP hD hS => ?_)
      refine lv_goto (tgt := 217) hx hb dX9_takesCommand_41 (by decide) ?_
      exact rW_v hx hb hr hlocks hP hD hS (congrArg (fun (q9 : (OS)) => wM cI cB cZ q q9) (so_ob hf)) dX9_takesCommand_217
  · have hf := iq c_16 hf
    refine lv_aload_n hx hb dX9_takesCommand_19 rfl (lv_at hl 1 rfl) ?_
    refine lv_iload_n hx hb dX9_takesCommand_20 rfl (lv_at hl 0 rfl) ?_
    obtain ⟨z_71, hc_72, hf⟩ := bd_ob hf
    refine weV (As := [.int v1_3]) (rest := []) ⟨hx, hb, hml, hown, hts⟩ (mX9_takesNewClause l D cI cB cZ cO q _ fu z_1 v1_3 hc_72) (cwV 1 hts gX9_takesCommand_X9_takesNewClause rfl rfl rfl (by decide +kernel) ⟨Nat.le_of_ble_eq_true rfl, Nat.le_of_ble_eq_true rfl⟩) hK hP hD hS hA (va_recv hK hP (ci := 8) (q0 := 0) rfl rfl) rfl hl.1 rfl (Nat.le_of_ble_eq_true rfl) dX9_takesCommand_21 ⟨Nat.zero_le _, Nat.zero_le _⟩ (fun H locs hP hD hS => ?_)
    refine lv_goto (tgt := 217) hx hb dX9_takesCommand_24 (by decide) ?_
    exact rW_v hx hb hr hlocks hP hD hS (congrArg (fun (q9 : (OS)) => wM cI cB cZ q q9) (so_ob hf)) dX9_takesCommand_217

def lX9_takesCommands_6 (fu : Nat) (j38 : Int32 → OS → Option (Int32 × (OS))) : Nat → Int32 → OS → Option (Int32 × (OS))
  | 0, _, _ => none
  | n_6 + 1, v1_6, z1_6 => bd (fX9_hasFailed fu z1_6) (fun (r_3 : Int32) => (if ¬ r_3 = (0 : Int32) then j38 v1_6 z1_6 else (if (z1_6.1 20) ≤ (z1_6.1 19) then j38 v1_6 z1_6 else bd (fX9_takesCommand fu z1_6) (fun (z_5 : OS) => bd (fX9_skips fu z_5) (fun (z_7 : OS) => nm (v1_6 + (1 : Int32)) (fun (v1_9 : Int32) => lX9_takesCommands_6 fu j38 n_6 v1_9 z_7))))))
def fX9_takesCommands (fu : Nat) (z : OS) : Option (Int32 × (OS)) :=
  bd (fX9_skips fu z) (fun (z_1 : OS) => jn (κ := Int32 → OS → Option (Int32 × (OS))) (fun (v1_38 : Int32) (z1_38 : OS) => some (v1_38, z1_38)) (fun j38 => lX9_takesCommands_6 fu j38 fu (0 : Int32) z_1))
set_option maxRecDepth 100000 in
set_option maxHeartbeats 4000000 in
theorem mX9_takesCommands (l : Launch) (D : va_G) (cI cB cZ cO : ClassId) (aK aV : Nat → Nat) (q : Nat → Nat) (sz : Nat) (fu : Nat) (z : OS) {r : Int32} {y1 : OS} (hf : fX9_takesCommands fu z = some (r, y1)) : Met l yX9_takesCommands wsX9_takesCommands ({ frames := 7, cells := 0, slots := 0, locals := 161 }) (va_Pc [.ref (q 0)] (PwX (EL aK aV) D (gT cI cB cZ cO) (wM cI cB cZ q z) sz)) (Qw D (va_A (wM cI cB cZ q z) sz) (some (.int r)) (wM cI cB cZ q y1)) 0 0 (va_A (wM cI cB cZ q z) sz) := by
  unfold fX9_takesCommands at hf
  refine metWX (ret := (some .int)) (own := RX9) rfl (by decide) rfl (Nat.le_of_ble_eq_true rfl) (fun p e s m args below meth c ls A hx hb hr hml hown hlocks hts hK hA hP hD hS hE hl => ?_)
  have k165 := (hts (.fieldLink RX9 165 "ResolutionProverModel" "point" "I") (List.mem_of_getElem? (i := 1) rfl))
  have k168 := (hts (.fieldLink RX9 168 "ResolutionProverModel" "limit" "I") (List.mem_of_getElem? (i := 2) rfl))
  have hiX9 : ∀ w ∈ wsX90, w ∈ wsX9_takesCommands := (memIn_p [286, 287, 288, 289, 290, 291, 292, 293, 294, 295, 296, 297, 298, 299, 300, 301, 302, 303, 304, 305, 306, 307, 308, 309, 310, 311, 312] rfl)
  have hl : lv_has ls 2 [(0, .ref (q 0))] := hl
  refine lv_iconst (v := 0) hx hb dX9_takesCommands_0 (by decide) ?_
  refine lv_istore_n (lv' := [(1, .int (0 : Int32)), (0, .ref (q 0))]) hx hb dX9_takesCommands_1 rfl hl (by decide) rfl (fun ls hl => ?_)
  refine lv_aload_n hx hb dX9_takesCommands_2 rfl (lv_at hl 1 rfl) ?_
  obtain ⟨z_1, hc_2, hf⟩ := bd_ob hf
  refine weV (As := []) (rest := []) ⟨hx, hb, hml, hown, hts⟩ (mX9_skips l D cI cB cZ cO q _ fu z hc_2) (cwV 0 hts gX9_takesCommands_X9_skips rfl rfl rfl (by decide +kernel) ⟨Nat.le_of_ble_eq_true rfl, Nat.le_of_ble_eq_true rfl⟩) hK hP hD hS hA (va_recv hK hP (ci := 8) (q0 := 0) rfl rfl) rfl hl.1 rfl (Nat.le_of_ble_eq_true rfl) dX9_takesCommands_3 ⟨Nat.zero_le _, Nat.zero_le _⟩ (fun H locs hP hD hS => ?_)
  obtain ⟨j38, ej38, hf⟩ := jn_ob hf
  have hp38 : ∀ (v1_38 : Int32) (z1_38 : OS) (H : Heap) (locs : List Loc) (ls : Array Slot), j38 v1_38 z1_38 = some (r, y1) → va_P D vwCl (wM cI cB cZ q z1_38) H → va_D A (wM cI cB cZ q z1_38) → va_S A s.heap H locs → lv_has ls 2 [(1, .int v1_38)] → W p l e (headSpec wsX9_takesCommands { frames := 7, cells := 0, slots := 0, locals := 161 }).room s m args below meth c H locs 0 0 (MQ below (Qw D A (some (.int r)) (wM cI cB cZ q y1)) args s 0 0 A) (F0 m 38 ls []) := by
    intro v1_38 z1_38 H locs ls hf hP hD hS hl
    rw [ej38] at hf
    refine lv_iload_n hx hb dX9_takesCommands_38 rfl (lv_at hl 0 rfl) ?_
    exact rW_i hx hb hr hlocks hP hD hS (congrArg (fun q9 => q9.1) (so_ob hf)) (congrArg (fun (q9 : Int32 × (OS)) => wM cI cB cZ q q9.2) (so_ob hf)) dX9_takesCommands_39
  have hL6 : ∀ (n_6 : Nat) (v1_6 : Int32) (z1_6 : OS) (H : Heap) (locs : List Loc) (ls : Array Slot), lX9_takesCommands_6 fu j38 n_6 v1_6 z1_6 = some (r, y1) → va_P D vwCl (wM cI cB cZ q z1_6) H → va_D A (wM cI cB cZ q z1_6) → va_S A s.heap H locs → lv_has ls 2 [(0, .ref (q 0)), (1, .int v1_6)] → W p l e (headSpec wsX9_takesCommands { frames := 7, cells := 0, slots := 0, locals := 161 }).room s m args below meth c H locs 0 0 (MQ below (Qw D A (some (.int r)) (wM cI cB cZ q y1)) args s 0 0 A) (F0 m 6 ls []) := by
    intro n_6
    induction n_6 with
    | zero =>
      intro v1_6 z1_6 H locs ls hf
      exact no_ob hf
    | succ n_6 ih6 =>
      intro v1_6 z1_6 H locs ls hf hP hD hS hl
      rw [lX9_takesCommands_6] at hf
      refine lv_aload_n hx hb dX9_takesCommands_6 rfl (lv_at hl 0 rfl) ?_
      obtain ⟨r_3, hc_4, hf⟩ := bd_ob hf
      refine rdV (As := []) (rest := []) ⟨hx, hb, hml, hown, hts⟩ (mX9_hasFailed l D cI cB cZ cO q fu z1_6 hc_4) (cwV 0 hts gX9_takesCommands_X9_hasFailed rfl rfl rfl (by decide +kernel) ⟨Nat.le_of_ble_eq_true rfl, Nat.le_of_ble_eq_true rfl⟩) hK hP (va_recv hK hP (ci := 8) (q0 := 0) rfl rfl) rfl hl.1 rfl (Nat.le_of_ble_eq_true rfl) dX9_takesCommands_7 ⟨Nat.zero_le _, Nat.zero_le _⟩ ?_
      refine lv_if_ne (tgt := 38) hx hb dX9_takesCommands_10 (by decide) (fun c_10 => ?_) (fun c_10 => ?_)
      · have hf := ip c_10 hf
        exact hp38 v1_6 z1_6 _ _ _ hf hP hD hS (lv_sub hl [1] rfl)
      · have hf := iqn c_10 hf
        refine lv_aload_n hx hb dX9_takesCommands_13 rfl (lv_at hl 0 rfl) ?_
        refine va_get (D := D) (ci := 8) (v := .int (z1_6.1 19)) (C := RX9) (T := TX9) (N := 27) hx hb hts hiX9 hown hK hP 0 rfl rfl 19 (by decide) k165 (fun _ h9 => h9) rfl dX9_takesCommands_14 ?_
        refine lv_aload_n hx hb dX9_takesCommands_17 rfl (lv_at hl 0 rfl) ?_
        refine va_get (D := D) (ci := 8) (v := .int (z1_6.1 20)) (C := RX9) (T := TX9) (N := 27) hx hb hts hiX9 hown hK hP 0 rfl rfl 20 (by decide) k168 (fun _ h9 => h9) rfl dX9_takesCommands_18 ?_
        refine lv_icmp_ge (tgt := 38) hx hb dX9_takesCommands_21 (by decide) (fun c_21 => ?_) (fun c_21 => ?_)
        · have hf := ip c_21 hf
          exact hp38 v1_6 z1_6 _ _ _ hf hP hD hS (lv_sub hl [1] rfl)
        · have hf := iq c_21 hf
          refine lv_aload_n hx hb dX9_takesCommands_24 rfl (lv_at hl 0 rfl) ?_
          obtain ⟨z_5, hc_6, hf⟩ := bd_ob hf
          refine weVX (As := []) (rest := []) ⟨hx, hb, hml, hown, hts⟩ (mX9_takesCommand l D cI cB cZ cO aK aV q _ fu z1_6 hc_6) (cwV 0 hts gX9_takesCommands_X9_takesCommand rfl rfl rfl (by decide +kernel) ⟨Nat.le_of_ble_eq_true rfl, Nat.le_of_ble_eq_true rfl⟩) (EL_ok aK aV) ((EL_ok aK aV).2.2.1 _ _ _ _ hS.2.1 hE) hK hP hD hS hA (va_recv hK hP (ci := 8) (q0 := 0) rfl rfl) rfl hl.1 rfl (Nat.le_of_ble_eq_true rfl) dX9_takesCommands_25 ⟨Nat.zero_le _, Nat.zero_le _⟩ (fun H locs hP hD hS => ?_)
          refine lv_aload_n hx hb dX9_takesCommands_28 rfl (lv_at hl 0 rfl) ?_
          obtain ⟨z_7, hc_8, hf⟩ := bd_ob hf
          refine weV (As := []) (rest := []) ⟨hx, hb, hml, hown, hts⟩ (mX9_skips l D cI cB cZ cO q _ fu z_5 hc_8) (cwV 0 hts gX9_takesCommands_X9_skips rfl rfl rfl (by decide +kernel) ⟨Nat.le_of_ble_eq_true rfl, Nat.le_of_ble_eq_true rfl⟩) hK hP hD hS hA (va_recv hK hP (ci := 8) (q0 := 0) rfl rfl) rfl hl.1 rfl (Nat.le_of_ble_eq_true rfl) dX9_takesCommands_29 ⟨Nat.zero_le _, Nat.zero_le _⟩ (fun H locs hP hD hS => ?_)
          obtain ⟨v1_9, ev1_9, hf⟩ := nm_ob hf
          refine lv_iinc (v := v1_9) (lv' := [(1, .int v1_9), (0, .ref (q 0))]) hx hb dX9_takesCommands_32 hl (k := 1) rfl (by rw [ev1_9]; rfl) (by decide) rfl (fun ls hl => ?_)
          refine lv_goto (tgt := 6) hx hb dX9_takesCommands_35 (by decide) ?_
          exact ih6 v1_9 z_7 _ _ _ hf hP hD hS (lv_sub hl [1, 0] rfl)
  exact hL6 fu (0 : Int32) z_1 _ _ _ hf hP hD hS (lv_sub hl [1, 0] rfl)

def fX9_opensTape (fu : Nat) (z : OS) : Option ((OS)) :=
  nm (sI z 20 (z.1 16)) (fun (z_1 : OS) => nm (sI z_1 16 (0 : Int32)) (fun (z_2 : OS) => nm (sI z_2 19 (0 : Int32)) (fun (z_3 : OS) => nm (sI z_3 21 (-1 : Int32)) (fun (z_4 : OS) => nm (sI z_4 22 (0 : Int32)) (fun (z_5 : OS) => bd (fX9_keeps fu z_5) (fun (z_6 : OS) => some z_6))))))
set_option maxRecDepth 100000 in
set_option maxHeartbeats 4000000 in
theorem mX9_opensTape (l : Launch) (D : va_G) (cI cB cZ cO : ClassId) (q : Nat → Nat) (sz : Nat) (fu : Nat) (z : OS) {y1 : OS} (hf : fX9_opensTape fu z = some y1) : Met l yX9_opensTape wsX9_opensTape ({ frames := 2, cells := 0, slots := 0, locals := 44 }) (va_Pc [.ref (q 0)] (Pw D (gT cI cB cZ cO) (wM cI cB cZ q z) sz)) (Qw D (va_A (wM cI cB cZ q z) sz) none (wM cI cB cZ q y1)) 0 0 (va_A (wM cI cB cZ q z) sz) := by
  unfold fX9_opensTape at hf
  refine metW (ret := none) (own := RX9) rfl (by decide) rfl (Nat.le_of_ble_eq_true rfl) (fun p e s m args below meth c ls A hx hb hr hml hown hlocks hts hK hA hP hD hS hl => ?_)
  have k162 := (hts (.fieldLink RX9 162 "ResolutionProverModel" "taped" "I") (List.mem_of_getElem? (i := 1) rfl))
  have k168 := (hts (.fieldLink RX9 168 "ResolutionProverModel" "limit" "I") (List.mem_of_getElem? (i := 2) rfl))
  have k165 := (hts (.fieldLink RX9 165 "ResolutionProverModel" "point" "I") (List.mem_of_getElem? (i := 3) rfl))
  have k182 := (hts (.fieldLink RX9 182 "ResolutionProverModel" "faultAt" "I") (List.mem_of_getElem? (i := 4) rfl))
  have k188 := (hts (.fieldLink RX9 188 "ResolutionProverModel" "faultCode" "I") (List.mem_of_getElem? (i := 5) rfl))
  have hiX9 : ∀ w ∈ wsX90, w ∈ wsX9_opensTape := (memIn_p [16, 17, 18, 19, 20, 21, 22, 23, 24, 25, 26, 27, 28, 29, 30, 31, 32, 33, 34, 35, 36, 37, 38, 39, 40, 41, 42] rfl)
  have hl : lv_has ls 1 [(0, .ref (q 0))] := hl
  refine lv_aload_n hx hb dX9_opensTape_0 rfl (lv_at hl 0 rfl) ?_
  refine lv_aload_n hx hb dX9_opensTape_1 rfl (lv_at hl 0 rfl) ?_
  refine va_get (D := D) (ci := 8) (v := .int (z.1 16)) (C := RX9) (T := TX9) (N := 27) hx hb hts hiX9 hown hK hP 0 rfl rfl 16 (by decide) k162 (fun _ h9 => h9) rfl dX9_opensTape_2 ?_
  refine va_put (D := D) (ci := 8) (v := .int (z.1 16)) (ty := .int) (C := RX9) (T := TX9) (N := 27) hx hb hts hiX9 tyX9 tyX9_ok nmX9 hown hK hP hD hS 0 rfl rfl 20 (by decide) k168 (fun _ h9 => h9) rfl (by decide +kernel) rfl rfl (Nat.le_of_ble_eq_true rfl) dX9_opensTape_5 (fun H locs hP hD hS => ?_)
  obtain ⟨z_1, ez_1, hf⟩ := nm_ob hf
  have hP : va_P D vwCl (wM cI cB cZ q z_1) H := by rw [ez_1]; exact hP
  have hD : va_D A (wM cI cB cZ q z_1) := by rw [ez_1]; exact hD
  refine lv_aload_n hx hb dX9_opensTape_8 rfl (lv_at hl 0 rfl) ?_
  refine lv_iconst (v := 0) hx hb dX9_opensTape_9 (by decide) ?_
  refine va_put (D := D) (ci := 8) (v := .int (0 : Int32)) (ty := .int) (C := RX9) (T := TX9) (N := 27) hx hb hts hiX9 tyX9 tyX9_ok nmX9 hown hK hP hD hS 0 rfl rfl 16 (by decide) k162 (fun _ h9 => h9) rfl (by decide +kernel) rfl rfl (Nat.le_of_ble_eq_true rfl) dX9_opensTape_10 (fun H locs hP hD hS => ?_)
  obtain ⟨z_2, ez_2, hf⟩ := nm_ob hf
  have hP : va_P D vwCl (wM cI cB cZ q z_2) H := by rw [ez_2]; exact hP
  have hD : va_D A (wM cI cB cZ q z_2) := by rw [ez_2]; exact hD
  refine lv_aload_n hx hb dX9_opensTape_13 rfl (lv_at hl 0 rfl) ?_
  refine lv_iconst (v := 0) hx hb dX9_opensTape_14 (by decide) ?_
  refine va_put (D := D) (ci := 8) (v := .int (0 : Int32)) (ty := .int) (C := RX9) (T := TX9) (N := 27) hx hb hts hiX9 tyX9 tyX9_ok nmX9 hown hK hP hD hS 0 rfl rfl 19 (by decide) k165 (fun _ h9 => h9) rfl (by decide +kernel) rfl rfl (Nat.le_of_ble_eq_true rfl) dX9_opensTape_15 (fun H locs hP hD hS => ?_)
  obtain ⟨z_3, ez_3, hf⟩ := nm_ob hf
  have hP : va_P D vwCl (wM cI cB cZ q z_3) H := by rw [ez_3]; exact hP
  have hD : va_D A (wM cI cB cZ q z_3) := by rw [ez_3]; exact hD
  refine lv_aload_n hx hb dX9_opensTape_18 rfl (lv_at hl 0 rfl) ?_
  refine lv_iconst (v := (-1)) hx hb dX9_opensTape_19 (by decide) ?_
  refine va_put (D := D) (ci := 8) (v := .int (-1 : Int32)) (ty := .int) (C := RX9) (T := TX9) (N := 27) hx hb hts hiX9 tyX9 tyX9_ok nmX9 hown hK hP hD hS 0 rfl rfl 21 (by decide) k182 (fun _ h9 => h9) rfl (by decide +kernel) rfl rfl (Nat.le_of_ble_eq_true rfl) dX9_opensTape_20 (fun H locs hP hD hS => ?_)
  obtain ⟨z_4, ez_4, hf⟩ := nm_ob hf
  have hP : va_P D vwCl (wM cI cB cZ q z_4) H := by rw [ez_4]; exact hP
  have hD : va_D A (wM cI cB cZ q z_4) := by rw [ez_4]; exact hD
  refine lv_aload_n hx hb dX9_opensTape_23 rfl (lv_at hl 0 rfl) ?_
  refine lv_iconst (v := 0) hx hb dX9_opensTape_24 (by decide) ?_
  refine va_put (D := D) (ci := 8) (v := .int (0 : Int32)) (ty := .int) (C := RX9) (T := TX9) (N := 27) hx hb hts hiX9 tyX9 tyX9_ok nmX9 hown hK hP hD hS 0 rfl rfl 22 (by decide) k188 (fun _ h9 => h9) rfl (by decide +kernel) rfl rfl (Nat.le_of_ble_eq_true rfl) dX9_opensTape_25 (fun H locs hP hD hS => ?_)
  obtain ⟨z_5, ez_5, hf⟩ := nm_ob hf
  have hP : va_P D vwCl (wM cI cB cZ q z_5) H := by rw [ez_5]; exact hP
  have hD : va_D A (wM cI cB cZ q z_5) := by rw [ez_5]; exact hD
  refine lv_aload_n hx hb dX9_opensTape_28 rfl (lv_at hl 0 rfl) ?_
  obtain ⟨z_6, hc_7, hf⟩ := bd_ob hf
  refine weV (As := []) (rest := []) ⟨hx, hb, hml, hown, hts⟩ (mX9_keeps l D cI cB cZ cO q _ fu z_5 hc_7) (cwV 0 hts gX9_opensTape_X9_keeps rfl rfl rfl (by decide +kernel) ⟨Nat.le_of_ble_eq_true rfl, Nat.le_of_ble_eq_true rfl⟩) hK hP hD hS hA (va_recv hK hP (ci := 8) (q0 := 0) rfl rfl) rfl hl.1 rfl (Nat.le_of_ble_eq_true rfl) dX9_opensTape_29 ⟨Nat.zero_le _, Nat.zero_le _⟩ (fun H locs hP hD hS => ?_)
  exact rW_v hx hb hr hlocks hP hD hS (congrArg (fun (q9 : (OS)) => wM cI cB cZ q q9) (so_ob hf)) dX9_opensTape_32

def fX9_hasEnded (fu : Nat) (z : OS) : Option (Int32 × (OS)) :=
  nm (sI z 17 (z.1 21)) (fun (z_1 : OS) => nm (sI z_1 18 (z_1.1 22)) (fun (z_2 : OS) => bd (fX9_hasFailed fu z_2) (fun (r_3 : Int32) => jn (κ := OS → Option (Int32 × (OS))) (fun (z1_36 : OS) => bd (fX9_hasFailed fu z1_36) (fun (r_5 : Int32) => bd (fX9_throwsIf fu z1_36 r_5 (1 : Int32)) (fun (w_9 : Int32 × OS) => nm w_9.1 (fun (r_7 : Int32) => nm w_9.2 (fun (z_8 : OS) => gd (isZ r_7) (some (r_7, z_8))))))) (fun j36 => (if r_3 = (0 : Int32) then j36 z_2 else bd (fX9_copies_two fu 917 (z_2.2 2) 917 (z_2.2 1) (0 : Int32) (0 : Int32)) (fun (x_11 : (Nat → Int32)) => nm (sA z_2 1 x_11) (fun (z_13 : OS) => j36 z_13)))))))
set_option maxRecDepth 100000 in
set_option maxHeartbeats 4000000 in
theorem mX9_hasEnded (l : Launch) (D : va_G) (cI cB cZ cO : ClassId) (q : Nat → Nat) (sz : Nat) (fu : Nat) (z : OS) {r : Int32} {y1 : OS} (hf : fX9_hasEnded fu z = some (r, y1)) : Met l yX9_hasEnded wsX9_hasEnded ({ frames := 1, cells := 0, slots := 0, locals := 24 }) (va_Pc [.ref (q 0)] (Pw D (gT cI cB cZ cO) (wM cI cB cZ q z) sz)) (Qw D (va_A (wM cI cB cZ q z) sz) (some (.int r)) (wM cI cB cZ q y1)) 0 0 (va_A (wM cI cB cZ q z) sz) := by
  unfold fX9_hasEnded at hf
  refine metW (ret := (some .boolean)) (own := RX9) rfl (by decide) rfl (Nat.le_of_ble_eq_true rfl) (fun p e s m args below meth c ls A hx hb hr hml hown hlocks hts hK hA hP hD hS hl => ?_)
  have k182 := (hts (.fieldLink RX9 182 "ResolutionProverModel" "faultAt" "I") (List.mem_of_getElem? (i := 1) rfl))
  have k39 := (hts (.fieldLink RX9 39 "ResolutionProverModel" "errorAt" "I") (List.mem_of_getElem? (i := 2) rfl))
  have k188 := (hts (.fieldLink RX9 188 "ResolutionProverModel" "faultCode" "I") (List.mem_of_getElem? (i := 3) rfl))
  have k324 := (hts (.fieldLink RX9 324 "ResolutionProverModel" "errorCode" "I") (List.mem_of_getElem? (i := 4) rfl))
  have k13 := (hts (.fieldLink RX9 13 "ResolutionProverModel" "kept" "[I") (List.mem_of_getElem? (i := 5) rfl))
  have k9 := (hts (.fieldLink RX9 9 "ResolutionProverModel" "now" "[I") (List.mem_of_getElem? (i := 6) rfl))
  have hiX9 : ∀ w ∈ wsX90, w ∈ wsX9_hasEnded := (memIn_p [20, 21, 22, 23, 24, 25, 26, 27, 28, 29, 30, 31, 32, 33, 34, 35, 36, 37, 38, 39, 40, 41, 42, 43, 44, 45, 46] rfl)
  have hl : lv_has ls 1 [(0, .ref (q 0))] := hl
  refine lv_aload_n hx hb dX9_hasEnded_0 rfl (lv_at hl 0 rfl) ?_
  refine lv_aload_n hx hb dX9_hasEnded_1 rfl (lv_at hl 0 rfl) ?_
  refine va_get (D := D) (ci := 8) (v := .int (z.1 21)) (C := RX9) (T := TX9) (N := 27) hx hb hts hiX9 hown hK hP 0 rfl rfl 21 (by decide) k182 (fun _ h9 => h9) rfl dX9_hasEnded_2 ?_
  refine va_put (D := D) (ci := 8) (v := .int (z.1 21)) (ty := .int) (C := RX9) (T := TX9) (N := 27) hx hb hts hiX9 tyX9 tyX9_ok nmX9 hown hK hP hD hS 0 rfl rfl 17 (by decide) k39 (fun _ h9 => h9) rfl (by decide +kernel) rfl rfl (Nat.le_of_ble_eq_true rfl) dX9_hasEnded_5 (fun H locs hP hD hS => ?_)
  obtain ⟨z_1, ez_1, hf⟩ := nm_ob hf
  have hP : va_P D vwCl (wM cI cB cZ q z_1) H := by rw [ez_1]; exact hP
  have hD : va_D A (wM cI cB cZ q z_1) := by rw [ez_1]; exact hD
  refine lv_aload_n hx hb dX9_hasEnded_8 rfl (lv_at hl 0 rfl) ?_
  refine lv_aload_n hx hb dX9_hasEnded_9 rfl (lv_at hl 0 rfl) ?_
  refine va_get (D := D) (ci := 8) (v := .int (z_1.1 22)) (C := RX9) (T := TX9) (N := 27) hx hb hts hiX9 hown hK hP 0 rfl rfl 22 (by decide) k188 (fun _ h9 => h9) rfl dX9_hasEnded_10 ?_
  refine va_put (D := D) (ci := 8) (v := .int (z_1.1 22)) (ty := .int) (C := RX9) (T := TX9) (N := 27) hx hb hts hiX9 tyX9 tyX9_ok nmX9 hown hK hP hD hS 0 rfl rfl 18 (by decide) k324 (fun _ h9 => h9) rfl (by decide +kernel) rfl rfl (Nat.le_of_ble_eq_true rfl) dX9_hasEnded_13 (fun H locs hP hD hS => ?_)
  obtain ⟨z_2, ez_2, hf⟩ := nm_ob hf
  have hP : va_P D vwCl (wM cI cB cZ q z_2) H := by rw [ez_2]; exact hP
  have hD : va_D A (wM cI cB cZ q z_2) := by rw [ez_2]; exact hD
  refine lv_aload_n hx hb dX9_hasEnded_16 rfl (lv_at hl 0 rfl) ?_
  obtain ⟨r_3, hc_4, hf⟩ := bd_ob hf
  refine rdV (As := []) (rest := []) ⟨hx, hb, hml, hown, hts⟩ (mX9_hasFailed l D cI cB cZ cO q fu z_2 hc_4) (cwV 0 hts gX9_hasEnded_X9_hasFailed rfl rfl rfl (by decide +kernel) ⟨Nat.le_of_ble_eq_true rfl, Nat.le_of_ble_eq_true rfl⟩) hK hP (va_recv hK hP (ci := 8) (q0 := 0) rfl rfl) rfl hl.1 rfl (Nat.le_of_ble_eq_true rfl) dX9_hasEnded_17 ⟨Nat.zero_le _, Nat.zero_le _⟩ ?_
  obtain ⟨j36, ej36, hf⟩ := jn_ob hf
  have hp36 : ∀ (z1_36 : OS) (H : Heap) (locs : List Loc) (ls : Array Slot), j36 z1_36 = some (r, y1) → va_P D vwCl (wM cI cB cZ q z1_36) H → va_D A (wM cI cB cZ q z1_36) → va_S A s.heap H locs → lv_has ls 1 [(0, .ref (q 0))] → W p l e (headSpec wsX9_hasEnded { frames := 1, cells := 0, slots := 0, locals := 24 }).room s m args below meth c H locs 0 0 (MQ below (Qw D A (some (.int r)) (wM cI cB cZ q y1)) args s 0 0 A) (F0 m 36 ls []) := by
    intro z1_36 H locs ls hf hP hD hS hl
    rw [ej36] at hf
    refine lv_aload_n hx hb dX9_hasEnded_36 rfl (lv_at hl 0 rfl) ?_
    refine lv_aload_n hx hb dX9_hasEnded_37 rfl (lv_at hl 0 rfl) ?_
    obtain ⟨r_5, hc_6, hf⟩ := bd_ob hf
    refine rdV (As := []) (rest := [.ref (q 0)]) ⟨hx, hb, hml, hown, hts⟩ (mX9_hasFailed l D cI cB cZ cO q fu z1_36 hc_6) (cwV 0 hts gX9_hasEnded_X9_hasFailed rfl rfl rfl (by decide +kernel) ⟨Nat.le_of_ble_eq_true rfl, Nat.le_of_ble_eq_true rfl⟩) hK hP (va_recv hK hP (ci := 8) (q0 := 0) rfl rfl) rfl hl.1 rfl (Nat.le_of_ble_eq_true rfl) dX9_hasEnded_38 ⟨Nat.zero_le _, Nat.zero_le _⟩ ?_
    refine lv_iconst (v := 1) hx hb dX9_hasEnded_41 (by decide) ?_
    obtain ⟨⟨r_7, z_8⟩, hc_10, hf⟩ := bd_ob hf
    have hf := nm_st hf
    have hf := nm_st hf
    refine weV (As := [.int r_5, .int (1 : Int32)]) (rest := []) ⟨hx, hb, hml, hown, hts⟩ (mX9_throwsIf l D cI cB cZ cO q _ fu z1_36 r_5 (1 : Int32) hc_10) (cwV 2 hts gX9_hasEnded_X9_throwsIf rfl rfl rfl (by decide +kernel) ⟨Nat.le_of_ble_eq_true rfl, Nat.le_of_ble_eq_true rfl⟩) hK hP hD hS hA (va_recv hK hP (ci := 8) (q0 := 0) rfl rfl) rfl hl.1 rfl (Nat.le_of_ble_eq_true rfl) dX9_hasEnded_42 ⟨Nat.zero_le _, Nat.zero_le _⟩ (fun H locs hP hD hS => ?_)
    obtain ⟨hz, hf⟩ := gd_ob hf
    exact rW_z hx hb hr hlocks hP hD hS hz (congrArg (fun q9 => q9.1) (so_ob hf)) (congrArg (fun (q9 : Int32 × (OS)) => wM cI cB cZ q q9.2) (so_ob hf)) dX9_hasEnded_45
  refine lv_if_eq (tgt := 36) hx hb dX9_hasEnded_20 (by decide) (fun c_20 => ?_) (fun c_20 => ?_)
  · have hf := ip c_20 hf
    exact hp36 z_2 _ _ _ hf hP hD hS hl
  · have hf := iq c_20 hf
    refine lv_aload_n hx hb dX9_hasEnded_23 rfl (lv_at hl 0 rfl) ?_
    refine va_get (D := D) (ci := 8) (v := .ref (q 2)) (C := RX9) (T := TX9) (N := 27) hx hb hts hiX9 hown hK hP 0 rfl rfl 2 (by decide) k13 (fun _ h9 => h9) rfl dX9_hasEnded_24 ?_
    refine lv_iconst (v := 0) hx hb dX9_hasEnded_27 (by decide) ?_
    refine lv_aload_n hx hb dX9_hasEnded_28 rfl (lv_at hl 0 rfl) ?_
    refine va_get (D := D) (ci := 8) (v := .ref (q 1)) (C := RX9) (T := TX9) (N := 27) hx hb hts hiX9 hown hK hP 0 rfl rfl 1 (by decide) k9 (fun _ h9 => h9) rfl dX9_hasEnded_29 ?_
    refine lv_iconst (v := 0) hx hb dX9_hasEnded_32 (by decide) ?_
    obtain ⟨x_11, hc_12, hf⟩ := bd_ob hf
    refine wrS (As := [.ref (q 2), .int (0 : Int32), .ref (q 1), .int (0 : Int32)]) (rest := []) (ws2 := wM cI cB cZ q (sA z_2 1 x_11)) ⟨hx, hb, hml, hown, hts⟩ (mX9_copies_two l D cI cB cZ cO (q 2) (q 1) _ fu 917 (z_2.2 2) 917 (z_2.2 1) (0 : Int32) (0 : Int32) hc_12) (va_cwS 4 hts gX9_hasEnded_X9_copies rfl rfl rfl (by decide +kernel) ⟨Nat.le_of_ble_eq_true rfl, Nat.le_of_ble_eq_true rfl⟩) hK hP hD hS hA [2, 1] [0, 3, 4, 5, 6, 7, 8, 9, 10] [0, 10, 9, 1, 2, 3, 4, 5, 6, 7, 8] rfl (hP.sub [2, 1] rfl) (by decide) rfl (by decide) (by decide) (by decide) rfl  rfl hl.1 rfl (Nat.le_of_ble_eq_true rfl) dX9_hasEnded_33 ⟨Nat.zero_le _, Nat.zero_le _⟩ (fun H locs hP hD hS => ?_)
    obtain ⟨z_13, ez_13, hf⟩ := nm_ob hf
    have hP : va_P D vwCl (wM cI cB cZ q z_13) H := by rw [ez_13]; exact hP
    have hD : va_D A (wM cI cB cZ q z_13) := by rw [ez_13]; exact hD
    exact hp36 z_13 _ _ _ hf hP hD hS hl

def fX9_load (fu : Nat) (z : OS) : Option (Int32 × (OS)) :=
  nm (sI z 0 (0 : Int32)) (fun (z_1 : OS) => bd (fX9_opensTape fu z_1) (fun (z_2 : OS) => bd (fX9_takesWord fu z_2) (fun (z_4 : OS) => bd (fX9_isToken fu z_4 (lt 0)) (fun (r_6 : Int32) => jn (κ := OS → Option (Int32 × (OS))) (fun (z1_32 : OS) => bd (fX9_number fu z1_32 (1 : Int32) (12 : Int32)) (fun (w_10 : Int32 × OS) => nm w_10.1 (fun (r_8 : Int32) => nm w_10.2 (fun (z_9 : OS) => bd (fX9_isEnd fu z_9) (fun (w_14 : Int32 × OS) => nm w_14.1 (fun (r_12 : Int32) => nm w_14.2 (fun (z_13 : OS) => jn (κ := OS → Option (Int32 × (OS))) (fun (z1_66 : OS) => bd (fX9_hasEnded fu z1_66) (fun (w_18 : Int32 × OS) => nm w_18.1 (fun (r_16 : Int32) => nm w_18.2 (fun (z_17 : OS) => (if r_16 = (0 : Int32) then nm (sI z_17 7 (0 : Int32)) (fun (z_20 : OS) => gd (inB (0 : Int32) 2) (nm (sA z_20 6 (upd (z_20.2 6) ((0 : Int32)).toNatClampNeg (vp_nar .boolean (0 : Int32)))) (fun (z_21 : OS) => gd (inB (1 : Int32) 2) (nm (sA z_21 6 (upd (z_21.2 6) ((1 : Int32)).toNatClampNeg (vp_nar .boolean (0 : Int32)))) (fun (z_22 : OS) => bd (fX9_many fu z_22) (fun (r_23 : Int32) => some (r_23, z_22))))))) else some ((0 : Int32), z_17)))))) (fun j66 => (if r_12 = (0 : Int32) then j66 z_13 else gd (inB (0 : Int32) 917) (nm (sA z_13 1 (upd (z_13.2 1) ((0 : Int32)).toNatClampNeg r_8)) (fun (z_25 : OS) => gd (inB (1 : Int32) 917) (nm (sA z_25 1 (upd (z_25.2 1) ((1 : Int32)).toNatClampNeg (0 : Int32))) (fun (z_26 : OS) => bd (fX9_takesCommands fu z_26) (fun (w_29 : Int32 × OS) => nm w_29.1 (fun (r_27 : Int32) => nm w_29.2 (fun (z_28 : OS) => j66 z_28)))))))))))))))) (fun j32 => (if ¬ r_6 = (0 : Int32) then j32 z_4 else bd (fX9_fails fu z_4 (z_4.1 23) (1 : Int32)) (fun (z_31 : OS) => j32 z_31)))))))
set_option maxRecDepth 100000 in
set_option maxHeartbeats 4000000 in
theorem mX9_load (l : Launch) (D : va_G) (cI cB cZ cO : ClassId) (aK aV : Nat → Nat) (q : Nat → Nat) (sz : Nat) (fu : Nat) (z : OS) {r : Int32} {y1 : OS} (hf : fX9_load fu z = some (r, y1)) : Met l yX9_load wsX9_load ({ frames := 8, cells := 0, slots := 0, locals := 182 }) (va_Pc [.ref (q 0)] (PwX (EL aK aV) D (gT cI cB cZ cO) (wM cI cB cZ q z) sz)) (Qw D (va_A (wM cI cB cZ q z) sz) (some (.int r)) (wM cI cB cZ q y1)) 0 0 (va_A (wM cI cB cZ q z) sz) := by
  unfold fX9_load at hf
  refine metWX (ret := (some .int)) (own := RX9) rfl (by decide) rfl (Nat.le_of_ble_eq_true rfl) (fun p e s m args below meth c ls A hx hb hr hml hown hlocks hts hK hA hP hD hS hE hl => ?_)
  have k46 := (hts (.fieldLink RX9 46 "ResolutionProverModel" "thrown" "I") (List.mem_of_getElem? (i := 1) rfl))
  have k53 := (hts (.fieldLink RX9 53 "ResolutionProverModel" "depth" "I") (List.mem_of_getElem? (i := 4) rfl))
  have k25 := (hts (.fieldLink RX9 25 "ResolutionProverModel" "isSaved" "[Z") (List.mem_of_getElem? (i := 5) rfl))
  have k9 := (hts (.fieldLink RX9 9 "ResolutionProverModel" "now" "[I") (List.mem_of_getElem? (i := 3) rfl))
  have k194 := (hts (.fieldLink RX9 194 "ResolutionProverModel" "tokenBegin" "I") (List.mem_of_getElem? (i := 2) rfl))
  have hiX9 : ∀ w ∈ wsX90, w ∈ wsX9_load := (memIn_p [316, 317, 318, 319, 320, 321, 322, 323, 324, 325, 326, 327, 328, 329, 330, 331, 332, 333, 334, 335, 336, 337, 338, 339, 340, 341, 342] rfl)
  have hl : lv_has ls 3 [(0, .ref (q 0))] := hl
  refine lv_aload_n hx hb dX9_load_0 rfl (lv_at hl 0 rfl) ?_
  refine lv_iconst (v := 0) hx hb dX9_load_1 (by decide) ?_
  refine va_put (D := D) (ci := 8) (v := .int (0 : Int32)) (ty := .int) (C := RX9) (T := TX9) (N := 27) hx hb hts hiX9 tyX9 tyX9_ok nmX9 hown hK hP hD hS 0 rfl rfl 0 (by decide) k46 (fun _ h9 => h9) rfl (by decide +kernel) rfl rfl (Nat.le_of_ble_eq_true rfl) dX9_load_2 (fun H locs hP hD hS => ?_)
  obtain ⟨z_1, ez_1, hf⟩ := nm_ob hf
  have hP : va_P D vwCl (wM cI cB cZ q z_1) H := by rw [ez_1]; exact hP
  have hD : va_D A (wM cI cB cZ q z_1) := by rw [ez_1]; exact hD
  refine lv_aload_n hx hb dX9_load_5 rfl (lv_at hl 0 rfl) ?_
  obtain ⟨z_2, hc_3, hf⟩ := bd_ob hf
  refine weV (As := []) (rest := []) ⟨hx, hb, hml, hown, hts⟩ (mX9_opensTape l D cI cB cZ cO q _ fu z_1 hc_3) (cwV 0 hts gX9_load_X9_opensTape rfl rfl rfl (by decide +kernel) ⟨Nat.le_of_ble_eq_true rfl, Nat.le_of_ble_eq_true rfl⟩) hK hP hD hS hA (va_recv hK hP (ci := 8) (q0 := 0) rfl rfl) rfl hl.1 rfl (Nat.le_of_ble_eq_true rfl) dX9_load_6 ⟨Nat.zero_le _, Nat.zero_le _⟩ (fun H locs hP hD hS => ?_)
  refine lv_aload_n hx hb dX9_load_9 rfl (lv_at hl 0 rfl) ?_
  obtain ⟨z_4, hc_5, hf⟩ := bd_ob hf
  refine weV (As := []) (rest := []) ⟨hx, hb, hml, hown, hts⟩ (mX9_takesWord l D cI cB cZ cO q _ fu z_2 hc_5) (cwV 0 hts gX9_load_X9_takesWord rfl rfl rfl (by decide +kernel) ⟨Nat.le_of_ble_eq_true rfl, Nat.le_of_ble_eq_true rfl⟩) hK hP hD hS hA (va_recv hK hP (ci := 8) (q0 := 0) rfl rfl) rfl hl.1 rfl (Nat.le_of_ble_eq_true rfl) dX9_load_10 ⟨Nat.zero_le _, Nat.zero_le _⟩ (fun H locs hP hD hS => ?_)
  refine lv_aload_n hx hb dX9_load_13 rfl (lv_at hl 0 rfl) ?_
  refine va_ldcwS hx hb hown (EL_m0 hE) dX9_load_14 ?_
  obtain ⟨r_6, hc_7, hf⟩ := bd_ob hf
  refine rdVX (As := [.ref (aK 0)]) (rest := []) ⟨hx, hb, hml, hown, hts⟩ (mX9_isToken l D cI cB cZ cO (aK 0) (aV 0) q fu z_4 (lt 0) hc_7) (cwV 1 hts gX9_load_X9_isToken rfl rfl rfl (by decide +kernel) ⟨Nat.le_of_ble_eq_true rfl, Nat.le_of_ble_eq_true rfl⟩) (ET_ok _ _ _) ((hE.1 0).kept hS.2.1) hK hP (va_recv hK hP (ci := 8) (q0 := 0) rfl rfl) rfl hl.1 rfl (Nat.le_of_ble_eq_true rfl) dX9_load_17 ⟨Nat.zero_le _, Nat.zero_le _⟩ ?_
  obtain ⟨j32, ej32, hf⟩ := jn_ob hf
  have hp32 : ∀ (z1_32 : OS) (H : Heap) (locs : List Loc) (ls : Array Slot), j32 z1_32 = some (r, y1) → va_P D vwCl (wM cI cB cZ q z1_32) H → va_D A (wM cI cB cZ q z1_32) → va_S A s.heap H locs → lv_has ls 3 [(0, .ref (q 0))] → W p l e (headSpec wsX9_load { frames := 8, cells := 0, slots := 0, locals := 182 }).room s m args below meth c H locs 0 0 (MQ below (Qw D A (some (.int r)) (wM cI cB cZ q y1)) args s 0 0 A) (F0 m 32 ls []) := by
    intro z1_32 H locs ls hf hP hD hS hl
    rw [ej32] at hf
    refine lv_aload_n hx hb dX9_load_32 rfl (lv_at hl 0 rfl) ?_
    refine lv_iconst (v := 1) hx hb dX9_load_33 (by decide) ?_
    refine lv_bipush (v := 12) hx hb dX9_load_34 (by decide) ?_
    obtain ⟨⟨r_8, z_9⟩, hc_11, hf⟩ := bd_ob hf
    have hf := nm_st hf
    have hf := nm_st hf
    refine weV (As := [.int (1 : Int32), .int (12 : Int32)]) (rest := []) ⟨hx, hb, hml, hown, hts⟩ (mX9_number l D cI cB cZ cO q _ fu z1_32 (1 : Int32) (12 : Int32) hc_11) (cwV 2 hts gX9_load_X9_number rfl rfl rfl (by decide +kernel) ⟨Nat.le_of_ble_eq_true rfl, Nat.le_of_ble_eq_true rfl⟩) hK hP hD hS hA (va_recv hK hP (ci := 8) (q0 := 0) rfl rfl) rfl hl.1 rfl (Nat.le_of_ble_eq_true rfl) dX9_load_36 ⟨Nat.zero_le _, Nat.zero_le _⟩ (fun H locs hP hD hS => ?_)
    refine lv_istore_n (lv' := [(1, .int r_8), (0, .ref (q 0))]) hx hb dX9_load_39 rfl hl (by decide) rfl (fun ls hl => ?_)
    refine lv_aload_n hx hb dX9_load_40 rfl (lv_at hl 1 rfl) ?_
    obtain ⟨⟨r_12, z_13⟩, hc_15, hf⟩ := bd_ob hf
    have hf := nm_st hf
    have hf := nm_st hf
    refine weV (As := []) (rest := []) ⟨hx, hb, hml, hown, hts⟩ (mX9_isEnd l D cI cB cZ cO q _ fu z_9 hc_15) (cwV 0 hts gX9_load_X9_isEnd rfl rfl rfl (by decide +kernel) ⟨Nat.le_of_ble_eq_true rfl, Nat.le_of_ble_eq_true rfl⟩) hK hP hD hS hA (va_recv hK hP (ci := 8) (q0 := 0) rfl rfl) rfl hl.1 rfl (Nat.le_of_ble_eq_true rfl) dX9_load_41 ⟨Nat.zero_le _, Nat.zero_le _⟩ (fun H locs hP hD hS => ?_)
    obtain ⟨j66, ej66, hf⟩ := jn_ob hf
    have hp66 : ∀ (z1_66 : OS) (H : Heap) (locs : List Loc) (ls : Array Slot), j66 z1_66 = some (r, y1) → va_P D vwCl (wM cI cB cZ q z1_66) H → va_D A (wM cI cB cZ q z1_66) → va_S A s.heap H locs → lv_has ls 3 [(0, .ref (q 0))] → W p l e (headSpec wsX9_load { frames := 8, cells := 0, slots := 0, locals := 182 }).room s m args below meth c H locs 0 0 (MQ below (Qw D A (some (.int r)) (wM cI cB cZ q y1)) args s 0 0 A) (F0 m 66 ls []) := by
      intro z1_66 H locs ls hf hP hD hS hl
      rw [ej66] at hf
      refine lv_aload_n hx hb dX9_load_66 rfl (lv_at hl 0 rfl) ?_
      obtain ⟨⟨r_16, z_17⟩, hc_19, hf⟩ := bd_ob hf
      have hf := nm_st hf
      have hf := nm_st hf
      refine weV (As := []) (rest := []) ⟨hx, hb, hml, hown, hts⟩ (mX9_hasEnded l D cI cB cZ cO q _ fu z1_66 hc_19) (cwV 0 hts gX9_load_X9_hasEnded rfl rfl rfl (by decide +kernel) ⟨Nat.le_of_ble_eq_true rfl, Nat.le_of_ble_eq_true rfl⟩) hK hP hD hS hA (va_recv hK hP (ci := 8) (q0 := 0) rfl rfl) rfl hl.1 rfl (Nat.le_of_ble_eq_true rfl) dX9_load_67 ⟨Nat.zero_le _, Nat.zero_le _⟩ (fun H locs hP hD hS => ?_)
      refine lv_if_eq (tgt := 75) hx hb dX9_load_70 (by decide) (fun c_70 => ?_) (fun c_70 => ?_)
      · have hf := ip c_70 hf
        refine lv_aload_n hx hb dX9_load_75 rfl (lv_at hl 0 rfl) ?_
        refine lv_iconst (v := 0) hx hb dX9_load_76 (by decide) ?_
        refine va_put (D := D) (ci := 8) (v := .int (0 : Int32)) (ty := .int) (C := RX9) (T := TX9) (N := 27) hx hb hts hiX9 tyX9 tyX9_ok nmX9 hown hK hP hD hS 0 rfl rfl 7 (by decide) k53 (fun _ h9 => h9) rfl (by decide +kernel) rfl rfl (Nat.le_of_ble_eq_true rfl) dX9_load_77 (fun H locs hP hD hS => ?_)
        obtain ⟨z_20, ez_20, hf⟩ := nm_ob hf
        have hP : va_P D vwCl (wM cI cB cZ q z_20) H := by rw [ez_20]; exact hP
        have hD : va_D A (wM cI cB cZ q z_20) := by rw [ez_20]; exact hD
        refine lv_aload_n hx hb dX9_load_80 rfl (lv_at hl 0 rfl) ?_
        refine va_get (D := D) (ci := 8) (v := .ref (q 6)) (C := RX9) (T := TX9) (N := 27) hx hb hts hiX9 hown hK hP 0 rfl rfl 6 (by decide) k25 (fun _ h9 => h9) rfl dX9_load_81 ?_
        refine lv_iconst (v := 0) hx hb dX9_load_84 (by decide) ?_
        refine lv_iconst (v := 0) hx hb dX9_load_85 (by decide) ?_
        obtain ⟨hi_, hf⟩ := gd_ob hf
        refine va_zast hx hb hK hP hD hS 6 2 rfl rfl (inB_in hi_) dX9_load_86 (fun H locs hP hD hS => ?_)
        obtain ⟨z_21, ez_21, hf⟩ := nm_ob hf
        have hP : va_P D vwCl (wM cI cB cZ q z_21) H := by rw [ez_21]; exact hP
        have hD : va_D A (wM cI cB cZ q z_21) := by rw [ez_21]; exact hD
        refine lv_aload_n hx hb dX9_load_87 rfl (lv_at hl 0 rfl) ?_
        refine va_get (D := D) (ci := 8) (v := .ref (q 6)) (C := RX9) (T := TX9) (N := 27) hx hb hts hiX9 hown hK hP 0 rfl rfl 6 (by decide) k25 (fun _ h9 => h9) rfl dX9_load_88 ?_
        refine lv_iconst (v := 1) hx hb dX9_load_91 (by decide) ?_
        refine lv_iconst (v := 0) hx hb dX9_load_92 (by decide) ?_
        obtain ⟨hi_, hf⟩ := gd_ob hf
        refine va_zast hx hb hK hP hD hS 6 2 rfl rfl (inB_in hi_) dX9_load_93 (fun H locs hP hD hS => ?_)
        obtain ⟨z_22, ez_22, hf⟩ := nm_ob hf
        have hP : va_P D vwCl (wM cI cB cZ q z_22) H := by rw [ez_22]; exact hP
        have hD : va_D A (wM cI cB cZ q z_22) := by rw [ez_22]; exact hD
        refine lv_aload_n hx hb dX9_load_94 rfl (lv_at hl 0 rfl) ?_
        obtain ⟨r_23, hc_24, hf⟩ := bd_ob hf
        refine rdV (As := []) (rest := []) ⟨hx, hb, hml, hown, hts⟩ (mX9_many l D cI cB cZ cO q fu z_22 hc_24) (cwV 0 hts gX9_load_X9_many rfl rfl rfl (by decide +kernel) ⟨Nat.le_of_ble_eq_true rfl, Nat.le_of_ble_eq_true rfl⟩) hK hP (va_recv hK hP (ci := 8) (q0 := 0) rfl rfl) rfl hl.1 rfl (Nat.le_of_ble_eq_true rfl) dX9_load_95 ⟨Nat.zero_le _, Nat.zero_le _⟩ ?_
        exact rW_i hx hb hr hlocks hP hD hS (congrArg (fun q9 => q9.1) (so_ob hf)) (congrArg (fun (q9 : Int32 × (OS)) => wM cI cB cZ q q9.2) (so_ob hf)) dX9_load_98
      · have hf := iq c_70 hf
        refine lv_iconst (v := 0) hx hb dX9_load_73 (by decide) ?_
        exact rW_i hx hb hr hlocks hP hD hS (congrArg (fun q9 => q9.1) (so_ob hf)) (congrArg (fun (q9 : Int32 × (OS)) => wM cI cB cZ q q9.2) (so_ob hf)) dX9_load_74
    refine lv_if_eq (tgt := 66) hx hb dX9_load_44 (by decide) (fun c_44 => ?_) (fun c_44 => ?_)
    · have hf := ip c_44 hf
      exact hp66 z_13 _ _ _ hf hP hD hS (lv_sub hl [1] rfl)
    · have hf := iq c_44 hf
      refine lv_aload_n hx hb dX9_load_47 rfl (lv_at hl 1 rfl) ?_
      refine va_get (D := D) (ci := 8) (v := .ref (q 1)) (C := RX9) (T := TX9) (N := 27) hx hb hts hiX9 hown hK hP 0 rfl rfl 1 (by decide) k9 (fun _ h9 => h9) rfl dX9_load_48 ?_
      refine lv_iconst (v := 0) hx hb dX9_load_51 (by decide) ?_
      refine lv_iload_n hx hb dX9_load_52 rfl (lv_at hl 0 rfl) ?_
      obtain ⟨hi_, hf⟩ := gd_ob hf
      refine va_iast hx hb hK hP hD hS 1 0 rfl rfl (inB_in hi_) dX9_load_53 (fun H locs hP hD hS => ?_)
      obtain ⟨z_25, ez_25, hf⟩ := nm_ob hf
      have hP : va_P D vwCl (wM cI cB cZ q z_25) H := by rw [ez_25]; exact hP
      have hD : va_D A (wM cI cB cZ q z_25) := by rw [ez_25]; exact hD
      refine lv_aload_n hx hb dX9_load_54 rfl (lv_at hl 1 rfl) ?_
      refine va_get (D := D) (ci := 8) (v := .ref (q 1)) (C := RX9) (T := TX9) (N := 27) hx hb hts hiX9 hown hK hP 0 rfl rfl 1 (by decide) k9 (fun _ h9 => h9) rfl dX9_load_55 ?_
      refine lv_iconst (v := 1) hx hb dX9_load_58 (by decide) ?_
      refine lv_iconst (v := 0) hx hb dX9_load_59 (by decide) ?_
      obtain ⟨hi_, hf⟩ := gd_ob hf
      refine va_iast hx hb hK hP hD hS 1 0 rfl rfl (inB_in hi_) dX9_load_60 (fun H locs hP hD hS => ?_)
      obtain ⟨z_26, ez_26, hf⟩ := nm_ob hf
      have hP : va_P D vwCl (wM cI cB cZ q z_26) H := by rw [ez_26]; exact hP
      have hD : va_D A (wM cI cB cZ q z_26) := by rw [ez_26]; exact hD
      refine lv_aload_n hx hb dX9_load_61 rfl (lv_at hl 1 rfl) ?_
      obtain ⟨⟨r_27, z_28⟩, hc_30, hf⟩ := bd_ob hf
      have hf := nm_st hf
      have hf := nm_st hf
      refine weVX (As := []) (rest := []) ⟨hx, hb, hml, hown, hts⟩ (mX9_takesCommands l D cI cB cZ cO aK aV q _ fu z_26 hc_30) (cwV 0 hts gX9_load_X9_takesCommands rfl rfl rfl (by decide +kernel) ⟨Nat.le_of_ble_eq_true rfl, Nat.le_of_ble_eq_true rfl⟩) (EL_ok aK aV) ((EL_ok aK aV).2.2.1 _ _ _ _ hS.2.1 hE) hK hP hD hS hA (va_recv hK hP (ci := 8) (q0 := 0) rfl rfl) rfl hl.1 rfl (Nat.le_of_ble_eq_true rfl) dX9_load_62 ⟨Nat.zero_le _, Nat.zero_le _⟩ (fun H locs hP hD hS => ?_)
      refine lv_istore_n (lv' := [(2, .int r_27), (1, .int r_8), (0, .ref (q 0))]) hx hb dX9_load_65 rfl hl (by decide) rfl (fun ls hl => ?_)
      exact hp66 z_28 _ _ _ hf hP hD hS (lv_sub hl [2] rfl)
  refine lv_if_ne (tgt := 32) hx hb dX9_load_20 (by decide) (fun c_20 => ?_) (fun c_20 => ?_)
  · have hf := ip c_20 hf
    exact hp32 z_4 _ _ _ hf hP hD hS hl
  · have hf := iqn c_20 hf
    refine lv_aload_n hx hb dX9_load_23 rfl (lv_at hl 0 rfl) ?_
    refine lv_aload_n hx hb dX9_load_24 rfl (lv_at hl 0 rfl) ?_
    refine va_get (D := D) (ci := 8) (v := .int (z_4.1 23)) (C := RX9) (T := TX9) (N := 27) hx hb hts hiX9 hown hK hP 0 rfl rfl 23 (by decide) k194 (fun _ h9 => h9) rfl dX9_load_25 ?_
    refine lv_iconst (v := 1) hx hb dX9_load_28 (by decide) ?_
    obtain ⟨z_31, hc_32, hf⟩ := bd_ob hf
    refine weV (As := [.int (z_4.1 23), .int (1 : Int32)]) (rest := []) ⟨hx, hb, hml, hown, hts⟩ (mX9_fails l D cI cB cZ cO q _ fu z_4 (z_4.1 23) (1 : Int32) hc_32) (cwV 2 hts gX9_load_X9_fails rfl rfl rfl (by decide +kernel) ⟨Nat.le_of_ble_eq_true rfl, Nat.le_of_ble_eq_true rfl⟩) hK hP hD hS hA (va_recv hK hP (ci := 8) (q0 := 0) rfl rfl) rfl hl.1 rfl (Nat.le_of_ble_eq_true rfl) dX9_load_29 ⟨Nat.zero_le _, Nat.zero_le _⟩ (fun H locs hP hD hS => ?_)
    exact hp32 z_31 _ _ _ hf hP hD hS hl

def fX9_play (fu : Nat) (z : OS) : Option (Int32 × (OS)) :=
  nm (sI z 0 (0 : Int32)) (fun (z_1 : OS) => bd (fX9_opensTape fu z_1) (fun (z_2 : OS) => bd (fX9_takesCommands fu z_2) (fun (w_6 : Int32 × OS) => nm w_6.1 (fun (r_4 : Int32) => nm w_6.2 (fun (z_5 : OS) => bd (fX9_hasEnded fu z_5) (fun (w_10 : Int32 × OS) => nm w_10.1 (fun (r_8 : Int32) => nm w_10.2 (fun (z_9 : OS) => (if r_8 = (0 : Int32) then bd (fX9_records fu z_9 r_4) (fun (w_14 : Int32 × OS) => nm w_14.1 (fun (r_12 : Int32) => nm w_14.2 (fun (z_13 : OS) => some (r_12, z_13)))) else some ((0 : Int32), z_9))))))))))
set_option maxRecDepth 100000 in
set_option maxHeartbeats 4000000 in
theorem mX9_play (l : Launch) (D : va_G) (cI cB cZ cO : ClassId) (aK aV : Nat → Nat) (q : Nat → Nat) (sz : Nat) (fu : Nat) (z : OS) {r : Int32} {y1 : OS} (hf : fX9_play fu z = some (r, y1)) : Met l yX9_play wsX9_play ({ frames := 8, cells := 0, slots := 0, locals := 182 }) (va_Pc [.ref (q 0)] (PwX (EL aK aV) D (gT cI cB cZ cO) (wM cI cB cZ q z) sz)) (Qw D (va_A (wM cI cB cZ q z) sz) (some (.int r)) (wM cI cB cZ q y1)) 0 0 (va_A (wM cI cB cZ q z) sz) := by
  unfold fX9_play at hf
  refine metWX (ret := (some .int)) (own := RX9) rfl (by decide) rfl (Nat.le_of_ble_eq_true rfl) (fun p e s m args below meth c ls A hx hb hr hml hown hlocks hts hK hA hP hD hS hE hl => ?_)
  have k46 := (hts (.fieldLink RX9 46 "ResolutionProverModel" "thrown" "I") (List.mem_of_getElem? (i := 1) rfl))
  have hiX9 : ∀ w ∈ wsX90, w ∈ wsX9_play := (memIn_p [320, 321, 322, 323, 324, 325, 326, 327, 328, 329, 330, 331, 332, 333, 334, 335, 336, 337, 338, 339, 340, 341, 342, 343, 344, 345, 346] rfl)
  have hl : lv_has ls 2 [(0, .ref (q 0))] := hl
  refine lv_aload_n hx hb dX9_play_0 rfl (lv_at hl 0 rfl) ?_
  refine lv_iconst (v := 0) hx hb dX9_play_1 (by decide) ?_
  refine va_put (D := D) (ci := 8) (v := .int (0 : Int32)) (ty := .int) (C := RX9) (T := TX9) (N := 27) hx hb hts hiX9 tyX9 tyX9_ok nmX9 hown hK hP hD hS 0 rfl rfl 0 (by decide) k46 (fun _ h9 => h9) rfl (by decide +kernel) rfl rfl (Nat.le_of_ble_eq_true rfl) dX9_play_2 (fun H locs hP hD hS => ?_)
  obtain ⟨z_1, ez_1, hf⟩ := nm_ob hf
  have hP : va_P D vwCl (wM cI cB cZ q z_1) H := by rw [ez_1]; exact hP
  have hD : va_D A (wM cI cB cZ q z_1) := by rw [ez_1]; exact hD
  refine lv_aload_n hx hb dX9_play_5 rfl (lv_at hl 0 rfl) ?_
  obtain ⟨z_2, hc_3, hf⟩ := bd_ob hf
  refine weV (As := []) (rest := []) ⟨hx, hb, hml, hown, hts⟩ (mX9_opensTape l D cI cB cZ cO q _ fu z_1 hc_3) (cwV 0 hts gX9_play_X9_opensTape rfl rfl rfl (by decide +kernel) ⟨Nat.le_of_ble_eq_true rfl, Nat.le_of_ble_eq_true rfl⟩) hK hP hD hS hA (va_recv hK hP (ci := 8) (q0 := 0) rfl rfl) rfl hl.1 rfl (Nat.le_of_ble_eq_true rfl) dX9_play_6 ⟨Nat.zero_le _, Nat.zero_le _⟩ (fun H locs hP hD hS => ?_)
  refine lv_aload_n hx hb dX9_play_9 rfl (lv_at hl 0 rfl) ?_
  obtain ⟨⟨r_4, z_5⟩, hc_7, hf⟩ := bd_ob hf
  have hf := nm_st hf
  have hf := nm_st hf
  refine weVX (As := []) (rest := []) ⟨hx, hb, hml, hown, hts⟩ (mX9_takesCommands l D cI cB cZ cO aK aV q _ fu z_2 hc_7) (cwV 0 hts gX9_play_X9_takesCommands rfl rfl rfl (by decide +kernel) ⟨Nat.le_of_ble_eq_true rfl, Nat.le_of_ble_eq_true rfl⟩) (EL_ok aK aV) ((EL_ok aK aV).2.2.1 _ _ _ _ hS.2.1 hE) hK hP hD hS hA (va_recv hK hP (ci := 8) (q0 := 0) rfl rfl) rfl hl.1 rfl (Nat.le_of_ble_eq_true rfl) dX9_play_10 ⟨Nat.zero_le _, Nat.zero_le _⟩ (fun H locs hP hD hS => ?_)
  refine lv_istore_n (lv' := [(1, .int r_4), (0, .ref (q 0))]) hx hb dX9_play_13 rfl hl (by decide) rfl (fun ls hl => ?_)
  refine lv_aload_n hx hb dX9_play_14 rfl (lv_at hl 1 rfl) ?_
  obtain ⟨⟨r_8, z_9⟩, hc_11, hf⟩ := bd_ob hf
  have hf := nm_st hf
  have hf := nm_st hf
  refine weV (As := []) (rest := []) ⟨hx, hb, hml, hown, hts⟩ (mX9_hasEnded l D cI cB cZ cO q _ fu z_5 hc_11) (cwV 0 hts gX9_play_X9_hasEnded rfl rfl rfl (by decide +kernel) ⟨Nat.le_of_ble_eq_true rfl, Nat.le_of_ble_eq_true rfl⟩) hK hP hD hS hA (va_recv hK hP (ci := 8) (q0 := 0) rfl rfl) rfl hl.1 rfl (Nat.le_of_ble_eq_true rfl) dX9_play_15 ⟨Nat.zero_le _, Nat.zero_le _⟩ (fun H locs hP hD hS => ?_)
  refine lv_if_eq (tgt := 23) hx hb dX9_play_18 (by decide) (fun c_18 => ?_) (fun c_18 => ?_)
  · have hf := ip c_18 hf
    refine lv_aload_n hx hb dX9_play_23 rfl (lv_at hl 1 rfl) ?_
    refine lv_iload_n hx hb dX9_play_24 rfl (lv_at hl 0 rfl) ?_
    obtain ⟨⟨r_12, z_13⟩, hc_15, hf⟩ := bd_ob hf
    have hf := nm_st hf
    have hf := nm_st hf
    refine weV (As := [.int r_4]) (rest := []) ⟨hx, hb, hml, hown, hts⟩ (mX9_records l D cI cB cZ cO q _ fu z_9 r_4 hc_15) (cwV 1 hts gX9_play_X9_records rfl rfl rfl (by decide +kernel) ⟨Nat.le_of_ble_eq_true rfl, Nat.le_of_ble_eq_true rfl⟩) hK hP hD hS hA (va_recv hK hP (ci := 8) (q0 := 0) rfl rfl) rfl hl.1 rfl (Nat.le_of_ble_eq_true rfl) dX9_play_25 ⟨Nat.zero_le _, Nat.zero_le _⟩ (fun H locs hP hD hS => ?_)
    exact rW_i hx hb hr hlocks hP hD hS (congrArg (fun q9 => q9.1) (so_ob hf)) (congrArg (fun (q9 : Int32 × (OS)) => wM cI cB cZ q q9.2) (so_ob hf)) dX9_play_28
  · have hf := iq c_18 hf
    refine lv_iconst (v := 0) hx hb dX9_play_21 (by decide) ?_
    exact rW_i hx hb hr hlocks hP hD hS (congrArg (fun q9 => q9.1) (so_ob hf)) (congrArg (fun (q9 : Int32 × (OS)) => wM cI cB cZ q q9.2) (so_ob hf)) dX9_play_22

def fX9_parseError (fu : Nat) (z : OS) : Option (Int32 × (OS)) :=
  nm (sI z 0 (0 : Int32)) (fun (z_1 : OS) => some ((z_1.1 18), z_1))
set_option maxRecDepth 100000 in
set_option maxHeartbeats 4000000 in
theorem mX9_parseError (l : Launch) (D : va_G) (cI cB cZ cO : ClassId) (q : Nat → Nat) (sz : Nat) (fu : Nat) (z : OS) {r : Int32} {y1 : OS} (hf : fX9_parseError fu z = some (r, y1)) : Met l yX9_parseError wsX9_parseError ({ frames := 0, cells := 0, slots := 0, locals := 0 }) (va_Pc [.ref (q 0)] (Pw D (gT cI cB cZ cO) (wM cI cB cZ q z) sz)) (Qw D (va_A (wM cI cB cZ q z) sz) (some (.int r)) (wM cI cB cZ q y1)) 0 0 (va_A (wM cI cB cZ q z) sz) := by
  unfold fX9_parseError at hf
  refine metW (ret := (some .int)) (own := RX9) rfl (by decide) rfl (Nat.le_of_ble_eq_true rfl) (fun p e s m args below meth c ls A hx hb hr hml hown hlocks hts hK hA hP hD hS hl => ?_)
  have k46 := (hts (.fieldLink RX9 46 "ResolutionProverModel" "thrown" "I") (List.mem_of_getElem? (i := 1) rfl))
  have k324 := (hts (.fieldLink RX9 324 "ResolutionProverModel" "errorCode" "I") (List.mem_of_getElem? (i := 2) rfl))
  have hiX9 : ∀ w ∈ wsX90, w ∈ wsX9_parseError := (memIn_p [3, 4, 5, 6, 7, 8, 9, 10, 11, 12, 13, 14, 15, 16, 17, 18, 19, 20, 21, 22, 23, 24, 25, 26, 27, 28, 29] rfl)
  have hl : lv_has ls 1 [(0, .ref (q 0))] := hl
  refine lv_aload_n hx hb dX9_parseError_0 rfl (lv_at hl 0 rfl) ?_
  refine lv_iconst (v := 0) hx hb dX9_parseError_1 (by decide) ?_
  refine va_put (D := D) (ci := 8) (v := .int (0 : Int32)) (ty := .int) (C := RX9) (T := TX9) (N := 27) hx hb hts hiX9 tyX9 tyX9_ok nmX9 hown hK hP hD hS 0 rfl rfl 0 (by decide) k46 (fun _ h9 => h9) rfl (by decide +kernel) rfl rfl (Nat.le_of_ble_eq_true rfl) dX9_parseError_2 (fun H locs hP hD hS => ?_)
  obtain ⟨z_1, ez_1, hf⟩ := nm_ob hf
  have hP : va_P D vwCl (wM cI cB cZ q z_1) H := by rw [ez_1]; exact hP
  have hD : va_D A (wM cI cB cZ q z_1) := by rw [ez_1]; exact hD
  refine lv_aload_n hx hb dX9_parseError_5 rfl (lv_at hl 0 rfl) ?_
  refine va_get (D := D) (ci := 8) (v := .int (z_1.1 18)) (C := RX9) (T := TX9) (N := 27) hx hb hts hiX9 hown hK hP 0 rfl rfl 18 (by decide) k324 (fun _ h9 => h9) rfl dX9_parseError_6 ?_
  exact rW_i hx hb hr hlocks hP hD hS (congrArg (fun q9 => q9.1) (so_ob hf)) (congrArg (fun (q9 : Int32 × (OS)) => wM cI cB cZ q q9.2) (so_ob hf)) dX9_parseError_9

def fX9_parseErrorPosition (fu : Nat) (z : OS) : Option (Int32 × (OS)) :=
  nm (sI z 0 (0 : Int32)) (fun (z_1 : OS) => some ((z_1.1 17), z_1))
set_option maxRecDepth 100000 in
set_option maxHeartbeats 4000000 in
theorem mX9_parseErrorPosition (l : Launch) (D : va_G) (cI cB cZ cO : ClassId) (q : Nat → Nat) (sz : Nat) (fu : Nat) (z : OS) {r : Int32} {y1 : OS} (hf : fX9_parseErrorPosition fu z = some (r, y1)) : Met l yX9_parseErrorPosition wsX9_parseErrorPosition ({ frames := 0, cells := 0, slots := 0, locals := 0 }) (va_Pc [.ref (q 0)] (Pw D (gT cI cB cZ cO) (wM cI cB cZ q z) sz)) (Qw D (va_A (wM cI cB cZ q z) sz) (some (.int r)) (wM cI cB cZ q y1)) 0 0 (va_A (wM cI cB cZ q z) sz) := by
  unfold fX9_parseErrorPosition at hf
  refine metW (ret := (some .int)) (own := RX9) rfl (by decide) rfl (Nat.le_of_ble_eq_true rfl) (fun p e s m args below meth c ls A hx hb hr hml hown hlocks hts hK hA hP hD hS hl => ?_)
  have k46 := (hts (.fieldLink RX9 46 "ResolutionProverModel" "thrown" "I") (List.mem_of_getElem? (i := 1) rfl))
  have k39 := (hts (.fieldLink RX9 39 "ResolutionProverModel" "errorAt" "I") (List.mem_of_getElem? (i := 2) rfl))
  have hiX9 : ∀ w ∈ wsX90, w ∈ wsX9_parseErrorPosition := (memIn_p [3, 4, 5, 6, 7, 8, 9, 10, 11, 12, 13, 14, 15, 16, 17, 18, 19, 20, 21, 22, 23, 24, 25, 26, 27, 28, 29] rfl)
  have hl : lv_has ls 1 [(0, .ref (q 0))] := hl
  refine lv_aload_n hx hb dX9_parseErrorPosition_0 rfl (lv_at hl 0 rfl) ?_
  refine lv_iconst (v := 0) hx hb dX9_parseErrorPosition_1 (by decide) ?_
  refine va_put (D := D) (ci := 8) (v := .int (0 : Int32)) (ty := .int) (C := RX9) (T := TX9) (N := 27) hx hb hts hiX9 tyX9 tyX9_ok nmX9 hown hK hP hD hS 0 rfl rfl 0 (by decide) k46 (fun _ h9 => h9) rfl (by decide +kernel) rfl rfl (Nat.le_of_ble_eq_true rfl) dX9_parseErrorPosition_2 (fun H locs hP hD hS => ?_)
  obtain ⟨z_1, ez_1, hf⟩ := nm_ob hf
  have hP : va_P D vwCl (wM cI cB cZ q z_1) H := by rw [ez_1]; exact hP
  have hD : va_D A (wM cI cB cZ q z_1) := by rw [ez_1]; exact hD
  refine lv_aload_n hx hb dX9_parseErrorPosition_5 rfl (lv_at hl 0 rfl) ?_
  refine va_get (D := D) (ci := 8) (v := .int (z_1.1 17)) (C := RX9) (T := TX9) (N := 27) hx hb hts hiX9 hown hK hP 0 rfl rfl 17 (by decide) k39 (fun _ h9 => h9) rfl dX9_parseErrorPosition_6 ?_
  exact rW_i hx hb hr hlocks hP hD hS (congrArg (fun q9 => q9.1) (so_ob hf)) (congrArg (fun (q9 : Int32 × (OS)) => wM cI cB cZ q q9.2) (so_ob hf)) dX9_parseErrorPosition_9

def fX9_noClause (fu : Nat) (z : OS) (p1 : Int32) : Option (Int32 × (OS)) :=
  bd (fX9_many fu z) (fun (r_1 : Int32) => bd (fX9_in fu ((p1).toInt64) (0 : Int64) (((r_1 - (1 : Int32))).toInt64)) (fun (r_3 : Int32) => jn (κ := Int32 → Option (Int32 × (OS))) (fun (t1_22 : Int32) => bd (fX9_throwsIf fu z t1_22 (1 : Int32)) (fun (w_7 : Int32 × OS) => nm w_7.1 (fun (r_5 : Int32) => nm w_7.2 (fun (z_6 : OS) => gd (isZ r_5) (some (r_5, z_6)))))) (fun j22 => (if ¬ r_3 = (0 : Int32) then j22 (0 : Int32) else j22 (1 : Int32)))))
set_option maxRecDepth 100000 in
set_option maxHeartbeats 4000000 in
theorem mX9_noClause (l : Launch) (D : va_G) (cI cB cZ cO : ClassId) (q : Nat → Nat) (sz : Nat) (fu : Nat) (z : OS) (p1 : Int32) {r : Int32} {y1 : OS} (hf : fX9_noClause fu z p1 = some (r, y1)) : Met l yX9_noClause wsX9_noClause ({ frames := 1, cells := 0, slots := 0, locals := 25 }) (va_Pc [.ref (q 0), .int p1] (Pw D (gT cI cB cZ cO) (wM cI cB cZ q z) sz)) (Qw D (va_A (wM cI cB cZ q z) sz) (some (.int r)) (wM cI cB cZ q y1)) 0 0 (va_A (wM cI cB cZ q z) sz) := by
  unfold fX9_noClause at hf
  refine metW (ret := (some .boolean)) (own := RX9) rfl (by decide) rfl (Nat.le_of_ble_eq_true rfl) (fun p e s m args below meth c ls A hx hb hr hml hown hlocks hts hK hA hP hD hS hl => ?_)
  have hl : lv_has ls 2 [(0, .ref (q 0)), (1, .int p1)] := hl
  refine lv_aload_n hx hb dX9_noClause_0 rfl (lv_at hl 0 rfl) ?_
  refine lv_iload_n hx hb dX9_noClause_1 rfl (lv_at hl 1 rfl) ?_
  refine lv_i2l hx hb dX9_noClause_2 rfl ?_
  refine lv_lconst (v := 0) hx hb dX9_noClause_3 (by decide) ?_
  refine lv_aload_n hx hb dX9_noClause_4 rfl (lv_at hl 0 rfl) ?_
  obtain ⟨r_1, hc_2, hf⟩ := bd_ob hf
  refine rdV (As := []) (rest := [.long (0 : Int64), .long ((p1).toInt64), .ref (q 0)]) ⟨hx, hb, hml, hown, hts⟩ (mX9_many l D cI cB cZ cO q fu z hc_2) (cwV 0 hts gX9_noClause_X9_many rfl rfl rfl (by decide +kernel) ⟨Nat.le_of_ble_eq_true rfl, Nat.le_of_ble_eq_true rfl⟩) hK hP (va_recv hK hP (ci := 8) (q0 := 0) rfl rfl) rfl hl.1 rfl (Nat.le_of_ble_eq_true rfl) dX9_noClause_5 ⟨Nat.zero_le _, Nat.zero_le _⟩ ?_
  refine lv_iconst (v := 1) hx hb dX9_noClause_8 (by decide) ?_
  refine lv_isub hx hb dX9_noClause_9 ?_
  refine lv_i2l hx hb dX9_noClause_10 rfl ?_
  obtain ⟨r_3, hc_4, hf⟩ := bd_ob hf
  refine rdN (As := [.long ((p1).toInt64), .long (0 : Int64), .long (((r_1 - (1 : Int32))).toInt64)]) (rest := [.ref (q 0)]) ⟨hx, hb, hml, hown, hts⟩ (mX9_in l D cI cB cZ cO fu ((p1).toInt64) (0 : Int64) (((r_1 - (1 : Int32))).toInt64) hc_4) (va_cwS 3 hts gX9_noClause_X9_in rfl rfl rfl (by decide +kernel) ⟨Nat.le_of_ble_eq_true rfl, Nat.le_of_ble_eq_true rfl⟩) rfl hl.1 rfl (Nat.le_of_ble_eq_true rfl) dX9_noClause_11 ⟨Nat.zero_le _, Nat.zero_le _⟩ ?_
  obtain ⟨j22, ej22, hf⟩ := jn_ob hf
  have hp22 : ∀ (t1_22 : Int32) (H : Heap) (locs : List Loc) (ls : Array Slot), j22 t1_22 = some (r, y1) → va_P D vwCl (wM cI cB cZ q z) H → va_D A (wM cI cB cZ q z) → va_S A s.heap H locs → lv_has ls 2 [] → W p l e (headSpec wsX9_noClause { frames := 1, cells := 0, slots := 0, locals := 25 }).room s m args below meth c H locs 0 0 (MQ below (Qw D A (some (.int r)) (wM cI cB cZ q y1)) args s 0 0 A) (F0 m 22 ls [.int t1_22, .ref (q 0)]) := by
    intro t1_22 H locs ls hf hP hD hS hl
    rw [ej22] at hf
    refine lv_iconst (v := 1) hx hb dX9_noClause_22 (by decide) ?_
    obtain ⟨⟨r_5, z_6⟩, hc_8, hf⟩ := bd_ob hf
    have hf := nm_st hf
    have hf := nm_st hf
    refine weV (As := [.int t1_22, .int (1 : Int32)]) (rest := []) ⟨hx, hb, hml, hown, hts⟩ (mX9_throwsIf l D cI cB cZ cO q _ fu z t1_22 (1 : Int32) hc_8) (cwV 2 hts gX9_noClause_X9_throwsIf rfl rfl rfl (by decide +kernel) ⟨Nat.le_of_ble_eq_true rfl, Nat.le_of_ble_eq_true rfl⟩) hK hP hD hS hA (va_recv hK hP (ci := 8) (q0 := 0) rfl rfl) rfl hl.1 rfl (Nat.le_of_ble_eq_true rfl) dX9_noClause_23 ⟨Nat.zero_le _, Nat.zero_le _⟩ (fun H locs hP hD hS => ?_)
    obtain ⟨hz, hf⟩ := gd_ob hf
    exact rW_z hx hb hr hlocks hP hD hS hz (congrArg (fun q9 => q9.1) (so_ob hf)) (congrArg (fun (q9 : Int32 × (OS)) => wM cI cB cZ q q9.2) (so_ob hf)) dX9_noClause_26
  refine lv_if_ne (tgt := 21) hx hb dX9_noClause_14 (by decide) (fun c_14 => ?_) (fun c_14 => ?_)
  · have hf := ip c_14 hf
    refine lv_iconst (v := 0) hx hb dX9_noClause_21 (by decide) ?_
    exact hp22 (0 : Int32) _ _ _ hf hP hD hS (lv_sub hl [] rfl)
  · have hf := iqn c_14 hf
    refine lv_iconst (v := 1) hx hb dX9_noClause_17 (by decide) ?_
    refine lv_goto (tgt := 22) hx hb dX9_noClause_18 (by decide) ?_
    exact hp22 (1 : Int32) _ _ _ hf hP hD hS (lv_sub hl [] rfl)

def fX9_noPair (fu : Nat) (z : OS) (p1 : Int32) (p2 : Int32) : Option (Int32 × (OS)) :=
  bd (fX9_noClause fu z p1) (fun (w_3 : Int32 × OS) => nm w_3.1 (fun (r_1 : Int32) => nm w_3.2 (fun (z_2 : OS) => jn (κ := OS → Option (Int32 × (OS))) (fun (z1_16 : OS) => gd (isZ (1 : Int32)) (some ((1 : Int32), z1_16))) (fun j16 => (if ¬ r_1 = (0 : Int32) then j16 z_2 else bd (fX9_noClause fu z_2 p2) (fun (w_7 : Int32 × OS) => nm w_7.1 (fun (r_5 : Int32) => nm w_7.2 (fun (z_6 : OS) => (if r_5 = (0 : Int32) then gd (isZ (0 : Int32)) (some ((0 : Int32), z_6)) else j16 z_6)))))))))
set_option maxRecDepth 100000 in
set_option maxHeartbeats 4000000 in
theorem mX9_noPair (l : Launch) (D : va_G) (cI cB cZ cO : ClassId) (q : Nat → Nat) (sz : Nat) (fu : Nat) (z : OS) (p1 : Int32) (p2 : Int32) {r : Int32} {y1 : OS} (hf : fX9_noPair fu z p1 p2 = some (r, y1)) : Met l yX9_noPair wsX9_noPair ({ frames := 2, cells := 0, slots := 0, locals := 46 }) (va_Pc [.ref (q 0), .int p1, .int p2] (Pw D (gT cI cB cZ cO) (wM cI cB cZ q z) sz)) (Qw D (va_A (wM cI cB cZ q z) sz) (some (.int r)) (wM cI cB cZ q y1)) 0 0 (va_A (wM cI cB cZ q z) sz) := by
  unfold fX9_noPair at hf
  refine metW (ret := (some .boolean)) (own := RX9) rfl (by decide) rfl (Nat.le_of_ble_eq_true rfl) (fun p e s m args below meth c ls A hx hb hr hml hown hlocks hts hK hA hP hD hS hl => ?_)
  have hl : lv_has ls 3 [(0, .ref (q 0)), (1, .int p1), (2, .int p2)] := hl
  refine lv_aload_n hx hb dX9_noPair_0 rfl (lv_at hl 0 rfl) ?_
  refine lv_iload_n hx hb dX9_noPair_1 rfl (lv_at hl 1 rfl) ?_
  obtain ⟨⟨r_1, z_2⟩, hc_4, hf⟩ := bd_ob hf
  have hf := nm_st hf
  have hf := nm_st hf
  refine weV (As := [.int p1]) (rest := []) ⟨hx, hb, hml, hown, hts⟩ (mX9_noClause l D cI cB cZ cO q _ fu z p1 hc_4) (cwV 1 hts gX9_noPair_X9_noClause rfl rfl rfl (by decide +kernel) ⟨Nat.le_of_ble_eq_true rfl, Nat.le_of_ble_eq_true rfl⟩) hK hP hD hS hA (va_recv hK hP (ci := 8) (q0 := 0) rfl rfl) rfl hl.1 rfl (Nat.le_of_ble_eq_true rfl) dX9_noPair_2 ⟨Nat.zero_le _, Nat.zero_le _⟩ (fun H locs hP hD hS => ?_)
  obtain ⟨j16, ej16, hf⟩ := jn_ob hf
  have hp16 : ∀ (z1_16 : OS) (H : Heap) (locs : List Loc) (ls : Array Slot), j16 z1_16 = some (r, y1) → va_P D vwCl (wM cI cB cZ q z1_16) H → va_D A (wM cI cB cZ q z1_16) → va_S A s.heap H locs → lv_has ls 3 [] → W p l e (headSpec wsX9_noPair { frames := 2, cells := 0, slots := 0, locals := 46 }).room s m args below meth c H locs 0 0 (MQ below (Qw D A (some (.int r)) (wM cI cB cZ q y1)) args s 0 0 A) (F0 m 16 ls []) := by
    intro z1_16 H locs ls hf hP hD hS hl
    rw [ej16] at hf
    refine lv_iconst (v := 1) hx hb dX9_noPair_16 (by decide) ?_
    refine lv_goto (tgt := 21) hx hb dX9_noPair_17 (by decide) ?_
    obtain ⟨hz, hf⟩ := gd_ob hf
    exact rW_z hx hb hr hlocks hP hD hS hz (congrArg (fun q9 => q9.1) (so_ob hf)) (congrArg (fun (q9 : Int32 × (OS)) => wM cI cB cZ q q9.2) (so_ob hf)) dX9_noPair_21
  refine lv_if_ne (tgt := 16) hx hb dX9_noPair_5 (by decide) (fun c_5 => ?_) (fun c_5 => ?_)
  · have hf := ip c_5 hf
    exact hp16 z_2 _ _ _ hf hP hD hS (lv_sub hl [] rfl)
  · have hf := iqn c_5 hf
    refine lv_aload_n hx hb dX9_noPair_8 rfl (lv_at hl 0 rfl) ?_
    refine lv_iload_n hx hb dX9_noPair_9 rfl (lv_at hl 2 rfl) ?_
    obtain ⟨⟨r_5, z_6⟩, hc_8, hf⟩ := bd_ob hf
    have hf := nm_st hf
    have hf := nm_st hf
    refine weV (As := [.int p2]) (rest := []) ⟨hx, hb, hml, hown, hts⟩ (mX9_noClause l D cI cB cZ cO q _ fu z_2 p2 hc_8) (cwV 1 hts gX9_noPair_X9_noClause rfl rfl rfl (by decide +kernel) ⟨Nat.le_of_ble_eq_true rfl, Nat.le_of_ble_eq_true rfl⟩) hK hP hD hS hA (va_recv hK hP (ci := 8) (q0 := 0) rfl rfl) rfl hl.1 rfl (Nat.le_of_ble_eq_true rfl) dX9_noPair_10 ⟨Nat.zero_le _, Nat.zero_le _⟩ (fun H locs hP hD hS => ?_)
    refine lv_if_eq (tgt := 20) hx hb dX9_noPair_13 (by decide) (fun c_13 => ?_) (fun c_13 => ?_)
    · have hf := ip c_13 hf
      refine lv_iconst (v := 0) hx hb dX9_noPair_20 (by decide) ?_
      obtain ⟨hz, hf⟩ := gd_ob hf
      exact rW_z hx hb hr hlocks hP hD hS hz (congrArg (fun q9 => q9.1) (so_ob hf)) (congrArg (fun (q9 : Int32 × (OS)) => wM cI cB cZ q q9.2) (so_ob hf)) dX9_noPair_21
    · have hf := iq c_13 hf
      exact hp16 z_6 _ _ _ hf hP hD hS (lv_sub hl [] rfl)

def fX9_noVariable (fu : Nat) (z : OS) (p1 : Int32) : Option (Int32 × (OS)) :=
  bd (fX9_wide fu z) (fun (r_1 : Int32) => bd (fX9_in fu ((p1).toInt64) (0 : Int64) (((r_1 - (1 : Int32))).toInt64)) (fun (r_3 : Int32) => jn (κ := Int32 → Option (Int32 × (OS))) (fun (t1_22 : Int32) => bd (fX9_throwsIf fu z t1_22 (1 : Int32)) (fun (w_7 : Int32 × OS) => nm w_7.1 (fun (r_5 : Int32) => nm w_7.2 (fun (z_6 : OS) => gd (isZ r_5) (some (r_5, z_6)))))) (fun j22 => (if ¬ r_3 = (0 : Int32) then j22 (0 : Int32) else j22 (1 : Int32)))))
set_option maxRecDepth 100000 in
set_option maxHeartbeats 4000000 in
theorem mX9_noVariable (l : Launch) (D : va_G) (cI cB cZ cO : ClassId) (q : Nat → Nat) (sz : Nat) (fu : Nat) (z : OS) (p1 : Int32) {r : Int32} {y1 : OS} (hf : fX9_noVariable fu z p1 = some (r, y1)) : Met l yX9_noVariable wsX9_noVariable ({ frames := 1, cells := 0, slots := 0, locals := 25 }) (va_Pc [.ref (q 0), .int p1] (Pw D (gT cI cB cZ cO) (wM cI cB cZ q z) sz)) (Qw D (va_A (wM cI cB cZ q z) sz) (some (.int r)) (wM cI cB cZ q y1)) 0 0 (va_A (wM cI cB cZ q z) sz) := by
  unfold fX9_noVariable at hf
  refine metW (ret := (some .boolean)) (own := RX9) rfl (by decide) rfl (Nat.le_of_ble_eq_true rfl) (fun p e s m args below meth c ls A hx hb hr hml hown hlocks hts hK hA hP hD hS hl => ?_)
  have hl : lv_has ls 2 [(0, .ref (q 0)), (1, .int p1)] := hl
  refine lv_aload_n hx hb dX9_noVariable_0 rfl (lv_at hl 0 rfl) ?_
  refine lv_iload_n hx hb dX9_noVariable_1 rfl (lv_at hl 1 rfl) ?_
  refine lv_i2l hx hb dX9_noVariable_2 rfl ?_
  refine lv_lconst (v := 0) hx hb dX9_noVariable_3 (by decide) ?_
  refine lv_aload_n hx hb dX9_noVariable_4 rfl (lv_at hl 0 rfl) ?_
  obtain ⟨r_1, hc_2, hf⟩ := bd_ob hf
  refine rdV (As := []) (rest := [.long (0 : Int64), .long ((p1).toInt64), .ref (q 0)]) ⟨hx, hb, hml, hown, hts⟩ (mX9_wide l D cI cB cZ cO q fu z hc_2) (cwV 0 hts gX9_noVariable_X9_wide rfl rfl rfl (by decide +kernel) ⟨Nat.le_of_ble_eq_true rfl, Nat.le_of_ble_eq_true rfl⟩) hK hP (va_recv hK hP (ci := 8) (q0 := 0) rfl rfl) rfl hl.1 rfl (Nat.le_of_ble_eq_true rfl) dX9_noVariable_5 ⟨Nat.zero_le _, Nat.zero_le _⟩ ?_
  refine lv_iconst (v := 1) hx hb dX9_noVariable_8 (by decide) ?_
  refine lv_isub hx hb dX9_noVariable_9 ?_
  refine lv_i2l hx hb dX9_noVariable_10 rfl ?_
  obtain ⟨r_3, hc_4, hf⟩ := bd_ob hf
  refine rdN (As := [.long ((p1).toInt64), .long (0 : Int64), .long (((r_1 - (1 : Int32))).toInt64)]) (rest := [.ref (q 0)]) ⟨hx, hb, hml, hown, hts⟩ (mX9_in l D cI cB cZ cO fu ((p1).toInt64) (0 : Int64) (((r_1 - (1 : Int32))).toInt64) hc_4) (va_cwS 3 hts gX9_noVariable_X9_in rfl rfl rfl (by decide +kernel) ⟨Nat.le_of_ble_eq_true rfl, Nat.le_of_ble_eq_true rfl⟩) rfl hl.1 rfl (Nat.le_of_ble_eq_true rfl) dX9_noVariable_11 ⟨Nat.zero_le _, Nat.zero_le _⟩ ?_
  obtain ⟨j22, ej22, hf⟩ := jn_ob hf
  have hp22 : ∀ (t1_22 : Int32) (H : Heap) (locs : List Loc) (ls : Array Slot), j22 t1_22 = some (r, y1) → va_P D vwCl (wM cI cB cZ q z) H → va_D A (wM cI cB cZ q z) → va_S A s.heap H locs → lv_has ls 2 [] → W p l e (headSpec wsX9_noVariable { frames := 1, cells := 0, slots := 0, locals := 25 }).room s m args below meth c H locs 0 0 (MQ below (Qw D A (some (.int r)) (wM cI cB cZ q y1)) args s 0 0 A) (F0 m 22 ls [.int t1_22, .ref (q 0)]) := by
    intro t1_22 H locs ls hf hP hD hS hl
    rw [ej22] at hf
    refine lv_iconst (v := 1) hx hb dX9_noVariable_22 (by decide) ?_
    obtain ⟨⟨r_5, z_6⟩, hc_8, hf⟩ := bd_ob hf
    have hf := nm_st hf
    have hf := nm_st hf
    refine weV (As := [.int t1_22, .int (1 : Int32)]) (rest := []) ⟨hx, hb, hml, hown, hts⟩ (mX9_throwsIf l D cI cB cZ cO q _ fu z t1_22 (1 : Int32) hc_8) (cwV 2 hts gX9_noVariable_X9_throwsIf rfl rfl rfl (by decide +kernel) ⟨Nat.le_of_ble_eq_true rfl, Nat.le_of_ble_eq_true rfl⟩) hK hP hD hS hA (va_recv hK hP (ci := 8) (q0 := 0) rfl rfl) rfl hl.1 rfl (Nat.le_of_ble_eq_true rfl) dX9_noVariable_23 ⟨Nat.zero_le _, Nat.zero_le _⟩ (fun H locs hP hD hS => ?_)
    obtain ⟨hz, hf⟩ := gd_ob hf
    exact rW_z hx hb hr hlocks hP hD hS hz (congrArg (fun q9 => q9.1) (so_ob hf)) (congrArg (fun (q9 : Int32 × (OS)) => wM cI cB cZ q q9.2) (so_ob hf)) dX9_noVariable_26
  refine lv_if_ne (tgt := 21) hx hb dX9_noVariable_14 (by decide) (fun c_14 => ?_) (fun c_14 => ?_)
  · have hf := ip c_14 hf
    refine lv_iconst (v := 0) hx hb dX9_noVariable_21 (by decide) ?_
    exact hp22 (0 : Int32) _ _ _ hf hP hD hS (lv_sub hl [] rfl)
  · have hf := iqn c_14 hf
    refine lv_iconst (v := 1) hx hb dX9_noVariable_17 (by decide) ?_
    refine lv_goto (tgt := 22) hx hb dX9_noVariable_18 (by decide) ?_
    exact hp22 (1 : Int32) _ _ _ hf hP hD hS (lv_sub hl [] rfl)

def fX9_isMask (fu : Nat) (z : OS) (p1 : Int32) : Option (Int32) :=
  bd (fX9_assignments fu z) (fun (r_1 : Int32) => bd (fX9_in fu ((p1).toInt64) (0 : Int64) (((r_1 - (1 : Int32))).toInt64)) (fun (r_3 : Int32) => gd (isZ r_3) (some r_3)))
set_option maxRecDepth 100000 in
set_option maxHeartbeats 4000000 in
theorem mX9_isMask (l : Launch) (D : va_G) (cI cB cZ cO : ClassId) (q : Nat → Nat) (fu : Nat) (z : OS) (p1 : Int32) {r : Int32} (hf : fX9_isMask fu z p1 = some r) : Met l yX9_isMask wsX9_isMask ({ frames := 2, cells := 0, slots := 0, locals := 40 }) (va_Pc [.ref (q 0), .int p1] (Pr D (gT cI cB cZ cO) (wM cI cB cZ q z))) (Qr (some (.int r))) 0 0 (fun _ => False) := by
  unfold fX9_isMask at hf
  refine metR (ret := (some .boolean)) (own := RX9) rfl (by decide) rfl (Nat.le_of_ble_eq_true rfl) (fun p e s m args below meth c ls hx hb hr hml hown hlocks hts hP hK hl => ?_)
  have hl : lv_has ls 2 [(0, .ref (q 0)), (1, .int p1)] := hl
  refine lv_iload_n hx hb dX9_isMask_0 rfl (lv_at hl 1 rfl) ?_
  refine lv_i2l hx hb dX9_isMask_1 rfl ?_
  refine lv_lconst (v := 0) hx hb dX9_isMask_2 (by decide) ?_
  refine lv_aload_n hx hb dX9_isMask_3 rfl (lv_at hl 0 rfl) ?_
  obtain ⟨r_1, hc_2, hf⟩ := bd_ob hf
  refine rdV (As := []) (rest := [.long (0 : Int64), .long ((p1).toInt64)]) ⟨hx, hb, hml, hown, hts⟩ (mX9_assignments l D cI cB cZ cO q fu z hc_2) (cwV 0 hts gX9_isMask_X9_assignments rfl rfl rfl (by decide +kernel) ⟨Nat.le_of_ble_eq_true rfl, Nat.le_of_ble_eq_true rfl⟩) hK hP (va_recv hK hP (ci := 8) (q0 := 0) rfl rfl) rfl hl.1 rfl (Nat.le_of_ble_eq_true rfl) dX9_isMask_4 ⟨Nat.zero_le _, Nat.zero_le _⟩ ?_
  refine lv_iconst (v := 1) hx hb dX9_isMask_7 (by decide) ?_
  refine lv_isub hx hb dX9_isMask_8 ?_
  refine lv_i2l hx hb dX9_isMask_9 rfl ?_
  obtain ⟨r_3, hc_4, hf⟩ := bd_ob hf
  refine rdN (As := [.long ((p1).toInt64), .long (0 : Int64), .long (((r_1 - (1 : Int32))).toInt64)]) (rest := []) ⟨hx, hb, hml, hown, hts⟩ (mX9_in l D cI cB cZ cO fu ((p1).toInt64) (0 : Int64) (((r_1 - (1 : Int32))).toInt64) hc_4) (va_cwS 3 hts gX9_isMask_X9_in rfl rfl rfl (by decide +kernel) ⟨Nat.le_of_ble_eq_true rfl, Nat.le_of_ble_eq_true rfl⟩) rfl hl.1 rfl (Nat.le_of_ble_eq_true rfl) dX9_isMask_10 ⟨Nat.zero_le _, Nat.zero_le _⟩ ?_
  obtain ⟨hz, hf⟩ := gd_ob hf
  exact rR_z hx hb hr hlocks hz (so_ob hf) dX9_isMask_13

def fX9_noMasks (fu : Nat) (z : OS) (p1 : Int32) (p2 : Int32) : Option (Int32 × (OS)) :=
  bd (fX9_isMask fu z p1) (fun (r_1 : Int32) => jn (κ := Int32 → Option (Int32 × (OS))) (fun (t1_28 : Int32) => bd (fX9_throwsIf fu z t1_28 (1 : Int32)) (fun (w_5 : Int32 × OS) => nm w_5.1 (fun (r_3 : Int32) => nm w_5.2 (fun (z_4 : OS) => (if r_3 = (0 : Int32) then bd (fX9_lays fu z_4 p1 p2) (fun (z_7 : OS) => gd (isZ (0 : Int32)) (some ((0 : Int32), z_7))) else gd (isZ (1 : Int32)) (some ((1 : Int32), z_4))))))) (fun j28 => jn (κ := Option (Int32 × (OS))) (j28 (1 : Int32)) (fun j23 => (if r_1 = (0 : Int32) then j23 else bd (fX9_isMask fu z p2) (fun (r_9 : Int32) => (if r_9 = (0 : Int32) then j23 else (if (p1 &&& p2) = (0 : Int32) then j28 (0 : Int32) else j23)))))))
set_option maxRecDepth 100000 in
set_option maxHeartbeats 4000000 in
theorem mX9_noMasks (l : Launch) (D : va_G) (cI cB cZ cO : ClassId) (q : Nat → Nat) (sz : Nat) (fu : Nat) (z : OS) (p1 : Int32) (p2 : Int32) {r : Int32} {y1 : OS} (hf : fX9_noMasks fu z p1 p2 = some (r, y1)) : Met l yX9_noMasks wsX9_noMasks ({ frames := 3, cells := 0, slots := 0, locals := 61 }) (va_Pc [.ref (q 0), .int p1, .int p2] (Pw D (gT cI cB cZ cO) (wM cI cB cZ q z) sz)) (Qw D (va_A (wM cI cB cZ q z) sz) (some (.int r)) (wM cI cB cZ q y1)) 0 0 (va_A (wM cI cB cZ q z) sz) := by
  unfold fX9_noMasks at hf
  refine metW (ret := (some .boolean)) (own := RX9) rfl (by decide) rfl (Nat.le_of_ble_eq_true rfl) (fun p e s m args below meth c ls A hx hb hr hml hown hlocks hts hK hA hP hD hS hl => ?_)
  have hl : lv_has ls 3 [(0, .ref (q 0)), (1, .int p1), (2, .int p2)] := hl
  refine lv_aload_n hx hb dX9_noMasks_0 rfl (lv_at hl 0 rfl) ?_
  refine lv_aload_n hx hb dX9_noMasks_1 rfl (lv_at hl 0 rfl) ?_
  refine lv_iload_n hx hb dX9_noMasks_2 rfl (lv_at hl 1 rfl) ?_
  obtain ⟨r_1, hc_2, hf⟩ := bd_ob hf
  refine rdV (As := [.int p1]) (rest := [.ref (q 0)]) ⟨hx, hb, hml, hown, hts⟩ (mX9_isMask l D cI cB cZ cO q fu z p1 hc_2) (cwV 1 hts gX9_noMasks_X9_isMask rfl rfl rfl (by decide +kernel) ⟨Nat.le_of_ble_eq_true rfl, Nat.le_of_ble_eq_true rfl⟩) hK hP (va_recv hK hP (ci := 8) (q0 := 0) rfl rfl) rfl hl.1 rfl (Nat.le_of_ble_eq_true rfl) dX9_noMasks_3 ⟨Nat.zero_le _, Nat.zero_le _⟩ ?_
  obtain ⟨j28, ej28, hf⟩ := jn_ob hf
  have hp28 : ∀ (t1_28 : Int32) (H : Heap) (locs : List Loc) (ls : Array Slot), j28 t1_28 = some (r, y1) → va_P D vwCl (wM cI cB cZ q z) H → va_D A (wM cI cB cZ q z) → va_S A s.heap H locs → lv_has ls 3 [(0, .ref (q 0)), (1, .int p1), (2, .int p2)] → W p l e (headSpec wsX9_noMasks { frames := 3, cells := 0, slots := 0, locals := 61 }).room s m args below meth c H locs 0 0 (MQ below (Qw D A (some (.int r)) (wM cI cB cZ q y1)) args s 0 0 A) (F0 m 28 ls [.int t1_28, .ref (q 0)]) := by
    intro t1_28 H locs ls hf hP hD hS hl
    rw [ej28] at hf
    refine lv_iconst (v := 1) hx hb dX9_noMasks_28 (by decide) ?_
    obtain ⟨⟨r_3, z_4⟩, hc_6, hf⟩ := bd_ob hf
    have hf := nm_st hf
    have hf := nm_st hf
    refine weV (As := [.int t1_28, .int (1 : Int32)]) (rest := []) ⟨hx, hb, hml, hown, hts⟩ (mX9_throwsIf l D cI cB cZ cO q _ fu z t1_28 (1 : Int32) hc_6) (cwV 2 hts gX9_noMasks_X9_throwsIf rfl rfl rfl (by decide +kernel) ⟨Nat.le_of_ble_eq_true rfl, Nat.le_of_ble_eq_true rfl⟩) hK hP hD hS hA (va_recv hK hP (ci := 8) (q0 := 0) rfl rfl) rfl hl.1 rfl (Nat.le_of_ble_eq_true rfl) dX9_noMasks_29 ⟨Nat.zero_le _, Nat.zero_le _⟩ (fun H locs hP hD hS => ?_)
    refine lv_if_eq (tgt := 37) hx hb dX9_noMasks_32 (by decide) (fun c_32 => ?_) (fun c_32 => ?_)
    · have hf := ip c_32 hf
      refine lv_aload_n hx hb dX9_noMasks_37 rfl (lv_at hl 0 rfl) ?_
      refine lv_iload_n hx hb dX9_noMasks_38 rfl (lv_at hl 1 rfl) ?_
      refine lv_iload_n hx hb dX9_noMasks_39 rfl (lv_at hl 2 rfl) ?_
      obtain ⟨z_7, hc_8, hf⟩ := bd_ob hf
      refine weV (As := [.int p1, .int p2]) (rest := []) ⟨hx, hb, hml, hown, hts⟩ (mX9_lays l D cI cB cZ cO q _ fu z_4 p1 p2 hc_8) (cwV 2 hts gX9_noMasks_X9_lays rfl rfl rfl (by decide +kernel) ⟨Nat.le_of_ble_eq_true rfl, Nat.le_of_ble_eq_true rfl⟩) hK hP hD hS hA (va_recv hK hP (ci := 8) (q0 := 0) rfl rfl) rfl hl.1 rfl (Nat.le_of_ble_eq_true rfl) dX9_noMasks_40 ⟨Nat.zero_le _, Nat.zero_le _⟩ (fun H locs hP hD hS => ?_)
      refine lv_iconst (v := 0) hx hb dX9_noMasks_43 (by decide) ?_
      obtain ⟨hz, hf⟩ := gd_ob hf
      exact rW_z hx hb hr hlocks hP hD hS hz (congrArg (fun q9 => q9.1) (so_ob hf)) (congrArg (fun (q9 : Int32 × (OS)) => wM cI cB cZ q q9.2) (so_ob hf)) dX9_noMasks_44
    · have hf := iq c_32 hf
      refine lv_iconst (v := 1) hx hb dX9_noMasks_35 (by decide) ?_
      obtain ⟨hz, hf⟩ := gd_ob hf
      exact rW_z hx hb hr hlocks hP hD hS hz (congrArg (fun q9 => q9.1) (so_ob hf)) (congrArg (fun (q9 : Int32 × (OS)) => wM cI cB cZ q q9.2) (so_ob hf)) dX9_noMasks_36
  obtain ⟨j23, ej23, hf⟩ := jn_ob hf
  have hp23 : ∀  (H : Heap) (locs : List Loc) (ls : Array Slot), j23 = some (r, y1) → va_P D vwCl (wM cI cB cZ q z) H → va_D A (wM cI cB cZ q z) → va_S A s.heap H locs → lv_has ls 3 [(0, .ref (q 0)), (1, .int p1), (2, .int p2)] → W p l e (headSpec wsX9_noMasks { frames := 3, cells := 0, slots := 0, locals := 61 }).room s m args below meth c H locs 0 0 (MQ below (Qw D A (some (.int r)) (wM cI cB cZ q y1)) args s 0 0 A) (F0 m 23 ls [.ref (q 0)]) := by
    intro H locs ls hf hP hD hS hl
    rw [ej23] at hf
    refine lv_iconst (v := 1) hx hb dX9_noMasks_23 (by decide) ?_
    refine lv_goto (tgt := 28) hx hb dX9_noMasks_24 (by decide) ?_
    exact hp28 (1 : Int32) _ _ _ hf hP hD hS hl
  refine lv_if_eq (tgt := 23) hx hb dX9_noMasks_6 (by decide) (fun c_6 => ?_) (fun c_6 => ?_)
  · have hf := ip c_6 hf
    exact hp23 _ _ _ hf hP hD hS hl
  · have hf := iq c_6 hf
    refine lv_aload_n hx hb dX9_noMasks_9 rfl (lv_at hl 0 rfl) ?_
    refine lv_iload_n hx hb dX9_noMasks_10 rfl (lv_at hl 2 rfl) ?_
    obtain ⟨r_9, hc_10, hf⟩ := bd_ob hf
    refine rdV (As := [.int p2]) (rest := [.ref (q 0)]) ⟨hx, hb, hml, hown, hts⟩ (mX9_isMask l D cI cB cZ cO q fu z p2 hc_10) (cwV 1 hts gX9_noMasks_X9_isMask rfl rfl rfl (by decide +kernel) ⟨Nat.le_of_ble_eq_true rfl, Nat.le_of_ble_eq_true rfl⟩) hK hP (va_recv hK hP (ci := 8) (q0 := 0) rfl rfl) rfl hl.1 rfl (Nat.le_of_ble_eq_true rfl) dX9_noMasks_11 ⟨Nat.zero_le _, Nat.zero_le _⟩ ?_
    refine lv_if_eq (tgt := 23) hx hb dX9_noMasks_14 (by decide) (fun c_14 => ?_) (fun c_14 => ?_)
    · have hf := ip c_14 hf
      exact hp23 _ _ _ hf hP hD hS hl
    · have hf := iq c_14 hf
      refine lv_iload_n hx hb dX9_noMasks_17 rfl (lv_at hl 1 rfl) ?_
      refine lv_iload_n hx hb dX9_noMasks_18 rfl (lv_at hl 2 rfl) ?_
      refine lv_iand hx hb dX9_noMasks_19 ?_
      refine lv_if_eq (tgt := 27) hx hb dX9_noMasks_20 (by decide) (fun c_20 => ?_) (fun c_20 => ?_)
      · have hf := ip c_20 hf
        refine lv_iconst (v := 0) hx hb dX9_noMasks_27 (by decide) ?_
        exact hp28 (0 : Int32) _ _ _ hf hP hD hS hl
      · have hf := iq c_20 hf
        exact hp23 _ _ _ hf hP hD hS hl

def fX9_variableCount (fu : Nat) (z : OS) : Option (Int32 × (OS)) :=
  nm (sI z 0 (0 : Int32)) (fun (z_1 : OS) => bd (fX9_wide fu z_1) (fun (r_2 : Int32) => some (r_2, z_1)))
set_option maxRecDepth 100000 in
set_option maxHeartbeats 4000000 in
theorem mX9_variableCount (l : Launch) (D : va_G) (cI cB cZ cO : ClassId) (q : Nat → Nat) (sz : Nat) (fu : Nat) (z : OS) {r : Int32} {y1 : OS} (hf : fX9_variableCount fu z = some (r, y1)) : Met l yX9_variableCount wsX9_variableCount ({ frames := 1, cells := 0, slots := 0, locals := 20 }) (va_Pc [.ref (q 0)] (Pw D (gT cI cB cZ cO) (wM cI cB cZ q z) sz)) (Qw D (va_A (wM cI cB cZ q z) sz) (some (.int r)) (wM cI cB cZ q y1)) 0 0 (va_A (wM cI cB cZ q z) sz) := by
  unfold fX9_variableCount at hf
  refine metW (ret := (some .int)) (own := RX9) rfl (by decide) rfl (Nat.le_of_ble_eq_true rfl) (fun p e s m args below meth c ls A hx hb hr hml hown hlocks hts hK hA hP hD hS hl => ?_)
  have k46 := (hts (.fieldLink RX9 46 "ResolutionProverModel" "thrown" "I") (List.mem_of_getElem? (i := 1) rfl))
  have hiX9 : ∀ w ∈ wsX90, w ∈ wsX9_variableCount := (memIn_p [8, 9, 10, 11, 12, 13, 14, 15, 16, 17, 18, 19, 20, 21, 22, 23, 24, 25, 26, 27, 28, 29, 30, 31, 32, 33, 34] rfl)
  have hl : lv_has ls 1 [(0, .ref (q 0))] := hl
  refine lv_aload_n hx hb dX9_variableCount_0 rfl (lv_at hl 0 rfl) ?_
  refine lv_iconst (v := 0) hx hb dX9_variableCount_1 (by decide) ?_
  refine va_put (D := D) (ci := 8) (v := .int (0 : Int32)) (ty := .int) (C := RX9) (T := TX9) (N := 27) hx hb hts hiX9 tyX9 tyX9_ok nmX9 hown hK hP hD hS 0 rfl rfl 0 (by decide) k46 (fun _ h9 => h9) rfl (by decide +kernel) rfl rfl (Nat.le_of_ble_eq_true rfl) dX9_variableCount_2 (fun H locs hP hD hS => ?_)
  obtain ⟨z_1, ez_1, hf⟩ := nm_ob hf
  have hP : va_P D vwCl (wM cI cB cZ q z_1) H := by rw [ez_1]; exact hP
  have hD : va_D A (wM cI cB cZ q z_1) := by rw [ez_1]; exact hD
  refine lv_aload_n hx hb dX9_variableCount_5 rfl (lv_at hl 0 rfl) ?_
  obtain ⟨r_2, hc_3, hf⟩ := bd_ob hf
  refine rdV (As := []) (rest := []) ⟨hx, hb, hml, hown, hts⟩ (mX9_wide l D cI cB cZ cO q fu z_1 hc_3) (cwV 0 hts gX9_variableCount_X9_wide rfl rfl rfl (by decide +kernel) ⟨Nat.le_of_ble_eq_true rfl, Nat.le_of_ble_eq_true rfl⟩) hK hP (va_recv hK hP (ci := 8) (q0 := 0) rfl rfl) rfl hl.1 rfl (Nat.le_of_ble_eq_true rfl) dX9_variableCount_6 ⟨Nat.zero_le _, Nat.zero_le _⟩ ?_
  exact rW_i hx hb hr hlocks hP hD hS (congrArg (fun q9 => q9.1) (so_ob hf)) (congrArg (fun (q9 : Int32 × (OS)) => wM cI cB cZ q q9.2) (so_ob hf)) dX9_variableCount_9

def fX9_clauseCount (fu : Nat) (z : OS) : Option (Int32 × (OS)) :=
  nm (sI z 0 (0 : Int32)) (fun (z_1 : OS) => bd (fX9_many fu z_1) (fun (r_2 : Int32) => some (r_2, z_1)))
set_option maxRecDepth 100000 in
set_option maxHeartbeats 4000000 in
theorem mX9_clauseCount (l : Launch) (D : va_G) (cI cB cZ cO : ClassId) (q : Nat → Nat) (sz : Nat) (fu : Nat) (z : OS) {r : Int32} {y1 : OS} (hf : fX9_clauseCount fu z = some (r, y1)) : Met l yX9_clauseCount wsX9_clauseCount ({ frames := 1, cells := 0, slots := 0, locals := 20 }) (va_Pc [.ref (q 0)] (Pw D (gT cI cB cZ cO) (wM cI cB cZ q z) sz)) (Qw D (va_A (wM cI cB cZ q z) sz) (some (.int r)) (wM cI cB cZ q y1)) 0 0 (va_A (wM cI cB cZ q z) sz) := by
  unfold fX9_clauseCount at hf
  refine metW (ret := (some .int)) (own := RX9) rfl (by decide) rfl (Nat.le_of_ble_eq_true rfl) (fun p e s m args below meth c ls A hx hb hr hml hown hlocks hts hK hA hP hD hS hl => ?_)
  have k46 := (hts (.fieldLink RX9 46 "ResolutionProverModel" "thrown" "I") (List.mem_of_getElem? (i := 1) rfl))
  have hiX9 : ∀ w ∈ wsX90, w ∈ wsX9_clauseCount := (memIn_p [8, 9, 10, 11, 12, 13, 14, 15, 16, 17, 18, 19, 20, 21, 22, 23, 24, 25, 26, 27, 28, 29, 30, 31, 32, 33, 34] rfl)
  have hl : lv_has ls 1 [(0, .ref (q 0))] := hl
  refine lv_aload_n hx hb dX9_clauseCount_0 rfl (lv_at hl 0 rfl) ?_
  refine lv_iconst (v := 0) hx hb dX9_clauseCount_1 (by decide) ?_
  refine va_put (D := D) (ci := 8) (v := .int (0 : Int32)) (ty := .int) (C := RX9) (T := TX9) (N := 27) hx hb hts hiX9 tyX9 tyX9_ok nmX9 hown hK hP hD hS 0 rfl rfl 0 (by decide) k46 (fun _ h9 => h9) rfl (by decide +kernel) rfl rfl (Nat.le_of_ble_eq_true rfl) dX9_clauseCount_2 (fun H locs hP hD hS => ?_)
  obtain ⟨z_1, ez_1, hf⟩ := nm_ob hf
  have hP : va_P D vwCl (wM cI cB cZ q z_1) H := by rw [ez_1]; exact hP
  have hD : va_D A (wM cI cB cZ q z_1) := by rw [ez_1]; exact hD
  refine lv_aload_n hx hb dX9_clauseCount_5 rfl (lv_at hl 0 rfl) ?_
  obtain ⟨r_2, hc_3, hf⟩ := bd_ob hf
  refine rdV (As := []) (rest := []) ⟨hx, hb, hml, hown, hts⟩ (mX9_many l D cI cB cZ cO q fu z_1 hc_3) (cwV 0 hts gX9_clauseCount_X9_many rfl rfl rfl (by decide +kernel) ⟨Nat.le_of_ble_eq_true rfl, Nat.le_of_ble_eq_true rfl⟩) hK hP (va_recv hK hP (ci := 8) (q0 := 0) rfl rfl) rfl hl.1 rfl (Nat.le_of_ble_eq_true rfl) dX9_clauseCount_6 ⟨Nat.zero_le _, Nat.zero_le _⟩ ?_
  exact rW_i hx hb hr hlocks hP hD hS (congrArg (fun q9 => q9.1) (so_ob hf)) (congrArg (fun (q9 : Int32 × (OS)) => wM cI cB cZ q q9.2) (so_ob hf)) dX9_clauseCount_9

def fX9_positiveOf (fu : Nat) (z : OS) (p1 : Int32) : Option (Int32 × (OS)) :=
  nm (sI z 0 (0 : Int32)) (fun (z_1 : OS) => bd (fX9_noClause fu z_1 p1) (fun (w_4 : Int32 × OS) => nm w_4.1 (fun (r_2 : Int32) => nm w_4.2 (fun (z_3 : OS) => (if r_2 = (0 : Int32) then bd (fX9_mask fu z_3 p1 (1 : Int32)) (fun (r_6 : Int32) => some (r_6, z_3)) else some ((0 : Int32), z_3))))))
set_option maxRecDepth 100000 in
set_option maxHeartbeats 4000000 in
theorem mX9_positiveOf (l : Launch) (D : va_G) (cI cB cZ cO : ClassId) (q : Nat → Nat) (sz : Nat) (fu : Nat) (z : OS) (p1 : Int32) {r : Int32} {y1 : OS} (hf : fX9_positiveOf fu z p1 = some (r, y1)) : Met l yX9_positiveOf wsX9_positiveOf ({ frames := 2, cells := 0, slots := 0, locals := 46 }) (va_Pc [.ref (q 0), .int p1] (Pw D (gT cI cB cZ cO) (wM cI cB cZ q z) sz)) (Qw D (va_A (wM cI cB cZ q z) sz) (some (.int r)) (wM cI cB cZ q y1)) 0 0 (va_A (wM cI cB cZ q z) sz) := by
  unfold fX9_positiveOf at hf
  refine metW (ret := (some .int)) (own := RX9) rfl (by decide) rfl (Nat.le_of_ble_eq_true rfl) (fun p e s m args below meth c ls A hx hb hr hml hown hlocks hts hK hA hP hD hS hl => ?_)
  have k46 := (hts (.fieldLink RX9 46 "ResolutionProverModel" "thrown" "I") (List.mem_of_getElem? (i := 1) rfl))
  have hiX9 : ∀ w ∈ wsX90, w ∈ wsX9_positiveOf := (memIn_p [31, 32, 33, 34, 35, 36, 37, 38, 39, 40, 41, 42, 43, 44, 45, 46, 47, 48, 49, 50, 51, 52, 53, 54, 55, 56, 57] rfl)
  have hl : lv_has ls 2 [(0, .ref (q 0)), (1, .int p1)] := hl
  refine lv_aload_n hx hb dX9_positiveOf_0 rfl (lv_at hl 0 rfl) ?_
  refine lv_iconst (v := 0) hx hb dX9_positiveOf_1 (by decide) ?_
  refine va_put (D := D) (ci := 8) (v := .int (0 : Int32)) (ty := .int) (C := RX9) (T := TX9) (N := 27) hx hb hts hiX9 tyX9 tyX9_ok nmX9 hown hK hP hD hS 0 rfl rfl 0 (by decide) k46 (fun _ h9 => h9) rfl (by decide +kernel) rfl rfl (Nat.le_of_ble_eq_true rfl) dX9_positiveOf_2 (fun H locs hP hD hS => ?_)
  obtain ⟨z_1, ez_1, hf⟩ := nm_ob hf
  have hP : va_P D vwCl (wM cI cB cZ q z_1) H := by rw [ez_1]; exact hP
  have hD : va_D A (wM cI cB cZ q z_1) := by rw [ez_1]; exact hD
  refine lv_aload_n hx hb dX9_positiveOf_5 rfl (lv_at hl 0 rfl) ?_
  refine lv_iload_n hx hb dX9_positiveOf_6 rfl (lv_at hl 1 rfl) ?_
  obtain ⟨⟨r_2, z_3⟩, hc_5, hf⟩ := bd_ob hf
  have hf := nm_st hf
  have hf := nm_st hf
  refine weV (As := [.int p1]) (rest := []) ⟨hx, hb, hml, hown, hts⟩ (mX9_noClause l D cI cB cZ cO q _ fu z_1 p1 hc_5) (cwV 1 hts gX9_positiveOf_X9_noClause rfl rfl rfl (by decide +kernel) ⟨Nat.le_of_ble_eq_true rfl, Nat.le_of_ble_eq_true rfl⟩) hK hP hD hS hA (va_recv hK hP (ci := 8) (q0 := 0) rfl rfl) rfl hl.1 rfl (Nat.le_of_ble_eq_true rfl) dX9_positiveOf_7 ⟨Nat.zero_le _, Nat.zero_le _⟩ (fun H locs hP hD hS => ?_)
  refine lv_if_eq (tgt := 17) hx hb dX9_positiveOf_10 (by decide) (fun c_10 => ?_) (fun c_10 => ?_)
  · have hf := ip c_10 hf
    refine lv_aload_n hx hb dX9_positiveOf_17 rfl (lv_at hl 0 rfl) ?_
    refine lv_iload_n hx hb dX9_positiveOf_18 rfl (lv_at hl 1 rfl) ?_
    refine lv_iconst (v := 1) hx hb dX9_positiveOf_19 (by decide) ?_
    obtain ⟨r_6, hc_7, hf⟩ := bd_ob hf
    refine rdV (As := [.int p1, .int (1 : Int32)]) (rest := []) ⟨hx, hb, hml, hown, hts⟩ (mX9_mask l D cI cB cZ cO q fu z_3 p1 (1 : Int32) hc_7) (cwV 2 hts gX9_positiveOf_X9_mask rfl rfl rfl (by decide +kernel) ⟨Nat.le_of_ble_eq_true rfl, Nat.le_of_ble_eq_true rfl⟩) hK hP (va_recv hK hP (ci := 8) (q0 := 0) rfl rfl) rfl hl.1 rfl (Nat.le_of_ble_eq_true rfl) dX9_positiveOf_20 ⟨Nat.zero_le _, Nat.zero_le _⟩ ?_
    exact rW_i hx hb hr hlocks hP hD hS (congrArg (fun q9 => q9.1) (so_ob hf)) (congrArg (fun (q9 : Int32 × (OS)) => wM cI cB cZ q q9.2) (so_ob hf)) dX9_positiveOf_23
  · have hf := iq c_10 hf
    refine lv_iconst (v := 0) hx hb dX9_positiveOf_13 (by decide) ?_
    refine lv_goto (tgt := 23) hx hb dX9_positiveOf_14 (by decide) ?_
    exact rW_i hx hb hr hlocks hP hD hS (congrArg (fun q9 => q9.1) (so_ob hf)) (congrArg (fun (q9 : Int32 × (OS)) => wM cI cB cZ q q9.2) (so_ob hf)) dX9_positiveOf_23

def fX9_negativeOf (fu : Nat) (z : OS) (p1 : Int32) : Option (Int32 × (OS)) :=
  nm (sI z 0 (0 : Int32)) (fun (z_1 : OS) => bd (fX9_noClause fu z_1 p1) (fun (w_4 : Int32 × OS) => nm w_4.1 (fun (r_2 : Int32) => nm w_4.2 (fun (z_3 : OS) => (if r_2 = (0 : Int32) then bd (fX9_mask fu z_3 p1 (2 : Int32)) (fun (r_6 : Int32) => some (r_6, z_3)) else some ((0 : Int32), z_3))))))
set_option maxRecDepth 100000 in
set_option maxHeartbeats 4000000 in
theorem mX9_negativeOf (l : Launch) (D : va_G) (cI cB cZ cO : ClassId) (q : Nat → Nat) (sz : Nat) (fu : Nat) (z : OS) (p1 : Int32) {r : Int32} {y1 : OS} (hf : fX9_negativeOf fu z p1 = some (r, y1)) : Met l yX9_negativeOf wsX9_negativeOf ({ frames := 2, cells := 0, slots := 0, locals := 46 }) (va_Pc [.ref (q 0), .int p1] (Pw D (gT cI cB cZ cO) (wM cI cB cZ q z) sz)) (Qw D (va_A (wM cI cB cZ q z) sz) (some (.int r)) (wM cI cB cZ q y1)) 0 0 (va_A (wM cI cB cZ q z) sz) := by
  unfold fX9_negativeOf at hf
  refine metW (ret := (some .int)) (own := RX9) rfl (by decide) rfl (Nat.le_of_ble_eq_true rfl) (fun p e s m args below meth c ls A hx hb hr hml hown hlocks hts hK hA hP hD hS hl => ?_)
  have k46 := (hts (.fieldLink RX9 46 "ResolutionProverModel" "thrown" "I") (List.mem_of_getElem? (i := 1) rfl))
  have hiX9 : ∀ w ∈ wsX90, w ∈ wsX9_negativeOf := (memIn_p [31, 32, 33, 34, 35, 36, 37, 38, 39, 40, 41, 42, 43, 44, 45, 46, 47, 48, 49, 50, 51, 52, 53, 54, 55, 56, 57] rfl)
  have hl : lv_has ls 2 [(0, .ref (q 0)), (1, .int p1)] := hl
  refine lv_aload_n hx hb dX9_negativeOf_0 rfl (lv_at hl 0 rfl) ?_
  refine lv_iconst (v := 0) hx hb dX9_negativeOf_1 (by decide) ?_
  refine va_put (D := D) (ci := 8) (v := .int (0 : Int32)) (ty := .int) (C := RX9) (T := TX9) (N := 27) hx hb hts hiX9 tyX9 tyX9_ok nmX9 hown hK hP hD hS 0 rfl rfl 0 (by decide) k46 (fun _ h9 => h9) rfl (by decide +kernel) rfl rfl (Nat.le_of_ble_eq_true rfl) dX9_negativeOf_2 (fun H locs hP hD hS => ?_)
  obtain ⟨z_1, ez_1, hf⟩ := nm_ob hf
  have hP : va_P D vwCl (wM cI cB cZ q z_1) H := by rw [ez_1]; exact hP
  have hD : va_D A (wM cI cB cZ q z_1) := by rw [ez_1]; exact hD
  refine lv_aload_n hx hb dX9_negativeOf_5 rfl (lv_at hl 0 rfl) ?_
  refine lv_iload_n hx hb dX9_negativeOf_6 rfl (lv_at hl 1 rfl) ?_
  obtain ⟨⟨r_2, z_3⟩, hc_5, hf⟩ := bd_ob hf
  have hf := nm_st hf
  have hf := nm_st hf
  refine weV (As := [.int p1]) (rest := []) ⟨hx, hb, hml, hown, hts⟩ (mX9_noClause l D cI cB cZ cO q _ fu z_1 p1 hc_5) (cwV 1 hts gX9_negativeOf_X9_noClause rfl rfl rfl (by decide +kernel) ⟨Nat.le_of_ble_eq_true rfl, Nat.le_of_ble_eq_true rfl⟩) hK hP hD hS hA (va_recv hK hP (ci := 8) (q0 := 0) rfl rfl) rfl hl.1 rfl (Nat.le_of_ble_eq_true rfl) dX9_negativeOf_7 ⟨Nat.zero_le _, Nat.zero_le _⟩ (fun H locs hP hD hS => ?_)
  refine lv_if_eq (tgt := 17) hx hb dX9_negativeOf_10 (by decide) (fun c_10 => ?_) (fun c_10 => ?_)
  · have hf := ip c_10 hf
    refine lv_aload_n hx hb dX9_negativeOf_17 rfl (lv_at hl 0 rfl) ?_
    refine lv_iload_n hx hb dX9_negativeOf_18 rfl (lv_at hl 1 rfl) ?_
    refine lv_iconst (v := 2) hx hb dX9_negativeOf_19 (by decide) ?_
    obtain ⟨r_6, hc_7, hf⟩ := bd_ob hf
    refine rdV (As := [.int p1, .int (2 : Int32)]) (rest := []) ⟨hx, hb, hml, hown, hts⟩ (mX9_mask l D cI cB cZ cO q fu z_3 p1 (2 : Int32) hc_7) (cwV 2 hts gX9_negativeOf_X9_mask rfl rfl rfl (by decide +kernel) ⟨Nat.le_of_ble_eq_true rfl, Nat.le_of_ble_eq_true rfl⟩) hK hP (va_recv hK hP (ci := 8) (q0 := 0) rfl rfl) rfl hl.1 rfl (Nat.le_of_ble_eq_true rfl) dX9_negativeOf_20 ⟨Nat.zero_le _, Nat.zero_le _⟩ ?_
    exact rW_i hx hb hr hlocks hP hD hS (congrArg (fun q9 => q9.1) (so_ob hf)) (congrArg (fun (q9 : Int32 × (OS)) => wM cI cB cZ q q9.2) (so_ob hf)) dX9_negativeOf_23
  · have hf := iq c_10 hf
    refine lv_iconst (v := 0) hx hb dX9_negativeOf_13 (by decide) ?_
    refine lv_goto (tgt := 23) hx hb dX9_negativeOf_14 (by decide) ?_
    exact rW_i hx hb hr hlocks hP hD hS (congrArg (fun q9 => q9.1) (so_ob hf)) (congrArg (fun (q9 : Int32 × (OS)) => wM cI cB cZ q q9.2) (so_ob hf)) dX9_negativeOf_23
