def lX2_areTrue_2 (fu : Nat) (z : OS) (p1 : Int32) (p2 : Int32) (j32 : Option (Int32)) : Nat → Int32 → Option (Int32)
  | 0, _ => none
  | n_2 + 1, v3_2 => (if (z.1 7) ≤ v3_2 then j32 else jn (κ := Option (Int32)) (nm (v3_2 + (1 : Int32)) (fun (v3_1 : Int32) => lX2_areTrue_2 fu z p1 p2 j32 n_2 v3_1)) (fun j26 => (if v3_2 = p2 then j26 else bd (fX0_isTrueUnder fu z v3_2 p1) (fun (r_2 : Int32) => (if ¬ r_2 = (0 : Int32) then j26 else gd (isZ (0 : Int32)) (some (0 : Int32)))))))
def fX2_areTrue (fu : Nat) (z : OS) (p1 : Int32) (p2 : Int32) : Option (Int32) :=
  jn (κ := Option (Int32)) (gd (isZ (1 : Int32)) (some (1 : Int32))) (fun j32 => lX2_areTrue_2 fu z p1 p2 j32 fu (0 : Int32))
set_option maxRecDepth 100000 in
set_option maxHeartbeats 4000000 in
theorem mX2_areTrue (l : Launch) (D : va_G) (cI cB cZ cO : ClassId) (q : Nat → Nat) (fu : Nat) (z : OS) (p1 : Int32) (p2 : Int32) {r : Int32} (hf : fX2_areTrue fu z p1 p2 = some r) : Met l yX2_areTrue wsX2_areTrue ({ frames := 1, cells := 0, slots := 0, locals := 22 }) (va_Pc [.ref (q 0), .int p1, .int p2] (Pr D (gT cI cB cZ cO) (wC cI q z))) (Qr (some (.int r))) 0 0 (fun _ => False) := by
  unfold fX2_areTrue at hf
  refine metR (ret := (some .boolean)) (own := RX2) rfl (by decide) rfl (Nat.le_of_ble_eq_true rfl) (fun p e s m args below meth c ls hx hb hr hml hown hlocks hts hP hK hl => ?_)
  have k9 := (hts (.fieldLink RX2 9 "ResolutionProver$Clauses" "count" "I") (List.mem_of_getElem? (i := 1) rfl))
  have hiX0 : ∀ w ∈ wsX00, w ∈ wsX2_areTrue := (memIn_p [9, 10, 11, 12, 13, 14, 15, 16] rfl)
  have hl : lv_has ls 4 [(0, .ref (q 0)), (1, .int p1), (2, .int p2)] := hl
  refine lv_iconst (v := 0) hx hb dX2_areTrue_0 (by decide) ?_
  refine lv_istore_n (lv' := [(3, .int (0 : Int32)), (0, .ref (q 0)), (1, .int p1), (2, .int p2)]) hx hb dX2_areTrue_1 rfl hl (by decide) rfl (fun ls hl => ?_)
  obtain ⟨j32, ej32, hf⟩ := jn_ob hf
  have hp32 : ∀  (ls : Array Slot), j32 = some r → lv_has ls 4 [] → W p l e (headSpec wsX2_areTrue { frames := 1, cells := 0, slots := 0, locals := 22 }).room s m args below meth c s.heap [] 0 0 (MQ below (Qr (some (.int r))) args s 0 0 (fun _ => False)) (F0 m 32 ls []) := by
    intro ls hf hl
    rw [ej32] at hf
    refine lv_iconst (v := 1) hx hb dX2_areTrue_32 (by decide) ?_
    obtain ⟨hz, hf⟩ := gd_ob hf
    exact rR_z hx hb hr hlocks hz (so_ob hf) dX2_areTrue_33
  have hL2 : ∀ (n_2 : Nat) (v3_2 : Int32) (ls : Array Slot), lX2_areTrue_2 fu z p1 p2 j32 n_2 v3_2 = some r → lv_has ls 4 [(0, .ref (q 0)), (1, .int p1), (2, .int p2), (3, .int v3_2)] → W p l e (headSpec wsX2_areTrue { frames := 1, cells := 0, slots := 0, locals := 22 }).room s m args below meth c s.heap [] 0 0 (MQ below (Qr (some (.int r))) args s 0 0 (fun _ => False)) (F0 m 2 ls []) := by
    intro n_2
    induction n_2 with
    | zero =>
      intro v3_2 ls hf
      exact no_ob hf
    | succ n_2 ih2 =>
      intro v3_2 ls hf hl
      rw [lX2_areTrue_2] at hf
      refine lv_iload_n hx hb dX2_areTrue_2 rfl (lv_at hl 3 rfl) ?_
      refine lv_aload_n hx hb dX2_areTrue_3 rfl (lv_at hl 0 rfl) ?_
      refine va_get (D := D) (ci := 0) (v := .int (z.1 7)) (C := RX0) (T := TX0) (N := 8) hx hb hts hiX0 hown hK hP 0 rfl rfl 7 (by decide) k9 (fun _ h9 => h9) rfl dX2_areTrue_4 ?_
      refine lv_icmp_ge (tgt := 32) hx hb dX2_areTrue_7 (by decide) (fun c_7 => ?_) (fun c_7 => ?_)
      · have hf := ip c_7 hf
        exact hp32 _ hf (lv_sub hl [] rfl)
      · have hf := iq c_7 hf
        refine lv_iload_n hx hb dX2_areTrue_10 rfl (lv_at hl 3 rfl) ?_
        refine lv_iload_n hx hb dX2_areTrue_11 rfl (lv_at hl 2 rfl) ?_
        obtain ⟨j26, ej26, hf⟩ := jn_ob hf
        have hp26 : ∀  (ls : Array Slot), j26 = some r → lv_has ls 4 [(0, .ref (q 0)), (1, .int p1), (2, .int p2), (3, .int v3_2)] → W p l e (headSpec wsX2_areTrue { frames := 1, cells := 0, slots := 0, locals := 22 }).room s m args below meth c s.heap [] 0 0 (MQ below (Qr (some (.int r))) args s 0 0 (fun _ => False)) (F0 m 26 ls []) := by
          intro ls hf hl
          rw [ej26] at hf
          obtain ⟨v3_1, ev3_1, hf⟩ := nm_ob hf
          refine lv_iinc (v := v3_1) (lv' := [(3, .int v3_1), (0, .ref (q 0)), (1, .int p1), (2, .int p2)]) hx hb dX2_areTrue_26 hl (k := 3) rfl (by rw [ev3_1]; rfl) (by decide) rfl (fun ls hl => ?_)
          refine lv_goto (tgt := 2) hx hb dX2_areTrue_29 (by decide) ?_
          exact ih2 v3_1 _ hf (lv_sub hl [1, 2, 3, 0] rfl)
        refine lv_icmp_eq (tgt := 26) hx hb dX2_areTrue_12 (by decide) (fun c_12 => ?_) (fun c_12 => ?_)
        · have hf := ip c_12 hf
          exact hp26 _ hf hl
        · have hf := iq c_12 hf
          refine lv_aload_n hx hb dX2_areTrue_15 rfl (lv_at hl 0 rfl) ?_
          refine lv_iload_n hx hb dX2_areTrue_16 rfl (lv_at hl 3 rfl) ?_
          refine lv_iload_n hx hb dX2_areTrue_17 rfl (lv_at hl 1 rfl) ?_
          obtain ⟨r_2, hc_3, hf⟩ := bd_ob hf
          refine rdV (As := [.int v3_2, .int p1]) (rest := []) ⟨hx, hb, hml, hown, hts⟩ (mX0_isTrueUnder l D cI cB cZ cO q fu z v3_2 p1 hc_3) (cwV 2 hts gX2_areTrue_X0_isTrueUnder rfl rfl rfl (by decide +kernel) ⟨Nat.le_of_ble_eq_true rfl, Nat.le_of_ble_eq_true rfl⟩) hK hP (va_recv hK hP (ci := 0) (q0 := 0) rfl rfl) rfl hl.1 rfl (Nat.le_of_ble_eq_true rfl) dX2_areTrue_18 ⟨Nat.zero_le _, Nat.zero_le _⟩ ?_
          refine lv_if_ne (tgt := 26) hx hb dX2_areTrue_21 (by decide) (fun c_21 => ?_) (fun c_21 => ?_)
          · have hf := ip c_21 hf
            exact hp26 _ hf hl
          · have hf := iqn c_21 hf
            refine lv_iconst (v := 0) hx hb dX2_areTrue_24 (by decide) ?_
            obtain ⟨hz, hf⟩ := gd_ob hf
            exact rR_z hx hb hr hlocks hz (so_ob hf) dX2_areTrue_25
  exact hL2 fu (0 : Int32) _ hf (lv_sub hl [1, 2, 3, 0] rfl)
def lX2_count_4 (fu : Nat) (z : OS) (j30 : Int32 → Option (Int32)) : Nat → Int32 → Int32 → Option (Int32)
  | 0, _, _ => none
  | n_4 + 1, v1_4, v2_4 => bd (fX0_allVariables fu z) (fun (r_1 : Int32) => (if r_1 < v2_4 then j30 v1_4 else bd (fX2_areTrue fu z v2_4 (-1 : Int32)) (fun (r_3 : Int32) => jn (κ := Int32 → Option (Int32)) (fun (v1_24 : Int32) => nm (v2_4 + (1 : Int32)) (fun (v2_5 : Int32) => lX2_count_4 fu z j30 n_4 v1_24 v2_5)) (fun j24 => (if r_3 = (0 : Int32) then j24 v1_4 else nm (v1_4 + (1 : Int32)) (fun (v1_6 : Int32) => j24 v1_6))))))
def fX2_count (fu : Nat) (z : OS) : Option (Int32) :=
  jn (κ := Int32 → Option (Int32)) (fun (v1_30 : Int32) => some v1_30) (fun j30 => lX2_count_4 fu z j30 fu (0 : Int32) (0 : Int32))
set_option maxRecDepth 100000 in
set_option maxHeartbeats 4000000 in
theorem mX2_count (l : Launch) (D : va_G) (cI cB cZ cO : ClassId) (q : Nat → Nat) (fu : Nat) (z : OS) {r : Int32} (hf : fX2_count fu z = some r) : Met l yX2_count wsX2_count ({ frames := 2, cells := 0, slots := 0, locals := 45 }) (va_Pc [.ref (q 0)] (Pr D (gT cI cB cZ cO) (wC cI q z))) (Qr (some (.int r))) 0 0 (fun _ => False) := by
  unfold fX2_count at hf
  refine metR (ret := (some .int)) (own := RX2) rfl (by decide) rfl (Nat.le_of_ble_eq_true rfl) (fun p e s m args below meth c ls hx hb hr hml hown hlocks hts hP hK hl => ?_)
  have hl : lv_has ls 3 [(0, .ref (q 0))] := hl
  refine lv_iconst (v := 0) hx hb dX2_count_0 (by decide) ?_
  refine lv_istore_n (lv' := [(1, .int (0 : Int32)), (0, .ref (q 0))]) hx hb dX2_count_1 rfl hl (by decide) rfl (fun ls hl => ?_)
  refine lv_iconst (v := 0) hx hb dX2_count_2 (by decide) ?_
  refine lv_istore_n (lv' := [(2, .int (0 : Int32)), (1, .int (0 : Int32)), (0, .ref (q 0))]) hx hb dX2_count_3 rfl hl (by decide) rfl (fun ls hl => ?_)
  obtain ⟨j30, ej30, hf⟩ := jn_ob hf
  have hp30 : ∀ (v1_30 : Int32) (ls : Array Slot), j30 v1_30 = some r → lv_has ls 3 [(1, .int v1_30)] → W p l e (headSpec wsX2_count { frames := 2, cells := 0, slots := 0, locals := 45 }).room s m args below meth c s.heap [] 0 0 (MQ below (Qr (some (.int r))) args s 0 0 (fun _ => False)) (F0 m 30 ls []) := by
    intro v1_30 ls hf hl
    rw [ej30] at hf
    refine lv_iload_n hx hb dX2_count_30 rfl (lv_at hl 0 rfl) ?_
    exact rR_i hx hb hr hlocks (so_ob hf) dX2_count_31
  have hL4 : ∀ (n_4 : Nat) (v1_4 : Int32) (v2_4 : Int32) (ls : Array Slot), lX2_count_4 fu z j30 n_4 v1_4 v2_4 = some r → lv_has ls 3 [(0, .ref (q 0)), (1, .int v1_4), (2, .int v2_4)] → W p l e (headSpec wsX2_count { frames := 2, cells := 0, slots := 0, locals := 45 }).room s m args below meth c s.heap [] 0 0 (MQ below (Qr (some (.int r))) args s 0 0 (fun _ => False)) (F0 m 4 ls []) := by
    intro n_4
    induction n_4 with
    | zero =>
      intro v1_4 v2_4 ls hf
      exact no_ob hf
    | succ n_4 ih4 =>
      intro v1_4 v2_4 ls hf hl
      rw [lX2_count_4] at hf
      refine lv_iload_n hx hb dX2_count_4 rfl (lv_at hl 2 rfl) ?_
      refine lv_aload_n hx hb dX2_count_5 rfl (lv_at hl 0 rfl) ?_
      obtain ⟨r_1, hc_2, hf⟩ := bd_ob hf
      refine rdV (As := []) (rest := [.int v2_4]) ⟨hx, hb, hml, hown, hts⟩ (mX0_allVariables l D cI cB cZ cO q fu z hc_2) (cwV 0 hts gX2_count_X0_allVariables rfl rfl rfl (by decide +kernel) ⟨Nat.le_of_ble_eq_true rfl, Nat.le_of_ble_eq_true rfl⟩) hK hP (va_recv hK hP (ci := 0) (q0 := 0) rfl rfl) rfl hl.1 rfl (Nat.le_of_ble_eq_true rfl) dX2_count_6 ⟨Nat.zero_le _, Nat.zero_le _⟩ ?_
      refine lv_icmp_gt (tgt := 30) hx hb dX2_count_9 (by decide) (fun c_9 => ?_) (fun c_9 => ?_)
      · have hf := ip c_9 hf
        exact hp30 v1_4 _ hf (lv_sub hl [1] rfl)
      · have hf := iq c_9 hf
        refine lv_aload_n hx hb dX2_count_12 rfl (lv_at hl 0 rfl) ?_
        refine lv_iload_n hx hb dX2_count_13 rfl (lv_at hl 2 rfl) ?_
        refine lv_iconst (v := (-1)) hx hb dX2_count_14 (by decide) ?_
        obtain ⟨r_3, hc_4, hf⟩ := bd_ob hf
        refine rdS (As := [.ref (q 0), .int v2_4, .int (-1 : Int32)]) (rest := []) ⟨hx, hb, hml, hown, hts⟩ (mX2_areTrue l D cI cB cZ cO q fu z v2_4 (-1 : Int32) hc_4) (va_cwS 3 hts gX2_count_X2_areTrue rfl rfl rfl (by decide +kernel) ⟨Nat.le_of_ble_eq_true rfl, Nat.le_of_ble_eq_true rfl⟩) hK hP  rfl hl.1 rfl (Nat.le_of_ble_eq_true rfl) dX2_count_15 ⟨Nat.zero_le _, Nat.zero_le _⟩ ?_
        obtain ⟨j24, ej24, hf⟩ := jn_ob hf
        have hp24 : ∀ (v1_24 : Int32) (ls : Array Slot), j24 v1_24 = some r → lv_has ls 3 [(0, .ref (q 0)), (1, .int v1_24), (2, .int v2_4)] → W p l e (headSpec wsX2_count { frames := 2, cells := 0, slots := 0, locals := 45 }).room s m args below meth c s.heap [] 0 0 (MQ below (Qr (some (.int r))) args s 0 0 (fun _ => False)) (F0 m 24 ls []) := by
          intro v1_24 ls hf hl
          rw [ej24] at hf
          obtain ⟨v2_5, ev2_5, hf⟩ := nm_ob hf
          refine lv_iinc (v := v2_5) (lv' := [(2, .int v2_5), (0, .ref (q 0)), (1, .int v1_24)]) hx hb dX2_count_24 hl (k := 2) rfl (by rw [ev2_5]; rfl) (by decide) rfl (fun ls hl => ?_)
          refine lv_goto (tgt := 4) hx hb dX2_count_27 (by decide) ?_
          exact ih4 v1_24 v2_5 _ hf (lv_sub hl [1, 2, 0] rfl)
        refine lv_if_eq (tgt := 24) hx hb dX2_count_18 (by decide) (fun c_18 => ?_) (fun c_18 => ?_)
        · have hf := ip c_18 hf
          exact hp24 v1_4 _ hf hl
        · have hf := iq c_18 hf
          obtain ⟨v1_6, ev1_6, hf⟩ := nm_ob hf
          refine lv_iinc (v := v1_6) (lv' := [(1, .int v1_6), (0, .ref (q 0)), (2, .int v2_4)]) hx hb dX2_count_21 hl (k := 1) rfl (by rw [ev1_6]; rfl) (by decide) rfl (fun ls hl => ?_)
          exact hp24 v1_6 _ hf (lv_sub hl [1, 0, 2] rfl)
  exact hL4 fu (0 : Int32) (0 : Int32) _ hf (lv_sub hl [2, 1, 0] rfl)
def lX2_at_4 (fu : Nat) (z : OS) (p1 : Int32) (j37 : Option (Int32)) : Nat → Int32 → Int32 → Option (Int32)
  | 0, _, _ => none
  | n_4 + 1, v2_4, v3_4 => bd (fX0_allVariables fu z) (fun (r_1 : Int32) => (if r_1 < v3_4 then j37 else bd (fX2_areTrue fu z v3_4 (-1 : Int32)) (fun (r_3 : Int32) => jn (κ := Int32 → Option (Int32)) (fun (v2_31 : Int32) => nm (v3_4 + (1 : Int32)) (fun (v3_5 : Int32) => lX2_at_4 fu z p1 j37 n_4 v2_31 v3_5)) (fun j31 => (if r_3 = (0 : Int32) then j31 v2_4 else (if ¬ v2_4 = p1 then nm (v2_4 + (1 : Int32)) (fun (v2_6 : Int32) => j31 v2_6) else some v3_4))))))
def fX2_at (fu : Nat) (z : OS) (p1 : Int32) : Option (Int32) :=
  jn (κ := Option (Int32)) (some (-1 : Int32)) (fun j37 => lX2_at_4 fu z p1 j37 fu (0 : Int32) (0 : Int32))
set_option maxRecDepth 100000 in
set_option maxHeartbeats 4000000 in
theorem mX2_at (l : Launch) (D : va_G) (cI cB cZ cO : ClassId) (q : Nat → Nat) (fu : Nat) (z : OS) (p1 : Int32) {r : Int32} (hf : fX2_at fu z p1 = some r) : Met l yX2_at wsX2_at ({ frames := 2, cells := 0, slots := 0, locals := 45 }) (va_Pc [.ref (q 0), .int p1] (Pr D (gT cI cB cZ cO) (wC cI q z))) (Qr (some (.int r))) 0 0 (fun _ => False) := by
  unfold fX2_at at hf
  refine metR (ret := (some .int)) (own := RX2) rfl (by decide) rfl (Nat.le_of_ble_eq_true rfl) (fun p e s m args below meth c ls hx hb hr hml hown hlocks hts hP hK hl => ?_)
  have hl : lv_has ls 4 [(0, .ref (q 0)), (1, .int p1)] := hl
  refine lv_iconst (v := 0) hx hb dX2_at_0 (by decide) ?_
  refine lv_istore_n (lv' := [(2, .int (0 : Int32)), (0, .ref (q 0)), (1, .int p1)]) hx hb dX2_at_1 rfl hl (by decide) rfl (fun ls hl => ?_)
  refine lv_iconst (v := 0) hx hb dX2_at_2 (by decide) ?_
  refine lv_istore_n (lv' := [(3, .int (0 : Int32)), (2, .int (0 : Int32)), (0, .ref (q 0)), (1, .int p1)]) hx hb dX2_at_3 rfl hl (by decide) rfl (fun ls hl => ?_)
  obtain ⟨j37, ej37, hf⟩ := jn_ob hf
  have hp37 : ∀  (ls : Array Slot), j37 = some r → lv_has ls 4 [] → W p l e (headSpec wsX2_at { frames := 2, cells := 0, slots := 0, locals := 45 }).room s m args below meth c s.heap [] 0 0 (MQ below (Qr (some (.int r))) args s 0 0 (fun _ => False)) (F0 m 37 ls []) := by
    intro ls hf hl
    rw [ej37] at hf
    refine lv_iconst (v := (-1)) hx hb dX2_at_37 (by decide) ?_
    exact rR_i hx hb hr hlocks (so_ob hf) dX2_at_38
  have hL4 : ∀ (n_4 : Nat) (v2_4 : Int32) (v3_4 : Int32) (ls : Array Slot), lX2_at_4 fu z p1 j37 n_4 v2_4 v3_4 = some r → lv_has ls 4 [(0, .ref (q 0)), (1, .int p1), (2, .int v2_4), (3, .int v3_4)] → W p l e (headSpec wsX2_at { frames := 2, cells := 0, slots := 0, locals := 45 }).room s m args below meth c s.heap [] 0 0 (MQ below (Qr (some (.int r))) args s 0 0 (fun _ => False)) (F0 m 4 ls []) := by
    intro n_4
    induction n_4 with
    | zero =>
      intro v2_4 v3_4 ls hf
      exact no_ob hf
    | succ n_4 ih4 =>
      intro v2_4 v3_4 ls hf hl
      rw [lX2_at_4] at hf
      refine lv_iload_n hx hb dX2_at_4 rfl (lv_at hl 3 rfl) ?_
      refine lv_aload_n hx hb dX2_at_5 rfl (lv_at hl 0 rfl) ?_
      obtain ⟨r_1, hc_2, hf⟩ := bd_ob hf
      refine rdV (As := []) (rest := [.int v3_4]) ⟨hx, hb, hml, hown, hts⟩ (mX0_allVariables l D cI cB cZ cO q fu z hc_2) (cwV 0 hts gX2_at_X0_allVariables rfl rfl rfl (by decide +kernel) ⟨Nat.le_of_ble_eq_true rfl, Nat.le_of_ble_eq_true rfl⟩) hK hP (va_recv hK hP (ci := 0) (q0 := 0) rfl rfl) rfl hl.1 rfl (Nat.le_of_ble_eq_true rfl) dX2_at_6 ⟨Nat.zero_le _, Nat.zero_le _⟩ ?_
      refine lv_icmp_gt (tgt := 37) hx hb dX2_at_9 (by decide) (fun c_9 => ?_) (fun c_9 => ?_)
      · have hf := ip c_9 hf
        exact hp37 _ hf (lv_sub hl [] rfl)
      · have hf := iq c_9 hf
        refine lv_aload_n hx hb dX2_at_12 rfl (lv_at hl 0 rfl) ?_
        refine lv_iload_n hx hb dX2_at_13 rfl (lv_at hl 3 rfl) ?_
        refine lv_iconst (v := (-1)) hx hb dX2_at_14 (by decide) ?_
        obtain ⟨r_3, hc_4, hf⟩ := bd_ob hf
        refine rdS (As := [.ref (q 0), .int v3_4, .int (-1 : Int32)]) (rest := []) ⟨hx, hb, hml, hown, hts⟩ (mX2_areTrue l D cI cB cZ cO q fu z v3_4 (-1 : Int32) hc_4) (va_cwS 3 hts gX2_at_X2_areTrue rfl rfl rfl (by decide +kernel) ⟨Nat.le_of_ble_eq_true rfl, Nat.le_of_ble_eq_true rfl⟩) hK hP  rfl hl.1 rfl (Nat.le_of_ble_eq_true rfl) dX2_at_15 ⟨Nat.zero_le _, Nat.zero_le _⟩ ?_
        obtain ⟨j31, ej31, hf⟩ := jn_ob hf
        have hp31 : ∀ (v2_31 : Int32) (ls : Array Slot), j31 v2_31 = some r → lv_has ls 4 [(0, .ref (q 0)), (1, .int p1), (2, .int v2_31), (3, .int v3_4)] → W p l e (headSpec wsX2_at { frames := 2, cells := 0, slots := 0, locals := 45 }).room s m args below meth c s.heap [] 0 0 (MQ below (Qr (some (.int r))) args s 0 0 (fun _ => False)) (F0 m 31 ls []) := by
          intro v2_31 ls hf hl
          rw [ej31] at hf
          obtain ⟨v3_5, ev3_5, hf⟩ := nm_ob hf
          refine lv_iinc (v := v3_5) (lv' := [(3, .int v3_5), (0, .ref (q 0)), (1, .int p1), (2, .int v2_31)]) hx hb dX2_at_31 hl (k := 3) rfl (by rw [ev3_5]; rfl) (by decide) rfl (fun ls hl => ?_)
          refine lv_goto (tgt := 4) hx hb dX2_at_34 (by decide) ?_
          exact ih4 v2_31 v3_5 _ hf (lv_sub hl [1, 2, 3, 0] rfl)
        refine lv_if_eq (tgt := 31) hx hb dX2_at_18 (by decide) (fun c_18 => ?_) (fun c_18 => ?_)
        · have hf := ip c_18 hf
          exact hp31 v2_4 _ hf hl
        · have hf := iq c_18 hf
          refine lv_iload_n hx hb dX2_at_21 rfl (lv_at hl 2 rfl) ?_
          refine lv_iload_n hx hb dX2_at_22 rfl (lv_at hl 1 rfl) ?_
          refine lv_icmp_ne (tgt := 28) hx hb dX2_at_23 (by decide) (fun c_23 => ?_) (fun c_23 => ?_)
          · have hf := ip c_23 hf
            obtain ⟨v2_6, ev2_6, hf⟩ := nm_ob hf
            refine lv_iinc (v := v2_6) (lv' := [(2, .int v2_6), (0, .ref (q 0)), (1, .int p1), (3, .int v3_4)]) hx hb dX2_at_28 hl (k := 2) rfl (by rw [ev2_6]; rfl) (by decide) rfl (fun ls hl => ?_)
            exact hp31 v2_6 _ hf (lv_sub hl [1, 2, 0, 3] rfl)
          · have hf := iqn c_23 hf
            refine lv_iload_n hx hb dX2_at_26 rfl (lv_at hl 3 rfl) ?_
            exact rR_i hx hb hr hlocks (so_ob hf) dX2_at_27
  exact hL4 fu (0 : Int32) (0 : Int32) _ hf (lv_sub hl [2, 3, 1, 0] rfl)
def lX2_countFalse_4 (fu : Nat) (z : OS) (p1 : Int32) (j30 : Int32 → Option (Int32)) : Nat → Int32 → Int32 → Option (Int32)
  | 0, _, _ => none
  | n_4 + 1, v2_4, v3_4 => (if (z.1 7) ≤ v3_4 then j30 v2_4 else bd (fX0_isTrueUnder fu z v3_4 p1) (fun (r_1 : Int32) => jn (κ := Int32 → Option (Int32)) (fun (v2_24 : Int32) => nm (v3_4 + (1 : Int32)) (fun (v3_3 : Int32) => lX2_countFalse_4 fu z p1 j30 n_4 v2_24 v3_3)) (fun j24 => (if ¬ r_1 = (0 : Int32) then j24 v2_4 else nm (v2_4 + (1 : Int32)) (fun (v2_4 : Int32) => j24 v2_4)))))
def fX2_countFalse (fu : Nat) (z : OS) (p1 : Int32) : Option (Int32) :=
  jn (κ := Int32 → Option (Int32)) (fun (v2_30 : Int32) => some v2_30) (fun j30 => lX2_countFalse_4 fu z p1 j30 fu (0 : Int32) (0 : Int32))
set_option maxRecDepth 100000 in
set_option maxHeartbeats 4000000 in
theorem mX2_countFalse (l : Launch) (D : va_G) (cI cB cZ cO : ClassId) (q : Nat → Nat) (fu : Nat) (z : OS) (p1 : Int32) {r : Int32} (hf : fX2_countFalse fu z p1 = some r) : Met l yX2_countFalse wsX2_countFalse ({ frames := 1, cells := 0, slots := 0, locals := 22 }) (va_Pc [.ref (q 0), .int p1] (Pr D (gT cI cB cZ cO) (wC cI q z))) (Qr (some (.int r))) 0 0 (fun _ => False) := by
  unfold fX2_countFalse at hf
  refine metR (ret := (some .int)) (own := RX2) rfl (by decide) rfl (Nat.le_of_ble_eq_true rfl) (fun p e s m args below meth c ls hx hb hr hml hown hlocks hts hP hK hl => ?_)
  have k9 := (hts (.fieldLink RX2 9 "ResolutionProver$Clauses" "count" "I") (List.mem_of_getElem? (i := 1) rfl))
  have hiX0 : ∀ w ∈ wsX00, w ∈ wsX2_countFalse := (memIn_p [9, 10, 11, 12, 13, 14, 15, 16] rfl)
  have hl : lv_has ls 4 [(0, .ref (q 0)), (1, .int p1)] := hl
  refine lv_iconst (v := 0) hx hb dX2_countFalse_0 (by decide) ?_
  refine lv_istore_n (lv' := [(2, .int (0 : Int32)), (0, .ref (q 0)), (1, .int p1)]) hx hb dX2_countFalse_1 rfl hl (by decide) rfl (fun ls hl => ?_)
  refine lv_iconst (v := 0) hx hb dX2_countFalse_2 (by decide) ?_
  refine lv_istore_n (lv' := [(3, .int (0 : Int32)), (2, .int (0 : Int32)), (0, .ref (q 0)), (1, .int p1)]) hx hb dX2_countFalse_3 rfl hl (by decide) rfl (fun ls hl => ?_)
  obtain ⟨j30, ej30, hf⟩ := jn_ob hf
  have hp30 : ∀ (v2_30 : Int32) (ls : Array Slot), j30 v2_30 = some r → lv_has ls 4 [(2, .int v2_30)] → W p l e (headSpec wsX2_countFalse { frames := 1, cells := 0, slots := 0, locals := 22 }).room s m args below meth c s.heap [] 0 0 (MQ below (Qr (some (.int r))) args s 0 0 (fun _ => False)) (F0 m 30 ls []) := by
    intro v2_30 ls hf hl
    rw [ej30] at hf
    refine lv_iload_n hx hb dX2_countFalse_30 rfl (lv_at hl 0 rfl) ?_
    exact rR_i hx hb hr hlocks (so_ob hf) dX2_countFalse_31
  have hL4 : ∀ (n_4 : Nat) (v2_4 : Int32) (v3_4 : Int32) (ls : Array Slot), lX2_countFalse_4 fu z p1 j30 n_4 v2_4 v3_4 = some r → lv_has ls 4 [(0, .ref (q 0)), (1, .int p1), (2, .int v2_4), (3, .int v3_4)] → W p l e (headSpec wsX2_countFalse { frames := 1, cells := 0, slots := 0, locals := 22 }).room s m args below meth c s.heap [] 0 0 (MQ below (Qr (some (.int r))) args s 0 0 (fun _ => False)) (F0 m 4 ls []) := by
    intro n_4
    induction n_4 with
    | zero =>
      intro v2_4 v3_4 ls hf
      exact no_ob hf
    | succ n_4 ih4 =>
      intro v2_4 v3_4 ls hf hl
      rw [lX2_countFalse_4] at hf
      refine lv_iload_n hx hb dX2_countFalse_4 rfl (lv_at hl 3 rfl) ?_
      refine lv_aload_n hx hb dX2_countFalse_5 rfl (lv_at hl 0 rfl) ?_
      refine va_get (D := D) (ci := 0) (v := .int (z.1 7)) (C := RX0) (T := TX0) (N := 8) hx hb hts hiX0 hown hK hP 0 rfl rfl 7 (by decide) k9 (fun _ h9 => h9) rfl dX2_countFalse_6 ?_
      refine lv_icmp_ge (tgt := 30) hx hb dX2_countFalse_9 (by decide) (fun c_9 => ?_) (fun c_9 => ?_)
      · have hf := ip c_9 hf
        exact hp30 v2_4 _ hf (lv_sub hl [2] rfl)
      · have hf := iq c_9 hf
        refine lv_aload_n hx hb dX2_countFalse_12 rfl (lv_at hl 0 rfl) ?_
        refine lv_iload_n hx hb dX2_countFalse_13 rfl (lv_at hl 3 rfl) ?_
        refine lv_iload_n hx hb dX2_countFalse_14 rfl (lv_at hl 1 rfl) ?_
        obtain ⟨r_1, hc_2, hf⟩ := bd_ob hf
        refine rdV (As := [.int v3_4, .int p1]) (rest := []) ⟨hx, hb, hml, hown, hts⟩ (mX0_isTrueUnder l D cI cB cZ cO q fu z v3_4 p1 hc_2) (cwV 2 hts gX2_countFalse_X0_isTrueUnder rfl rfl rfl (by decide +kernel) ⟨Nat.le_of_ble_eq_true rfl, Nat.le_of_ble_eq_true rfl⟩) hK hP (va_recv hK hP (ci := 0) (q0 := 0) rfl rfl) rfl hl.1 rfl (Nat.le_of_ble_eq_true rfl) dX2_countFalse_15 ⟨Nat.zero_le _, Nat.zero_le _⟩ ?_
        obtain ⟨j24, ej24, hf⟩ := jn_ob hf
        have hp24 : ∀ (v2_24 : Int32) (ls : Array Slot), j24 v2_24 = some r → lv_has ls 4 [(0, .ref (q 0)), (1, .int p1), (2, .int v2_24), (3, .int v3_4)] → W p l e (headSpec wsX2_countFalse { frames := 1, cells := 0, slots := 0, locals := 22 }).room s m args below meth c s.heap [] 0 0 (MQ below (Qr (some (.int r))) args s 0 0 (fun _ => False)) (F0 m 24 ls []) := by
          intro v2_24 ls hf hl
          rw [ej24] at hf
          obtain ⟨v3_3, ev3_3, hf⟩ := nm_ob hf
          refine lv_iinc (v := v3_3) (lv' := [(3, .int v3_3), (0, .ref (q 0)), (1, .int p1), (2, .int v2_24)]) hx hb dX2_countFalse_24 hl (k := 3) rfl (by rw [ev3_3]; rfl) (by decide) rfl (fun ls hl => ?_)
          refine lv_goto (tgt := 4) hx hb dX2_countFalse_27 (by decide) ?_
          exact ih4 v2_24 v3_3 _ hf (lv_sub hl [1, 2, 3, 0] rfl)
        refine lv_if_ne (tgt := 24) hx hb dX2_countFalse_18 (by decide) (fun c_18 => ?_) (fun c_18 => ?_)
        · have hf := ip c_18 hf
          exact hp24 v2_4 _ hf hl
        · have hf := iqn c_18 hf
          obtain ⟨v2_4, ev2_4, hf⟩ := nm_ob hf
          refine lv_iinc (v := v2_4) (lv' := [(2, .int v2_4), (0, .ref (q 0)), (1, .int p1), (3, .int v3_4)]) hx hb dX2_countFalse_21 hl (k := 2) rfl (by rw [ev2_4]; rfl) (by decide) rfl (fun ls hl => ?_)
          exact hp24 v2_4 _ hf (lv_sub hl [1, 2, 0, 3] rfl)
  exact hL4 fu (0 : Int32) (0 : Int32) _ hf (lv_sub hl [2, 3, 1, 0] rfl)
def lX2_firstBestFlip_8 (fu : Nat) (z : OS) (p1 : Int32) (j47 : Int32 → Option (Int32)) : Nat → Int32 → Int32 → Int32 → Option (Int32)
  | 0, _, _, _ => none
  | n_8 + 1, v2_8, v3_8, v4_8 => (if (z.1 6) ≤ v4_8 then j47 v2_8 else bd (fX2_countFalse fu z (p1 ^^^ ((1 : Int32) <<< (v4_8 &&& (31 : Int32))))) (fun (r_1 : Int32) => jn (κ := Int32 → Int32 → Option (Int32)) (fun (v2_41 : Int32) (v3_41 : Int32) => nm (v4_8 + (1 : Int32)) (fun (v4_3 : Int32) => lX2_firstBestFlip_8 fu z p1 j47 n_8 v2_41 v3_41 v4_3)) (fun j41 => (if v3_8 ≤ r_1 then j41 v2_8 v3_8 else j41 v4_8 r_1))))
def fX2_firstBestFlip (fu : Nat) (z : OS) (p1 : Int32) : Option (Int32) :=
  jn (κ := Int32 → Option (Int32)) (fun (v2_47 : Int32) => some v2_47) (fun j47 => lX2_firstBestFlip_8 fu z p1 j47 fu (0 : Int32) (61 : Int32) (0 : Int32))
set_option maxRecDepth 100000 in
set_option maxHeartbeats 4000000 in
theorem mX2_firstBestFlip (l : Launch) (D : va_G) (cI cB cZ cO : ClassId) (q : Nat → Nat) (fu : Nat) (z : OS) (p1 : Int32) {r : Int32} (hf : fX2_firstBestFlip fu z p1 = some r) : Met l yX2_firstBestFlip wsX2_firstBestFlip ({ frames := 2, cells := 0, slots := 0, locals := 45 }) (va_Pc [.ref (q 0), .int p1] (Pr D (gT cI cB cZ cO) (wC cI q z))) (Qr (some (.int r))) 0 0 (fun _ => False) := by
  unfold fX2_firstBestFlip at hf
  refine metR (ret := (some .int)) (own := RX2) rfl (by decide) rfl (Nat.le_of_ble_eq_true rfl) (fun p e s m args below meth c ls hx hb hr hml hown hlocks hts hP hK hl => ?_)
  have k29 := (hts (.fieldLink RX2 29 "ResolutionProver$Clauses" "variables" "I") (List.mem_of_getElem? (i := 1) rfl))
  have hiX0 : ∀ w ∈ wsX00, w ∈ wsX2_firstBestFlip := (memIn_p [14, 15, 16, 17, 18, 19, 20, 21] rfl)
  have hl : lv_has ls 6 [(0, .ref (q 0)), (1, .int p1)] := hl
  refine lv_iconst (v := 0) hx hb dX2_firstBestFlip_0 (by decide) ?_
  refine lv_istore_n (lv' := [(2, .int (0 : Int32)), (0, .ref (q 0)), (1, .int p1)]) hx hb dX2_firstBestFlip_1 rfl hl (by decide) rfl (fun ls hl => ?_)
  refine lv_bipush (v := 61) hx hb dX2_firstBestFlip_2 (by decide) ?_
  refine lv_istore_n (lv' := [(3, .int (61 : Int32)), (2, .int (0 : Int32)), (0, .ref (q 0)), (1, .int p1)]) hx hb dX2_firstBestFlip_4 rfl hl (by decide) rfl (fun ls hl => ?_)
  refine lv_iconst (v := 0) hx hb dX2_firstBestFlip_5 (by decide) ?_
  refine lv_istore (lv' := [(4, .int (0 : Int32)), (3, .int (61 : Int32)), (2, .int (0 : Int32)), (0, .ref (q 0)), (1, .int p1)]) hx hb dX2_firstBestFlip_6 hl (by decide) rfl (fun ls hl => ?_)
  obtain ⟨j47, ej47, hf⟩ := jn_ob hf
  have hp47 : ∀ (v2_47 : Int32) (ls : Array Slot), j47 v2_47 = some r → lv_has ls 6 [(2, .int v2_47)] → W p l e (headSpec wsX2_firstBestFlip { frames := 2, cells := 0, slots := 0, locals := 45 }).room s m args below meth c s.heap [] 0 0 (MQ below (Qr (some (.int r))) args s 0 0 (fun _ => False)) (F0 m 47 ls []) := by
    intro v2_47 ls hf hl
    rw [ej47] at hf
    refine lv_iload_n hx hb dX2_firstBestFlip_47 rfl (lv_at hl 0 rfl) ?_
    exact rR_i hx hb hr hlocks (so_ob hf) dX2_firstBestFlip_48
  have hL8 : ∀ (n_8 : Nat) (v2_8 : Int32) (v3_8 : Int32) (v4_8 : Int32) (ls : Array Slot), lX2_firstBestFlip_8 fu z p1 j47 n_8 v2_8 v3_8 v4_8 = some r → lv_has ls 6 [(0, .ref (q 0)), (1, .int p1), (2, .int v2_8), (3, .int v3_8), (4, .int v4_8)] → W p l e (headSpec wsX2_firstBestFlip { frames := 2, cells := 0, slots := 0, locals := 45 }).room s m args below meth c s.heap [] 0 0 (MQ below (Qr (some (.int r))) args s 0 0 (fun _ => False)) (F0 m 8 ls []) := by
    intro n_8
    induction n_8 with
    | zero =>
      intro v2_8 v3_8 v4_8 ls hf
      exact no_ob hf
    | succ n_8 ih8 =>
      intro v2_8 v3_8 v4_8 ls hf hl
      rw [lX2_firstBestFlip_8] at hf
      refine lv_iload hx hb dX2_firstBestFlip_8 (lv_at hl 4 rfl) ?_
      refine lv_aload_n hx hb dX2_firstBestFlip_10 rfl (lv_at hl 0 rfl) ?_
      refine va_get (D := D) (ci := 0) (v := .int (z.1 6)) (C := RX0) (T := TX0) (N := 8) hx hb hts hiX0 hown hK hP 0 rfl rfl 6 (by decide) k29 (fun _ h9 => h9) rfl dX2_firstBestFlip_11 ?_
      refine lv_icmp_ge (tgt := 47) hx hb dX2_firstBestFlip_14 (by decide) (fun c_14 => ?_) (fun c_14 => ?_)
      · have hf := ip c_14 hf
        exact hp47 v2_8 _ hf (lv_sub hl [2] rfl)
      · have hf := iq c_14 hf
        refine lv_aload_n hx hb dX2_firstBestFlip_17 rfl (lv_at hl 0 rfl) ?_
        refine lv_iload_n hx hb dX2_firstBestFlip_18 rfl (lv_at hl 1 rfl) ?_
        refine lv_iconst (v := 1) hx hb dX2_firstBestFlip_19 (by decide) ?_
        refine lv_iload hx hb dX2_firstBestFlip_20 (lv_at hl 4 rfl) ?_
        refine lv_ishl hx hb dX2_firstBestFlip_22 ?_
        refine lv_ixor hx hb dX2_firstBestFlip_23 ?_
        obtain ⟨r_1, hc_2, hf⟩ := bd_ob hf
        refine rdS (As := [.ref (q 0), .int (p1 ^^^ ((1 : Int32) <<< (v4_8 &&& (31 : Int32))))]) (rest := []) ⟨hx, hb, hml, hown, hts⟩ (mX2_countFalse l D cI cB cZ cO q fu z (p1 ^^^ ((1 : Int32) <<< (v4_8 &&& (31 : Int32)))) hc_2) (va_cwS 2 hts gX2_firstBestFlip_X2_countFalse rfl rfl rfl (by decide +kernel) ⟨Nat.le_of_ble_eq_true rfl, Nat.le_of_ble_eq_true rfl⟩) hK hP  rfl hl.1 rfl (Nat.le_of_ble_eq_true rfl) dX2_firstBestFlip_24 ⟨Nat.zero_le _, Nat.zero_le _⟩ ?_
        refine lv_istore (lv' := [(5, .int r_1), (0, .ref (q 0)), (1, .int p1), (2, .int v2_8), (3, .int v3_8), (4, .int v4_8)]) hx hb dX2_firstBestFlip_27 hl (by decide) rfl (fun ls hl => ?_)
        refine lv_iload hx hb dX2_firstBestFlip_29 (lv_at hl 0 rfl) ?_
        refine lv_iload_n hx hb dX2_firstBestFlip_31 rfl (lv_at hl 4 rfl) ?_
        obtain ⟨j41, ej41, hf⟩ := jn_ob hf
        have hp41 : ∀ (v2_41 : Int32) (v3_41 : Int32) (ls : Array Slot), j41 v2_41 v3_41 = some r → lv_has ls 6 [(0, .ref (q 0)), (1, .int p1), (2, .int v2_41), (3, .int v3_41), (4, .int v4_8)] → W p l e (headSpec wsX2_firstBestFlip { frames := 2, cells := 0, slots := 0, locals := 45 }).room s m args below meth c s.heap [] 0 0 (MQ below (Qr (some (.int r))) args s 0 0 (fun _ => False)) (F0 m 41 ls []) := by
          intro v2_41 v3_41 ls hf hl
          rw [ej41] at hf
          obtain ⟨v4_3, ev4_3, hf⟩ := nm_ob hf
          refine lv_iinc (v := v4_3) (lv' := [(4, .int v4_3), (0, .ref (q 0)), (1, .int p1), (2, .int v2_41), (3, .int v3_41)]) hx hb dX2_firstBestFlip_41 hl (k := 4) rfl (by rw [ev4_3]; rfl) (by decide) rfl (fun ls hl => ?_)
          refine lv_goto (tgt := 8) hx hb dX2_firstBestFlip_44 (by decide) ?_
          exact ih8 v2_41 v3_41 v4_3 _ hf (lv_sub hl [1, 2, 3, 4, 0] rfl)
        refine lv_icmp_ge (tgt := 41) hx hb dX2_firstBestFlip_32 (by decide) (fun c_32 => ?_) (fun c_32 => ?_)
        · have hf := ip c_32 hf
          exact hp41 v2_8 v3_8 _ hf (lv_sub hl [1, 2, 3, 4, 5] rfl)
        · have hf := iq c_32 hf
          refine lv_iload hx hb dX2_firstBestFlip_35 (lv_at hl 5 rfl) ?_
          refine lv_istore_n (lv' := [(2, .int v4_8), (5, .int r_1), (0, .ref (q 0)), (1, .int p1), (3, .int v3_8), (4, .int v4_8)]) hx hb dX2_firstBestFlip_37 rfl hl (by decide) rfl (fun ls hl => ?_)
          refine lv_iload hx hb dX2_firstBestFlip_38 (lv_at hl 1 rfl) ?_
          refine lv_istore_n (lv' := [(3, .int r_1), (2, .int v4_8), (5, .int r_1), (0, .ref (q 0)), (1, .int p1), (4, .int v4_8)]) hx hb dX2_firstBestFlip_40 rfl hl (by decide) rfl (fun ls hl => ?_)
          exact hp41 v4_8 r_1 _ hf (lv_sub hl [3, 4, 1, 0, 5] rfl)
  exact hL8 fu (0 : Int32) (61 : Int32) (0 : Int32) _ hf (lv_sub hl [3, 4, 2, 1, 0] rfl)
def lX2_trueInAll_7 (fu : Nat) (z : OS) (j34 : Int32 → Option (Int32)) : Nat → Int32 → Int32 → Option (Int32)
  | 0, _, _ => none
  | n_7 + 1, v1_7, v2_7 => bd (fX0_allVariables fu z) (fun (r_3 : Int32) => (if r_3 < v2_7 then j34 v1_7 else bd (fX2_areTrue fu z v2_7 (-1 : Int32)) (fun (r_5 : Int32) => jn (κ := Int32 → Option (Int32)) (fun (v1_28 : Int32) => nm (v2_7 + (1 : Int32)) (fun (v2_7 : Int32) => lX2_trueInAll_7 fu z j34 n_7 v1_28 v2_7)) (fun j28 => (if r_5 = (0 : Int32) then j28 v1_7 else nm (v1_7 &&& v2_7) (fun (v1_8 : Int32) => j28 v1_8))))))
def fX2_trueInAll (fu : Nat) (z : OS) : Option (Int32) :=
  bd (fX0_allVariables fu z) (fun (r_1 : Int32) => jn (κ := Int32 → Option (Int32)) (fun (v1_34 : Int32) => some v1_34) (fun j34 => lX2_trueInAll_7 fu z j34 fu r_1 (0 : Int32)))
set_option maxRecDepth 100000 in
set_option maxHeartbeats 4000000 in
theorem mX2_trueInAll (l : Launch) (D : va_G) (cI cB cZ cO : ClassId) (q : Nat → Nat) (fu : Nat) (z : OS) {r : Int32} (hf : fX2_trueInAll fu z = some r) : Met l yX2_trueInAll wsX2_trueInAll ({ frames := 2, cells := 0, slots := 0, locals := 45 }) (va_Pc [.ref (q 0)] (Pr D (gT cI cB cZ cO) (wC cI q z))) (Qr (some (.int r))) 0 0 (fun _ => False) := by
  unfold fX2_trueInAll at hf
  refine metR (ret := (some .int)) (own := RX2) rfl (by decide) rfl (Nat.le_of_ble_eq_true rfl) (fun p e s m args below meth c ls hx hb hr hml hown hlocks hts hP hK hl => ?_)
  have hl : lv_has ls 3 [(0, .ref (q 0))] := hl
  refine lv_aload_n hx hb dX2_trueInAll_0 rfl (lv_at hl 0 rfl) ?_
  obtain ⟨r_1, hc_2, hf⟩ := bd_ob hf
  refine rdV (As := []) (rest := []) ⟨hx, hb, hml, hown, hts⟩ (mX0_allVariables l D cI cB cZ cO q fu z hc_2) (cwV 0 hts gX2_trueInAll_X0_allVariables rfl rfl rfl (by decide +kernel) ⟨Nat.le_of_ble_eq_true rfl, Nat.le_of_ble_eq_true rfl⟩) hK hP (va_recv hK hP (ci := 0) (q0 := 0) rfl rfl) rfl hl.1 rfl (Nat.le_of_ble_eq_true rfl) dX2_trueInAll_1 ⟨Nat.zero_le _, Nat.zero_le _⟩ ?_
  refine lv_istore_n (lv' := [(1, .int r_1), (0, .ref (q 0))]) hx hb dX2_trueInAll_4 rfl hl (by decide) rfl (fun ls hl => ?_)
  refine lv_iconst (v := 0) hx hb dX2_trueInAll_5 (by decide) ?_
  refine lv_istore_n (lv' := [(2, .int (0 : Int32)), (1, .int r_1), (0, .ref (q 0))]) hx hb dX2_trueInAll_6 rfl hl (by decide) rfl (fun ls hl => ?_)
  obtain ⟨j34, ej34, hf⟩ := jn_ob hf
  have hp34 : ∀ (v1_34 : Int32) (ls : Array Slot), j34 v1_34 = some r → lv_has ls 3 [(1, .int v1_34)] → W p l e (headSpec wsX2_trueInAll { frames := 2, cells := 0, slots := 0, locals := 45 }).room s m args below meth c s.heap [] 0 0 (MQ below (Qr (some (.int r))) args s 0 0 (fun _ => False)) (F0 m 34 ls []) := by
    intro v1_34 ls hf hl
    rw [ej34] at hf
    refine lv_iload_n hx hb dX2_trueInAll_34 rfl (lv_at hl 0 rfl) ?_
    exact rR_i hx hb hr hlocks (so_ob hf) dX2_trueInAll_35
  have hL7 : ∀ (n_7 : Nat) (v1_7 : Int32) (v2_7 : Int32) (ls : Array Slot), lX2_trueInAll_7 fu z j34 n_7 v1_7 v2_7 = some r → lv_has ls 3 [(0, .ref (q 0)), (1, .int v1_7), (2, .int v2_7)] → W p l e (headSpec wsX2_trueInAll { frames := 2, cells := 0, slots := 0, locals := 45 }).room s m args below meth c s.heap [] 0 0 (MQ below (Qr (some (.int r))) args s 0 0 (fun _ => False)) (F0 m 7 ls []) := by
    intro n_7
    induction n_7 with
    | zero =>
      intro v1_7 v2_7 ls hf
      exact no_ob hf
    | succ n_7 ih7 =>
      intro v1_7 v2_7 ls hf hl
      rw [lX2_trueInAll_7] at hf
      refine lv_iload_n hx hb dX2_trueInAll_7 rfl (lv_at hl 2 rfl) ?_
      refine lv_aload_n hx hb dX2_trueInAll_8 rfl (lv_at hl 0 rfl) ?_
      obtain ⟨r_3, hc_4, hf⟩ := bd_ob hf
      refine rdV (As := []) (rest := [.int v2_7]) ⟨hx, hb, hml, hown, hts⟩ (mX0_allVariables l D cI cB cZ cO q fu z hc_4) (cwV 0 hts gX2_trueInAll_X0_allVariables rfl rfl rfl (by decide +kernel) ⟨Nat.le_of_ble_eq_true rfl, Nat.le_of_ble_eq_true rfl⟩) hK hP (va_recv hK hP (ci := 0) (q0 := 0) rfl rfl) rfl hl.1 rfl (Nat.le_of_ble_eq_true rfl) dX2_trueInAll_9 ⟨Nat.zero_le _, Nat.zero_le _⟩ ?_
      refine lv_icmp_gt (tgt := 34) hx hb dX2_trueInAll_12 (by decide) (fun c_12 => ?_) (fun c_12 => ?_)
      · have hf := ip c_12 hf
        exact hp34 v1_7 _ hf (lv_sub hl [1] rfl)
      · have hf := iq c_12 hf
        refine lv_aload_n hx hb dX2_trueInAll_15 rfl (lv_at hl 0 rfl) ?_
        refine lv_iload_n hx hb dX2_trueInAll_16 rfl (lv_at hl 2 rfl) ?_
        refine lv_iconst (v := (-1)) hx hb dX2_trueInAll_17 (by decide) ?_
        obtain ⟨r_5, hc_6, hf⟩ := bd_ob hf
        refine rdS (As := [.ref (q 0), .int v2_7, .int (-1 : Int32)]) (rest := []) ⟨hx, hb, hml, hown, hts⟩ (mX2_areTrue l D cI cB cZ cO q fu z v2_7 (-1 : Int32) hc_6) (va_cwS 3 hts gX2_trueInAll_X2_areTrue rfl rfl rfl (by decide +kernel) ⟨Nat.le_of_ble_eq_true rfl, Nat.le_of_ble_eq_true rfl⟩) hK hP  rfl hl.1 rfl (Nat.le_of_ble_eq_true rfl) dX2_trueInAll_18 ⟨Nat.zero_le _, Nat.zero_le _⟩ ?_
        obtain ⟨j28, ej28, hf⟩ := jn_ob hf
        have hp28 : ∀ (v1_28 : Int32) (ls : Array Slot), j28 v1_28 = some r → lv_has ls 3 [(0, .ref (q 0)), (1, .int v1_28), (2, .int v2_7)] → W p l e (headSpec wsX2_trueInAll { frames := 2, cells := 0, slots := 0, locals := 45 }).room s m args below meth c s.heap [] 0 0 (MQ below (Qr (some (.int r))) args s 0 0 (fun _ => False)) (F0 m 28 ls []) := by
          intro v1_28 ls hf hl
          rw [ej28] at hf
          obtain ⟨v2_7, ev2_7, hf⟩ := nm_ob hf
          refine lv_iinc (v := v2_7) (lv' := [(2, .int v2_7), (0, .ref (q 0)), (1, .int v1_28)]) hx hb dX2_trueInAll_28 hl (k := 2) rfl (by rw [ev2_7]; rfl) (by decide) rfl (fun ls hl => ?_)
          refine lv_goto (tgt := 7) hx hb dX2_trueInAll_31 (by decide) ?_
          exact ih7 v1_28 v2_7 _ hf (lv_sub hl [1, 2, 0] rfl)
        refine lv_if_eq (tgt := 28) hx hb dX2_trueInAll_21 (by decide) (fun c_21 => ?_) (fun c_21 => ?_)
        · have hf := ip c_21 hf
          exact hp28 v1_7 _ hf hl
        · have hf := iq c_21 hf
          refine lv_iload_n hx hb dX2_trueInAll_24 rfl (lv_at hl 1 rfl) ?_
          refine lv_iload_n hx hb dX2_trueInAll_25 rfl (lv_at hl 2 rfl) ?_
          refine lv_iand hx hb dX2_trueInAll_26 ?_
          obtain ⟨v1_8, ev1_8, hf⟩ := nm_ob hf
          refine lv_nmi ev1_8 ?_
          refine lv_istore_n (lv' := [(1, .int v1_8), (0, .ref (q 0)), (2, .int v2_7)]) hx hb dX2_trueInAll_27 rfl hl (by decide) rfl (fun ls hl => ?_)
          exact hp28 v1_8 _ hf (lv_sub hl [1, 0, 2] rfl)
  exact hL7 fu r_1 (0 : Int32) _ hf (lv_sub hl [2, 1, 0] rfl)
def lX2_falseInAll_7 (fu : Nat) (z : OS) (j36 : Int32 → Option (Int32)) : Nat → Int32 → Int32 → Option (Int32)
  | 0, _, _ => none
  | n_7 + 1, v1_7, v2_7 => bd (fX0_allVariables fu z) (fun (r_3 : Int32) => (if r_3 < v2_7 then j36 v1_7 else bd (fX2_areTrue fu z v2_7 (-1 : Int32)) (fun (r_5 : Int32) => jn (κ := Int32 → Option (Int32)) (fun (v1_30 : Int32) => nm (v2_7 + (1 : Int32)) (fun (v2_7 : Int32) => lX2_falseInAll_7 fu z j36 n_7 v1_30 v2_7)) (fun j30 => (if r_5 = (0 : Int32) then j30 v1_7 else nm (v1_7 &&& (v2_7 ^^^ (-1 : Int32))) (fun (v1_8 : Int32) => j30 v1_8))))))
def fX2_falseInAll (fu : Nat) (z : OS) : Option (Int32) :=
  bd (fX0_allVariables fu z) (fun (r_1 : Int32) => jn (κ := Int32 → Option (Int32)) (fun (v1_36 : Int32) => some v1_36) (fun j36 => lX2_falseInAll_7 fu z j36 fu r_1 (0 : Int32)))
set_option maxRecDepth 100000 in
set_option maxHeartbeats 4000000 in
theorem mX2_falseInAll (l : Launch) (D : va_G) (cI cB cZ cO : ClassId) (q : Nat → Nat) (fu : Nat) (z : OS) {r : Int32} (hf : fX2_falseInAll fu z = some r) : Met l yX2_falseInAll wsX2_falseInAll ({ frames := 2, cells := 0, slots := 0, locals := 45 }) (va_Pc [.ref (q 0)] (Pr D (gT cI cB cZ cO) (wC cI q z))) (Qr (some (.int r))) 0 0 (fun _ => False) := by
  unfold fX2_falseInAll at hf
  refine metR (ret := (some .int)) (own := RX2) rfl (by decide) rfl (Nat.le_of_ble_eq_true rfl) (fun p e s m args below meth c ls hx hb hr hml hown hlocks hts hP hK hl => ?_)
  have hl : lv_has ls 3 [(0, .ref (q 0))] := hl
  refine lv_aload_n hx hb dX2_falseInAll_0 rfl (lv_at hl 0 rfl) ?_
  obtain ⟨r_1, hc_2, hf⟩ := bd_ob hf
  refine rdV (As := []) (rest := []) ⟨hx, hb, hml, hown, hts⟩ (mX0_allVariables l D cI cB cZ cO q fu z hc_2) (cwV 0 hts gX2_falseInAll_X0_allVariables rfl rfl rfl (by decide +kernel) ⟨Nat.le_of_ble_eq_true rfl, Nat.le_of_ble_eq_true rfl⟩) hK hP (va_recv hK hP (ci := 0) (q0 := 0) rfl rfl) rfl hl.1 rfl (Nat.le_of_ble_eq_true rfl) dX2_falseInAll_1 ⟨Nat.zero_le _, Nat.zero_le _⟩ ?_
  refine lv_istore_n (lv' := [(1, .int r_1), (0, .ref (q 0))]) hx hb dX2_falseInAll_4 rfl hl (by decide) rfl (fun ls hl => ?_)
  refine lv_iconst (v := 0) hx hb dX2_falseInAll_5 (by decide) ?_
  refine lv_istore_n (lv' := [(2, .int (0 : Int32)), (1, .int r_1), (0, .ref (q 0))]) hx hb dX2_falseInAll_6 rfl hl (by decide) rfl (fun ls hl => ?_)
  obtain ⟨j36, ej36, hf⟩ := jn_ob hf
  have hp36 : ∀ (v1_36 : Int32) (ls : Array Slot), j36 v1_36 = some r → lv_has ls 3 [(1, .int v1_36)] → W p l e (headSpec wsX2_falseInAll { frames := 2, cells := 0, slots := 0, locals := 45 }).room s m args below meth c s.heap [] 0 0 (MQ below (Qr (some (.int r))) args s 0 0 (fun _ => False)) (F0 m 36 ls []) := by
    intro v1_36 ls hf hl
    rw [ej36] at hf
    refine lv_iload_n hx hb dX2_falseInAll_36 rfl (lv_at hl 0 rfl) ?_
    exact rR_i hx hb hr hlocks (so_ob hf) dX2_falseInAll_37
  have hL7 : ∀ (n_7 : Nat) (v1_7 : Int32) (v2_7 : Int32) (ls : Array Slot), lX2_falseInAll_7 fu z j36 n_7 v1_7 v2_7 = some r → lv_has ls 3 [(0, .ref (q 0)), (1, .int v1_7), (2, .int v2_7)] → W p l e (headSpec wsX2_falseInAll { frames := 2, cells := 0, slots := 0, locals := 45 }).room s m args below meth c s.heap [] 0 0 (MQ below (Qr (some (.int r))) args s 0 0 (fun _ => False)) (F0 m 7 ls []) := by
    intro n_7
    induction n_7 with
    | zero =>
      intro v1_7 v2_7 ls hf
      exact no_ob hf
    | succ n_7 ih7 =>
      intro v1_7 v2_7 ls hf hl
      rw [lX2_falseInAll_7] at hf
      refine lv_iload_n hx hb dX2_falseInAll_7 rfl (lv_at hl 2 rfl) ?_
      refine lv_aload_n hx hb dX2_falseInAll_8 rfl (lv_at hl 0 rfl) ?_
      obtain ⟨r_3, hc_4, hf⟩ := bd_ob hf
      refine rdV (As := []) (rest := [.int v2_7]) ⟨hx, hb, hml, hown, hts⟩ (mX0_allVariables l D cI cB cZ cO q fu z hc_4) (cwV 0 hts gX2_falseInAll_X0_allVariables rfl rfl rfl (by decide +kernel) ⟨Nat.le_of_ble_eq_true rfl, Nat.le_of_ble_eq_true rfl⟩) hK hP (va_recv hK hP (ci := 0) (q0 := 0) rfl rfl) rfl hl.1 rfl (Nat.le_of_ble_eq_true rfl) dX2_falseInAll_9 ⟨Nat.zero_le _, Nat.zero_le _⟩ ?_
      refine lv_icmp_gt (tgt := 36) hx hb dX2_falseInAll_12 (by decide) (fun c_12 => ?_) (fun c_12 => ?_)
      · have hf := ip c_12 hf
        exact hp36 v1_7 _ hf (lv_sub hl [1] rfl)
      · have hf := iq c_12 hf
        refine lv_aload_n hx hb dX2_falseInAll_15 rfl (lv_at hl 0 rfl) ?_
        refine lv_iload_n hx hb dX2_falseInAll_16 rfl (lv_at hl 2 rfl) ?_
        refine lv_iconst (v := (-1)) hx hb dX2_falseInAll_17 (by decide) ?_
        obtain ⟨r_5, hc_6, hf⟩ := bd_ob hf
        refine rdS (As := [.ref (q 0), .int v2_7, .int (-1 : Int32)]) (rest := []) ⟨hx, hb, hml, hown, hts⟩ (mX2_areTrue l D cI cB cZ cO q fu z v2_7 (-1 : Int32) hc_6) (va_cwS 3 hts gX2_falseInAll_X2_areTrue rfl rfl rfl (by decide +kernel) ⟨Nat.le_of_ble_eq_true rfl, Nat.le_of_ble_eq_true rfl⟩) hK hP  rfl hl.1 rfl (Nat.le_of_ble_eq_true rfl) dX2_falseInAll_18 ⟨Nat.zero_le _, Nat.zero_le _⟩ ?_
        obtain ⟨j30, ej30, hf⟩ := jn_ob hf
        have hp30 : ∀ (v1_30 : Int32) (ls : Array Slot), j30 v1_30 = some r → lv_has ls 3 [(0, .ref (q 0)), (1, .int v1_30), (2, .int v2_7)] → W p l e (headSpec wsX2_falseInAll { frames := 2, cells := 0, slots := 0, locals := 45 }).room s m args below meth c s.heap [] 0 0 (MQ below (Qr (some (.int r))) args s 0 0 (fun _ => False)) (F0 m 30 ls []) := by
          intro v1_30 ls hf hl
          rw [ej30] at hf
          obtain ⟨v2_7, ev2_7, hf⟩ := nm_ob hf
          refine lv_iinc (v := v2_7) (lv' := [(2, .int v2_7), (0, .ref (q 0)), (1, .int v1_30)]) hx hb dX2_falseInAll_30 hl (k := 2) rfl (by rw [ev2_7]; rfl) (by decide) rfl (fun ls hl => ?_)
          refine lv_goto (tgt := 7) hx hb dX2_falseInAll_33 (by decide) ?_
          exact ih7 v1_30 v2_7 _ hf (lv_sub hl [1, 2, 0] rfl)
        refine lv_if_eq (tgt := 30) hx hb dX2_falseInAll_21 (by decide) (fun c_21 => ?_) (fun c_21 => ?_)
        · have hf := ip c_21 hf
          exact hp30 v1_7 _ hf hl
        · have hf := iq c_21 hf
          refine lv_iload_n hx hb dX2_falseInAll_24 rfl (lv_at hl 1 rfl) ?_
          refine lv_iload_n hx hb dX2_falseInAll_25 rfl (lv_at hl 2 rfl) ?_
          refine lv_iconst (v := (-1)) hx hb dX2_falseInAll_26 (by decide) ?_
          refine lv_ixor hx hb dX2_falseInAll_27 ?_
          refine lv_iand hx hb dX2_falseInAll_28 ?_
          obtain ⟨v1_8, ev1_8, hf⟩ := nm_ob hf
          refine lv_nmi ev1_8 ?_
          refine lv_istore_n (lv' := [(1, .int v1_8), (0, .ref (q 0)), (2, .int v2_7)]) hx hb dX2_falseInAll_29 rfl hl (by decide) rfl (fun ls hl => ?_)
          exact hp30 v1_8 _ hf (lv_sub hl [1, 0, 2] rfl)
  exact hL7 fu r_1 (0 : Int32) _ hf (lv_sub hl [2, 1, 0] rfl)
def lX2_imply_3 (fu : Nat) (z : OS) (p1 : Int32) (p2 : Int32) (p3 : Int32) (j58 : Option (Int32)) : Nat → Int32 → Option (Int32)
  | 0, _ => none
  | n_3 + 1, v4_3 => bd (fX0_allVariables fu z) (fun (r_1 : Int32) => (if r_1 < v4_3 then j58 else jn (κ := Int32 → Option (Int32)) (fun (t0_33 : Int32) => jn (κ := Option (Int32)) (nm (v4_3 + (1 : Int32)) (fun (v4_3 : Int32) => lX2_imply_3 fu z p1 p2 p3 j58 n_3 v4_3)) (fun j52 => (if t0_33 = (0 : Int32) then j52 else bd (fX2_areTrue fu z v4_3 p3) (fun (r_4 : Int32) => (if r_4 = (0 : Int32) then j52 else gd (isZ (0 : Int32)) (some (0 : Int32))))))) (fun j33 => jn (κ := Option (Int32)) (j33 (0 : Int32)) (fun j32 => (if ¬ (p1 &&& v4_3) = (0 : Int32) then j32 else (if ¬ (p2 &&& (v4_3 ^^^ (-1 : Int32))) = (0 : Int32) then j32 else j33 (1 : Int32)))))))
def fX2_imply (fu : Nat) (z : OS) (p1 : Int32) (p2 : Int32) (p3 : Int32) : Option (Int32) :=
  jn (κ := Option (Int32)) (gd (isZ (1 : Int32)) (some (1 : Int32))) (fun j58 => lX2_imply_3 fu z p1 p2 p3 j58 fu (0 : Int32))
set_option maxRecDepth 100000 in
set_option maxHeartbeats 4000000 in
theorem mX2_imply (l : Launch) (D : va_G) (cI cB cZ cO : ClassId) (q : Nat → Nat) (fu : Nat) (z : OS) (p1 : Int32) (p2 : Int32) (p3 : Int32) {r : Int32} (hf : fX2_imply fu z p1 p2 p3 = some r) : Met l yX2_imply wsX2_imply ({ frames := 2, cells := 0, slots := 0, locals := 45 }) (va_Pc [.ref (q 0), .int p1, .int p2, .int p3] (Pr D (gT cI cB cZ cO) (wC cI q z))) (Qr (some (.int r))) 0 0 (fun _ => False) := by
  unfold fX2_imply at hf
  refine metR (ret := (some .boolean)) (own := RX2) rfl (by decide) rfl (Nat.le_of_ble_eq_true rfl) (fun p e s m args below meth c ls hx hb hr hml hown hlocks hts hP hK hl => ?_)
  have hl : lv_has ls 6 [(0, .ref (q 0)), (1, .int p1), (2, .int p2), (3, .int p3)] := hl
  refine lv_iconst (v := 0) hx hb dX2_imply_0 (by decide) ?_
  refine lv_istore (lv' := [(4, .int (0 : Int32)), (0, .ref (q 0)), (1, .int p1), (2, .int p2), (3, .int p3)]) hx hb dX2_imply_1 hl (by decide) rfl (fun ls hl => ?_)
  obtain ⟨j58, ej58, hf⟩ := jn_ob hf
  have hp58 : ∀  (ls : Array Slot), j58 = some r → lv_has ls 6 [] → W p l e (headSpec wsX2_imply { frames := 2, cells := 0, slots := 0, locals := 45 }).room s m args below meth c s.heap [] 0 0 (MQ below (Qr (some (.int r))) args s 0 0 (fun _ => False)) (F0 m 58 ls []) := by
    intro ls hf hl
    rw [ej58] at hf
    refine lv_iconst (v := 1) hx hb dX2_imply_58 (by decide) ?_
    obtain ⟨hz, hf⟩ := gd_ob hf
    exact rR_z hx hb hr hlocks hz (so_ob hf) dX2_imply_59
  have hL3 : ∀ (n_3 : Nat) (v4_3 : Int32) (ls : Array Slot), lX2_imply_3 fu z p1 p2 p3 j58 n_3 v4_3 = some r → lv_has ls 6 [(0, .ref (q 0)), (1, .int p1), (2, .int p2), (3, .int p3), (4, .int v4_3)] → W p l e (headSpec wsX2_imply { frames := 2, cells := 0, slots := 0, locals := 45 }).room s m args below meth c s.heap [] 0 0 (MQ below (Qr (some (.int r))) args s 0 0 (fun _ => False)) (F0 m 3 ls []) := by
    intro n_3
    induction n_3 with
    | zero =>
      intro v4_3 ls hf
      exact no_ob hf
    | succ n_3 ih3 =>
      intro v4_3 ls hf hl
      rw [lX2_imply_3] at hf
      refine lv_iload hx hb dX2_imply_3 (lv_at hl 4 rfl) ?_
      refine lv_aload_n hx hb dX2_imply_5 rfl (lv_at hl 0 rfl) ?_
      obtain ⟨r_1, hc_2, hf⟩ := bd_ob hf
      refine rdV (As := []) (rest := [.int v4_3]) ⟨hx, hb, hml, hown, hts⟩ (mX0_allVariables l D cI cB cZ cO q fu z hc_2) (cwV 0 hts gX2_imply_X0_allVariables rfl rfl rfl (by decide +kernel) ⟨Nat.le_of_ble_eq_true rfl, Nat.le_of_ble_eq_true rfl⟩) hK hP (va_recv hK hP (ci := 0) (q0 := 0) rfl rfl) rfl hl.1 rfl (Nat.le_of_ble_eq_true rfl) dX2_imply_6 ⟨Nat.zero_le _, Nat.zero_le _⟩ ?_
      refine lv_icmp_gt (tgt := 58) hx hb dX2_imply_9 (by decide) (fun c_9 => ?_) (fun c_9 => ?_)
      · have hf := ip c_9 hf
        exact hp58 _ hf (lv_sub hl [] rfl)
      · have hf := iq c_9 hf
        refine lv_iload_n hx hb dX2_imply_12 rfl (lv_at hl 1 rfl) ?_
        refine lv_iload hx hb dX2_imply_13 (lv_at hl 4 rfl) ?_
        refine lv_iand hx hb dX2_imply_15 ?_
        obtain ⟨j33, ej33, hf⟩ := jn_ob hf
        have hp33 : ∀ (t0_33 : Int32) (ls : Array Slot), j33 t0_33 = some r → lv_has ls 6 [(0, .ref (q 0)), (1, .int p1), (2, .int p2), (3, .int p3), (4, .int v4_3)] → W p l e (headSpec wsX2_imply { frames := 2, cells := 0, slots := 0, locals := 45 }).room s m args below meth c s.heap [] 0 0 (MQ below (Qr (some (.int r))) args s 0 0 (fun _ => False)) (F0 m 33 ls [.int t0_33]) := by
          intro t0_33 ls hf hl
          rw [ej33] at hf
          refine lv_istore (lv' := [(5, .int t0_33), (0, .ref (q 0)), (1, .int p1), (2, .int p2), (3, .int p3), (4, .int v4_3)]) hx hb dX2_imply_33 hl (by decide) rfl (fun ls hl => ?_)
          refine lv_iload hx hb dX2_imply_35 (lv_at hl 0 rfl) ?_
          obtain ⟨j52, ej52, hf⟩ := jn_ob hf
          have hp52 : ∀  (ls : Array Slot), j52 = some r → lv_has ls 6 [(0, .ref (q 0)), (1, .int p1), (2, .int p2), (3, .int p3), (4, .int v4_3)] → W p l e (headSpec wsX2_imply { frames := 2, cells := 0, slots := 0, locals := 45 }).room s m args below meth c s.heap [] 0 0 (MQ below (Qr (some (.int r))) args s 0 0 (fun _ => False)) (F0 m 52 ls []) := by
            intro ls hf hl
            rw [ej52] at hf
            obtain ⟨v4_3, ev4_3, hf⟩ := nm_ob hf
            refine lv_iinc (v := v4_3) (lv' := [(4, .int v4_3), (0, .ref (q 0)), (1, .int p1), (2, .int p2), (3, .int p3)]) hx hb dX2_imply_52 hl (k := 4) rfl (by rw [ev4_3]; rfl) (by decide) rfl (fun ls hl => ?_)
            refine lv_goto (tgt := 3) hx hb dX2_imply_55 (by decide) ?_
            exact ih3 v4_3 _ hf (lv_sub hl [1, 2, 3, 4, 0] rfl)
          refine lv_if_eq (tgt := 52) hx hb dX2_imply_37 (by decide) (fun c_37 => ?_) (fun c_37 => ?_)
          · have hf := ip c_37 hf
            exact hp52 _ hf (lv_sub hl [1, 2, 3, 4, 5] rfl)
          · have hf := iq c_37 hf
            refine lv_aload_n hx hb dX2_imply_40 rfl (lv_at hl 1 rfl) ?_
            refine lv_iload hx hb dX2_imply_41 (lv_at hl 5 rfl) ?_
            refine lv_iload_n hx hb dX2_imply_43 rfl (lv_at hl 4 rfl) ?_
            obtain ⟨r_4, hc_5, hf⟩ := bd_ob hf
            refine rdS (As := [.ref (q 0), .int v4_3, .int p3]) (rest := []) ⟨hx, hb, hml, hown, hts⟩ (mX2_areTrue l D cI cB cZ cO q fu z v4_3 p3 hc_5) (va_cwS 3 hts gX2_imply_X2_areTrue rfl rfl rfl (by decide +kernel) ⟨Nat.le_of_ble_eq_true rfl, Nat.le_of_ble_eq_true rfl⟩) hK hP  rfl hl.1 rfl (Nat.le_of_ble_eq_true rfl) dX2_imply_44 ⟨Nat.zero_le _, Nat.zero_le _⟩ ?_
            refine lv_if_eq (tgt := 52) hx hb dX2_imply_47 (by decide) (fun c_47 => ?_) (fun c_47 => ?_)
            · have hf := ip c_47 hf
              exact hp52 _ hf (lv_sub hl [1, 2, 3, 4, 5] rfl)
            · have hf := iq c_47 hf
              refine lv_iconst (v := 0) hx hb dX2_imply_50 (by decide) ?_
              obtain ⟨hz, hf⟩ := gd_ob hf
              exact rR_z hx hb hr hlocks hz (so_ob hf) dX2_imply_51
        obtain ⟨j32, ej32, hf⟩ := jn_ob hf
        have hp32 : ∀  (ls : Array Slot), j32 = some r → lv_has ls 6 [(0, .ref (q 0)), (1, .int p1), (2, .int p2), (3, .int p3), (4, .int v4_3)] → W p l e (headSpec wsX2_imply { frames := 2, cells := 0, slots := 0, locals := 45 }).room s m args below meth c s.heap [] 0 0 (MQ below (Qr (some (.int r))) args s 0 0 (fun _ => False)) (F0 m 32 ls []) := by
          intro ls hf hl
          rw [ej32] at hf
          refine lv_iconst (v := 0) hx hb dX2_imply_32 (by decide) ?_
          exact hp33 (0 : Int32) _ hf hl
        refine lv_if_ne (tgt := 32) hx hb dX2_imply_16 (by decide) (fun c_16 => ?_) (fun c_16 => ?_)
        · have hf := ip c_16 hf
          exact hp32 _ hf hl
        · have hf := iqn c_16 hf
          refine lv_iload_n hx hb dX2_imply_19 rfl (lv_at hl 2 rfl) ?_
          refine lv_iload hx hb dX2_imply_20 (lv_at hl 4 rfl) ?_
          refine lv_iconst (v := (-1)) hx hb dX2_imply_22 (by decide) ?_
          refine lv_ixor hx hb dX2_imply_23 ?_
          refine lv_iand hx hb dX2_imply_24 ?_
          refine lv_if_ne (tgt := 32) hx hb dX2_imply_25 (by decide) (fun c_25 => ?_) (fun c_25 => ?_)
          · have hf := ip c_25 hf
            exact hp32 _ hf hl
          · have hf := iqn c_25 hf
            refine lv_iconst (v := 1) hx hb dX2_imply_28 (by decide) ?_
            refine lv_goto (tgt := 33) hx hb dX2_imply_29 (by decide) ?_
            exact hp33 (1 : Int32) _ hf hl
  exact hL3 fu (0 : Int32) _ hf (lv_sub hl [1, 2, 3, 4, 0] rfl)
def fX3_put (fu : Nat) (z : OS) (p1 : Int32) : Option ((OS)) :=
  (if (35 : Int32) ≤ (z.1 1) then some z else gd (inB (z.1 1) 35) (nm (sA z 0 (upd (z.2 0) ((z.1 1)).toNatClampNeg (vp_nar .byte ((p1).toInt8.toInt32)))) (fun (z_1 : OS) => nm (sI z_1 1 ((z_1.1 1) + (1 : Int32))) (fun (z_2 : OS) => some z_2))))
set_option maxRecDepth 100000 in
set_option maxHeartbeats 4000000 in
theorem mX3_put (l : Launch) (D : va_G) (cI cB cZ cO : ClassId) (q : Nat → Nat) (sz : Nat) (fu : Nat) (z : OS) (p1 : Int32) {y1 : OS} (hf : fX3_put fu z p1 = some y1) : Met l yX3_put wsX3_put ({ frames := 0, cells := 0, slots := 0, locals := 0 }) (va_Pc [.ref (q 0), .int p1] (Pw D (gT cI cB cZ cO) (wO cB q z) sz)) (Qw D (va_A (wO cB q z) sz) none (wO cB q y1)) 0 0 (va_A (wO cB q z) sz) := by
  unfold fX3_put at hf
  refine metW (ret := none) (own := RX3) rfl (by decide) rfl (Nat.le_of_ble_eq_true rfl) (fun p e s m args below meth c ls A hx hb hr hml hown hlocks hts hK hA hP hD hS hl => ?_)
  have k15 := (hts (.fieldLink RX3 15 "ResolutionProver$Output" "length" "I") (List.mem_of_getElem? (i := 1) rfl))
  have k9 := (hts (.fieldLink RX3 9 "ResolutionProver$Output" "bytes" "[B") (List.mem_of_getElem? (i := 2) rfl))
  have hiX3 : ∀ w ∈ wsX30, w ∈ wsX3_put := (memIn_p [3, 4] rfl)
  have hl : lv_has ls 2 [(0, .ref (q 0)), (1, .int p1)] := hl
  refine lv_aload_n hx hb dX3_put_0 rfl (lv_at hl 0 rfl) ?_
  refine va_get (D := D) (ci := 2) (v := .int (z.1 1)) (C := RX3) (T := TX3) (N := 2) hx hb hts hiX3 hown hK hP 0 rfl rfl 1 (by decide) k15 (fun _ h9 => h9) rfl dX3_put_1 ?_
  refine lv_bipush (v := 35) hx hb dX3_put_4 (by decide) ?_
  refine lv_icmp_ge (tgt := 30) hx hb dX3_put_6 (by decide) (fun c_6 => ?_) (fun c_6 => ?_)
  · have hf := ip c_6 hf
    exact rW_v hx hb hr hlocks hP hD hS (congrArg (fun (q9 : (OS)) => wO cB q q9) (so_ob hf)) dX3_put_30
  · have hf := iq c_6 hf
    refine lv_aload_n hx hb dX3_put_9 rfl (lv_at hl 0 rfl) ?_
    refine va_get (D := D) (ci := 2) (v := .ref (q 1)) (C := RX3) (T := TX3) (N := 2) hx hb hts hiX3 hown hK hP 0 rfl rfl 0 (by decide) k9 (fun _ h9 => h9) rfl dX3_put_10 ?_
    refine lv_aload_n hx hb dX3_put_13 rfl (lv_at hl 0 rfl) ?_
    refine va_get (D := D) (ci := 2) (v := .int (z.1 1)) (C := RX3) (T := TX3) (N := 2) hx hb hts hiX3 hown hK hP 0 rfl rfl 1 (by decide) k15 (fun _ h9 => h9) rfl dX3_put_14 ?_
    refine lv_iload_n hx hb dX3_put_17 rfl (lv_at hl 1 rfl) ?_
    refine lv_i2b hx hb dX3_put_18 rfl ?_
    obtain ⟨hi_, hf⟩ := gd_ob hf
    refine va_bast hx hb hK hP hD hS 1 1 rfl rfl (inB_in hi_) dX3_put_19 (fun H locs hP hD hS => ?_)
    obtain ⟨z_1, ez_1, hf⟩ := nm_ob hf
    have hP : va_P D vwCl (wO cB q z_1) H := by rw [ez_1]; exact hP
    have hD : va_D A (wO cB q z_1) := by rw [ez_1]; exact hD
    refine lv_aload_n hx hb dX3_put_20 rfl (lv_at hl 0 rfl) ?_
    refine lv_dup hx hb dX3_put_21 rfl ?_
    refine va_get (D := D) (ci := 2) (v := .int (z_1.1 1)) (C := RX3) (T := TX3) (N := 2) hx hb hts hiX3 hown hK hP 0 rfl rfl 1 (by decide) k15 (fun _ h9 => h9) rfl dX3_put_22 ?_
    refine lv_iconst (v := 1) hx hb dX3_put_25 (by decide) ?_
    refine lv_iadd hx hb dX3_put_26 ?_
    refine va_put (D := D) (ci := 2) (v := .int ((z_1.1 1) + (1 : Int32))) (ty := .int) (C := RX3) (T := TX3) (N := 2) hx hb hts hiX3 tyX3 tyX3_ok nmX3 hown hK hP hD hS 0 rfl rfl 1 (by decide) k15 (fun _ h9 => h9) rfl (by decide +kernel) rfl rfl (Nat.le_of_ble_eq_true rfl) dX3_put_27 (fun H locs hP hD hS => ?_)
    obtain ⟨z_2, ez_2, hf⟩ := nm_ob hf
    have hP : va_P D vwCl (wO cB q z_2) H := by rw [ez_2]; exact hP
    have hD : va_D A (wO cB q z_2) := by rw [ez_2]; exact hD
    exact rW_v hx hb hr hlocks hP hD hS (congrArg (fun (q9 : (OS)) => wO cB q q9) (so_ob hf)) dX3_put_30
def lX3_write_7 (fu : Nat) (p1 : Int32) (p2 : Int32) (j67 : OS → Option ((OS))) : Nat → Int32 → OS → Option ((OS))
  | 0, _, _ => none
  | n_7 + 1, v3_7, z1_7 => (if (12 : Int32) ≤ v3_7 then j67 z1_7 else nm ((1 : Int32) <<< (v3_7 &&& (31 : Int32))) (fun (v4_4 : Int32) => jn (κ := OS → Option ((OS))) (fun (z1_61 : OS) => nm (v3_7 + (1 : Int32)) (fun (v3_5 : Int32) => lX3_write_7 fu p1 p2 j67 n_7 v3_5 z1_61)) (fun j61 => (if ((p1 ||| p2) &&& v4_4) = (0 : Int32) then j61 z1_7 else jn (κ := OS → Option ((OS))) (fun (z1_40 : OS) => jn (κ := OS → Option ((OS))) (fun (z1_53 : OS) => bd (fX3_put fu z1_53 ((97 : Int32) + v3_7)) (fun (z_6 : OS) => j61 z_6)) (fun j53 => (if (p2 &&& v4_4) = (0 : Int32) then j53 z1_40 else bd (fX3_put fu z1_40 (45 : Int32)) (fun (z_8 : OS) => j53 z_8)))) (fun j40 => (if (z1_7.1 1) ≤ (0 : Int32) then j40 z1_7 else bd (fX3_put fu z1_7 (32 : Int32)) (fun (z_10 : OS) => j40 z_10)))))))
def fX3_write (fu : Nat) (z : OS) (p1 : Int32) (p2 : Int32) : Option ((OS)) :=
  nm (sI z 1 (0 : Int32)) (fun (z_1 : OS) => jn (κ := OS → Option ((OS))) (fun (z1_67 : OS) => (if ¬ (z1_67.1 1) = (0 : Int32) then some z1_67 else bd (fX3_put fu z1_67 (35 : Int32)) (fun (z_2 : OS) => some z_2))) (fun j67 => lX3_write_7 fu p1 p2 j67 fu (0 : Int32) z_1))
set_option maxRecDepth 100000 in
set_option maxHeartbeats 4000000 in
theorem mX3_write (l : Launch) (D : va_G) (cI cB cZ cO : ClassId) (q : Nat → Nat) (sz : Nat) (fu : Nat) (z : OS) (p1 : Int32) (p2 : Int32) {y1 : OS} (hf : fX3_write fu z p1 p2 = some y1) : Met l yX3_write wsX3_write ({ frames := 1, cells := 0, slots := 0, locals := 21 }) (va_Pc [.ref (q 0), .int p1, .int p2] (Pw D (gT cI cB cZ cO) (wO cB q z) sz)) (Qw D (va_A (wO cB q z) sz) none (wO cB q y1)) 0 0 (va_A (wO cB q z) sz) := by
  unfold fX3_write at hf
  refine metW (ret := none) (own := RX3) rfl (by decide) rfl (Nat.le_of_ble_eq_true rfl) (fun p e s m args below meth c ls A hx hb hr hml hown hlocks hts hK hA hP hD hS hl => ?_)
  have k15 := (hts (.fieldLink RX3 15 "ResolutionProver$Output" "length" "I") (List.mem_of_getElem? (i := 1) rfl))
  have hiX3 : ∀ w ∈ wsX30, w ∈ wsX3_write := (memIn_p [8, 9] rfl)
  have hl : lv_has ls 5 [(0, .ref (q 0)), (1, .int p1), (2, .int p2)] := hl
  refine lv_aload_n hx hb dX3_write_0 rfl (lv_at hl 0 rfl) ?_
  refine lv_iconst (v := 0) hx hb dX3_write_1 (by decide) ?_
  refine va_put (D := D) (ci := 2) (v := .int (0 : Int32)) (ty := .int) (C := RX3) (T := TX3) (N := 2) hx hb hts hiX3 tyX3 tyX3_ok nmX3 hown hK hP hD hS 0 rfl rfl 1 (by decide) k15 (fun _ h9 => h9) rfl (by decide +kernel) rfl rfl (Nat.le_of_ble_eq_true rfl) dX3_write_2 (fun H locs hP hD hS => ?_)
  obtain ⟨z_1, ez_1, hf⟩ := nm_ob hf
  have hP : va_P D vwCl (wO cB q z_1) H := by rw [ez_1]; exact hP
  have hD : va_D A (wO cB q z_1) := by rw [ez_1]; exact hD
  refine lv_iconst (v := 0) hx hb dX3_write_5 (by decide) ?_
  refine lv_istore_n (lv' := [(3, .int (0 : Int32)), (0, .ref (q 0)), (1, .int p1), (2, .int p2)]) hx hb dX3_write_6 rfl hl (by decide) rfl (fun ls hl => ?_)
  obtain ⟨j67, ej67, hf⟩ := jn_ob hf
  have hp67 : ∀ (z1_67 : OS) (H : Heap) (locs : List Loc) (ls : Array Slot), j67 z1_67 = some y1 → va_P D vwCl (wO cB q z1_67) H → va_D A (wO cB q z1_67) → va_S A s.heap H locs → lv_has ls 5 [(0, .ref (q 0))] → W p l e (headSpec wsX3_write { frames := 1, cells := 0, slots := 0, locals := 21 }).room s m args below meth c H locs 0 0 (MQ below (Qw D A none (wO cB q y1)) args s 0 0 A) (F0 m 67 ls []) := by
    intro z1_67 H locs ls hf hP hD hS hl
    rw [ej67] at hf
    refine lv_aload_n hx hb dX3_write_67 rfl (lv_at hl 0 rfl) ?_
    refine va_get (D := D) (ci := 2) (v := .int (z1_67.1 1)) (C := RX3) (T := TX3) (N := 2) hx hb hts hiX3 hown hK hP 0 rfl rfl 1 (by decide) k15 (fun _ h9 => h9) rfl dX3_write_68 ?_
    refine lv_if_ne (tgt := 80) hx hb dX3_write_71 (by decide) (fun c_71 => ?_) (fun c_71 => ?_)
    · have hf := ip c_71 hf
      exact rW_v hx hb hr hlocks hP hD hS (congrArg (fun (q9 : (OS)) => wO cB q q9) (so_ob hf)) dX3_write_80
    · have hf := iqn c_71 hf
      refine lv_aload_n hx hb dX3_write_74 rfl (lv_at hl 0 rfl) ?_
      refine lv_bipush (v := 35) hx hb dX3_write_75 (by decide) ?_
      obtain ⟨z_2, hc_3, hf⟩ := bd_ob hf
      refine weV (As := [.int (35 : Int32)]) (rest := []) ⟨hx, hb, hml, hown, hts⟩ (mX3_put l D cI cB cZ cO q _ fu z1_67 (35 : Int32) hc_3) (cwV 1 hts gX3_write_X3_put rfl rfl rfl (by decide +kernel) ⟨Nat.le_of_ble_eq_true rfl, Nat.le_of_ble_eq_true rfl⟩) hK hP hD hS hA (va_recv hK hP (ci := 2) (q0 := 0) rfl rfl) rfl hl.1 rfl (Nat.le_of_ble_eq_true rfl) dX3_write_77 ⟨Nat.zero_le _, Nat.zero_le _⟩ (fun H locs hP hD hS => ?_)
      exact rW_v hx hb hr hlocks hP hD hS (congrArg (fun (q9 : (OS)) => wO cB q q9) (so_ob hf)) dX3_write_80
  have hL7 : ∀ (n_7 : Nat) (v3_7 : Int32) (z1_7 : OS) (H : Heap) (locs : List Loc) (ls : Array Slot), lX3_write_7 fu p1 p2 j67 n_7 v3_7 z1_7 = some y1 → va_P D vwCl (wO cB q z1_7) H → va_D A (wO cB q z1_7) → va_S A s.heap H locs → lv_has ls 5 [(0, .ref (q 0)), (1, .int p1), (2, .int p2), (3, .int v3_7)] → W p l e (headSpec wsX3_write { frames := 1, cells := 0, slots := 0, locals := 21 }).room s m args below meth c H locs 0 0 (MQ below (Qw D A none (wO cB q y1)) args s 0 0 A) (F0 m 7 ls []) := by
    intro n_7
    induction n_7 with
    | zero =>
      intro v3_7 z1_7 H locs ls hf
      exact no_ob hf
    | succ n_7 ih7 =>
      intro v3_7 z1_7 H locs ls hf hP hD hS hl
      rw [lX3_write_7] at hf
      refine lv_iload_n hx hb dX3_write_7 rfl (lv_at hl 3 rfl) ?_
      refine lv_bipush (v := 12) hx hb dX3_write_8 (by decide) ?_
      refine lv_icmp_ge (tgt := 67) hx hb dX3_write_10 (by decide) (fun c_10 => ?_) (fun c_10 => ?_)
      · have hf := ip c_10 hf
        exact hp67 z1_7 _ _ _ hf hP hD hS (lv_sub hl [0] rfl)
      · have hf := iq c_10 hf
        refine lv_iconst (v := 1) hx hb dX3_write_13 (by decide) ?_
        refine lv_iload_n hx hb dX3_write_14 rfl (lv_at hl 3 rfl) ?_
        refine lv_ishl hx hb dX3_write_15 ?_
        obtain ⟨v4_4, ev4_4, hf⟩ := nm_ob hf
        refine lv_nmi ev4_4 ?_
        refine lv_istore (lv' := [(4, .int v4_4), (0, .ref (q 0)), (1, .int p1), (2, .int p2), (3, .int v3_7)]) hx hb dX3_write_16 hl (by decide) rfl (fun ls hl => ?_)
        refine lv_iload_n hx hb dX3_write_18 rfl (lv_at hl 2 rfl) ?_
        refine lv_iload_n hx hb dX3_write_19 rfl (lv_at hl 3 rfl) ?_
        refine lv_ior hx hb dX3_write_20 ?_
        refine lv_iload hx hb dX3_write_21 (lv_at hl 0 rfl) ?_
        refine lv_iand hx hb dX3_write_23 ?_
        obtain ⟨j61, ej61, hf⟩ := jn_ob hf
        have hp61 : ∀ (z1_61 : OS) (H : Heap) (locs : List Loc) (ls : Array Slot), j61 z1_61 = some y1 → va_P D vwCl (wO cB q z1_61) H → va_D A (wO cB q z1_61) → va_S A s.heap H locs → lv_has ls 5 [(0, .ref (q 0)), (1, .int p1), (2, .int p2), (3, .int v3_7)] → W p l e (headSpec wsX3_write { frames := 1, cells := 0, slots := 0, locals := 21 }).room s m args below meth c H locs 0 0 (MQ below (Qw D A none (wO cB q y1)) args s 0 0 A) (F0 m 61 ls []) := by
          intro z1_61 H locs ls hf hP hD hS hl
          rw [ej61] at hf
          obtain ⟨v3_5, ev3_5, hf⟩ := nm_ob hf
          refine lv_iinc (v := v3_5) (lv' := [(3, .int v3_5), (0, .ref (q 0)), (1, .int p1), (2, .int p2)]) hx hb dX3_write_61 hl (k := 3) rfl (by rw [ev3_5]; rfl) (by decide) rfl (fun ls hl => ?_)
          refine lv_goto (tgt := 7) hx hb dX3_write_64 (by decide) ?_
          exact ih7 v3_5 z1_61 _ _ _ hf hP hD hS (lv_sub hl [1, 2, 3, 0] rfl)
        refine lv_if_eq (tgt := 61) hx hb dX3_write_24 (by decide) (fun c_24 => ?_) (fun c_24 => ?_)
        · have hf := ip c_24 hf
          exact hp61 z1_7 _ _ _ hf hP hD hS (lv_sub hl [1, 2, 3, 4] rfl)
        · have hf := iq c_24 hf
          refine lv_aload_n hx hb dX3_write_27 rfl (lv_at hl 1 rfl) ?_
          refine va_get (D := D) (ci := 2) (v := .int (z1_7.1 1)) (C := RX3) (T := TX3) (N := 2) hx hb hts hiX3 hown hK hP 0 rfl rfl 1 (by decide) k15 (fun _ h9 => h9) rfl dX3_write_28 ?_
          obtain ⟨j40, ej40, hf⟩ := jn_ob hf
          have hp40 : ∀ (z1_40 : OS) (H : Heap) (locs : List Loc) (ls : Array Slot), j40 z1_40 = some y1 → va_P D vwCl (wO cB q z1_40) H → va_D A (wO cB q z1_40) → va_S A s.heap H locs → lv_has ls 5 [(0, .ref (q 0)), (1, .int p1), (2, .int p2), (3, .int v3_7), (4, .int v4_4)] → W p l e (headSpec wsX3_write { frames := 1, cells := 0, slots := 0, locals := 21 }).room s m args below meth c H locs 0 0 (MQ below (Qw D A none (wO cB q y1)) args s 0 0 A) (F0 m 40 ls []) := by
            intro z1_40 H locs ls hf hP hD hS hl
            rw [ej40] at hf
            refine lv_iload_n hx hb dX3_write_40 rfl (lv_at hl 2 rfl) ?_
            refine lv_iload hx hb dX3_write_41 (lv_at hl 4 rfl) ?_
            refine lv_iand hx hb dX3_write_43 ?_
            obtain ⟨j53, ej53, hf⟩ := jn_ob hf
            have hp53 : ∀ (z1_53 : OS) (H : Heap) (locs : List Loc) (ls : Array Slot), j53 z1_53 = some y1 → va_P D vwCl (wO cB q z1_53) H → va_D A (wO cB q z1_53) → va_S A s.heap H locs → lv_has ls 5 [(0, .ref (q 0)), (1, .int p1), (2, .int p2), (3, .int v3_7)] → W p l e (headSpec wsX3_write { frames := 1, cells := 0, slots := 0, locals := 21 }).room s m args below meth c H locs 0 0 (MQ below (Qw D A none (wO cB q y1)) args s 0 0 A) (F0 m 53 ls []) := by
              intro z1_53 H locs ls hf hP hD hS hl
              rw [ej53] at hf
              refine lv_aload_n hx hb dX3_write_53 rfl (lv_at hl 0 rfl) ?_
              refine lv_bipush (v := 97) hx hb dX3_write_54 (by decide) ?_
              refine lv_iload_n hx hb dX3_write_56 rfl (lv_at hl 3 rfl) ?_
              refine lv_iadd hx hb dX3_write_57 ?_
              obtain ⟨z_6, hc_7, hf⟩ := bd_ob hf
              refine weV (As := [.int ((97 : Int32) + v3_7)]) (rest := []) ⟨hx, hb, hml, hown, hts⟩ (mX3_put l D cI cB cZ cO q _ fu z1_53 ((97 : Int32) + v3_7) hc_7) (cwV 1 hts gX3_write_X3_put rfl rfl rfl (by decide +kernel) ⟨Nat.le_of_ble_eq_true rfl, Nat.le_of_ble_eq_true rfl⟩) hK hP hD hS hA (va_recv hK hP (ci := 2) (q0 := 0) rfl rfl) rfl hl.1 rfl (Nat.le_of_ble_eq_true rfl) dX3_write_58 ⟨Nat.zero_le _, Nat.zero_le _⟩ (fun H locs hP hD hS => ?_)
              exact hp61 z_6 _ _ _ hf hP hD hS hl
            refine lv_if_eq (tgt := 53) hx hb dX3_write_44 (by decide) (fun c_44 => ?_) (fun c_44 => ?_)
            · have hf := ip c_44 hf
              exact hp53 z1_40 _ _ _ hf hP hD hS (lv_sub hl [0, 1, 2, 3] rfl)
            · have hf := iq c_44 hf
              refine lv_aload_n hx hb dX3_write_47 rfl (lv_at hl 0 rfl) ?_
              refine lv_bipush (v := 45) hx hb dX3_write_48 (by decide) ?_
              obtain ⟨z_8, hc_9, hf⟩ := bd_ob hf
              refine weV (As := [.int (45 : Int32)]) (rest := []) ⟨hx, hb, hml, hown, hts⟩ (mX3_put l D cI cB cZ cO q _ fu z1_40 (45 : Int32) hc_9) (cwV 1 hts gX3_write_X3_put rfl rfl rfl (by decide +kernel) ⟨Nat.le_of_ble_eq_true rfl, Nat.le_of_ble_eq_true rfl⟩) hK hP hD hS hA (va_recv hK hP (ci := 2) (q0 := 0) rfl rfl) rfl hl.1 rfl (Nat.le_of_ble_eq_true rfl) dX3_write_50 ⟨Nat.zero_le _, Nat.zero_le _⟩ (fun H locs hP hD hS => ?_)
              exact hp53 z_8 _ _ _ hf hP hD hS (lv_sub hl [0, 1, 2, 3] rfl)
          refine lv_if_le (tgt := 40) hx hb dX3_write_31 (by decide) (fun c_31 => ?_) (fun c_31 => ?_)
          · have hf := ip c_31 hf
            exact hp40 z1_7 _ _ _ hf hP hD hS (lv_sub hl [1, 2, 3, 4, 0] rfl)
          · have hf := iq c_31 hf
            refine lv_aload_n hx hb dX3_write_34 rfl (lv_at hl 1 rfl) ?_
            refine lv_bipush (v := 32) hx hb dX3_write_35 (by decide) ?_
            obtain ⟨z_10, hc_11, hf⟩ := bd_ob hf
            refine weV (As := [.int (32 : Int32)]) (rest := []) ⟨hx, hb, hml, hown, hts⟩ (mX3_put l D cI cB cZ cO q _ fu z1_7 (32 : Int32) hc_11) (cwV 1 hts gX3_write_X3_put rfl rfl rfl (by decide +kernel) ⟨Nat.le_of_ble_eq_true rfl, Nat.le_of_ble_eq_true rfl⟩) hK hP hD hS hA (va_recv hK hP (ci := 2) (q0 := 0) rfl rfl) rfl hl.1 rfl (Nat.le_of_ble_eq_true rfl) dX3_write_37 ⟨Nat.zero_le _, Nat.zero_le _⟩ (fun H locs hP hD hS => ?_)
            exact hp40 z_10 _ _ _ hf hP hD hS (lv_sub hl [1, 2, 3, 4, 0] rfl)
  exact hL7 fu (0 : Int32) z_1 _ _ _ hf hP hD hS (lv_sub hl [1, 2, 3, 0] rfl)
def lX4_runRound_4 (fu : Nat) (z2 : OS) (j134 : Int32 → OS → Option (Int32 × (OS))) : Nat → Int32 → Int32 → OS → Option (Int32 × (OS))
  | 0, _, _, _ => none
  | n_4 + 1, v2_4, v3_4, z1_4 => (if (z2.1 7) ≤ v3_4 then j134 v2_4 z1_4 else gd (inB v3_4 60) (nm (z2.2 0 (v3_4).toNatClampNeg) (fun (v4_1 : Int32) => gd (inB v3_4 60) (nm (z2.2 1 (v3_4).toNatClampNeg) (fun (v5_2 : Int32) => bd (fX0_literalsIn fu z2 v3_4) (fun (r_3 : Int32) => jn (κ := Int32 → Int32 → Option (Int32 × (OS))) (fun (v4_59 : Int32) (v5_59 : Int32) => bd (fJ6_bitCount_0f7a4 fu v4_59) (fun (r_5 : Int32) => bd (fJ6_bitCount_0f7a4 fu v5_59) (fun (r_7 : Int32) => jn (κ := Int32 → OS → Option (Int32 × (OS))) (fun (v2_128 : Int32) (z1_128 : OS) => nm (v3_4 + (1 : Int32)) (fun (v3_9 : Int32) => lX4_runRound_4 fu z2 j134 n_4 v2_128 v3_9 z1_128)) (fun j128 => (if ¬ (r_5 + r_7) = (1 : Int32) then j128 v2_4 z1_4 else jn (κ := Int32 → Int32 → Option (Int32 × (OS))) (fun (t0_104 : Int32) (t1_104 : Int32) => nm (t0_104 ||| t1_104) (fun (v2_10 : Int32) => nm (sI z1_4 0 ((z1_4.1 0) ||| v4_59)) (fun (z_11 : OS) => nm (sI z_11 1 ((z_11.1 1) ||| v5_59)) (fun (z_12 : OS) => j128 v2_10 z_12)))) (fun j104 => jn (κ := Int32 → Option (Int32 × (OS))) (fun (t0_99 : Int32) => j104 t0_99 (1 : Int32)) (fun j99 => (if ¬ (v4_59 &&& ((z1_4.1 0) ^^^ (-1 : Int32))) = (0 : Int32) then j99 v2_4 else (if (v5_59 &&& ((z1_4.1 1) ^^^ (-1 : Int32))) = (0 : Int32) then j104 v2_4 (0 : Int32) else j99 v2_4))))))))) (fun j59 => (if r_3 = (1 : Int32) then j59 v4_1 v5_2 else nm (v4_1 &&& ((z1_4.1 1) ^^^ (-1 : Int32))) (fun (v4_13 : Int32) => nm (v5_2 &&& ((z1_4.1 0) ^^^ (-1 : Int32))) (fun (v5_14 : Int32) => j59 v4_13 v5_14))))))))))
def fX4_runRound (fu : Nat) (z : OS) (z2 : OS) : Option (Int32 × (OS)) :=
  jn (κ := Int32 → OS → Option (Int32 × (OS))) (fun (v2_134 : Int32) (z1_134 : OS) => gd (isZ v2_134) (some (v2_134, z1_134))) (fun j134 => lX4_runRound_4 fu z2 j134 fu (0 : Int32) (0 : Int32) z)
set_option maxRecDepth 100000 in
set_option maxHeartbeats 4000000 in
theorem mX4_runRound (l : Launch) (D : va_G) (cI cB cZ cO : ClassId) (q : Nat → Nat) (q2 : Nat → Nat) (sz : Nat) (fu : Nat) (z : OS) (z2 : OS) {r : Int32} {y1 : OS} (hf : fX4_runRound fu z z2 = some (r, y1)) : Met l yX4_runRound wsX4_runRound ({ frames := 2, cells := 0, slots := 0, locals := 41 }) (va_Pc [.ref (q 0), .ref (q2 0)] (Pw D (gT cI cB cZ cO) (wP q z ++ wC cI q2 z2) sz)) (Qw D (va_A (wP q z ++ wC cI q2 z2) sz) (some (.int r)) (wP q y1 ++ wC cI q2 z2)) 0 0 (va_A (wP q z ++ wC cI q2 z2) sz) := by
  unfold fX4_runRound at hf
  refine metW (ret := (some .boolean)) (own := RX4) rfl (by decide) rfl (Nat.le_of_ble_eq_true rfl) (fun p e s m args below meth c ls A hx hb hr hml hown hlocks hts hK hA hP hD hS hl => ?_)
  have k22 := (hts (.fieldLink RX4 22 "ResolutionProver$Clauses" "count" "I") (List.mem_of_getElem? (i := 1) rfl))
  have k27 := (hts (.fieldLink RX4 27 "ResolutionProver$Clauses" "positive" "[I") (List.mem_of_getElem? (i := 2) rfl))
  have k31 := (hts (.fieldLink RX4 31 "ResolutionProver$Clauses" "negative" "[I") (List.mem_of_getElem? (i := 3) rfl))
  have k9 := (hts (.fieldLink RX4 9 "ResolutionProver$Propagation" "trueMask" "I") (List.mem_of_getElem? (i := 5) rfl))
  have k15 := (hts (.fieldLink RX4 15 "ResolutionProver$Propagation" "falseMask" "I") (List.mem_of_getElem? (i := 4) rfl))
  have hiX0 : ∀ w ∈ wsX00, w ∈ wsX4_runRound := (memIn_p [21, 22, 23, 24, 25, 26, 27, 28] rfl)
  have hiX4 : ∀ w ∈ wsX40, w ∈ wsX4_runRound := (memIn_p [29, 30] rfl)
  have hl : lv_has ls 6 [(0, .ref (q 0)), (1, .ref (q2 0))] := hl
  refine lv_iconst (v := 0) hx hb dX4_runRound_0 (by decide) ?_
  refine lv_istore_n (lv' := [(2, .int (0 : Int32)), (0, .ref (q 0)), (1, .ref (q2 0))]) hx hb dX4_runRound_1 rfl hl (by decide) rfl (fun ls hl => ?_)
  refine lv_iconst (v := 0) hx hb dX4_runRound_2 (by decide) ?_
  refine lv_istore_n (lv' := [(3, .int (0 : Int32)), (2, .int (0 : Int32)), (0, .ref (q 0)), (1, .ref (q2 0))]) hx hb dX4_runRound_3 rfl hl (by decide) rfl (fun ls hl => ?_)
  obtain ⟨j134, ej134, hf⟩ := jn_ob hf
  have hp134 : ∀ (v2_134 : Int32) (z1_134 : OS) (H : Heap) (locs : List Loc) (ls : Array Slot), j134 v2_134 z1_134 = some (r, y1) → va_P D vwCl (wP q z1_134 ++ wC cI q2 z2) H → va_D A (wP q z1_134 ++ wC cI q2 z2) → va_S A s.heap H locs → lv_has ls 6 [(2, .int v2_134)] → W p l e (headSpec wsX4_runRound { frames := 2, cells := 0, slots := 0, locals := 41 }).room s m args below meth c H locs 0 0 (MQ below (Qw D A (some (.int r)) (wP q y1 ++ wC cI q2 z2)) args s 0 0 A) (F0 m 134 ls []) := by
    intro v2_134 z1_134 H locs ls hf hP hD hS hl
    rw [ej134] at hf
    refine lv_iload_n hx hb dX4_runRound_134 rfl (lv_at hl 0 rfl) ?_
    obtain ⟨hz, hf⟩ := gd_ob hf
    exact rW_z hx hb hr hlocks hP hD hS hz (congrArg (fun q9 => q9.1) (so_ob hf)) (congrArg (fun (q9 : Int32 × (OS)) => wP q q9.2 ++ wC cI q2 z2) (so_ob hf)) dX4_runRound_135
  have hL4 : ∀ (n_4 : Nat) (v2_4 : Int32) (v3_4 : Int32) (z1_4 : OS) (H : Heap) (locs : List Loc) (ls : Array Slot), lX4_runRound_4 fu z2 j134 n_4 v2_4 v3_4 z1_4 = some (r, y1) → va_P D vwCl (wP q z1_4 ++ wC cI q2 z2) H → va_D A (wP q z1_4 ++ wC cI q2 z2) → va_S A s.heap H locs → lv_has ls 6 [(0, .ref (q 0)), (1, .ref (q2 0)), (2, .int v2_4), (3, .int v3_4)] → W p l e (headSpec wsX4_runRound { frames := 2, cells := 0, slots := 0, locals := 41 }).room s m args below meth c H locs 0 0 (MQ below (Qw D A (some (.int r)) (wP q y1 ++ wC cI q2 z2)) args s 0 0 A) (F0 m 4 ls []) := by
    intro n_4
    induction n_4 with
    | zero =>
      intro v2_4 v3_4 z1_4 H locs ls hf
      exact no_ob hf
    | succ n_4 ih4 =>
      intro v2_4 v3_4 z1_4 H locs ls hf hP hD hS hl
      rw [lX4_runRound_4] at hf
      refine lv_iload_n hx hb dX4_runRound_4 rfl (lv_at hl 3 rfl) ?_
      refine lv_aload_n hx hb dX4_runRound_5 rfl (lv_at hl 1 rfl) ?_
      refine va_get (D := D) (ci := 0) (v := .int (z2.1 7)) (C := RX0) (T := TX0) (N := 8) hx hb hts hiX0 hown hK hP 1 rfl rfl 7 (by decide) k22 (fun _ h9 => h9) rfl dX4_runRound_6 ?_
      refine lv_icmp_ge (tgt := 134) hx hb dX4_runRound_9 (by decide) (fun c_9 => ?_) (fun c_9 => ?_)
      · have hf := ip c_9 hf
        exact hp134 v2_4 z1_4 _ _ _ hf hP hD hS (lv_sub hl [2] rfl)
      · have hf := iq c_9 hf
        refine lv_aload_n hx hb dX4_runRound_12 rfl (lv_at hl 1 rfl) ?_
        refine va_get (D := D) (ci := 0) (v := .ref (q2 1)) (C := RX0) (T := TX0) (N := 8) hx hb hts hiX0 hown hK hP 1 rfl rfl 0 (by decide) k27 (fun _ h9 => h9) rfl dX4_runRound_13 ?_
        refine lv_iload_n hx hb dX4_runRound_16 rfl (lv_at hl 3 rfl) ?_
        obtain ⟨hi_, hf⟩ := gd_ob hf
        refine va_iald hx hb hK hP 2 0 rfl rfl (inB_in hi_) dX4_runRound_17 ?_
        obtain ⟨v4_1, ev4_1, hf⟩ := nm_ob hf
        refine lv_nmi ev4_1 ?_
        refine lv_istore (lv' := [(4, .int v4_1), (0, .ref (q 0)), (1, .ref (q2 0)), (2, .int v2_4), (3, .int v3_4)]) hx hb dX4_runRound_18 hl (by decide) rfl (fun ls hl => ?_)
        refine lv_aload_n hx hb dX4_runRound_20 rfl (lv_at hl 2 rfl) ?_
        refine va_get (D := D) (ci := 0) (v := .ref (q2 2)) (C := RX0) (T := TX0) (N := 8) hx hb hts hiX0 hown hK hP 1 rfl rfl 1 (by decide) k31 (fun _ h9 => h9) rfl dX4_runRound_21 ?_
        refine lv_iload_n hx hb dX4_runRound_24 rfl (lv_at hl 4 rfl) ?_
        obtain ⟨hi_, hf⟩ := gd_ob hf
        refine va_iald hx hb hK hP 3 0 rfl rfl (inB_in hi_) dX4_runRound_25 ?_
        obtain ⟨v5_2, ev5_2, hf⟩ := nm_ob hf
        refine lv_nmi ev5_2 ?_
        refine lv_istore (lv' := [(5, .int v5_2), (4, .int v4_1), (0, .ref (q 0)), (1, .ref (q2 0)), (2, .int v2_4), (3, .int v3_4)]) hx hb dX4_runRound_26 hl (by decide) rfl (fun ls hl => ?_)
        refine lv_aload_n hx hb dX4_runRound_28 rfl (lv_at hl 3 rfl) ?_
        refine lv_iload_n hx hb dX4_runRound_29 rfl (lv_at hl 5 rfl) ?_
        obtain ⟨r_3, hc_4, hf⟩ := bd_ob hf
        refine rdV (As := [.int v3_4]) (rest := []) ⟨hx, hb, hml, hown, hts⟩ (mX0_literalsIn l D cI cB cZ cO q2 fu z2 v3_4 hc_4) (cwV 1 hts gX4_runRound_X0_literalsIn rfl rfl rfl (by decide +kernel) ⟨Nat.le_of_ble_eq_true rfl, Nat.le_of_ble_eq_true rfl⟩) hK (hP.sub [1, 2, 3, 4, 5, 6, 7] rfl) (va_recv hK hP (ci := 0) (q0 := 1) rfl rfl) rfl hl.1 rfl (Nat.le_of_ble_eq_true rfl) dX4_runRound_30 ⟨Nat.zero_le _, Nat.zero_le _⟩ ?_
        refine lv_iconst (v := 1) hx hb dX4_runRound_33 (by decide) ?_
        obtain ⟨j59, ej59, hf⟩ := jn_ob hf
        have hp59 : ∀ (v4_59 : Int32) (v5_59 : Int32) (H : Heap) (locs : List Loc) (ls : Array Slot), j59 v4_59 v5_59 = some (r, y1) → va_P D vwCl (wP q z1_4 ++ wC cI q2 z2) H → va_D A (wP q z1_4 ++ wC cI q2 z2) → va_S A s.heap H locs → lv_has ls 6 [(0, .ref (q 0)), (1, .ref (q2 0)), (2, .int v2_4), (3, .int v3_4), (4, .int v4_59), (5, .int v5_59)] → W p l e (headSpec wsX4_runRound { frames := 2, cells := 0, slots := 0, locals := 41 }).room s m args below meth c H locs 0 0 (MQ below (Qw D A (some (.int r)) (wP q y1 ++ wC cI q2 z2)) args s 0 0 A) (F0 m 59 ls []) := by
          intro v4_59 v5_59 H locs ls hf hP hD hS hl
          rw [ej59] at hf
          refine lv_iload hx hb dX4_runRound_59 (lv_at hl 4 rfl) ?_
          obtain ⟨r_5, hc_6, hf⟩ := bd_ob hf
          refine rdN (As := [.int v4_59]) (rest := []) ⟨hx, hb, hml, hown, hts⟩ (mJ6_bitCount_0f7a4 l D cI cB cZ cO fu v4_59 hc_6) (va_cwS 1 hts gX4_runRound_J6_bitCount_0f7a4 rfl rfl rfl (by decide +kernel) ⟨Nat.le_of_ble_eq_true rfl, Nat.le_of_ble_eq_true rfl⟩) rfl hl.1 rfl (Nat.le_of_ble_eq_true rfl) dX4_runRound_61 ⟨Nat.zero_le _, Nat.zero_le _⟩ ?_
          refine lv_iload hx hb dX4_runRound_64 (lv_at hl 5 rfl) ?_
          obtain ⟨r_7, hc_8, hf⟩ := bd_ob hf
          refine rdN (As := [.int v5_59]) (rest := [.int r_5]) ⟨hx, hb, hml, hown, hts⟩ (mJ6_bitCount_0f7a4 l D cI cB cZ cO fu v5_59 hc_8) (va_cwS 1 hts gX4_runRound_J6_bitCount_0f7a4 rfl rfl rfl (by decide +kernel) ⟨Nat.le_of_ble_eq_true rfl, Nat.le_of_ble_eq_true rfl⟩) rfl hl.1 rfl (Nat.le_of_ble_eq_true rfl) dX4_runRound_66 ⟨Nat.zero_le _, Nat.zero_le _⟩ ?_
          refine lv_iadd hx hb dX4_runRound_69 ?_
          refine lv_iconst (v := 1) hx hb dX4_runRound_70 (by decide) ?_
          obtain ⟨j128, ej128, hf⟩ := jn_ob hf
          have hp128 : ∀ (v2_128 : Int32) (z1_128 : OS) (H : Heap) (locs : List Loc) (ls : Array Slot), j128 v2_128 z1_128 = some (r, y1) → va_P D vwCl (wP q z1_128 ++ wC cI q2 z2) H → va_D A (wP q z1_128 ++ wC cI q2 z2) → va_S A s.heap H locs → lv_has ls 6 [(0, .ref (q 0)), (1, .ref (q2 0)), (2, .int v2_128), (3, .int v3_4)] → W p l e (headSpec wsX4_runRound { frames := 2, cells := 0, slots := 0, locals := 41 }).room s m args below meth c H locs 0 0 (MQ below (Qw D A (some (.int r)) (wP q y1 ++ wC cI q2 z2)) args s 0 0 A) (F0 m 128 ls []) := by
            intro v2_128 z1_128 H locs ls hf hP hD hS hl
            rw [ej128] at hf
            obtain ⟨v3_9, ev3_9, hf⟩ := nm_ob hf
            refine lv_iinc (v := v3_9) (lv' := [(3, .int v3_9), (0, .ref (q 0)), (1, .ref (q2 0)), (2, .int v2_128)]) hx hb dX4_runRound_128 hl (k := 3) rfl (by rw [ev3_9]; rfl) (by decide) rfl (fun ls hl => ?_)
            refine lv_goto (tgt := 4) hx hb dX4_runRound_131 (by decide) ?_
            exact ih4 v2_128 v3_9 z1_128 _ _ _ hf hP hD hS (lv_sub hl [1, 2, 3, 0] rfl)
          refine lv_icmp_ne (tgt := 128) hx hb dX4_runRound_71 (by decide) (fun c_71 => ?_) (fun c_71 => ?_)
          · have hf := ip c_71 hf
            exact hp128 v2_4 z1_4 _ _ _ hf hP hD hS (lv_sub hl [0, 1, 2, 3] rfl)
          · have hf := iqn c_71 hf
            refine lv_iload_n hx hb dX4_runRound_74 rfl (lv_at hl 2 rfl) ?_
            refine lv_iload hx hb dX4_runRound_75 (lv_at hl 4 rfl) ?_
            refine lv_aload_n hx hb dX4_runRound_77 rfl (lv_at hl 0 rfl) ?_
            refine va_get (D := D) (ci := 3) (v := .int (z1_4.1 0)) (C := RX4) (T := TX4) (N := 2) hx hb hts hiX4 hown hK hP 0 rfl rfl 0 (by decide) k9 (fun _ h9 => h9) rfl dX4_runRound_78 ?_
            refine lv_iconst (v := (-1)) hx hb dX4_runRound_81 (by decide) ?_
            refine lv_ixor hx hb dX4_runRound_82 ?_
            refine lv_iand hx hb dX4_runRound_83 ?_
            obtain ⟨j104, ej104, hf⟩ := jn_ob hf
            have hp104 : ∀ (t0_104 : Int32) (t1_104 : Int32) (H : Heap) (locs : List Loc) (ls : Array Slot), j104 t0_104 t1_104 = some (r, y1) → va_P D vwCl (wP q z1_4 ++ wC cI q2 z2) H → va_D A (wP q z1_4 ++ wC cI q2 z2) → va_S A s.heap H locs → lv_has ls 6 [(0, .ref (q 0)), (1, .ref (q2 0)), (3, .int v3_4), (4, .int v4_59), (5, .int v5_59)] → W p l e (headSpec wsX4_runRound { frames := 2, cells := 0, slots := 0, locals := 41 }).room s m args below meth c H locs 0 0 (MQ below (Qw D A (some (.int r)) (wP q y1 ++ wC cI q2 z2)) args s 0 0 A) (F0 m 104 ls [.int t1_104, .int t0_104]) := by
              intro t0_104 t1_104 H locs ls hf hP hD hS hl
              rw [ej104] at hf
              refine lv_ior hx hb dX4_runRound_104 ?_
              obtain ⟨v2_10, ev2_10, hf⟩ := nm_ob hf
              refine lv_nmi ev2_10 ?_
              refine lv_istore_n (lv' := [(2, .int v2_10), (0, .ref (q 0)), (1, .ref (q2 0)), (3, .int v3_4), (4, .int v4_59), (5, .int v5_59)]) hx hb dX4_runRound_105 rfl hl (by decide) rfl (fun ls hl => ?_)
              refine lv_aload_n hx hb dX4_runRound_106 rfl (lv_at hl 1 rfl) ?_
              refine lv_dup hx hb dX4_runRound_107 rfl ?_
              refine va_get (D := D) (ci := 3) (v := .int (z1_4.1 0)) (C := RX4) (T := TX4) (N := 2) hx hb hts hiX4 hown hK hP 0 rfl rfl 0 (by decide) k9 (fun _ h9 => h9) rfl dX4_runRound_108 ?_
              refine lv_iload hx hb dX4_runRound_111 (lv_at hl 4 rfl) ?_
              refine lv_ior hx hb dX4_runRound_113 ?_
              refine va_put (D := D) (ci := 3) (v := .int ((z1_4.1 0) ||| v4_59)) (ty := .int) (C := RX4) (T := TX4) (N := 2) hx hb hts hiX4 tyX4 tyX4_ok nmX4 hown hK hP hD hS 0 rfl rfl 0 (by decide) k9 (fun _ h9 => h9) rfl (by decide +kernel) rfl rfl (Nat.le_of_ble_eq_true rfl) dX4_runRound_114 (fun H locs hP hD hS => ?_)
              obtain ⟨z_11, ez_11, hf⟩ := nm_ob hf
              have hP : va_P D vwCl (wP q z_11 ++ wC cI q2 z2) H := by rw [ez_11]; exact hP
              have hD : va_D A (wP q z_11 ++ wC cI q2 z2) := by rw [ez_11]; exact hD
              refine lv_aload_n hx hb dX4_runRound_117 rfl (lv_at hl 1 rfl) ?_
              refine lv_dup hx hb dX4_runRound_118 rfl ?_
              refine va_get (D := D) (ci := 3) (v := .int (z_11.1 1)) (C := RX4) (T := TX4) (N := 2) hx hb hts hiX4 hown hK hP 0 rfl rfl 1 (by decide) k15 (fun _ h9 => h9) rfl dX4_runRound_119 ?_
              refine lv_iload hx hb dX4_runRound_122 (lv_at hl 5 rfl) ?_
              refine lv_ior hx hb dX4_runRound_124 ?_
              refine va_put (D := D) (ci := 3) (v := .int ((z_11.1 1) ||| v5_59)) (ty := .int) (C := RX4) (T := TX4) (N := 2) hx hb hts hiX4 tyX4 tyX4_ok nmX4 hown hK hP hD hS 0 rfl rfl 1 (by decide) k15 (fun _ h9 => h9) rfl (by decide +kernel) rfl rfl (Nat.le_of_ble_eq_true rfl) dX4_runRound_125 (fun H locs hP hD hS => ?_)
              obtain ⟨z_12, ez_12, hf⟩ := nm_ob hf
              have hP : va_P D vwCl (wP q z_12 ++ wC cI q2 z2) H := by rw [ez_12]; exact hP
              have hD : va_D A (wP q z_12 ++ wC cI q2 z2) := by rw [ez_12]; exact hD
              exact hp128 v2_10 z_12 _ _ _ hf hP hD hS (lv_sub hl [1, 2, 0, 3] rfl)
            obtain ⟨j99, ej99, hf⟩ := jn_ob hf
            have hp99 : ∀ (t0_99 : Int32) (H : Heap) (locs : List Loc) (ls : Array Slot), j99 t0_99 = some (r, y1) → va_P D vwCl (wP q z1_4 ++ wC cI q2 z2) H → va_D A (wP q z1_4 ++ wC cI q2 z2) → va_S A s.heap H locs → lv_has ls 6 [(0, .ref (q 0)), (1, .ref (q2 0)), (3, .int v3_4), (4, .int v4_59), (5, .int v5_59)] → W p l e (headSpec wsX4_runRound { frames := 2, cells := 0, slots := 0, locals := 41 }).room s m args below meth c H locs 0 0 (MQ below (Qw D A (some (.int r)) (wP q y1 ++ wC cI q2 z2)) args s 0 0 A) (F0 m 99 ls [.int t0_99]) := by
              intro t0_99 H locs ls hf hP hD hS hl
              rw [ej99] at hf
              refine lv_iconst (v := 1) hx hb dX4_runRound_99 (by decide) ?_
              refine lv_goto (tgt := 104) hx hb dX4_runRound_100 (by decide) ?_
              exact hp104 t0_99 (1 : Int32) _ _ _ hf hP hD hS hl
            refine lv_if_ne (tgt := 99) hx hb dX4_runRound_84 (by decide) (fun c_84 => ?_) (fun c_84 => ?_)
            · have hf := ip c_84 hf
              exact hp99 v2_4 _ _ _ hf hP hD hS (lv_sub hl [0, 1, 3, 4, 5] rfl)
            · have hf := iqn c_84 hf
              refine lv_iload hx hb dX4_runRound_87 (lv_at hl 5 rfl) ?_
              refine lv_aload_n hx hb dX4_runRound_89 rfl (lv_at hl 0 rfl) ?_
              refine va_get (D := D) (ci := 3) (v := .int (z1_4.1 1)) (C := RX4) (T := TX4) (N := 2) hx hb hts hiX4 hown hK hP 0 rfl rfl 1 (by decide) k15 (fun _ h9 => h9) rfl dX4_runRound_90 ?_
              refine lv_iconst (v := (-1)) hx hb dX4_runRound_93 (by decide) ?_
              refine lv_ixor hx hb dX4_runRound_94 ?_
              refine lv_iand hx hb dX4_runRound_95 ?_
              refine lv_if_eq (tgt := 103) hx hb dX4_runRound_96 (by decide) (fun c_96 => ?_) (fun c_96 => ?_)
              · have hf := ip c_96 hf
                refine lv_iconst (v := 0) hx hb dX4_runRound_103 (by decide) ?_
                exact hp104 v2_4 (0 : Int32) _ _ _ hf hP hD hS (lv_sub hl [0, 1, 3, 4, 5] rfl)
              · have hf := iq c_96 hf
                exact hp99 v2_4 _ _ _ hf hP hD hS (lv_sub hl [0, 1, 3, 4, 5] rfl)
        refine lv_icmp_eq (tgt := 59) hx hb dX4_runRound_34 (by decide) (fun c_34 => ?_) (fun c_34 => ?_)
        · have hf := ip c_34 hf
          exact hp59 v4_1 v5_2 _ _ _ hf hP hD hS (lv_sub hl [2, 3, 4, 5, 1, 0] rfl)
        · have hf := iq c_34 hf
          refine lv_iload hx hb dX4_runRound_37 (lv_at hl 1 rfl) ?_
          refine lv_aload_n hx hb dX4_runRound_39 rfl (lv_at hl 2 rfl) ?_
          refine va_get (D := D) (ci := 3) (v := .int (z1_4.1 1)) (C := RX4) (T := TX4) (N := 2) hx hb hts hiX4 hown hK hP 0 rfl rfl 1 (by decide) k15 (fun _ h9 => h9) rfl dX4_runRound_40 ?_
          refine lv_iconst (v := (-1)) hx hb dX4_runRound_43 (by decide) ?_
          refine lv_ixor hx hb dX4_runRound_44 ?_
          refine lv_iand hx hb dX4_runRound_45 ?_
          obtain ⟨v4_13, ev4_13, hf⟩ := nm_ob hf
          refine lv_nmi ev4_13 ?_
          refine lv_istore (lv' := [(4, .int v4_13), (5, .int v5_2), (0, .ref (q 0)), (1, .ref (q2 0)), (2, .int v2_4), (3, .int v3_4)]) hx hb dX4_runRound_46 hl (by decide) rfl (fun ls hl => ?_)
          refine lv_iload hx hb dX4_runRound_48 (lv_at hl 1 rfl) ?_
          refine lv_aload_n hx hb dX4_runRound_50 rfl (lv_at hl 2 rfl) ?_
          refine va_get (D := D) (ci := 3) (v := .int (z1_4.1 0)) (C := RX4) (T := TX4) (N := 2) hx hb hts hiX4 hown hK hP 0 rfl rfl 0 (by decide) k9 (fun _ h9 => h9) rfl dX4_runRound_51 ?_
          refine lv_iconst (v := (-1)) hx hb dX4_runRound_54 (by decide) ?_
          refine lv_ixor hx hb dX4_runRound_55 ?_
          refine lv_iand hx hb dX4_runRound_56 ?_
          obtain ⟨v5_14, ev5_14, hf⟩ := nm_ob hf
          refine lv_nmi ev5_14 ?_
          refine lv_istore (lv' := [(5, .int v5_14), (4, .int v4_13), (0, .ref (q 0)), (1, .ref (q2 0)), (2, .int v2_4), (3, .int v3_4)]) hx hb dX4_runRound_57 hl (by decide) rfl (fun ls hl => ?_)
          exact hp59 v4_13 v5_14 _ _ _ hf hP hD hS (lv_sub hl [2, 3, 4, 5, 1, 0] rfl)
  exact hL4 fu (0 : Int32) (0 : Int32) z _ _ _ hf hP hD hS (lv_sub hl [2, 3, 1, 0] rfl)
def lX4_run_14 (fu : Nat) (z2 : OS) (j36 : OS → Option ((OS))) : Nat → Int32 → Int32 → OS → Option ((OS))
  | 0, _, _, _ => none
  | n_14 + 1, v2_14, v3_14, z1_14 => (if v2_14 = (0 : Int32) then j36 z1_14 else (if (24 : Int32) < v3_14 then j36 z1_14 else bd (fX4_runRound fu z1_14 z2) (fun (w_5 : Int32 × OS) => nm w_5.1 (fun (r_3 : Int32) => nm w_5.2 (fun (z_4 : OS) => nm (v3_14 + (1 : Int32)) (fun (v3_7 : Int32) => lX4_run_14 fu z2 j36 n_14 r_3 v3_7 z_4))))))
def fX4_run (fu : Nat) (z : OS) (z2 : OS) : Option ((OS)) :=
  nm (sI z 0 (0 : Int32)) (fun (z_1 : OS) => nm (sI z_1 1 (0 : Int32)) (fun (z_2 : OS) => jn (κ := OS → Option ((OS))) (fun (z1_36 : OS) => some z1_36) (fun j36 => lX4_run_14 fu z2 j36 fu (1 : Int32) (0 : Int32) z_2)))
set_option maxRecDepth 100000 in
set_option maxHeartbeats 4000000 in
theorem mX4_run (l : Launch) (D : va_G) (cI cB cZ cO : ClassId) (q : Nat → Nat) (q2 : Nat → Nat) (sz : Nat) (fu : Nat) (z : OS) (z2 : OS) {y1 : OS} (hf : fX4_run fu z z2 = some y1) : Met l yX4_run wsX4_run ({ frames := 3, cells := 0, slots := 0, locals := 66 }) (va_Pc [.ref (q 0), .ref (q2 0)] (Pw D (gT cI cB cZ cO) (wP q z ++ wC cI q2 z2) sz)) (Qw D (va_A (wP q z ++ wC cI q2 z2) sz) none (wP q y1 ++ wC cI q2 z2)) 0 0 (va_A (wP q z ++ wC cI q2 z2) sz) := by
  unfold fX4_run at hf
  refine metW (ret := none) (own := RX4) rfl (by decide) rfl (Nat.le_of_ble_eq_true rfl) (fun p e s m args below meth c ls A hx hb hr hml hown hlocks hts hK hA hP hD hS hl => ?_)
  have k9 := (hts (.fieldLink RX4 9 "ResolutionProver$Propagation" "trueMask" "I") (List.mem_of_getElem? (i := 1) rfl))
  have k15 := (hts (.fieldLink RX4 15 "ResolutionProver$Propagation" "falseMask" "I") (List.mem_of_getElem? (i := 2) rfl))
  have hiX4 : ∀ w ∈ wsX40, w ∈ wsX4_run := (memIn_p [26, 27] rfl)
  have hl : lv_has ls 4 [(0, .ref (q 0)), (1, .ref (q2 0))] := hl
  refine lv_aload_n hx hb dX4_run_0 rfl (lv_at hl 0 rfl) ?_
  refine lv_iconst (v := 0) hx hb dX4_run_1 (by decide) ?_
  refine va_put (D := D) (ci := 3) (v := .int (0 : Int32)) (ty := .int) (C := RX4) (T := TX4) (N := 2) hx hb hts hiX4 tyX4 tyX4_ok nmX4 hown hK hP hD hS 0 rfl rfl 0 (by decide) k9 (fun _ h9 => h9) rfl (by decide +kernel) rfl rfl (Nat.le_of_ble_eq_true rfl) dX4_run_2 (fun H locs hP hD hS => ?_)
  obtain ⟨z_1, ez_1, hf⟩ := nm_ob hf
  have hP : va_P D vwCl (wP q z_1 ++ wC cI q2 z2) H := by rw [ez_1]; exact hP
  have hD : va_D A (wP q z_1 ++ wC cI q2 z2) := by rw [ez_1]; exact hD
  refine lv_aload_n hx hb dX4_run_5 rfl (lv_at hl 0 rfl) ?_
  refine lv_iconst (v := 0) hx hb dX4_run_6 (by decide) ?_
  refine va_put (D := D) (ci := 3) (v := .int (0 : Int32)) (ty := .int) (C := RX4) (T := TX4) (N := 2) hx hb hts hiX4 tyX4 tyX4_ok nmX4 hown hK hP hD hS 0 rfl rfl 1 (by decide) k15 (fun _ h9 => h9) rfl (by decide +kernel) rfl rfl (Nat.le_of_ble_eq_true rfl) dX4_run_7 (fun H locs hP hD hS => ?_)
  obtain ⟨z_2, ez_2, hf⟩ := nm_ob hf
  have hP : va_P D vwCl (wP q z_2 ++ wC cI q2 z2) H := by rw [ez_2]; exact hP
  have hD : va_D A (wP q z_2 ++ wC cI q2 z2) := by rw [ez_2]; exact hD
  refine lv_iconst (v := 1) hx hb dX4_run_10 (by decide) ?_
  refine lv_istore_n (lv' := [(2, .int (1 : Int32)), (0, .ref (q 0)), (1, .ref (q2 0))]) hx hb dX4_run_11 rfl hl (by decide) rfl (fun ls hl => ?_)
  refine lv_iconst (v := 0) hx hb dX4_run_12 (by decide) ?_
  refine lv_istore_n (lv' := [(3, .int (0 : Int32)), (2, .int (1 : Int32)), (0, .ref (q 0)), (1, .ref (q2 0))]) hx hb dX4_run_13 rfl hl (by decide) rfl (fun ls hl => ?_)
  obtain ⟨j36, ej36, hf⟩ := jn_ob hf
  have hp36 : ∀ (z1_36 : OS) (H : Heap) (locs : List Loc) (ls : Array Slot), j36 z1_36 = some y1 → va_P D vwCl (wP q z1_36 ++ wC cI q2 z2) H → va_D A (wP q z1_36 ++ wC cI q2 z2) → va_S A s.heap H locs → lv_has ls 4 [] → W p l e (headSpec wsX4_run { frames := 3, cells := 0, slots := 0, locals := 66 }).room s m args below meth c H locs 0 0 (MQ below (Qw D A none (wP q y1 ++ wC cI q2 z2)) args s 0 0 A) (F0 m 36 ls []) := by
    intro z1_36 H locs ls hf hP hD hS hl
    rw [ej36] at hf
    exact rW_v hx hb hr hlocks hP hD hS (congrArg (fun (q9 : (OS)) => wP q q9 ++ wC cI q2 z2) (so_ob hf)) dX4_run_36
  have hL14 : ∀ (n_14 : Nat) (v2_14 : Int32) (v3_14 : Int32) (z1_14 : OS) (H : Heap) (locs : List Loc) (ls : Array Slot), lX4_run_14 fu z2 j36 n_14 v2_14 v3_14 z1_14 = some y1 → va_P D vwCl (wP q z1_14 ++ wC cI q2 z2) H → va_D A (wP q z1_14 ++ wC cI q2 z2) → va_S A s.heap H locs → lv_has ls 4 [(0, .ref (q 0)), (1, .ref (q2 0)), (2, .int v2_14), (3, .int v3_14)] → W p l e (headSpec wsX4_run { frames := 3, cells := 0, slots := 0, locals := 66 }).room s m args below meth c H locs 0 0 (MQ below (Qw D A none (wP q y1 ++ wC cI q2 z2)) args s 0 0 A) (F0 m 14 ls []) := by
    intro n_14
    induction n_14 with
    | zero =>
      intro v2_14 v3_14 z1_14 H locs ls hf
      exact no_ob hf
    | succ n_14 ih14 =>
      intro v2_14 v3_14 z1_14 H locs ls hf hP hD hS hl
      rw [lX4_run_14] at hf
      refine lv_iload_n hx hb dX4_run_14 rfl (lv_at hl 2 rfl) ?_
      refine lv_if_eq (tgt := 36) hx hb dX4_run_15 (by decide) (fun c_15 => ?_) (fun c_15 => ?_)
      · have hf := ip c_15 hf
        exact hp36 z1_14 _ _ _ hf hP hD hS (lv_sub hl [] rfl)
      · have hf := iq c_15 hf
        refine lv_iload_n hx hb dX4_run_18 rfl (lv_at hl 3 rfl) ?_
        refine lv_bipush (v := 24) hx hb dX4_run_19 (by decide) ?_
        refine lv_icmp_gt (tgt := 36) hx hb dX4_run_21 (by decide) (fun c_21 => ?_) (fun c_21 => ?_)
        · have hf := ip c_21 hf
          exact hp36 z1_14 _ _ _ hf hP hD hS (lv_sub hl [] rfl)
        · have hf := iq c_21 hf
          refine lv_aload_n hx hb dX4_run_24 rfl (lv_at hl 0 rfl) ?_
          refine lv_aload_n hx hb dX4_run_25 rfl (lv_at hl 1 rfl) ?_
          obtain ⟨⟨r_3, z_4⟩, hc_6, hf⟩ := bd_ob hf
          have hf := nm_st hf
          have hf := nm_st hf
          refine weV (As := [.ref (q2 0)]) (rest := []) ⟨hx, hb, hml, hown, hts⟩ (mX4_runRound l D cI cB cZ cO q q2 _ fu z1_14 z2 hc_6) (cwV 1 hts gX4_run_X4_runRound rfl rfl rfl (by decide +kernel) ⟨Nat.le_of_ble_eq_true rfl, Nat.le_of_ble_eq_true rfl⟩) hK hP hD hS hA (va_recv hK hP (ci := 3) (q0 := 0) rfl rfl) rfl hl.1 rfl (Nat.le_of_ble_eq_true rfl) dX4_run_26 ⟨Nat.zero_le _, Nat.zero_le _⟩ (fun H locs hP hD hS => ?_)
          refine lv_istore_n (lv' := [(2, .int r_3), (0, .ref (q 0)), (1, .ref (q2 0)), (3, .int v3_14)]) hx hb dX4_run_29 rfl hl (by decide) rfl (fun ls hl => ?_)
          obtain ⟨v3_7, ev3_7, hf⟩ := nm_ob hf
          refine lv_iinc (v := v3_7) (lv' := [(3, .int v3_7), (2, .int r_3), (0, .ref (q 0)), (1, .ref (q2 0))]) hx hb dX4_run_30 hl (k := 3) rfl (by rw [ev3_7]; rfl) (by decide) rfl (fun ls hl => ?_)
          refine lv_goto (tgt := 14) hx hb dX4_run_33 (by decide) ?_
          exact ih14 r_3 v3_7 z_4 _ _ _ hf hP hD hS (lv_sub hl [2, 3, 1, 0] rfl)
  exact hL14 fu (1 : Int32) (0 : Int32) z_2 _ _ _ hf hP hD hS (lv_sub hl [2, 3, 1, 0] rfl)
def fX4_isContradictory (fu : Nat) (z : OS) (z2 : OS) : Option (Int32) :=
  jn (κ := Option (Int32)) (gd (isZ (1 : Int32)) (some (1 : Int32))) (fun j27 => (if ¬ ((z.1 0) &&& (z.1 1)) = (0 : Int32) then j27 else bd (fX0_isSomeWithin fu z2 (z.1 1) (z.1 0)) (fun (r_1 : Int32) => (if r_1 = (0 : Int32) then gd (isZ (0 : Int32)) (some (0 : Int32)) else j27))))
set_option maxRecDepth 100000 in
set_option maxHeartbeats 4000000 in
theorem mX4_isContradictory (l : Launch) (D : va_G) (cI cB cZ cO : ClassId) (q : Nat → Nat) (q2 : Nat → Nat) (fu : Nat) (z : OS) (z2 : OS) {r : Int32} (hf : fX4_isContradictory fu z z2 = some r) : Met l yX4_isContradictory wsX4_isContradictory ({ frames := 2, cells := 0, slots := 0, locals := 46 }) (va_Pc [.ref (q 0), .ref (q2 0)] (Pr D (gT cI cB cZ cO) (wP q z ++ wC cI q2 z2))) (Qr (some (.int r))) 0 0 (fun _ => False) := by
  unfold fX4_isContradictory at hf
  refine metR (ret := (some .boolean)) (own := RX4) rfl (by decide) rfl (Nat.le_of_ble_eq_true rfl) (fun p e s m args below meth c ls hx hb hr hml hown hlocks hts hP hK hl => ?_)
  have k9 := (hts (.fieldLink RX4 9 "ResolutionProver$Propagation" "trueMask" "I") (List.mem_of_getElem? (i := 1) rfl))
  have k15 := (hts (.fieldLink RX4 15 "ResolutionProver$Propagation" "falseMask" "I") (List.mem_of_getElem? (i := 2) rfl))
  have hiX4 : ∀ w ∈ wsX40, w ∈ wsX4_isContradictory := (memIn_p [15, 16] rfl)
  have hl : lv_has ls 2 [(0, .ref (q 0)), (1, .ref (q2 0))] := hl
  refine lv_aload_n hx hb dX4_isContradictory_0 rfl (lv_at hl 0 rfl) ?_
  refine va_get (D := D) (ci := 3) (v := .int (z.1 0)) (C := RX4) (T := TX4) (N := 2) hx hb hts hiX4 hown hK hP 0 rfl rfl 0 (by decide) k9 (fun _ h9 => h9) rfl dX4_isContradictory_1 ?_
  refine lv_aload_n hx hb dX4_isContradictory_4 rfl (lv_at hl 0 rfl) ?_
  refine va_get (D := D) (ci := 3) (v := .int (z.1 1)) (C := RX4) (T := TX4) (N := 2) hx hb hts hiX4 hown hK hP 0 rfl rfl 1 (by decide) k15 (fun _ h9 => h9) rfl dX4_isContradictory_5 ?_
  refine lv_iand hx hb dX4_isContradictory_8 ?_
  obtain ⟨j27, ej27, hf⟩ := jn_ob hf
  have hp27 : ∀  (ls : Array Slot), j27 = some r → lv_has ls 2 [] → W p l e (headSpec wsX4_isContradictory { frames := 2, cells := 0, slots := 0, locals := 46 }).room s m args below meth c s.heap [] 0 0 (MQ below (Qr (some (.int r))) args s 0 0 (fun _ => False)) (F0 m 27 ls []) := by
    intro ls hf hl
    rw [ej27] at hf
    refine lv_iconst (v := 1) hx hb dX4_isContradictory_27 (by decide) ?_
    refine lv_goto (tgt := 32) hx hb dX4_isContradictory_28 (by decide) ?_
    obtain ⟨hz, hf⟩ := gd_ob hf
    exact rR_z hx hb hr hlocks hz (so_ob hf) dX4_isContradictory_32
  refine lv_if_ne (tgt := 27) hx hb dX4_isContradictory_9 (by decide) (fun c_9 => ?_) (fun c_9 => ?_)
  · have hf := ip c_9 hf
    exact hp27 _ hf (lv_sub hl [] rfl)
  · have hf := iqn c_9 hf
    refine lv_aload_n hx hb dX4_isContradictory_12 rfl (lv_at hl 1 rfl) ?_
    refine lv_aload_n hx hb dX4_isContradictory_13 rfl (lv_at hl 0 rfl) ?_
    refine va_get (D := D) (ci := 3) (v := .int (z.1 1)) (C := RX4) (T := TX4) (N := 2) hx hb hts hiX4 hown hK hP 0 rfl rfl 1 (by decide) k15 (fun _ h9 => h9) rfl dX4_isContradictory_14 ?_
    refine lv_aload_n hx hb dX4_isContradictory_17 rfl (lv_at hl 0 rfl) ?_
    refine va_get (D := D) (ci := 3) (v := .int (z.1 0)) (C := RX4) (T := TX4) (N := 2) hx hb hts hiX4 hown hK hP 0 rfl rfl 0 (by decide) k9 (fun _ h9 => h9) rfl dX4_isContradictory_18 ?_
    obtain ⟨r_1, hc_2, hf⟩ := bd_ob hf
    refine rdV (As := [.int (z.1 1), .int (z.1 0)]) (rest := []) ⟨hx, hb, hml, hown, hts⟩ (mX0_isSomeWithin l D cI cB cZ cO q2 fu z2 (z.1 1) (z.1 0) hc_2) (cwV 2 hts gX4_isContradictory_X0_isSomeWithin rfl rfl rfl (by decide +kernel) ⟨Nat.le_of_ble_eq_true rfl, Nat.le_of_ble_eq_true rfl⟩) hK (hP.sub [1, 2, 3, 4, 5, 6, 7] rfl) (va_recv hK hP (ci := 0) (q0 := 1) rfl rfl) rfl hl.1 rfl (Nat.le_of_ble_eq_true rfl) dX4_isContradictory_21 ⟨Nat.zero_le _, Nat.zero_le _⟩ ?_
    refine lv_if_eq (tgt := 31) hx hb dX4_isContradictory_24 (by decide) (fun c_24 => ?_) (fun c_24 => ?_)
    · have hf := ip c_24 hf
      refine lv_iconst (v := 0) hx hb dX4_isContradictory_31 (by decide) ?_
      obtain ⟨hz, hf⟩ := gd_ob hf
      exact rR_z hx hb hr hlocks hz (so_ob hf) dX4_isContradictory_32
    · have hf := iq c_24 hf
      exact hp27 _ hf (lv_sub hl [] rfl)
def fX5_begin (fu : Nat) (z : OS) : Option ((OS)) :=
  nm (sI z 0 (0 : Int32)) (fun (z_1 : OS) => nm (sI z_1 1 (1 : Int32)) (fun (z_2 : OS) => some z_2))
set_option maxRecDepth 100000 in
set_option maxHeartbeats 4000000 in
theorem mX5_begin (l : Launch) (D : va_G) (cI cB cZ cO : ClassId) (q : Nat → Nat) (sz : Nat) (fu : Nat) (z : OS) {y1 : OS} (hf : fX5_begin fu z = some y1) : Met l yX5_begin wsX5_begin ({ frames := 0, cells := 0, slots := 0, locals := 0 }) (va_Pc [.ref (q 0)] (Pw D (gT cI cB cZ cO) (wA q z) sz)) (Qw D (va_A (wA q z) sz) none (wA q y1)) 0 0 (va_A (wA q z) sz) := by
  unfold fX5_begin at hf
  refine metW (ret := none) (own := RX5) rfl (by decide) rfl (Nat.le_of_ble_eq_true rfl) (fun p e s m args below meth c ls A hx hb hr hml hown hlocks hts hK hA hP hD hS hl => ?_)
  have k9 := (hts (.fieldLink RX5 9 "ResolutionProver$Saturation" "first" "I") (List.mem_of_getElem? (i := 1) rfl))
  have k15 := (hts (.fieldLink RX5 15 "ResolutionProver$Saturation" "second" "I") (List.mem_of_getElem? (i := 2) rfl))
  have hiX5 : ∀ w ∈ wsX50, w ∈ wsX5_begin := (memIn_p [3, 4] rfl)
  have hl : lv_has ls 1 [(0, .ref (q 0))] := hl
  refine lv_aload_n hx hb dX5_begin_0 rfl (lv_at hl 0 rfl) ?_
  refine lv_iconst (v := 0) hx hb dX5_begin_1 (by decide) ?_
  refine va_put (D := D) (ci := 4) (v := .int (0 : Int32)) (ty := .int) (C := RX5) (T := TX5) (N := 2) hx hb hts hiX5 tyX5 tyX5_ok nmX5 hown hK hP hD hS 0 rfl rfl 0 (by decide) k9 (fun _ h9 => h9) rfl (by decide +kernel) rfl rfl (Nat.le_of_ble_eq_true rfl) dX5_begin_2 (fun H locs hP hD hS => ?_)
  obtain ⟨z_1, ez_1, hf⟩ := nm_ob hf
  have hP : va_P D vwCl (wA q z_1) H := by rw [ez_1]; exact hP
  have hD : va_D A (wA q z_1) := by rw [ez_1]; exact hD
  refine lv_aload_n hx hb dX5_begin_5 rfl (lv_at hl 0 rfl) ?_
  refine lv_iconst (v := 1) hx hb dX5_begin_6 (by decide) ?_
  refine va_put (D := D) (ci := 4) (v := .int (1 : Int32)) (ty := .int) (C := RX5) (T := TX5) (N := 2) hx hb hts hiX5 tyX5 tyX5_ok nmX5 hown hK hP hD hS 0 rfl rfl 1 (by decide) k15 (fun _ h9 => h9) rfl (by decide +kernel) rfl rfl (Nat.le_of_ble_eq_true rfl) dX5_begin_7 (fun H locs hP hD hS => ?_)
  obtain ⟨z_2, ez_2, hf⟩ := nm_ob hf
  have hP : va_P D vwCl (wA q z_2) H := by rw [ez_2]; exact hP
  have hD : va_D A (wA q z_2) := by rw [ez_2]; exact hD
  exact rW_v hx hb hr hlocks hP hD hS (congrArg (fun (q9 : (OS)) => wA q q9) (so_ob hf)) dX5_begin_10
def lX5_findStep_30 (fu : Nat) (z2 : OS) (j102 : OS → Option (Int32 × (OS))) : Nat → OS → Option (Int32 × (OS))
  | 0, _ => none
  | n_30 + 1, z1_30 => (if (z1_30.1 1) ≤ (z1_30.1 0) then j102 z1_30 else bd (fX0_clashOnce fu z2 (z1_30.1 0) (z1_30.1 1)) (fun (r_7 : Int32) => jn (κ := Option (Int32 × (OS))) (nm (sI z1_30 0 ((z1_30.1 0) + (1 : Int32))) (fun (z_9 : OS) => lX5_findStep_30 fu z2 j102 n_30 z_9)) (fun j89 => (if r_7 = (0 : Int32) then j89 else bd (fX0_mergedPositive fu z2 (z1_30.1 0) (z1_30.1 1)) (fun (r_10 : Int32) => bd (fX0_mergedNegative fu z2 (z1_30.1 0) (z1_30.1 1)) (fun (r_12 : Int32) => bd (fX0_isSomeWithin fu z2 r_10 r_12) (fun (r_14 : Int32) => (if ¬ r_14 = (0 : Int32) then j89 else gd (isZ (1 : Int32)) (some ((1 : Int32), z1_30))))))))))
def lX5_findStep_19 (fu : Nat) (z2 : OS) (j120 : OS → Option (Int32 × (OS))) : Nat → OS → Option (Int32 × (OS))
  | 0, _ => none
  | n_19 + 1, z1_19 => (if (z2.1 7) ≤ (z1_19.1 1) then j120 z1_19 else jn (κ := OS → Option (Int32 × (OS))) (fun (z1_102 : OS) => nm (sI z1_102 0 (0 : Int32)) (fun (z_5 : OS) => nm (sI z_5 1 ((z_5.1 1) + (1 : Int32))) (fun (z_6 : OS) => lX5_findStep_19 fu z2 j120 n_19 z_6))) (fun j102 => lX5_findStep_30 fu z2 j102 fu z1_19))
def fX5_findStep (fu : Nat) (z : OS) (z2 : OS) : Option (Int32 × (OS)) :=
  bd (fX0_isFull fu z2) (fun (r_1 : Int32) => (if ¬ r_1 = (0 : Int32) then gd (isZ (0 : Int32)) (some ((0 : Int32), z)) else bd (fX0_indexOf fu z2 (0 : Int32) (0 : Int32)) (fun (r_3 : Int32) => (if r_3 = (-1 : Int32) then jn (κ := OS → Option (Int32 × (OS))) (fun (z1_120 : OS) => gd (isZ (0 : Int32)) (some ((0 : Int32), z1_120))) (fun j120 => lX5_findStep_19 fu z2 j120 fu z) else gd (isZ (0 : Int32)) (some ((0 : Int32), z))))))
set_option maxRecDepth 100000 in
set_option maxHeartbeats 4000000 in
theorem mX5_findStep (l : Launch) (D : va_G) (cI cB cZ cO : ClassId) (q : Nat → Nat) (q2 : Nat → Nat) (sz : Nat) (fu : Nat) (z : OS) (z2 : OS) {r : Int32} {y1 : OS} (hf : fX5_findStep fu z z2 = some (r, y1)) : Met l yX5_findStep wsX5_findStep ({ frames := 2, cells := 0, slots := 0, locals := 46 }) (va_Pc [.ref (q 0), .ref (q2 0)] (Pw D (gT cI cB cZ cO) (wA q z ++ wC cI q2 z2) sz)) (Qw D (va_A (wA q z ++ wC cI q2 z2) sz) (some (.int r)) (wA q y1 ++ wC cI q2 z2)) 0 0 (va_A (wA q z ++ wC cI q2 z2) sz) := by
  unfold fX5_findStep at hf
  refine metW (ret := (some .boolean)) (own := RX5) rfl (by decide) rfl (Nat.le_of_ble_eq_true rfl) (fun p e s m args below meth c ls A hx hb hr hml hown hlocks hts hK hA hP hD hS hl => ?_)
  have k15 := (hts (.fieldLink RX5 15 "ResolutionProver$Saturation" "second" "I") (List.mem_of_getElem? (i := 1) rfl))
  have k28 := (hts (.fieldLink RX5 28 "ResolutionProver$Clauses" "count" "I") (List.mem_of_getElem? (i := 2) rfl))
  have k9 := (hts (.fieldLink RX5 9 "ResolutionProver$Saturation" "first" "I") (List.mem_of_getElem? (i := 3) rfl))
  have hiX5 : ∀ w ∈ wsX50, w ∈ wsX5_findStep := (memIn_p [47, 48] rfl)
  have hiX0 : ∀ w ∈ wsX00, w ∈ wsX5_findStep := (memIn_p [49, 50, 51, 52, 53, 54, 55, 56] rfl)
  have hl : lv_has ls 2 [(0, .ref (q 0)), (1, .ref (q2 0))] := hl
  refine lv_aload_n hx hb dX5_findStep_0 rfl (lv_at hl 1 rfl) ?_
  obtain ⟨r_1, hc_2, hf⟩ := bd_ob hf
  refine rdV (As := []) (rest := []) ⟨hx, hb, hml, hown, hts⟩ (mX0_isFull l D cI cB cZ cO q2 fu z2 hc_2) (cwV 0 hts gX5_findStep_X0_isFull rfl rfl rfl (by decide +kernel) ⟨Nat.le_of_ble_eq_true rfl, Nat.le_of_ble_eq_true rfl⟩) hK (hP.sub [1, 2, 3, 4, 5, 6, 7] rfl) (va_recv hK hP (ci := 0) (q0 := 1) rfl rfl) rfl hl.1 rfl (Nat.le_of_ble_eq_true rfl) dX5_findStep_1 ⟨Nat.zero_le _, Nat.zero_le _⟩ ?_
  refine lv_if_ne (tgt := 17) hx hb dX5_findStep_4 (by decide) (fun c_4 => ?_) (fun c_4 => ?_)
  · have hf := ip c_4 hf
    refine lv_iconst (v := 0) hx hb dX5_findStep_17 (by decide) ?_
    obtain ⟨hz, hf⟩ := gd_ob hf
    exact rW_z hx hb hr hlocks hP hD hS hz (congrArg (fun q9 => q9.1) (so_ob hf)) (congrArg (fun (q9 : Int32 × (OS)) => wA q q9.2 ++ wC cI q2 z2) (so_ob hf)) dX5_findStep_18
  · have hf := iqn c_4 hf
    refine lv_aload_n hx hb dX5_findStep_7 rfl (lv_at hl 1 rfl) ?_
    refine lv_iconst (v := 0) hx hb dX5_findStep_8 (by decide) ?_
    refine lv_iconst (v := 0) hx hb dX5_findStep_9 (by decide) ?_
    obtain ⟨r_3, hc_4, hf⟩ := bd_ob hf
    refine rdV (As := [.int (0 : Int32), .int (0 : Int32)]) (rest := []) ⟨hx, hb, hml, hown, hts⟩ (mX0_indexOf l D cI cB cZ cO q2 fu z2 (0 : Int32) (0 : Int32) hc_4) (cwV 2 hts gX5_findStep_X0_indexOf rfl rfl rfl (by decide +kernel) ⟨Nat.le_of_ble_eq_true rfl, Nat.le_of_ble_eq_true rfl⟩) hK (hP.sub [1, 2, 3, 4, 5, 6, 7] rfl) (va_recv hK hP (ci := 0) (q0 := 1) rfl rfl) rfl hl.1 rfl (Nat.le_of_ble_eq_true rfl) dX5_findStep_10 ⟨Nat.zero_le _, Nat.zero_le _⟩ ?_
    refine lv_iconst (v := (-1)) hx hb dX5_findStep_13 (by decide) ?_
    refine lv_icmp_eq (tgt := 19) hx hb dX5_findStep_14 (by decide) (fun c_14 => ?_) (fun c_14 => ?_)
    · have hf := ip c_14 hf
      obtain ⟨j120, ej120, hf⟩ := jn_ob hf
      have hp120 : ∀ (z1_120 : OS) (H : Heap) (locs : List Loc) (ls : Array Slot), j120 z1_120 = some (r, y1) → va_P D vwCl (wA q z1_120 ++ wC cI q2 z2) H → va_D A (wA q z1_120 ++ wC cI q2 z2) → va_S A s.heap H locs → lv_has ls 2 [] → W p l e (headSpec wsX5_findStep { frames := 2, cells := 0, slots := 0, locals := 46 }).room s m args below meth c H locs 0 0 (MQ below (Qw D A (some (.int r)) (wA q y1 ++ wC cI q2 z2)) args s 0 0 A) (F0 m 120 ls []) := by
        intro z1_120 H locs ls hf hP hD hS hl
        rw [ej120] at hf
        refine lv_iconst (v := 0) hx hb dX5_findStep_120 (by decide) ?_
        obtain ⟨hz, hf⟩ := gd_ob hf
        exact rW_z hx hb hr hlocks hP hD hS hz (congrArg (fun q9 => q9.1) (so_ob hf)) (congrArg (fun (q9 : Int32 × (OS)) => wA q q9.2 ++ wC cI q2 z2) (so_ob hf)) dX5_findStep_121
      have hL19 : ∀ (n_19 : Nat) (z1_19 : OS) (H : Heap) (locs : List Loc) (ls : Array Slot), lX5_findStep_19 fu z2 j120 n_19 z1_19 = some (r, y1) → va_P D vwCl (wA q z1_19 ++ wC cI q2 z2) H → va_D A (wA q z1_19 ++ wC cI q2 z2) → va_S A s.heap H locs → lv_has ls 2 [(0, .ref (q 0)), (1, .ref (q2 0))] → W p l e (headSpec wsX5_findStep { frames := 2, cells := 0, slots := 0, locals := 46 }).room s m args below meth c H locs 0 0 (MQ below (Qw D A (some (.int r)) (wA q y1 ++ wC cI q2 z2)) args s 0 0 A) (F0 m 19 ls []) := by
        intro n_19
        induction n_19 with
        | zero =>
          intro z1_19 H locs ls hf
          exact no_ob hf
        | succ n_19 ih19 =>
          intro z1_19 H locs ls hf hP hD hS hl
          rw [lX5_findStep_19] at hf
          refine lv_aload_n hx hb dX5_findStep_19 rfl (lv_at hl 0 rfl) ?_
          refine va_get (D := D) (ci := 4) (v := .int (z1_19.1 1)) (C := RX5) (T := TX5) (N := 2) hx hb hts hiX5 hown hK hP 0 rfl rfl 1 (by decide) k15 (fun _ h9 => h9) rfl dX5_findStep_20 ?_
          refine lv_aload_n hx hb dX5_findStep_23 rfl (lv_at hl 1 rfl) ?_
          refine va_get (D := D) (ci := 0) (v := .int (z2.1 7)) (C := RX0) (T := TX0) (N := 8) hx hb hts hiX0 hown hK hP 1 rfl rfl 7 (by decide) k28 (fun _ h9 => h9) rfl dX5_findStep_24 ?_
          refine lv_icmp_ge (tgt := 120) hx hb dX5_findStep_27 (by decide) (fun c_27 => ?_) (fun c_27 => ?_)
          · have hf := ip c_27 hf
            exact hp120 z1_19 _ _ _ hf hP hD hS (lv_sub hl [] rfl)
          · have hf := iq c_27 hf
            obtain ⟨j102, ej102, hf⟩ := jn_ob hf
            have hp102 : ∀ (z1_102 : OS) (H : Heap) (locs : List Loc) (ls : Array Slot), j102 z1_102 = some (r, y1) → va_P D vwCl (wA q z1_102 ++ wC cI q2 z2) H → va_D A (wA q z1_102 ++ wC cI q2 z2) → va_S A s.heap H locs → lv_has ls 2 [(0, .ref (q 0)), (1, .ref (q2 0))] → W p l e (headSpec wsX5_findStep { frames := 2, cells := 0, slots := 0, locals := 46 }).room s m args below meth c H locs 0 0 (MQ below (Qw D A (some (.int r)) (wA q y1 ++ wC cI q2 z2)) args s 0 0 A) (F0 m 102 ls []) := by
              intro z1_102 H locs ls hf hP hD hS hl
              rw [ej102] at hf
              refine lv_aload_n hx hb dX5_findStep_102 rfl (lv_at hl 0 rfl) ?_
              refine lv_iconst (v := 0) hx hb dX5_findStep_103 (by decide) ?_
              refine va_put (D := D) (ci := 4) (v := .int (0 : Int32)) (ty := .int) (C := RX5) (T := TX5) (N := 2) hx hb hts hiX5 tyX5 tyX5_ok nmX5 hown hK hP hD hS 0 rfl rfl 0 (by decide) k9 (fun _ h9 => h9) rfl (by decide +kernel) rfl rfl (Nat.le_of_ble_eq_true rfl) dX5_findStep_104 (fun H locs hP hD hS => ?_)
              obtain ⟨z_5, ez_5, hf⟩ := nm_ob hf
              have hP : va_P D vwCl (wA q z_5 ++ wC cI q2 z2) H := by rw [ez_5]; exact hP
              have hD : va_D A (wA q z_5 ++ wC cI q2 z2) := by rw [ez_5]; exact hD
              refine lv_aload_n hx hb dX5_findStep_107 rfl (lv_at hl 0 rfl) ?_
              refine lv_dup hx hb dX5_findStep_108 rfl ?_
              refine va_get (D := D) (ci := 4) (v := .int (z_5.1 1)) (C := RX5) (T := TX5) (N := 2) hx hb hts hiX5 hown hK hP 0 rfl rfl 1 (by decide) k15 (fun _ h9 => h9) rfl dX5_findStep_109 ?_
              refine lv_iconst (v := 1) hx hb dX5_findStep_112 (by decide) ?_
              refine lv_iadd hx hb dX5_findStep_113 ?_
              refine va_put (D := D) (ci := 4) (v := .int ((z_5.1 1) + (1 : Int32))) (ty := .int) (C := RX5) (T := TX5) (N := 2) hx hb hts hiX5 tyX5 tyX5_ok nmX5 hown hK hP hD hS 0 rfl rfl 1 (by decide) k15 (fun _ h9 => h9) rfl (by decide +kernel) rfl rfl (Nat.le_of_ble_eq_true rfl) dX5_findStep_114 (fun H locs hP hD hS => ?_)
              obtain ⟨z_6, ez_6, hf⟩ := nm_ob hf
              have hP : va_P D vwCl (wA q z_6 ++ wC cI q2 z2) H := by rw [ez_6]; exact hP
              have hD : va_D A (wA q z_6 ++ wC cI q2 z2) := by rw [ez_6]; exact hD
              refine lv_goto (tgt := 19) hx hb dX5_findStep_117 (by decide) ?_
              exact ih19 z_6 _ _ _ hf hP hD hS hl
            have hL30 : ∀ (n_30 : Nat) (z1_30 : OS) (H : Heap) (locs : List Loc) (ls : Array Slot), lX5_findStep_30 fu z2 j102 n_30 z1_30 = some (r, y1) → va_P D vwCl (wA q z1_30 ++ wC cI q2 z2) H → va_D A (wA q z1_30 ++ wC cI q2 z2) → va_S A s.heap H locs → lv_has ls 2 [(0, .ref (q 0)), (1, .ref (q2 0))] → W p l e (headSpec wsX5_findStep { frames := 2, cells := 0, slots := 0, locals := 46 }).room s m args below meth c H locs 0 0 (MQ below (Qw D A (some (.int r)) (wA q y1 ++ wC cI q2 z2)) args s 0 0 A) (F0 m 30 ls []) := by
              intro n_30
              induction n_30 with
              | zero =>
                intro z1_30 H locs ls hf
                exact no_ob hf
              | succ n_30 ih30 =>
                intro z1_30 H locs ls hf hP hD hS hl
                rw [lX5_findStep_30] at hf
                refine lv_aload_n hx hb dX5_findStep_30 rfl (lv_at hl 0 rfl) ?_
                refine va_get (D := D) (ci := 4) (v := .int (z1_30.1 0)) (C := RX5) (T := TX5) (N := 2) hx hb hts hiX5 hown hK hP 0 rfl rfl 0 (by decide) k9 (fun _ h9 => h9) rfl dX5_findStep_31 ?_
                refine lv_aload_n hx hb dX5_findStep_34 rfl (lv_at hl 0 rfl) ?_
                refine va_get (D := D) (ci := 4) (v := .int (z1_30.1 1)) (C := RX5) (T := TX5) (N := 2) hx hb hts hiX5 hown hK hP 0 rfl rfl 1 (by decide) k15 (fun _ h9 => h9) rfl dX5_findStep_35 ?_
                refine lv_icmp_ge (tgt := 102) hx hb dX5_findStep_38 (by decide) (fun c_38 => ?_) (fun c_38 => ?_)
                · have hf := ip c_38 hf
                  exact hp102 z1_30 _ _ _ hf hP hD hS hl
                · have hf := iq c_38 hf
                  refine lv_aload_n hx hb dX5_findStep_41 rfl (lv_at hl 1 rfl) ?_
                  refine lv_aload_n hx hb dX5_findStep_42 rfl (lv_at hl 0 rfl) ?_
                  refine va_get (D := D) (ci := 4) (v := .int (z1_30.1 0)) (C := RX5) (T := TX5) (N := 2) hx hb hts hiX5 hown hK hP 0 rfl rfl 0 (by decide) k9 (fun _ h9 => h9) rfl dX5_findStep_43 ?_
                  refine lv_aload_n hx hb dX5_findStep_46 rfl (lv_at hl 0 rfl) ?_
                  refine va_get (D := D) (ci := 4) (v := .int (z1_30.1 1)) (C := RX5) (T := TX5) (N := 2) hx hb hts hiX5 hown hK hP 0 rfl rfl 1 (by decide) k15 (fun _ h9 => h9) rfl dX5_findStep_47 ?_
                  obtain ⟨r_7, hc_8, hf⟩ := bd_ob hf
                  refine rdV (As := [.int (z1_30.1 0), .int (z1_30.1 1)]) (rest := []) ⟨hx, hb, hml, hown, hts⟩ (mX0_clashOnce l D cI cB cZ cO q2 fu z2 (z1_30.1 0) (z1_30.1 1) hc_8) (cwV 2 hts gX5_findStep_X0_clashOnce rfl rfl rfl (by decide +kernel) ⟨Nat.le_of_ble_eq_true rfl, Nat.le_of_ble_eq_true rfl⟩) hK (hP.sub [1, 2, 3, 4, 5, 6, 7] rfl) (va_recv hK hP (ci := 0) (q0 := 1) rfl rfl) rfl hl.1 rfl (Nat.le_of_ble_eq_true rfl) dX5_findStep_50 ⟨Nat.zero_le _, Nat.zero_le _⟩ ?_
                  obtain ⟨j89, ej89, hf⟩ := jn_ob hf
                  have hp89 : ∀  (H : Heap) (locs : List Loc) (ls : Array Slot), j89 = some (r, y1) → va_P D vwCl (wA q z1_30 ++ wC cI q2 z2) H → va_D A (wA q z1_30 ++ wC cI q2 z2) → va_S A s.heap H locs → lv_has ls 2 [(0, .ref (q 0)), (1, .ref (q2 0))] → W p l e (headSpec wsX5_findStep { frames := 2, cells := 0, slots := 0, locals := 46 }).room s m args below meth c H locs 0 0 (MQ below (Qw D A (some (.int r)) (wA q y1 ++ wC cI q2 z2)) args s 0 0 A) (F0 m 89 ls []) := by
                    intro H locs ls hf hP hD hS hl
                    rw [ej89] at hf
                    refine lv_aload_n hx hb dX5_findStep_89 rfl (lv_at hl 0 rfl) ?_
                    refine lv_dup hx hb dX5_findStep_90 rfl ?_
                    refine va_get (D := D) (ci := 4) (v := .int (z1_30.1 0)) (C := RX5) (T := TX5) (N := 2) hx hb hts hiX5 hown hK hP 0 rfl rfl 0 (by decide) k9 (fun _ h9 => h9) rfl dX5_findStep_91 ?_
                    refine lv_iconst (v := 1) hx hb dX5_findStep_94 (by decide) ?_
                    refine lv_iadd hx hb dX5_findStep_95 ?_
                    refine va_put (D := D) (ci := 4) (v := .int ((z1_30.1 0) + (1 : Int32))) (ty := .int) (C := RX5) (T := TX5) (N := 2) hx hb hts hiX5 tyX5 tyX5_ok nmX5 hown hK hP hD hS 0 rfl rfl 0 (by decide) k9 (fun _ h9 => h9) rfl (by decide +kernel) rfl rfl (Nat.le_of_ble_eq_true rfl) dX5_findStep_96 (fun H locs hP hD hS => ?_)
                    obtain ⟨z_9, ez_9, hf⟩ := nm_ob hf
                    have hP : va_P D vwCl (wA q z_9 ++ wC cI q2 z2) H := by rw [ez_9]; exact hP
                    have hD : va_D A (wA q z_9 ++ wC cI q2 z2) := by rw [ez_9]; exact hD
                    refine lv_goto (tgt := 30) hx hb dX5_findStep_99 (by decide) ?_
                    exact ih30 z_9 _ _ _ hf hP hD hS hl
                  refine lv_if_eq (tgt := 89) hx hb dX5_findStep_53 (by decide) (fun c_53 => ?_) (fun c_53 => ?_)
                  · have hf := ip c_53 hf
                    exact hp89 _ _ _ hf hP hD hS hl
                  · have hf := iq c_53 hf
                    refine lv_aload_n hx hb dX5_findStep_56 rfl (lv_at hl 1 rfl) ?_
                    refine lv_aload_n hx hb dX5_findStep_57 rfl (lv_at hl 1 rfl) ?_
                    refine lv_aload_n hx hb dX5_findStep_58 rfl (lv_at hl 0 rfl) ?_
                    refine va_get (D := D) (ci := 4) (v := .int (z1_30.1 0)) (C := RX5) (T := TX5) (N := 2) hx hb hts hiX5 hown hK hP 0 rfl rfl 0 (by decide) k9 (fun _ h9 => h9) rfl dX5_findStep_59 ?_
                    refine lv_aload_n hx hb dX5_findStep_62 rfl (lv_at hl 0 rfl) ?_
                    refine va_get (D := D) (ci := 4) (v := .int (z1_30.1 1)) (C := RX5) (T := TX5) (N := 2) hx hb hts hiX5 hown hK hP 0 rfl rfl 1 (by decide) k15 (fun _ h9 => h9) rfl dX5_findStep_63 ?_
                    obtain ⟨r_10, hc_11, hf⟩ := bd_ob hf
                    refine rdV (As := [.int (z1_30.1 0), .int (z1_30.1 1)]) (rest := [.ref (q2 0)]) ⟨hx, hb, hml, hown, hts⟩ (mX0_mergedPositive l D cI cB cZ cO q2 fu z2 (z1_30.1 0) (z1_30.1 1) hc_11) (cwV 2 hts gX5_findStep_X0_mergedPositive rfl rfl rfl (by decide +kernel) ⟨Nat.le_of_ble_eq_true rfl, Nat.le_of_ble_eq_true rfl⟩) hK (hP.sub [1, 2, 3, 4, 5, 6, 7] rfl) (va_recv hK hP (ci := 0) (q0 := 1) rfl rfl) rfl hl.1 rfl (Nat.le_of_ble_eq_true rfl) dX5_findStep_66 ⟨Nat.zero_le _, Nat.zero_le _⟩ ?_
                    refine lv_aload_n hx hb dX5_findStep_69 rfl (lv_at hl 1 rfl) ?_
                    refine lv_aload_n hx hb dX5_findStep_70 rfl (lv_at hl 0 rfl) ?_
                    refine va_get (D := D) (ci := 4) (v := .int (z1_30.1 0)) (C := RX5) (T := TX5) (N := 2) hx hb hts hiX5 hown hK hP 0 rfl rfl 0 (by decide) k9 (fun _ h9 => h9) rfl dX5_findStep_71 ?_
                    refine lv_aload_n hx hb dX5_findStep_74 rfl (lv_at hl 0 rfl) ?_
                    refine va_get (D := D) (ci := 4) (v := .int (z1_30.1 1)) (C := RX5) (T := TX5) (N := 2) hx hb hts hiX5 hown hK hP 0 rfl rfl 1 (by decide) k15 (fun _ h9 => h9) rfl dX5_findStep_75 ?_
                    obtain ⟨r_12, hc_13, hf⟩ := bd_ob hf
                    refine rdV (As := [.int (z1_30.1 0), .int (z1_30.1 1)]) (rest := [.int r_10, .ref (q2 0)]) ⟨hx, hb, hml, hown, hts⟩ (mX0_mergedNegative l D cI cB cZ cO q2 fu z2 (z1_30.1 0) (z1_30.1 1) hc_13) (cwV 2 hts gX5_findStep_X0_mergedNegative rfl rfl rfl (by decide +kernel) ⟨Nat.le_of_ble_eq_true rfl, Nat.le_of_ble_eq_true rfl⟩) hK (hP.sub [1, 2, 3, 4, 5, 6, 7] rfl) (va_recv hK hP (ci := 0) (q0 := 1) rfl rfl) rfl hl.1 rfl (Nat.le_of_ble_eq_true rfl) dX5_findStep_78 ⟨Nat.zero_le _, Nat.zero_le _⟩ ?_
                    obtain ⟨r_14, hc_15, hf⟩ := bd_ob hf
                    refine rdV (As := [.int r_10, .int r_12]) (rest := []) ⟨hx, hb, hml, hown, hts⟩ (mX0_isSomeWithin l D cI cB cZ cO q2 fu z2 r_10 r_12 hc_15) (cwV 2 hts gX5_findStep_X0_isSomeWithin rfl rfl rfl (by decide +kernel) ⟨Nat.le_of_ble_eq_true rfl, Nat.le_of_ble_eq_true rfl⟩) hK (hP.sub [1, 2, 3, 4, 5, 6, 7] rfl) (va_recv hK hP (ci := 0) (q0 := 1) rfl rfl) rfl hl.1 rfl (Nat.le_of_ble_eq_true rfl) dX5_findStep_81 ⟨Nat.zero_le _, Nat.zero_le _⟩ ?_
                    refine lv_if_ne (tgt := 89) hx hb dX5_findStep_84 (by decide) (fun c_84 => ?_) (fun c_84 => ?_)
                    · have hf := ip c_84 hf
                      exact hp89 _ _ _ hf hP hD hS hl
                    · have hf := iqn c_84 hf
                      refine lv_iconst (v := 1) hx hb dX5_findStep_87 (by decide) ?_
                      obtain ⟨hz, hf⟩ := gd_ob hf
                      exact rW_z hx hb hr hlocks hP hD hS hz (congrArg (fun q9 => q9.1) (so_ob hf)) (congrArg (fun (q9 : Int32 × (OS)) => wA q q9.2 ++ wC cI q2 z2) (so_ob hf)) dX5_findStep_88
            exact hL30 fu z1_19 _ _ _ hf hP hD hS hl
      exact hL19 fu z _ _ _ hf hP hD hS hl
    · have hf := iq c_14 hf
      refine lv_iconst (v := 0) hx hb dX5_findStep_17 (by decide) ?_
      obtain ⟨hz, hf⟩ := gd_ob hf
      exact rW_z hx hb hr hlocks hP hD hS hz (congrArg (fun q9 => q9.1) (so_ob hf)) (congrArg (fun (q9 : Int32 × (OS)) => wA q q9.2 ++ wC cI q2 z2) (so_ob hf)) dX5_findStep_18
def lX5_makeSteps_6 (fu : Nat) (p1 : Int32) (j38 : Int32 → OS → OS → Option (Int32 × (OS) × (OS))) : Nat → Int32 → OS → OS → Option (Int32 × (OS) × (OS))
  | 0, _, _, _ => none
  | n_6 + 1, v3_6, z1_6, z2_6 => (if p1 ≤ v3_6 then j38 v3_6 z1_6 z2_6 else bd (fX5_findStep fu z1_6 z2_6) (fun (w_5 : Int32 × OS) => nm w_5.1 (fun (r_3 : Int32) => nm w_5.2 (fun (z_4 : OS) => (if r_3 = (0 : Int32) then j38 v3_6 z_4 z2_6 else bd (fX0_addResolvent fu z2_6 (z_4.1 0) (z_4.1 1)) (fun (w_9 : Int32 × OS) => nm w_9.1 (fun (r_7 : Int32) => nm w_9.2 (fun (z_8 : OS) => nm (v3_6 + (1 : Int32)) (fun (v3_11 : Int32) => lX5_makeSteps_6 fu p1 j38 n_6 v3_11 z_4 z_8)))))))))
def fX5_makeSteps (fu : Nat) (z : OS) (z2 : OS) (p1 : Int32) : Option (Int32 × (OS) × (OS)) :=
  bd (fX5_begin fu z) (fun (z_1 : OS) => jn (κ := Int32 → OS → OS → Option (Int32 × (OS) × (OS))) (fun (v3_38 : Int32) (z1_38 : OS) (z2_38 : OS) => some (v3_38, z1_38, z2_38)) (fun j38 => lX5_makeSteps_6 fu p1 j38 fu (0 : Int32) z_1 z2))
set_option maxRecDepth 100000 in
set_option maxHeartbeats 4000000 in
theorem mX5_makeSteps (l : Launch) (D : va_G) (cI cB cZ cO : ClassId) (q : Nat → Nat) (q2 : Nat → Nat) (sz : Nat) (fu : Nat) (z : OS) (z2 : OS) (p1 : Int32) {r : Int32} {y1 : OS} {y2 : OS} (hf : fX5_makeSteps fu z z2 p1 = some (r, y1, y2)) : Met l yX5_makeSteps wsX5_makeSteps ({ frames := 3, cells := 0, slots := 0, locals := 70 }) (va_Pc [.ref (q 0), .ref (q2 0), .int p1] (Pw D (gT cI cB cZ cO) (wA q z ++ wC cI q2 z2) sz)) (Qw D (va_A (wA q z ++ wC cI q2 z2) sz) (some (.int r)) (wA q y1 ++ wC cI q2 y2)) 0 0 (va_A (wA q z ++ wC cI q2 z2) sz) := by
  unfold fX5_makeSteps at hf
  refine metW (ret := (some .int)) (own := RX5) rfl (by decide) rfl (Nat.le_of_ble_eq_true rfl) (fun p e s m args below meth c ls A hx hb hr hml hown hlocks hts hK hA hP hD hS hl => ?_)
  have k9 := (hts (.fieldLink RX5 9 "ResolutionProver$Saturation" "first" "I") (List.mem_of_getElem? (i := 1) rfl))
  have k15 := (hts (.fieldLink RX5 15 "ResolutionProver$Saturation" "second" "I") (List.mem_of_getElem? (i := 2) rfl))
  have hiX5 : ∀ w ∈ wsX50, w ∈ wsX5_makeSteps := (memIn_p [79, 80] rfl)
  have hl : lv_has ls 4 [(0, .ref (q 0)), (1, .ref (q2 0)), (2, .int p1)] := hl
  refine lv_aload_n hx hb dX5_makeSteps_0 rfl (lv_at hl 0 rfl) ?_
  obtain ⟨z_1, hc_2, hf⟩ := bd_ob hf
  refine wrV (As := []) (rest := []) (ws2 := wA q z_1 ++ wC cI q2 z2) ⟨hx, hb, hml, hown, hts⟩ (mX5_begin l D cI cB cZ cO q _ fu z hc_2) (cwV 0 hts gX5_makeSteps_X5_begin rfl rfl rfl (by decide +kernel) ⟨Nat.le_of_ble_eq_true rfl, Nat.le_of_ble_eq_true rfl⟩) hK hP hD hS hA [0] [1, 2, 3, 4, 5, 6, 7] [7, 0, 1, 2, 3, 4, 5, 6] rfl (hP.sub [0] rfl) (by decide) rfl (by decide) (by decide) (by decide) rfl (va_recv hK hP (ci := 4) (q0 := 0) rfl rfl) rfl hl.1 rfl (Nat.le_of_ble_eq_true rfl) dX5_makeSteps_1 ⟨Nat.zero_le _, Nat.zero_le _⟩ (fun H locs hP hD hS => ?_)
  refine lv_iconst (v := 0) hx hb dX5_makeSteps_4 (by decide) ?_
  refine lv_istore_n (lv' := [(3, .int (0 : Int32)), (0, .ref (q 0)), (1, .ref (q2 0)), (2, .int p1)]) hx hb dX5_makeSteps_5 rfl hl (by decide) rfl (fun ls hl => ?_)
  obtain ⟨j38, ej38, hf⟩ := jn_ob hf
  have hp38 : ∀ (v3_38 : Int32) (z1_38 : OS) (z2_38 : OS) (H : Heap) (locs : List Loc) (ls : Array Slot), j38 v3_38 z1_38 z2_38 = some (r, y1, y2) → va_P D vwCl (wA q z1_38 ++ wC cI q2 z2_38) H → va_D A (wA q z1_38 ++ wC cI q2 z2_38) → va_S A s.heap H locs → lv_has ls 4 [(3, .int v3_38)] → W p l e (headSpec wsX5_makeSteps { frames := 3, cells := 0, slots := 0, locals := 70 }).room s m args below meth c H locs 0 0 (MQ below (Qw D A (some (.int r)) (wA q y1 ++ wC cI q2 y2)) args s 0 0 A) (F0 m 38 ls []) := by
    intro v3_38 z1_38 z2_38 H locs ls hf hP hD hS hl
    rw [ej38] at hf
    refine lv_iload_n hx hb dX5_makeSteps_38 rfl (lv_at hl 0 rfl) ?_
    exact rW_i hx hb hr hlocks hP hD hS (congrArg (fun q9 => q9.1) (so_ob hf)) (congrArg (fun (q9 : Int32 × (OS) × (OS)) => wA q q9.2.1 ++ wC cI q2 q9.2.2) (so_ob hf)) dX5_makeSteps_39
  have hL6 : ∀ (n_6 : Nat) (v3_6 : Int32) (z1_6 : OS) (z2_6 : OS) (H : Heap) (locs : List Loc) (ls : Array Slot), lX5_makeSteps_6 fu p1 j38 n_6 v3_6 z1_6 z2_6 = some (r, y1, y2) → va_P D vwCl (wA q z1_6 ++ wC cI q2 z2_6) H → va_D A (wA q z1_6 ++ wC cI q2 z2_6) → va_S A s.heap H locs → lv_has ls 4 [(0, .ref (q 0)), (1, .ref (q2 0)), (2, .int p1), (3, .int v3_6)] → W p l e (headSpec wsX5_makeSteps { frames := 3, cells := 0, slots := 0, locals := 70 }).room s m args below meth c H locs 0 0 (MQ below (Qw D A (some (.int r)) (wA q y1 ++ wC cI q2 y2)) args s 0 0 A) (F0 m 6 ls []) := by
    intro n_6
    induction n_6 with
    | zero =>
      intro v3_6 z1_6 z2_6 H locs ls hf
      exact no_ob hf
    | succ n_6 ih6 =>
      intro v3_6 z1_6 z2_6 H locs ls hf hP hD hS hl
      rw [lX5_makeSteps_6] at hf
      refine lv_iload_n hx hb dX5_makeSteps_6 rfl (lv_at hl 3 rfl) ?_
      refine lv_iload_n hx hb dX5_makeSteps_7 rfl (lv_at hl 2 rfl) ?_
      refine lv_icmp_ge (tgt := 38) hx hb dX5_makeSteps_8 (by decide) (fun c_8 => ?_) (fun c_8 => ?_)
      · have hf := ip c_8 hf
        exact hp38 v3_6 z1_6 z2_6 _ _ _ hf hP hD hS (lv_sub hl [3] rfl)
      · have hf := iq c_8 hf
        refine lv_aload_n hx hb dX5_makeSteps_11 rfl (lv_at hl 0 rfl) ?_
        refine lv_aload_n hx hb dX5_makeSteps_12 rfl (lv_at hl 1 rfl) ?_
        obtain ⟨⟨r_3, z_4⟩, hc_6, hf⟩ := bd_ob hf
        have hf := nm_st hf
        have hf := nm_st hf
        refine weV (As := [.ref (q2 0)]) (rest := []) ⟨hx, hb, hml, hown, hts⟩ (mX5_findStep l D cI cB cZ cO q q2 _ fu z1_6 z2_6 hc_6) (cwV 1 hts gX5_makeSteps_X5_findStep rfl rfl rfl (by decide +kernel) ⟨Nat.le_of_ble_eq_true rfl, Nat.le_of_ble_eq_true rfl⟩) hK hP hD hS hA (va_recv hK hP (ci := 4) (q0 := 0) rfl rfl) rfl hl.1 rfl (Nat.le_of_ble_eq_true rfl) dX5_makeSteps_13 ⟨Nat.zero_le _, Nat.zero_le _⟩ (fun H locs hP hD hS => ?_)
        refine lv_if_eq (tgt := 38) hx hb dX5_makeSteps_16 (by decide) (fun c_16 => ?_) (fun c_16 => ?_)
        · have hf := ip c_16 hf
          exact hp38 v3_6 z_4 z2_6 _ _ _ hf hP hD hS (lv_sub hl [3] rfl)
        · have hf := iq c_16 hf
          refine lv_aload_n hx hb dX5_makeSteps_19 rfl (lv_at hl 1 rfl) ?_
          refine lv_aload_n hx hb dX5_makeSteps_20 rfl (lv_at hl 0 rfl) ?_
          refine va_get (D := D) (ci := 4) (v := .int (z_4.1 0)) (C := RX5) (T := TX5) (N := 2) hx hb hts hiX5 hown hK hP 0 rfl rfl 0 (by decide) k9 (fun _ h9 => h9) rfl dX5_makeSteps_21 ?_
          refine lv_aload_n hx hb dX5_makeSteps_24 rfl (lv_at hl 0 rfl) ?_
          refine va_get (D := D) (ci := 4) (v := .int (z_4.1 1)) (C := RX5) (T := TX5) (N := 2) hx hb hts hiX5 hown hK hP 0 rfl rfl 1 (by decide) k15 (fun _ h9 => h9) rfl dX5_makeSteps_25 ?_
          obtain ⟨⟨r_7, z_8⟩, hc_10, hf⟩ := bd_ob hf
          have hf := nm_st hf
          have hf := nm_st hf
          refine wrV (As := [.int (z_4.1 0), .int (z_4.1 1)]) (rest := []) (ws2 := wA q z_4 ++ wC cI q2 z_8) ⟨hx, hb, hml, hown, hts⟩ (mX0_addResolvent l D cI cB cZ cO q2 _ fu z2_6 (z_4.1 0) (z_4.1 1) hc_10) (cwV 2 hts gX5_makeSteps_X0_addResolvent rfl rfl rfl (by decide +kernel) ⟨Nat.le_of_ble_eq_true rfl, Nat.le_of_ble_eq_true rfl⟩) hK hP hD hS hA [1, 2, 3, 4, 5, 6, 7] [0] [0, 1, 2, 3, 4, 5, 6, 7] rfl (hP.sub [1, 2, 3, 4, 5, 6, 7] rfl) (by decide) rfl (by decide) (by decide) (by decide) rfl (va_recv hK hP (ci := 0) (q0 := 1) rfl rfl) rfl hl.1 rfl (Nat.le_of_ble_eq_true rfl) dX5_makeSteps_28 ⟨Nat.zero_le _, Nat.zero_le _⟩ (fun H locs hP hD hS => ?_)
          refine lv_pop hx hb dX5_makeSteps_31 rfl ?_
          obtain ⟨v3_11, ev3_11, hf⟩ := nm_ob hf
          refine lv_iinc (v := v3_11) (lv' := [(3, .int v3_11), (0, .ref (q 0)), (1, .ref (q2 0)), (2, .int p1)]) hx hb dX5_makeSteps_32 hl (k := 3) rfl (by rw [ev3_11]; rfl) (by decide) rfl (fun ls hl => ?_)
          refine lv_goto (tgt := 6) hx hb dX5_makeSteps_35 (by decide) ?_
          exact ih6 v3_11 z_4 z_8 _ _ _ hf hP hD hS (lv_sub hl [1, 2, 3, 0] rfl)
  exact hL6 fu (0 : Int32) z_1 z2 _ _ _ hf hP hD hS (lv_sub hl [1, 2, 3, 0] rfl)
def lX7_addFour_3 (p1 : Int32) (j46 : OS → Option ((OS))) : Nat → Int32 → OS → Option ((OS))
  | 0, _, _ => none
  | n_3 + 1, v2_3, z1_3 => (if v2_3 < (0 : Int32) then j46 z1_3 else (if (500 : Int32) ≤ (z1_3.1 1) then j46 z1_3 else gd (inB (z1_3.1 1) 500) (nm (sA z1_3 0 (upd (z1_3.2 0) ((z1_3.1 1)).toNatClampNeg (vp_nar .byte (((p1 >>> (v2_3 &&& (31 : Int32)))).toInt8.toInt32)))) (fun (z_1 : OS) => nm (sI z_1 1 ((z_1.1 1) + (1 : Int32))) (fun (z_2 : OS) => nm (v2_3 + (-8 : Int32)) (fun (v2_3 : Int32) => lX7_addFour_3 p1 j46 n_3 v2_3 z_2))))))
def fX7_addFour (fu : Nat) (z : OS) (p1 : Int32) : Option ((OS)) :=
  jn (κ := OS → Option ((OS))) (fun (z1_46 : OS) => some z1_46) (fun j46 => lX7_addFour_3 p1 j46 fu (24 : Int32) z)
set_option maxRecDepth 100000 in
set_option maxHeartbeats 4000000 in
theorem mX7_addFour (l : Launch) (D : va_G) (cI cB cZ cO : ClassId) (q : Nat → Nat) (sz : Nat) (fu : Nat) (z : OS) (p1 : Int32) {y1 : OS} (hf : fX7_addFour fu z p1 = some y1) : Met l yX7_addFour wsX7_addFour ({ frames := 0, cells := 0, slots := 0, locals := 0 }) (va_Pc [.ref (q 0), .int p1] (Pw D (gT cI cB cZ cO) (wT cB q z) sz)) (Qw D (va_A (wT cB q z) sz) none (wT cB q y1)) 0 0 (va_A (wT cB q z) sz) := by
  unfold fX7_addFour at hf
  refine metW (ret := none) (own := RX7) rfl (by decide) rfl (Nat.le_of_ble_eq_true rfl) (fun p e s m args below meth c ls A hx hb hr hml hown hlocks hts hK hA hP hD hS hl => ?_)
  have k15 := (hts (.fieldLink RX7 15 "ResolutionProver$Tokens" "length" "I") (List.mem_of_getElem? (i := 1) rfl))
  have k9 := (hts (.fieldLink RX7 9 "ResolutionProver$Tokens" "bytes" "[B") (List.mem_of_getElem? (i := 2) rfl))
  have hiX7 : ∀ w ∈ wsX70, w ∈ wsX7_addFour := (memIn_p [3, 4, 5, 6, 7] rfl)
  have hl : lv_has ls 3 [(0, .ref (q 0)), (1, .int p1)] := hl
  refine lv_bipush (v := 24) hx hb dX7_addFour_0 (by decide) ?_
  refine lv_istore_n (lv' := [(2, .int (24 : Int32)), (0, .ref (q 0)), (1, .int p1)]) hx hb dX7_addFour_2 rfl hl (by decide) rfl (fun ls hl => ?_)
  obtain ⟨j46, ej46, hf⟩ := jn_ob hf
  have hp46 : ∀ (z1_46 : OS) (H : Heap) (locs : List Loc) (ls : Array Slot), j46 z1_46 = some y1 → va_P D vwCl (wT cB q z1_46) H → va_D A (wT cB q z1_46) → va_S A s.heap H locs → lv_has ls 3 [] → W p l e (headSpec wsX7_addFour { frames := 0, cells := 0, slots := 0, locals := 0 }).room s m args below meth c H locs 0 0 (MQ below (Qw D A none (wT cB q y1)) args s 0 0 A) (F0 m 46 ls []) := by
    intro z1_46 H locs ls hf hP hD hS hl
    rw [ej46] at hf
    exact rW_v hx hb hr hlocks hP hD hS (congrArg (fun (q9 : (OS)) => wT cB q q9) (so_ob hf)) dX7_addFour_46
  have hL3 : ∀ (n_3 : Nat) (v2_3 : Int32) (z1_3 : OS) (H : Heap) (locs : List Loc) (ls : Array Slot), lX7_addFour_3 p1 j46 n_3 v2_3 z1_3 = some y1 → va_P D vwCl (wT cB q z1_3) H → va_D A (wT cB q z1_3) → va_S A s.heap H locs → lv_has ls 3 [(0, .ref (q 0)), (1, .int p1), (2, .int v2_3)] → W p l e (headSpec wsX7_addFour { frames := 0, cells := 0, slots := 0, locals := 0 }).room s m args below meth c H locs 0 0 (MQ below (Qw D A none (wT cB q y1)) args s 0 0 A) (F0 m 3 ls []) := by
    intro n_3
    induction n_3 with
    | zero =>
      intro v2_3 z1_3 H locs ls hf
      exact no_ob hf
    | succ n_3 ih3 =>
      intro v2_3 z1_3 H locs ls hf hP hD hS hl
      rw [lX7_addFour_3] at hf
      refine lv_iload_n hx hb dX7_addFour_3 rfl (lv_at hl 2 rfl) ?_
      refine lv_if_lt (tgt := 46) hx hb dX7_addFour_4 (by decide) (fun c_4 => ?_) (fun c_4 => ?_)
      · have hf := ip c_4 hf
        exact hp46 z1_3 _ _ _ hf hP hD hS (lv_sub hl [] rfl)
      · have hf := iq c_4 hf
        refine lv_aload_n hx hb dX7_addFour_7 rfl (lv_at hl 0 rfl) ?_
        refine va_get (D := D) (ci := 6) (v := .int (z1_3.1 1)) (C := RX7) (T := TX7) (N := 5) hx hb hts hiX7 hown hK hP 0 rfl rfl 1 (by decide) k15 (fun _ h9 => h9) rfl dX7_addFour_8 ?_
        refine lv_sipush (v := 500) hx hb dX7_addFour_11 (by decide) ?_
        refine lv_icmp_ge (tgt := 46) hx hb dX7_addFour_14 (by decide) (fun c_14 => ?_) (fun c_14 => ?_)
        · have hf := ip c_14 hf
          exact hp46 z1_3 _ _ _ hf hP hD hS (lv_sub hl [] rfl)
        · have hf := iq c_14 hf
          refine lv_aload_n hx hb dX7_addFour_17 rfl (lv_at hl 0 rfl) ?_
          refine va_get (D := D) (ci := 6) (v := .ref (q 1)) (C := RX7) (T := TX7) (N := 5) hx hb hts hiX7 hown hK hP 0 rfl rfl 0 (by decide) k9 (fun _ h9 => h9) rfl dX7_addFour_18 ?_
          refine lv_aload_n hx hb dX7_addFour_21 rfl (lv_at hl 0 rfl) ?_
          refine va_get (D := D) (ci := 6) (v := .int (z1_3.1 1)) (C := RX7) (T := TX7) (N := 5) hx hb hts hiX7 hown hK hP 0 rfl rfl 1 (by decide) k15 (fun _ h9 => h9) rfl dX7_addFour_22 ?_
          refine lv_iload_n hx hb dX7_addFour_25 rfl (lv_at hl 1 rfl) ?_
          refine lv_iload_n hx hb dX7_addFour_26 rfl (lv_at hl 2 rfl) ?_
          refine lv_ishr hx hb dX7_addFour_27 ?_
          refine lv_i2b hx hb dX7_addFour_28 rfl ?_
          obtain ⟨hi_, hf⟩ := gd_ob hf
          refine va_bast hx hb hK hP hD hS 1 1 rfl rfl (inB_in hi_) dX7_addFour_29 (fun H locs hP hD hS => ?_)
          obtain ⟨z_1, ez_1, hf⟩ := nm_ob hf
          have hP : va_P D vwCl (wT cB q z_1) H := by rw [ez_1]; exact hP
          have hD : va_D A (wT cB q z_1) := by rw [ez_1]; exact hD
          refine lv_aload_n hx hb dX7_addFour_30 rfl (lv_at hl 0 rfl) ?_
          refine lv_dup hx hb dX7_addFour_31 rfl ?_
          refine va_get (D := D) (ci := 6) (v := .int (z_1.1 1)) (C := RX7) (T := TX7) (N := 5) hx hb hts hiX7 hown hK hP 0 rfl rfl 1 (by decide) k15 (fun _ h9 => h9) rfl dX7_addFour_32 ?_
          refine lv_iconst (v := 1) hx hb dX7_addFour_35 (by decide) ?_
          refine lv_iadd hx hb dX7_addFour_36 ?_
          refine va_put (D := D) (ci := 6) (v := .int ((z_1.1 1) + (1 : Int32))) (ty := .int) (C := RX7) (T := TX7) (N := 5) hx hb hts hiX7 tyX7 tyX7_ok nmX7 hown hK hP hD hS 0 rfl rfl 1 (by decide) k15 (fun _ h9 => h9) rfl (by decide +kernel) rfl rfl (Nat.le_of_ble_eq_true rfl) dX7_addFour_37 (fun H locs hP hD hS => ?_)
          obtain ⟨z_2, ez_2, hf⟩ := nm_ob hf
          have hP : va_P D vwCl (wT cB q z_2) H := by rw [ez_2]; exact hP
          have hD : va_D A (wT cB q z_2) := by rw [ez_2]; exact hD
          obtain ⟨v2_3, ev2_3, hf⟩ := nm_ob hf
          refine lv_iinc (v := v2_3) (lv' := [(2, .int v2_3), (0, .ref (q 0)), (1, .int p1)]) hx hb dX7_addFour_40 hl (k := 2) rfl (by rw [ev2_3]; rfl) (by decide) rfl (fun ls hl => ?_)
          refine lv_goto (tgt := 3) hx hb dX7_addFour_43 (by decide) ?_
          exact ih3 v2_3 z_2 _ _ _ hf hP hD hS (lv_sub hl [1, 2, 0] rfl)
  exact hL3 fu (24 : Int32) z _ _ _ hf hP hD hS (lv_sub hl [1, 2, 0] rfl)
def lX7_advance_156 (j208 : OS → Option ((OS))) : Nat → OS → Option ((OS))
  | 0, _ => none
  | n_156 + 1, z1_156 => (if (z1_156.1 1) ≤ (z1_156.1 4) then j208 z1_156 else gd (inB (z1_156.1 4) 500) ((if (z1_156.2 0 ((z1_156.1 4)).toNatClampNeg) < (48 : Int32) then j208 z1_156 else gd (inB (z1_156.1 4) 500) ((if (57 : Int32) < (z1_156.2 0 ((z1_156.1 4)).toNatClampNeg) then j208 z1_156 else nm (sI z1_156 4 ((z1_156.1 4) + (1 : Int32))) (fun (z_9 : OS) => lX7_advance_156 j208 n_156 z_9))))))
def lX7_advance_87 (j139 : OS → Option ((OS))) : Nat → OS → Option ((OS))
  | 0, _ => none
  | n_87 + 1, z1_87 => (if (z1_87.1 1) ≤ (z1_87.1 4) then j139 z1_87 else gd (inB (z1_87.1 4) 500) ((if (z1_87.2 0 ((z1_87.1 4)).toNatClampNeg) < (97 : Int32) then j139 z1_87 else gd (inB (z1_87.1 4) 500) ((if (122 : Int32) < (z1_87.2 0 ((z1_87.1 4)).toNatClampNeg) then j139 z1_87 else nm (sI z1_87 4 ((z1_87.1 4) + (1 : Int32))) (fun (z_10 : OS) => lX7_advance_87 j139 n_87 z_10))))))
def lX7_advance_8 (j74 : OS → Option ((OS))) : Nat → OS → Option ((OS))
  | 0, _ => none
  | n_8 + 1, z1_8 => (if (z1_8.1 1) ≤ (z1_8.1 3) then j74 z1_8 else gd (inB (z1_8.1 3) 500) (jn (κ := Option ((OS))) (nm (sI z1_8 3 ((z1_8.1 3) + (1 : Int32))) (fun (z_11 : OS) => lX7_advance_8 j74 n_8 z_11)) (fun j61 => (if (z1_8.2 0 ((z1_8.1 3)).toNatClampNeg) = (32 : Int32) then j61 else gd (inB (z1_8.1 3) 500) ((if (z1_8.2 0 ((z1_8.1 3)).toNatClampNeg) = (9 : Int32) then j61 else gd (inB (z1_8.1 3) 500) ((if ¬ (z1_8.2 0 ((z1_8.1 3)).toNatClampNeg) = (10 : Int32) then j74 z1_8 else j61))))))))
def fX7_advance (fu : Nat) (z : OS) : Option ((OS)) :=
  nm (sI z 3 (z.1 4)) (fun (z_1 : OS) => jn (κ := OS → Option ((OS))) (fun (z1_74 : OS) => nm (sI z1_74 4 (z1_74.1 3)) (fun (z_2 : OS) => nm (sI z_2 2 (1 : Int32)) (fun (z_3 : OS) => jn (κ := OS → Option ((OS))) (fun (z1_139 : OS) => (if (z1_139.1 4) ≤ (z1_139.1 3) then nm (sI z1_139 2 (2 : Int32)) (fun (z_4 : OS) => jn (κ := OS → Option ((OS))) (fun (z1_208 : OS) => (if (z1_208.1 4) ≤ (z1_208.1 3) then nm (sI z1_208 2 (0 : Int32)) (fun (z_5 : OS) => (if (z_5.1 1) ≤ (z_5.1 3) then some z_5 else gd (inB (z_5.1 3) 500) (nm (z_5.2 0 ((z_5.1 3)).toNatClampNeg) (fun (v1_6 : Int32) => jn (κ := Int32 → OS → Option ((OS))) (fun (t1_268 : Int32) (z1_268 : OS) => nm (sI z1_268 2 t1_268) (fun (z_7 : OS) => nm (sI z_7 4 ((z_7.1 3) + (1 : Int32))) (fun (z_8 : OS) => some z_8))) (fun j268 => (if ¬ v1_6 = (59 : Int32) then (if ¬ v1_6 = (45 : Int32) then j268 (5 : Int32) z_5 else j268 (4 : Int32) z_5) else j268 (3 : Int32) z_5)))))) else some z1_208)) (fun j208 => lX7_advance_156 j208 fu z_4)) else some z1_139)) (fun j139 => lX7_advance_87 j139 fu z_3)))) (fun j74 => lX7_advance_8 j74 fu z_1))
set_option maxRecDepth 100000 in
set_option maxHeartbeats 4000000 in
theorem mX7_advance (l : Launch) (D : va_G) (cI cB cZ cO : ClassId) (q : Nat → Nat) (sz : Nat) (fu : Nat) (z : OS) {y1 : OS} (hf : fX7_advance fu z = some y1) : Met l yX7_advance wsX7_advance ({ frames := 0, cells := 0, slots := 0, locals := 0 }) (va_Pc [.ref (q 0)] (Pw D (gT cI cB cZ cO) (wT cB q z) sz)) (Qw D (va_A (wT cB q z) sz) none (wT cB q y1)) 0 0 (va_A (wT cB q z) sz) := by
  unfold fX7_advance at hf
  refine metW (ret := none) (own := RX7) rfl (by decide) rfl (Nat.le_of_ble_eq_true rfl) (fun p e s m args below meth c ls A hx hb hr hml hown hlocks hts hK hA hP hD hS hl => ?_)
  have k25 := (hts (.fieldLink RX7 25 "ResolutionProver$Tokens" "end" "I") (List.mem_of_getElem? (i := 1) rfl))
  have k22 := (hts (.fieldLink RX7 22 "ResolutionProver$Tokens" "start" "I") (List.mem_of_getElem? (i := 2) rfl))
  have k19 := (hts (.fieldLink RX7 19 "ResolutionProver$Tokens" "kind" "I") (List.mem_of_getElem? (i := 5) rfl))
  have k15 := (hts (.fieldLink RX7 15 "ResolutionProver$Tokens" "length" "I") (List.mem_of_getElem? (i := 3) rfl))
  have k9 := (hts (.fieldLink RX7 9 "ResolutionProver$Tokens" "bytes" "[B") (List.mem_of_getElem? (i := 4) rfl))
  have hiX7 : ∀ w ∈ wsX70, w ∈ wsX7_advance := (memIn_p [6, 7, 8, 9, 10] rfl)
  have hl : lv_has ls 2 [(0, .ref (q 0))] := hl
  refine lv_aload_n hx hb dX7_advance_0 rfl (lv_at hl 0 rfl) ?_
  refine lv_aload_n hx hb dX7_advance_1 rfl (lv_at hl 0 rfl) ?_
  refine va_get (D := D) (ci := 6) (v := .int (z.1 4)) (C := RX7) (T := TX7) (N := 5) hx hb hts hiX7 hown hK hP 0 rfl rfl 4 (by decide) k25 (fun _ h9 => h9) rfl dX7_advance_2 ?_
  refine va_put (D := D) (ci := 6) (v := .int (z.1 4)) (ty := .int) (C := RX7) (T := TX7) (N := 5) hx hb hts hiX7 tyX7 tyX7_ok nmX7 hown hK hP hD hS 0 rfl rfl 3 (by decide) k22 (fun _ h9 => h9) rfl (by decide +kernel) rfl rfl (Nat.le_of_ble_eq_true rfl) dX7_advance_5 (fun H locs hP hD hS => ?_)
  obtain ⟨z_1, ez_1, hf⟩ := nm_ob hf
  have hP : va_P D vwCl (wT cB q z_1) H := by rw [ez_1]; exact hP
  have hD : va_D A (wT cB q z_1) := by rw [ez_1]; exact hD
  obtain ⟨j74, ej74, hf⟩ := jn_ob hf
  have hp74 : ∀ (z1_74 : OS) (H : Heap) (locs : List Loc) (ls : Array Slot), j74 z1_74 = some y1 → va_P D vwCl (wT cB q z1_74) H → va_D A (wT cB q z1_74) → va_S A s.heap H locs → lv_has ls 2 [(0, .ref (q 0))] → W p l e (headSpec wsX7_advance { frames := 0, cells := 0, slots := 0, locals := 0 }).room s m args below meth c H locs 0 0 (MQ below (Qw D A none (wT cB q y1)) args s 0 0 A) (F0 m 74 ls []) := by
    intro z1_74 H locs ls hf hP hD hS hl
    rw [ej74] at hf
    refine lv_aload_n hx hb dX7_advance_74 rfl (lv_at hl 0 rfl) ?_
    refine lv_aload_n hx hb dX7_advance_75 rfl (lv_at hl 0 rfl) ?_
    refine va_get (D := D) (ci := 6) (v := .int (z1_74.1 3)) (C := RX7) (T := TX7) (N := 5) hx hb hts hiX7 hown hK hP 0 rfl rfl 3 (by decide) k22 (fun _ h9 => h9) rfl dX7_advance_76 ?_
    refine va_put (D := D) (ci := 6) (v := .int (z1_74.1 3)) (ty := .int) (C := RX7) (T := TX7) (N := 5) hx hb hts hiX7 tyX7 tyX7_ok nmX7 hown hK hP hD hS 0 rfl rfl 4 (by decide) k25 (fun _ h9 => h9) rfl (by decide +kernel) rfl rfl (Nat.le_of_ble_eq_true rfl) dX7_advance_79 (fun H locs hP hD hS => ?_)
    obtain ⟨z_2, ez_2, hf⟩ := nm_ob hf
    have hP : va_P D vwCl (wT cB q z_2) H := by rw [ez_2]; exact hP
    have hD : va_D A (wT cB q z_2) := by rw [ez_2]; exact hD
    refine lv_aload_n hx hb dX7_advance_82 rfl (lv_at hl 0 rfl) ?_
    refine lv_iconst (v := 1) hx hb dX7_advance_83 (by decide) ?_
    refine va_put (D := D) (ci := 6) (v := .int (1 : Int32)) (ty := .int) (C := RX7) (T := TX7) (N := 5) hx hb hts hiX7 tyX7 tyX7_ok nmX7 hown hK hP hD hS 0 rfl rfl 2 (by decide) k19 (fun _ h9 => h9) rfl (by decide +kernel) rfl rfl (Nat.le_of_ble_eq_true rfl) dX7_advance_84 (fun H locs hP hD hS => ?_)
    obtain ⟨z_3, ez_3, hf⟩ := nm_ob hf
    have hP : va_P D vwCl (wT cB q z_3) H := by rw [ez_3]; exact hP
    have hD : va_D A (wT cB q z_3) := by rw [ez_3]; exact hD
    obtain ⟨j139, ej139, hf⟩ := jn_ob hf
    have hp139 : ∀ (z1_139 : OS) (H : Heap) (locs : List Loc) (ls : Array Slot), j139 z1_139 = some y1 → va_P D vwCl (wT cB q z1_139) H → va_D A (wT cB q z1_139) → va_S A s.heap H locs → lv_has ls 2 [(0, .ref (q 0))] → W p l e (headSpec wsX7_advance { frames := 0, cells := 0, slots := 0, locals := 0 }).room s m args below meth c H locs 0 0 (MQ below (Qw D A none (wT cB q y1)) args s 0 0 A) (F0 m 139 ls []) := by
      intro z1_139 H locs ls hf hP hD hS hl
      rw [ej139] at hf
      refine lv_aload_n hx hb dX7_advance_139 rfl (lv_at hl 0 rfl) ?_
      refine va_get (D := D) (ci := 6) (v := .int (z1_139.1 4)) (C := RX7) (T := TX7) (N := 5) hx hb hts hiX7 hown hK hP 0 rfl rfl 4 (by decide) k25 (fun _ h9 => h9) rfl dX7_advance_140 ?_
      refine lv_aload_n hx hb dX7_advance_143 rfl (lv_at hl 0 rfl) ?_
      refine va_get (D := D) (ci := 6) (v := .int (z1_139.1 3)) (C := RX7) (T := TX7) (N := 5) hx hb hts hiX7 hown hK hP 0 rfl rfl 3 (by decide) k22 (fun _ h9 => h9) rfl dX7_advance_144 ?_
      refine lv_icmp_le (tgt := 151) hx hb dX7_advance_147 (by decide) (fun c_147 => ?_) (fun c_147 => ?_)
      · have hf := ip c_147 hf
        refine lv_aload_n hx hb dX7_advance_151 rfl (lv_at hl 0 rfl) ?_
        refine lv_iconst (v := 2) hx hb dX7_advance_152 (by decide) ?_
        refine va_put (D := D) (ci := 6) (v := .int (2 : Int32)) (ty := .int) (C := RX7) (T := TX7) (N := 5) hx hb hts hiX7 tyX7 tyX7_ok nmX7 hown hK hP hD hS 0 rfl rfl 2 (by decide) k19 (fun _ h9 => h9) rfl (by decide +kernel) rfl rfl (Nat.le_of_ble_eq_true rfl) dX7_advance_153 (fun H locs hP hD hS => ?_)
        obtain ⟨z_4, ez_4, hf⟩ := nm_ob hf
        have hP : va_P D vwCl (wT cB q z_4) H := by rw [ez_4]; exact hP
        have hD : va_D A (wT cB q z_4) := by rw [ez_4]; exact hD
        obtain ⟨j208, ej208, hf⟩ := jn_ob hf
        have hp208 : ∀ (z1_208 : OS) (H : Heap) (locs : List Loc) (ls : Array Slot), j208 z1_208 = some y1 → va_P D vwCl (wT cB q z1_208) H → va_D A (wT cB q z1_208) → va_S A s.heap H locs → lv_has ls 2 [(0, .ref (q 0))] → W p l e (headSpec wsX7_advance { frames := 0, cells := 0, slots := 0, locals := 0 }).room s m args below meth c H locs 0 0 (MQ below (Qw D A none (wT cB q y1)) args s 0 0 A) (F0 m 208 ls []) := by
          intro z1_208 H locs ls hf hP hD hS hl
          rw [ej208] at hf
          refine lv_aload_n hx hb dX7_advance_208 rfl (lv_at hl 0 rfl) ?_
          refine va_get (D := D) (ci := 6) (v := .int (z1_208.1 4)) (C := RX7) (T := TX7) (N := 5) hx hb hts hiX7 hown hK hP 0 rfl rfl 4 (by decide) k25 (fun _ h9 => h9) rfl dX7_advance_209 ?_
          refine lv_aload_n hx hb dX7_advance_212 rfl (lv_at hl 0 rfl) ?_
          refine va_get (D := D) (ci := 6) (v := .int (z1_208.1 3)) (C := RX7) (T := TX7) (N := 5) hx hb hts hiX7 hown hK hP 0 rfl rfl 3 (by decide) k22 (fun _ h9 => h9) rfl dX7_advance_213 ?_
          refine lv_icmp_le (tgt := 220) hx hb dX7_advance_216 (by decide) (fun c_216 => ?_) (fun c_216 => ?_)
          · have hf := ip c_216 hf
            refine lv_aload_n hx hb dX7_advance_220 rfl (lv_at hl 0 rfl) ?_
            refine lv_iconst (v := 0) hx hb dX7_advance_221 (by decide) ?_
            refine va_put (D := D) (ci := 6) (v := .int (0 : Int32)) (ty := .int) (C := RX7) (T := TX7) (N := 5) hx hb hts hiX7 tyX7 tyX7_ok nmX7 hown hK hP hD hS 0 rfl rfl 2 (by decide) k19 (fun _ h9 => h9) rfl (by decide +kernel) rfl rfl (Nat.le_of_ble_eq_true rfl) dX7_advance_222 (fun H locs hP hD hS => ?_)
            obtain ⟨z_5, ez_5, hf⟩ := nm_ob hf
            have hP : va_P D vwCl (wT cB q z_5) H := by rw [ez_5]; exact hP
            have hD : va_D A (wT cB q z_5) := by rw [ez_5]; exact hD
            refine lv_aload_n hx hb dX7_advance_225 rfl (lv_at hl 0 rfl) ?_
            refine va_get (D := D) (ci := 6) (v := .int (z_5.1 3)) (C := RX7) (T := TX7) (N := 5) hx hb hts hiX7 hown hK hP 0 rfl rfl 3 (by decide) k22 (fun _ h9 => h9) rfl dX7_advance_226 ?_
            refine lv_aload_n hx hb dX7_advance_229 rfl (lv_at hl 0 rfl) ?_
            refine va_get (D := D) (ci := 6) (v := .int (z_5.1 1)) (C := RX7) (T := TX7) (N := 5) hx hb hts hiX7 hown hK hP 0 rfl rfl 1 (by decide) k15 (fun _ h9 => h9) rfl dX7_advance_230 ?_
            refine lv_icmp_ge (tgt := 281) hx hb dX7_advance_233 (by decide) (fun c_233 => ?_) (fun c_233 => ?_)
            · have hf := ip c_233 hf
              exact rW_v hx hb hr hlocks hP hD hS (congrArg (fun (q9 : (OS)) => wT cB q q9) (so_ob hf)) dX7_advance_281
            · have hf := iq c_233 hf
              refine lv_aload_n hx hb dX7_advance_236 rfl (lv_at hl 0 rfl) ?_
              refine va_get (D := D) (ci := 6) (v := .ref (q 1)) (C := RX7) (T := TX7) (N := 5) hx hb hts hiX7 hown hK hP 0 rfl rfl 0 (by decide) k9 (fun _ h9 => h9) rfl dX7_advance_237 ?_
              refine lv_aload_n hx hb dX7_advance_240 rfl (lv_at hl 0 rfl) ?_
              refine va_get (D := D) (ci := 6) (v := .int (z_5.1 3)) (C := RX7) (T := TX7) (N := 5) hx hb hts hiX7 hown hK hP 0 rfl rfl 3 (by decide) k22 (fun _ h9 => h9) rfl dX7_advance_241 ?_
              obtain ⟨hi_, hf⟩ := gd_ob hf
              refine va_bald hx hb hK hP 1 1 rfl rfl (inB_in hi_) dX7_advance_244 ?_
              obtain ⟨v1_6, ev1_6, hf⟩ := nm_ob hf
              refine lv_nmi ev1_6 ?_
              refine lv_istore_n (lv' := [(1, .int v1_6), (0, .ref (q 0))]) hx hb dX7_advance_245 rfl hl (by decide) rfl (fun ls hl => ?_)
              refine lv_aload_n hx hb dX7_advance_246 rfl (lv_at hl 1 rfl) ?_
              refine lv_iload_n hx hb dX7_advance_247 rfl (lv_at hl 0 rfl) ?_
              refine lv_bipush (v := 59) hx hb dX7_advance_248 (by decide) ?_
              obtain ⟨j268, ej268, hf⟩ := jn_ob hf
              have hp268 : ∀ (t1_268 : Int32) (z1_268 : OS) (H : Heap) (locs : List Loc) (ls : Array Slot), j268 t1_268 z1_268 = some y1 → va_P D vwCl (wT cB q z1_268) H → va_D A (wT cB q z1_268) → va_S A s.heap H locs → lv_has ls 2 [(0, .ref (q 0))] → W p l e (headSpec wsX7_advance { frames := 0, cells := 0, slots := 0, locals := 0 }).room s m args below meth c H locs 0 0 (MQ below (Qw D A none (wT cB q y1)) args s 0 0 A) (F0 m 268 ls [.int t1_268, .ref (q 0)]) := by
                intro t1_268 z1_268 H locs ls hf hP hD hS hl
                rw [ej268] at hf
                refine va_put (D := D) (ci := 6) (v := .int t1_268) (ty := .int) (C := RX7) (T := TX7) (N := 5) hx hb hts hiX7 tyX7 tyX7_ok nmX7 hown hK hP hD hS 0 rfl rfl 2 (by decide) k19 (fun _ h9 => h9) rfl (by decide +kernel) rfl rfl (Nat.le_of_ble_eq_true rfl) dX7_advance_268 (fun H locs hP hD hS => ?_)
                obtain ⟨z_7, ez_7, hf⟩ := nm_ob hf
                have hP : va_P D vwCl (wT cB q z_7) H := by rw [ez_7]; exact hP
                have hD : va_D A (wT cB q z_7) := by rw [ez_7]; exact hD
                refine lv_aload_n hx hb dX7_advance_271 rfl (lv_at hl 0 rfl) ?_
                refine lv_aload_n hx hb dX7_advance_272 rfl (lv_at hl 0 rfl) ?_
                refine va_get (D := D) (ci := 6) (v := .int (z_7.1 3)) (C := RX7) (T := TX7) (N := 5) hx hb hts hiX7 hown hK hP 0 rfl rfl 3 (by decide) k22 (fun _ h9 => h9) rfl dX7_advance_273 ?_
                refine lv_iconst (v := 1) hx hb dX7_advance_276 (by decide) ?_
                refine lv_iadd hx hb dX7_advance_277 ?_
                refine va_put (D := D) (ci := 6) (v := .int ((z_7.1 3) + (1 : Int32))) (ty := .int) (C := RX7) (T := TX7) (N := 5) hx hb hts hiX7 tyX7 tyX7_ok nmX7 hown hK hP hD hS 0 rfl rfl 4 (by decide) k25 (fun _ h9 => h9) rfl (by decide +kernel) rfl rfl (Nat.le_of_ble_eq_true rfl) dX7_advance_278 (fun H locs hP hD hS => ?_)
                obtain ⟨z_8, ez_8, hf⟩ := nm_ob hf
                have hP : va_P D vwCl (wT cB q z_8) H := by rw [ez_8]; exact hP
                have hD : va_D A (wT cB q z_8) := by rw [ez_8]; exact hD
                exact rW_v hx hb hr hlocks hP hD hS (congrArg (fun (q9 : (OS)) => wT cB q q9) (so_ob hf)) dX7_advance_281
              refine lv_icmp_ne (tgt := 257) hx hb dX7_advance_250 (by decide) (fun c_250 => ?_) (fun c_250 => ?_)
              · have hf := ip c_250 hf
                refine lv_iload_n hx hb dX7_advance_257 rfl (lv_at hl 0 rfl) ?_
                refine lv_bipush (v := 45) hx hb dX7_advance_258 (by decide) ?_
                refine lv_icmp_ne (tgt := 267) hx hb dX7_advance_260 (by decide) (fun c_260 => ?_) (fun c_260 => ?_)
                · have hf := ip c_260 hf
                  refine lv_iconst (v := 5) hx hb dX7_advance_267 (by decide) ?_
                  exact hp268 (5 : Int32) z_5 _ _ _ hf hP hD hS (lv_sub hl [1] rfl)
                · have hf := iqn c_260 hf
                  refine lv_iconst (v := 4) hx hb dX7_advance_263 (by decide) ?_
                  refine lv_goto (tgt := 268) hx hb dX7_advance_264 (by decide) ?_
                  exact hp268 (4 : Int32) z_5 _ _ _ hf hP hD hS (lv_sub hl [1] rfl)
              · have hf := iqn c_250 hf
                refine lv_iconst (v := 3) hx hb dX7_advance_253 (by decide) ?_
                refine lv_goto (tgt := 268) hx hb dX7_advance_254 (by decide) ?_
                exact hp268 (3 : Int32) z_5 _ _ _ hf hP hD hS (lv_sub hl [1] rfl)
          · have hf := iq c_216 hf
            exact rW_v hx hb hr hlocks hP hD hS (congrArg (fun (q9 : (OS)) => wT cB q q9) (so_ob hf)) dX7_advance_219
        have hL156 : ∀ (n_156 : Nat) (z1_156 : OS) (H : Heap) (locs : List Loc) (ls : Array Slot), lX7_advance_156 j208 n_156 z1_156 = some y1 → va_P D vwCl (wT cB q z1_156) H → va_D A (wT cB q z1_156) → va_S A s.heap H locs → lv_has ls 2 [(0, .ref (q 0))] → W p l e (headSpec wsX7_advance { frames := 0, cells := 0, slots := 0, locals := 0 }).room s m args below meth c H locs 0 0 (MQ below (Qw D A none (wT cB q y1)) args s 0 0 A) (F0 m 156 ls []) := by
          intro n_156
          induction n_156 with
          | zero =>
            intro z1_156 H locs ls hf
            exact no_ob hf
          | succ n_156 ih156 =>
            intro z1_156 H locs ls hf hP hD hS hl
            rw [lX7_advance_156] at hf
            refine lv_aload_n hx hb dX7_advance_156 rfl (lv_at hl 0 rfl) ?_
            refine va_get (D := D) (ci := 6) (v := .int (z1_156.1 4)) (C := RX7) (T := TX7) (N := 5) hx hb hts hiX7 hown hK hP 0 rfl rfl 4 (by decide) k25 (fun _ h9 => h9) rfl dX7_advance_157 ?_
            refine lv_aload_n hx hb dX7_advance_160 rfl (lv_at hl 0 rfl) ?_
            refine va_get (D := D) (ci := 6) (v := .int (z1_156.1 1)) (C := RX7) (T := TX7) (N := 5) hx hb hts hiX7 hown hK hP 0 rfl rfl 1 (by decide) k15 (fun _ h9 => h9) rfl dX7_advance_161 ?_
            refine lv_icmp_ge (tgt := 208) hx hb dX7_advance_164 (by decide) (fun c_164 => ?_) (fun c_164 => ?_)
            · have hf := ip c_164 hf
              exact hp208 z1_156 _ _ _ hf hP hD hS hl
            · have hf := iq c_164 hf
              refine lv_aload_n hx hb dX7_advance_167 rfl (lv_at hl 0 rfl) ?_
              refine va_get (D := D) (ci := 6) (v := .ref (q 1)) (C := RX7) (T := TX7) (N := 5) hx hb hts hiX7 hown hK hP 0 rfl rfl 0 (by decide) k9 (fun _ h9 => h9) rfl dX7_advance_168 ?_
              refine lv_aload_n hx hb dX7_advance_171 rfl (lv_at hl 0 rfl) ?_
              refine va_get (D := D) (ci := 6) (v := .int (z1_156.1 4)) (C := RX7) (T := TX7) (N := 5) hx hb hts hiX7 hown hK hP 0 rfl rfl 4 (by decide) k25 (fun _ h9 => h9) rfl dX7_advance_172 ?_
              obtain ⟨hi_, hf⟩ := gd_ob hf
              refine va_bald hx hb hK hP 1 1 rfl rfl (inB_in hi_) dX7_advance_175 ?_
              refine lv_bipush (v := 48) hx hb dX7_advance_176 (by decide) ?_
              refine lv_icmp_lt (tgt := 208) hx hb dX7_advance_178 (by decide) (fun c_178 => ?_) (fun c_178 => ?_)
              · have hf := ip c_178 hf
                exact hp208 z1_156 _ _ _ hf hP hD hS hl
              · have hf := iq c_178 hf
                refine lv_aload_n hx hb dX7_advance_181 rfl (lv_at hl 0 rfl) ?_
                refine va_get (D := D) (ci := 6) (v := .ref (q 1)) (C := RX7) (T := TX7) (N := 5) hx hb hts hiX7 hown hK hP 0 rfl rfl 0 (by decide) k9 (fun _ h9 => h9) rfl dX7_advance_182 ?_
                refine lv_aload_n hx hb dX7_advance_185 rfl (lv_at hl 0 rfl) ?_
                refine va_get (D := D) (ci := 6) (v := .int (z1_156.1 4)) (C := RX7) (T := TX7) (N := 5) hx hb hts hiX7 hown hK hP 0 rfl rfl 4 (by decide) k25 (fun _ h9 => h9) rfl dX7_advance_186 ?_
                obtain ⟨hi_, hf⟩ := gd_ob hf
                refine va_bald hx hb hK hP 1 1 rfl rfl (inB_in hi_) dX7_advance_189 ?_
                refine lv_bipush (v := 57) hx hb dX7_advance_190 (by decide) ?_
                refine lv_icmp_gt (tgt := 208) hx hb dX7_advance_192 (by decide) (fun c_192 => ?_) (fun c_192 => ?_)
                · have hf := ip c_192 hf
                  exact hp208 z1_156 _ _ _ hf hP hD hS hl
                · have hf := iq c_192 hf
                  refine lv_aload_n hx hb dX7_advance_195 rfl (lv_at hl 0 rfl) ?_
                  refine lv_dup hx hb dX7_advance_196 rfl ?_
                  refine va_get (D := D) (ci := 6) (v := .int (z1_156.1 4)) (C := RX7) (T := TX7) (N := 5) hx hb hts hiX7 hown hK hP 0 rfl rfl 4 (by decide) k25 (fun _ h9 => h9) rfl dX7_advance_197 ?_
                  refine lv_iconst (v := 1) hx hb dX7_advance_200 (by decide) ?_
                  refine lv_iadd hx hb dX7_advance_201 ?_
                  refine va_put (D := D) (ci := 6) (v := .int ((z1_156.1 4) + (1 : Int32))) (ty := .int) (C := RX7) (T := TX7) (N := 5) hx hb hts hiX7 tyX7 tyX7_ok nmX7 hown hK hP hD hS 0 rfl rfl 4 (by decide) k25 (fun _ h9 => h9) rfl (by decide +kernel) rfl rfl (Nat.le_of_ble_eq_true rfl) dX7_advance_202 (fun H locs hP hD hS => ?_)
                  obtain ⟨z_9, ez_9, hf⟩ := nm_ob hf
                  have hP : va_P D vwCl (wT cB q z_9) H := by rw [ez_9]; exact hP
                  have hD : va_D A (wT cB q z_9) := by rw [ez_9]; exact hD
                  refine lv_goto (tgt := 156) hx hb dX7_advance_205 (by decide) ?_
                  exact ih156 z_9 _ _ _ hf hP hD hS hl
        exact hL156 fu z_4 _ _ _ hf hP hD hS hl
      · have hf := iq c_147 hf
        exact rW_v hx hb hr hlocks hP hD hS (congrArg (fun (q9 : (OS)) => wT cB q q9) (so_ob hf)) dX7_advance_150
    have hL87 : ∀ (n_87 : Nat) (z1_87 : OS) (H : Heap) (locs : List Loc) (ls : Array Slot), lX7_advance_87 j139 n_87 z1_87 = some y1 → va_P D vwCl (wT cB q z1_87) H → va_D A (wT cB q z1_87) → va_S A s.heap H locs → lv_has ls 2 [(0, .ref (q 0))] → W p l e (headSpec wsX7_advance { frames := 0, cells := 0, slots := 0, locals := 0 }).room s m args below meth c H locs 0 0 (MQ below (Qw D A none (wT cB q y1)) args s 0 0 A) (F0 m 87 ls []) := by
      intro n_87
      induction n_87 with
      | zero =>
        intro z1_87 H locs ls hf
        exact no_ob hf
      | succ n_87 ih87 =>
        intro z1_87 H locs ls hf hP hD hS hl
        rw [lX7_advance_87] at hf
        refine lv_aload_n hx hb dX7_advance_87 rfl (lv_at hl 0 rfl) ?_
        refine va_get (D := D) (ci := 6) (v := .int (z1_87.1 4)) (C := RX7) (T := TX7) (N := 5) hx hb hts hiX7 hown hK hP 0 rfl rfl 4 (by decide) k25 (fun _ h9 => h9) rfl dX7_advance_88 ?_
        refine lv_aload_n hx hb dX7_advance_91 rfl (lv_at hl 0 rfl) ?_
        refine va_get (D := D) (ci := 6) (v := .int (z1_87.1 1)) (C := RX7) (T := TX7) (N := 5) hx hb hts hiX7 hown hK hP 0 rfl rfl 1 (by decide) k15 (fun _ h9 => h9) rfl dX7_advance_92 ?_
        refine lv_icmp_ge (tgt := 139) hx hb dX7_advance_95 (by decide) (fun c_95 => ?_) (fun c_95 => ?_)
        · have hf := ip c_95 hf
          exact hp139 z1_87 _ _ _ hf hP hD hS hl
        · have hf := iq c_95 hf
          refine lv_aload_n hx hb dX7_advance_98 rfl (lv_at hl 0 rfl) ?_
          refine va_get (D := D) (ci := 6) (v := .ref (q 1)) (C := RX7) (T := TX7) (N := 5) hx hb hts hiX7 hown hK hP 0 rfl rfl 0 (by decide) k9 (fun _ h9 => h9) rfl dX7_advance_99 ?_
          refine lv_aload_n hx hb dX7_advance_102 rfl (lv_at hl 0 rfl) ?_
          refine va_get (D := D) (ci := 6) (v := .int (z1_87.1 4)) (C := RX7) (T := TX7) (N := 5) hx hb hts hiX7 hown hK hP 0 rfl rfl 4 (by decide) k25 (fun _ h9 => h9) rfl dX7_advance_103 ?_
          obtain ⟨hi_, hf⟩ := gd_ob hf
          refine va_bald hx hb hK hP 1 1 rfl rfl (inB_in hi_) dX7_advance_106 ?_
          refine lv_bipush (v := 97) hx hb dX7_advance_107 (by decide) ?_
          refine lv_icmp_lt (tgt := 139) hx hb dX7_advance_109 (by decide) (fun c_109 => ?_) (fun c_109 => ?_)
          · have hf := ip c_109 hf
            exact hp139 z1_87 _ _ _ hf hP hD hS hl
          · have hf := iq c_109 hf
            refine lv_aload_n hx hb dX7_advance_112 rfl (lv_at hl 0 rfl) ?_
            refine va_get (D := D) (ci := 6) (v := .ref (q 1)) (C := RX7) (T := TX7) (N := 5) hx hb hts hiX7 hown hK hP 0 rfl rfl 0 (by decide) k9 (fun _ h9 => h9) rfl dX7_advance_113 ?_
            refine lv_aload_n hx hb dX7_advance_116 rfl (lv_at hl 0 rfl) ?_
            refine va_get (D := D) (ci := 6) (v := .int (z1_87.1 4)) (C := RX7) (T := TX7) (N := 5) hx hb hts hiX7 hown hK hP 0 rfl rfl 4 (by decide) k25 (fun _ h9 => h9) rfl dX7_advance_117 ?_
            obtain ⟨hi_, hf⟩ := gd_ob hf
            refine va_bald hx hb hK hP 1 1 rfl rfl (inB_in hi_) dX7_advance_120 ?_
            refine lv_bipush (v := 122) hx hb dX7_advance_121 (by decide) ?_
            refine lv_icmp_gt (tgt := 139) hx hb dX7_advance_123 (by decide) (fun c_123 => ?_) (fun c_123 => ?_)
            · have hf := ip c_123 hf
              exact hp139 z1_87 _ _ _ hf hP hD hS hl
            · have hf := iq c_123 hf
              refine lv_aload_n hx hb dX7_advance_126 rfl (lv_at hl 0 rfl) ?_
              refine lv_dup hx hb dX7_advance_127 rfl ?_
              refine va_get (D := D) (ci := 6) (v := .int (z1_87.1 4)) (C := RX7) (T := TX7) (N := 5) hx hb hts hiX7 hown hK hP 0 rfl rfl 4 (by decide) k25 (fun _ h9 => h9) rfl dX7_advance_128 ?_
              refine lv_iconst (v := 1) hx hb dX7_advance_131 (by decide) ?_
              refine lv_iadd hx hb dX7_advance_132 ?_
              refine va_put (D := D) (ci := 6) (v := .int ((z1_87.1 4) + (1 : Int32))) (ty := .int) (C := RX7) (T := TX7) (N := 5) hx hb hts hiX7 tyX7 tyX7_ok nmX7 hown hK hP hD hS 0 rfl rfl 4 (by decide) k25 (fun _ h9 => h9) rfl (by decide +kernel) rfl rfl (Nat.le_of_ble_eq_true rfl) dX7_advance_133 (fun H locs hP hD hS => ?_)
              obtain ⟨z_10, ez_10, hf⟩ := nm_ob hf
              have hP : va_P D vwCl (wT cB q z_10) H := by rw [ez_10]; exact hP
              have hD : va_D A (wT cB q z_10) := by rw [ez_10]; exact hD
              refine lv_goto (tgt := 87) hx hb dX7_advance_136 (by decide) ?_
              exact ih87 z_10 _ _ _ hf hP hD hS hl
    exact hL87 fu z_3 _ _ _ hf hP hD hS hl
  have hL8 : ∀ (n_8 : Nat) (z1_8 : OS) (H : Heap) (locs : List Loc) (ls : Array Slot), lX7_advance_8 j74 n_8 z1_8 = some y1 → va_P D vwCl (wT cB q z1_8) H → va_D A (wT cB q z1_8) → va_S A s.heap H locs → lv_has ls 2 [(0, .ref (q 0))] → W p l e (headSpec wsX7_advance { frames := 0, cells := 0, slots := 0, locals := 0 }).room s m args below meth c H locs 0 0 (MQ below (Qw D A none (wT cB q y1)) args s 0 0 A) (F0 m 8 ls []) := by
    intro n_8
    induction n_8 with
    | zero =>
      intro z1_8 H locs ls hf
      exact no_ob hf
    | succ n_8 ih8 =>
      intro z1_8 H locs ls hf hP hD hS hl
      rw [lX7_advance_8] at hf
      refine lv_aload_n hx hb dX7_advance_8 rfl (lv_at hl 0 rfl) ?_
      refine va_get (D := D) (ci := 6) (v := .int (z1_8.1 3)) (C := RX7) (T := TX7) (N := 5) hx hb hts hiX7 hown hK hP 0 rfl rfl 3 (by decide) k22 (fun _ h9 => h9) rfl dX7_advance_9 ?_
      refine lv_aload_n hx hb dX7_advance_12 rfl (lv_at hl 0 rfl) ?_
      refine va_get (D := D) (ci := 6) (v := .int (z1_8.1 1)) (C := RX7) (T := TX7) (N := 5) hx hb hts hiX7 hown hK hP 0 rfl rfl 1 (by decide) k15 (fun _ h9 => h9) rfl dX7_advance_13 ?_
      refine lv_icmp_ge (tgt := 74) hx hb dX7_advance_16 (by decide) (fun c_16 => ?_) (fun c_16 => ?_)
      · have hf := ip c_16 hf
        exact hp74 z1_8 _ _ _ hf hP hD hS hl
      · have hf := iq c_16 hf
        refine lv_aload_n hx hb dX7_advance_19 rfl (lv_at hl 0 rfl) ?_
        refine va_get (D := D) (ci := 6) (v := .ref (q 1)) (C := RX7) (T := TX7) (N := 5) hx hb hts hiX7 hown hK hP 0 rfl rfl 0 (by decide) k9 (fun _ h9 => h9) rfl dX7_advance_20 ?_
        refine lv_aload_n hx hb dX7_advance_23 rfl (lv_at hl 0 rfl) ?_
        refine va_get (D := D) (ci := 6) (v := .int (z1_8.1 3)) (C := RX7) (T := TX7) (N := 5) hx hb hts hiX7 hown hK hP 0 rfl rfl 3 (by decide) k22 (fun _ h9 => h9) rfl dX7_advance_24 ?_
        obtain ⟨hi_, hf⟩ := gd_ob hf
        refine va_bald hx hb hK hP 1 1 rfl rfl (inB_in hi_) dX7_advance_27 ?_
        refine lv_bipush (v := 32) hx hb dX7_advance_28 (by decide) ?_
        obtain ⟨j61, ej61, hf⟩ := jn_ob hf
        have hp61 : ∀  (H : Heap) (locs : List Loc) (ls : Array Slot), j61 = some y1 → va_P D vwCl (wT cB q z1_8) H → va_D A (wT cB q z1_8) → va_S A s.heap H locs → lv_has ls 2 [(0, .ref (q 0))] → W p l e (headSpec wsX7_advance { frames := 0, cells := 0, slots := 0, locals := 0 }).room s m args below meth c H locs 0 0 (MQ below (Qw D A none (wT cB q y1)) args s 0 0 A) (F0 m 61 ls []) := by
          intro H locs ls hf hP hD hS hl
          rw [ej61] at hf
          refine lv_aload_n hx hb dX7_advance_61 rfl (lv_at hl 0 rfl) ?_
          refine lv_dup hx hb dX7_advance_62 rfl ?_
          refine va_get (D := D) (ci := 6) (v := .int (z1_8.1 3)) (C := RX7) (T := TX7) (N := 5) hx hb hts hiX7 hown hK hP 0 rfl rfl 3 (by decide) k22 (fun _ h9 => h9) rfl dX7_advance_63 ?_
          refine lv_iconst (v := 1) hx hb dX7_advance_66 (by decide) ?_
          refine lv_iadd hx hb dX7_advance_67 ?_
          refine va_put (D := D) (ci := 6) (v := .int ((z1_8.1 3) + (1 : Int32))) (ty := .int) (C := RX7) (T := TX7) (N := 5) hx hb hts hiX7 tyX7 tyX7_ok nmX7 hown hK hP hD hS 0 rfl rfl 3 (by decide) k22 (fun _ h9 => h9) rfl (by decide +kernel) rfl rfl (Nat.le_of_ble_eq_true rfl) dX7_advance_68 (fun H locs hP hD hS => ?_)
          obtain ⟨z_11, ez_11, hf⟩ := nm_ob hf
          have hP : va_P D vwCl (wT cB q z_11) H := by rw [ez_11]; exact hP
          have hD : va_D A (wT cB q z_11) := by rw [ez_11]; exact hD
          refine lv_goto (tgt := 8) hx hb dX7_advance_71 (by decide) ?_
          exact ih8 z_11 _ _ _ hf hP hD hS hl
        refine lv_icmp_eq (tgt := 61) hx hb dX7_advance_30 (by decide) (fun c_30 => ?_) (fun c_30 => ?_)
        · have hf := ip c_30 hf
          exact hp61 _ _ _ hf hP hD hS hl
        · have hf := iq c_30 hf
          refine lv_aload_n hx hb dX7_advance_33 rfl (lv_at hl 0 rfl) ?_
          refine va_get (D := D) (ci := 6) (v := .ref (q 1)) (C := RX7) (T := TX7) (N := 5) hx hb hts hiX7 hown hK hP 0 rfl rfl 0 (by decide) k9 (fun _ h9 => h9) rfl dX7_advance_34 ?_
          refine lv_aload_n hx hb dX7_advance_37 rfl (lv_at hl 0 rfl) ?_
          refine va_get (D := D) (ci := 6) (v := .int (z1_8.1 3)) (C := RX7) (T := TX7) (N := 5) hx hb hts hiX7 hown hK hP 0 rfl rfl 3 (by decide) k22 (fun _ h9 => h9) rfl dX7_advance_38 ?_
          obtain ⟨hi_, hf⟩ := gd_ob hf
          refine va_bald hx hb hK hP 1 1 rfl rfl (inB_in hi_) dX7_advance_41 ?_
          refine lv_bipush (v := 9) hx hb dX7_advance_42 (by decide) ?_
          refine lv_icmp_eq (tgt := 61) hx hb dX7_advance_44 (by decide) (fun c_44 => ?_) (fun c_44 => ?_)
          · have hf := ip c_44 hf
            exact hp61 _ _ _ hf hP hD hS hl
          · have hf := iq c_44 hf
            refine lv_aload_n hx hb dX7_advance_47 rfl (lv_at hl 0 rfl) ?_
            refine va_get (D := D) (ci := 6) (v := .ref (q 1)) (C := RX7) (T := TX7) (N := 5) hx hb hts hiX7 hown hK hP 0 rfl rfl 0 (by decide) k9 (fun _ h9 => h9) rfl dX7_advance_48 ?_
            refine lv_aload_n hx hb dX7_advance_51 rfl (lv_at hl 0 rfl) ?_
            refine va_get (D := D) (ci := 6) (v := .int (z1_8.1 3)) (C := RX7) (T := TX7) (N := 5) hx hb hts hiX7 hown hK hP 0 rfl rfl 3 (by decide) k22 (fun _ h9 => h9) rfl dX7_advance_52 ?_
            obtain ⟨hi_, hf⟩ := gd_ob hf
            refine va_bald hx hb hK hP 1 1 rfl rfl (inB_in hi_) dX7_advance_55 ?_
            refine lv_bipush (v := 10) hx hb dX7_advance_56 (by decide) ?_
            refine lv_icmp_ne (tgt := 74) hx hb dX7_advance_58 (by decide) (fun c_58 => ?_) (fun c_58 => ?_)
            · have hf := ip c_58 hf
              exact hp74 z1_8 _ _ _ hf hP hD hS hl
            · have hf := iqn c_58 hf
              exact hp61 _ _ _ hf hP hD hS hl
  exact hL8 fu z_1 _ _ _ hf hP hD hS hl
def fX7_begin (fu : Nat) (z : OS) : Option ((OS)) :=
  nm (sI z 4 (0 : Int32)) (fun (z_1 : OS) => bd (fX7_advance fu z_1) (fun (z_2 : OS) => some z_2))
set_option maxRecDepth 100000 in
set_option maxHeartbeats 4000000 in
theorem mX7_begin (l : Launch) (D : va_G) (cI cB cZ cO : ClassId) (q : Nat → Nat) (sz : Nat) (fu : Nat) (z : OS) {y1 : OS} (hf : fX7_begin fu z = some y1) : Met l yX7_begin wsX7_begin ({ frames := 1, cells := 0, slots := 0, locals := 21 }) (va_Pc [.ref (q 0)] (Pw D (gT cI cB cZ cO) (wT cB q z) sz)) (Qw D (va_A (wT cB q z) sz) none (wT cB q y1)) 0 0 (va_A (wT cB q z) sz) := by
  unfold fX7_begin at hf
  refine metW (ret := none) (own := RX7) rfl (by decide) rfl (Nat.le_of_ble_eq_true rfl) (fun p e s m args below meth c ls A hx hb hr hml hown hlocks hts hK hA hP hD hS hl => ?_)
  have k25 := (hts (.fieldLink RX7 25 "ResolutionProver$Tokens" "end" "I") (List.mem_of_getElem? (i := 1) rfl))
  have hiX7 : ∀ w ∈ wsX70, w ∈ wsX7_begin := (memIn_p [11, 12, 13, 14, 15] rfl)
  have hl : lv_has ls 1 [(0, .ref (q 0))] := hl
  refine lv_aload_n hx hb dX7_begin_0 rfl (lv_at hl 0 rfl) ?_
  refine lv_iconst (v := 0) hx hb dX7_begin_1 (by decide) ?_
  refine va_put (D := D) (ci := 6) (v := .int (0 : Int32)) (ty := .int) (C := RX7) (T := TX7) (N := 5) hx hb hts hiX7 tyX7 tyX7_ok nmX7 hown hK hP hD hS 0 rfl rfl 4 (by decide) k25 (fun _ h9 => h9) rfl (by decide +kernel) rfl rfl (Nat.le_of_ble_eq_true rfl) dX7_begin_2 (fun H locs hP hD hS => ?_)
  obtain ⟨z_1, ez_1, hf⟩ := nm_ob hf
  have hP : va_P D vwCl (wT cB q z_1) H := by rw [ez_1]; exact hP
  have hD : va_D A (wT cB q z_1) := by rw [ez_1]; exact hD
  refine lv_aload_n hx hb dX7_begin_5 rfl (lv_at hl 0 rfl) ?_
  obtain ⟨z_2, hc_3, hf⟩ := bd_ob hf
  refine weV (As := []) (rest := []) ⟨hx, hb, hml, hown, hts⟩ (mX7_advance l D cI cB cZ cO q _ fu z_1 hc_3) (cwV 0 hts gX7_begin_X7_advance rfl rfl rfl (by decide +kernel) ⟨Nat.le_of_ble_eq_true rfl, Nat.le_of_ble_eq_true rfl⟩) hK hP hD hS hA (va_recv hK hP (ci := 6) (q0 := 0) rfl rfl) rfl hl.1 rfl (Nat.le_of_ble_eq_true rfl) dX7_begin_6 ⟨Nat.zero_le _, Nat.zero_le _⟩ (fun H locs hP hD hS => ?_)
  exact rW_v hx hb hr hlocks hP hD hS (congrArg (fun (q9 : (OS)) => wT cB q q9) (so_ob hf)) dX7_begin_9
def lX7_isWord_28 (z : OS) (tx : List Int32) (j76 : Option (Int32)) : Nat → Int32 → Option (Int32)
  | 0, _ => none
  | n_28 + 1, v2_28 => (if (nI (tx).length) ≤ v2_28 then j76 else (if (z.1 1) ≤ ((z.1 3) + v2_28) then j76 else gd (inB ((z.1 3) + v2_28) 500) (gd (inB v2_28 (tx).length) ((if (z.2 0 (((z.1 3) + v2_28)).toNatClampNeg) = ((tx).getD (v2_28).toNatClampNeg 0 &&& (255 : Int32)) then nm (v2_28 + (1 : Int32)) (fun (v2_1 : Int32) => lX7_isWord_28 z tx j76 n_28 v2_1) else gd (isZ (0 : Int32)) (some (0 : Int32)))))))
def fX7_isWord (fu : Nat) (z : OS) (tx : List Int32) : Option (Int32) :=
  (if ¬ (z.1 2) = (1 : Int32) then gd (isZ (0 : Int32)) (some (0 : Int32)) else (if ((z.1 4) - (z.1 3)) = (nI (tx).length) then jn (κ := Option (Int32)) (gd (isZ (1 : Int32)) (some (1 : Int32))) (fun j76 => lX7_isWord_28 z tx j76 fu (0 : Int32)) else gd (isZ (0 : Int32)) (some (0 : Int32))))
set_option maxRecDepth 100000 in
set_option maxHeartbeats 4000000 in
theorem mX7_isWord (l : Launch) (D : va_G) (cI cB cZ cO : ClassId) (sa av : Nat) (q : Nat → Nat) (fu : Nat) (z : OS) (tx : List Int32) {r : Int32} (hf : fX7_isWord fu z tx = some r) : Met l yX7_isWord wsX7_isWord ({ frames := 4, cells := 0, slots := 0, locals := 85 }) (va_Pc [.ref (q 0), .ref sa] (PrX (ET tx sa av) D (gT cI cB cZ cO) (wT cB q z))) (Qr (some (.int r))) 0 0 (fun _ => False) := by
  unfold fX7_isWord at hf
  refine metRX (ret := (some .boolean)) (own := RX7) rfl (by decide) rfl (Nat.le_of_ble_eq_true rfl) (fun p e s m args below meth c ls hx hb hr hml hown hlocks hts hP hK hE hl => ?_)
  have k19 := (hts (.fieldLink RX7 19 "ResolutionProver$Tokens" "kind" "I") (List.mem_of_getElem? (i := 1) rfl))
  have k25 := (hts (.fieldLink RX7 25 "ResolutionProver$Tokens" "end" "I") (List.mem_of_getElem? (i := 2) rfl))
  have k22 := (hts (.fieldLink RX7 22 "ResolutionProver$Tokens" "start" "I") (List.mem_of_getElem? (i := 3) rfl))
  have k15 := (hts (.fieldLink RX7 15 "ResolutionProver$Tokens" "length" "I") (List.mem_of_getElem? (i := 4) rfl))
  have k9 := (hts (.fieldLink RX7 9 "ResolutionProver$Tokens" "bytes" "[B") (List.mem_of_getElem? (i := 5) rfl))
  have hiX7 : ∀ w ∈ wsX70, w ∈ wsX7_isWord := (memIn_p [55, 56, 57, 58, 59] rfl)
  have hl : lv_has ls 3 [(0, .ref (q 0)), (1, .ref sa)] := hl
  refine lv_aload_n hx hb dX7_isWord_0 rfl (lv_at hl 0 rfl) ?_
  refine va_get (D := D) (ci := 6) (v := .int (z.1 2)) (C := RX7) (T := TX7) (N := 5) hx hb hts hiX7 hown hK hP 0 rfl rfl 2 (by decide) k19 (fun _ h9 => h9) rfl dX7_isWord_1 ?_
  refine lv_iconst (v := 1) hx hb dX7_isWord_4 (by decide) ?_
  refine lv_icmp_ne (tgt := 24) hx hb dX7_isWord_5 (by decide) (fun c_5 => ?_) (fun c_5 => ?_)
  · have hf := ip c_5 hf
    refine lv_iconst (v := 0) hx hb dX7_isWord_24 (by decide) ?_
    obtain ⟨hz, hf⟩ := gd_ob hf
    exact rR_z hx hb hr hlocks hz (so_ob hf) dX7_isWord_25
  · have hf := iqn c_5 hf
    refine lv_aload_n hx hb dX7_isWord_8 rfl (lv_at hl 0 rfl) ?_
    refine va_get (D := D) (ci := 6) (v := .int (z.1 4)) (C := RX7) (T := TX7) (N := 5) hx hb hts hiX7 hown hK hP 0 rfl rfl 4 (by decide) k25 (fun _ h9 => h9) rfl dX7_isWord_9 ?_
    refine lv_aload_n hx hb dX7_isWord_12 rfl (lv_at hl 0 rfl) ?_
    refine va_get (D := D) (ci := 6) (v := .int (z.1 3)) (C := RX7) (T := TX7) (N := 5) hx hb hts hiX7 hown hK hP 0 rfl rfl 3 (by decide) k22 (fun _ h9 => h9) rfl dX7_isWord_13 ?_
    refine lv_isub hx hb dX7_isWord_16 ?_
    refine lv_aload_n hx hb dX7_isWord_17 rfl (lv_at hl 1 rfl) ?_
    refine rdVG (As := []) (rest := [.int ((z.1 4) - (z.1 3))]) ⟨hx, hb, hml, hown, hts⟩ (tJ0_length l tx sa av) (cwV 0 hts gX7_isWord_J0_length_8abf5 rfl rfl rfl (by decide +kernel) ⟨Nat.le_of_ble_eq_true rfl, Nat.le_of_ble_eq_true rfl⟩) PT_blind (fun U hU hW => by show Txt _ _ _ _ _ _; rw [hU]; exact (hE).off.moved hW) (hE).recv rfl hl.1 rfl (Nat.le_of_ble_eq_true rfl) dX7_isWord_18 ⟨Nat.zero_le _, Nat.zero_le _⟩ ?_
    refine lv_icmp_eq (tgt := 26) hx hb dX7_isWord_21 (by decide) (fun c_21 => ?_) (fun c_21 => ?_)
    · have hf := ip c_21 hf
      refine lv_iconst (v := 0) hx hb dX7_isWord_26 (by decide) ?_
      refine lv_istore_n (lv' := [(2, .int (0 : Int32)), (0, .ref (q 0)), (1, .ref sa)]) hx hb dX7_isWord_27 rfl hl (by decide) rfl (fun ls hl => ?_)
      obtain ⟨j76, ej76, hf⟩ := jn_ob hf
      have hp76 : ∀  (ls : Array Slot), j76 = some r → lv_has ls 3 [] → W p l e (headSpec wsX7_isWord { frames := 4, cells := 0, slots := 0, locals := 85 }).room s m args below meth c s.heap [] 0 0 (MQ below (Qr (some (.int r))) args s 0 0 (fun _ => False)) (F0 m 76 ls []) := by
        intro ls hf hl
        rw [ej76] at hf
        refine lv_iconst (v := 1) hx hb dX7_isWord_76 (by decide) ?_
        obtain ⟨hz, hf⟩ := gd_ob hf
        exact rR_z hx hb hr hlocks hz (so_ob hf) dX7_isWord_77
      have hL28 : ∀ (n_28 : Nat) (v2_28 : Int32) (ls : Array Slot), lX7_isWord_28 z tx j76 n_28 v2_28 = some r → lv_has ls 3 [(0, .ref (q 0)), (1, .ref sa), (2, .int v2_28)] → W p l e (headSpec wsX7_isWord { frames := 4, cells := 0, slots := 0, locals := 85 }).room s m args below meth c s.heap [] 0 0 (MQ below (Qr (some (.int r))) args s 0 0 (fun _ => False)) (F0 m 28 ls []) := by
        intro n_28
        induction n_28 with
        | zero =>
          intro v2_28 ls hf
          exact no_ob hf
        | succ n_28 ih28 =>
          intro v2_28 ls hf hl
          rw [lX7_isWord_28] at hf
          refine lv_iload_n hx hb dX7_isWord_28 rfl (lv_at hl 2 rfl) ?_
          refine lv_aload_n hx hb dX7_isWord_29 rfl (lv_at hl 1 rfl) ?_
          refine rdVG (As := []) (rest := [.int v2_28]) ⟨hx, hb, hml, hown, hts⟩ (tJ0_length l tx sa av) (cwV 0 hts gX7_isWord_J0_length_8abf5 rfl rfl rfl (by decide +kernel) ⟨Nat.le_of_ble_eq_true rfl, Nat.le_of_ble_eq_true rfl⟩) PT_blind (fun U hU hW => by show Txt _ _ _ _ _ _; rw [hU]; exact (hE).off.moved hW) (hE).recv rfl hl.1 rfl (Nat.le_of_ble_eq_true rfl) dX7_isWord_30 ⟨Nat.zero_le _, Nat.zero_le _⟩ ?_
          refine lv_icmp_ge (tgt := 76) hx hb dX7_isWord_33 (by decide) (fun c_33 => ?_) (fun c_33 => ?_)
          · have hf := ip c_33 hf
            exact hp76 _ hf (lv_sub hl [] rfl)
          · have hf := iq c_33 hf
            refine lv_aload_n hx hb dX7_isWord_36 rfl (lv_at hl 0 rfl) ?_
            refine va_get (D := D) (ci := 6) (v := .int (z.1 3)) (C := RX7) (T := TX7) (N := 5) hx hb hts hiX7 hown hK hP 0 rfl rfl 3 (by decide) k22 (fun _ h9 => h9) rfl dX7_isWord_37 ?_
            refine lv_iload_n hx hb dX7_isWord_40 rfl (lv_at hl 2 rfl) ?_
            refine lv_iadd hx hb dX7_isWord_41 ?_
            refine lv_aload_n hx hb dX7_isWord_42 rfl (lv_at hl 0 rfl) ?_
            refine va_get (D := D) (ci := 6) (v := .int (z.1 1)) (C := RX7) (T := TX7) (N := 5) hx hb hts hiX7 hown hK hP 0 rfl rfl 1 (by decide) k15 (fun _ h9 => h9) rfl dX7_isWord_43 ?_
            refine lv_icmp_ge (tgt := 76) hx hb dX7_isWord_46 (by decide) (fun c_46 => ?_) (fun c_46 => ?_)
            · have hf := ip c_46 hf
              exact hp76 _ hf (lv_sub hl [] rfl)
            · have hf := iq c_46 hf
              refine lv_aload_n hx hb dX7_isWord_49 rfl (lv_at hl 0 rfl) ?_
              refine va_get (D := D) (ci := 6) (v := .ref (q 1)) (C := RX7) (T := TX7) (N := 5) hx hb hts hiX7 hown hK hP 0 rfl rfl 0 (by decide) k9 (fun _ h9 => h9) rfl dX7_isWord_50 ?_
              refine lv_aload_n hx hb dX7_isWord_53 rfl (lv_at hl 0 rfl) ?_
              refine va_get (D := D) (ci := 6) (v := .int (z.1 3)) (C := RX7) (T := TX7) (N := 5) hx hb hts hiX7 hown hK hP 0 rfl rfl 3 (by decide) k22 (fun _ h9 => h9) rfl dX7_isWord_54 ?_
              refine lv_iload_n hx hb dX7_isWord_57 rfl (lv_at hl 2 rfl) ?_
              refine lv_iadd hx hb dX7_isWord_58 ?_
              obtain ⟨hi_, hf⟩ := gd_ob hf
              refine va_bald hx hb hK hP 1 1 rfl rfl (inB_in hi_) dX7_isWord_59 ?_
              refine lv_aload_n hx hb dX7_isWord_60 rfl (lv_at hl 1 rfl) ?_
              refine lv_iload_n hx hb dX7_isWord_61 rfl (lv_at hl 2 rfl) ?_
              obtain ⟨hi_, hf⟩ := gd_ob hf
              refine rdVG (As := [.int v2_28]) (rest := [.int (z.2 0 (((z.1 3) + v2_28)).toNatClampNeg)]) ⟨hx, hb, hml, hown, hts⟩ (tJ0_charAt l tx sa av v2_28 hi_) (cwV 1 hts gX7_isWord_J0_charAt_5068e rfl rfl rfl (by decide +kernel) ⟨Nat.le_of_ble_eq_true rfl, Nat.le_of_ble_eq_true rfl⟩) PT_blind (fun U hU hW => by show Txt _ _ _ _ _ _; rw [hU]; exact (hE).off.moved hW) (hE).recv rfl hl.1 rfl (Nat.le_of_ble_eq_true rfl) dX7_isWord_62 ⟨Nat.zero_le _, Nat.zero_le _⟩ ?_
              refine lv_icmp_eq (tgt := 70) hx hb dX7_isWord_65 (by decide) (fun c_65 => ?_) (fun c_65 => ?_)
              · have hf := ip c_65 hf
                obtain ⟨v2_1, ev2_1, hf⟩ := nm_ob hf
                refine lv_iinc (v := v2_1) (lv' := [(2, .int v2_1), (0, .ref (q 0)), (1, .ref sa)]) hx hb dX7_isWord_70 hl (k := 2) rfl (by rw [ev2_1]; rfl) (by decide) rfl (fun ls hl => ?_)
                refine lv_goto (tgt := 28) hx hb dX7_isWord_73 (by decide) ?_
                exact ih28 v2_1 _ hf (lv_sub hl [1, 2, 0] rfl)
              · have hf := iq c_65 hf
                refine lv_iconst (v := 0) hx hb dX7_isWord_68 (by decide) ?_
                obtain ⟨hz, hf⟩ := gd_ob hf
                exact rR_z hx hb hr hlocks hz (so_ob hf) dX7_isWord_69
      exact hL28 fu (0 : Int32) _ hf (lv_sub hl [1, 2, 0] rfl)
    · have hf := iq c_21 hf
      refine lv_iconst (v := 0) hx hb dX7_isWord_24 (by decide) ?_
      obtain ⟨hz, hf⟩ := gd_ob hf
      exact rR_z hx hb hr hlocks hz (so_ob hf) dX7_isWord_25
def fX7_letter (fu : Nat) (z : OS) : Option (Int32) :=
  (if ¬ (z.1 2) = (1 : Int32) then some (-1 : Int32) else (if ¬ ((z.1 4) - (z.1 3)) = (1 : Int32) then some (-1 : Int32) else (if (z.1 3) < (z.1 1) then gd (inB (z.1 3) 500) (some ((z.2 0 ((z.1 3)).toNatClampNeg) - (97 : Int32))) else some (-1 : Int32))))
set_option maxRecDepth 100000 in
set_option maxHeartbeats 4000000 in
theorem mX7_letter (l : Launch) (D : va_G) (cI cB cZ cO : ClassId) (q : Nat → Nat) (fu : Nat) (z : OS) {r : Int32} (hf : fX7_letter fu z = some r) : Met l yX7_letter wsX7_letter ({ frames := 0, cells := 0, slots := 0, locals := 0 }) (va_Pc [.ref (q 0)] (Pr D (gT cI cB cZ cO) (wT cB q z))) (Qr (some (.int r))) 0 0 (fun _ => False) := by
  unfold fX7_letter at hf
  refine metR (ret := (some .int)) (own := RX7) rfl (by decide) rfl (Nat.le_of_ble_eq_true rfl) (fun p e s m args below meth c ls hx hb hr hml hown hlocks hts hP hK hl => ?_)
  have k19 := (hts (.fieldLink RX7 19 "ResolutionProver$Tokens" "kind" "I") (List.mem_of_getElem? (i := 1) rfl))
  have k25 := (hts (.fieldLink RX7 25 "ResolutionProver$Tokens" "end" "I") (List.mem_of_getElem? (i := 2) rfl))
  have k22 := (hts (.fieldLink RX7 22 "ResolutionProver$Tokens" "start" "I") (List.mem_of_getElem? (i := 3) rfl))
  have k15 := (hts (.fieldLink RX7 15 "ResolutionProver$Tokens" "length" "I") (List.mem_of_getElem? (i := 4) rfl))
  have k9 := (hts (.fieldLink RX7 9 "ResolutionProver$Tokens" "bytes" "[B") (List.mem_of_getElem? (i := 5) rfl))
  have hiX7 : ∀ w ∈ wsX70, w ∈ wsX7_letter := (memIn_p [6, 7, 8, 9, 10] rfl)
  have hl : lv_has ls 1 [(0, .ref (q 0))] := hl
  refine lv_aload_n hx hb dX7_letter_0 rfl (lv_at hl 0 rfl) ?_
  refine va_get (D := D) (ci := 6) (v := .int (z.1 2)) (C := RX7) (T := TX7) (N := 5) hx hb hts hiX7 hown hK hP 0 rfl rfl 2 (by decide) k19 (fun _ h9 => h9) rfl dX7_letter_1 ?_
  refine lv_iconst (v := 1) hx hb dX7_letter_4 (by decide) ?_
  refine lv_icmp_ne (tgt := 32) hx hb dX7_letter_5 (by decide) (fun c_5 => ?_) (fun c_5 => ?_)
  · have hf := ip c_5 hf
    refine lv_iconst (v := (-1)) hx hb dX7_letter_32 (by decide) ?_
    exact rR_i hx hb hr hlocks (so_ob hf) dX7_letter_33
  · have hf := iqn c_5 hf
    refine lv_aload_n hx hb dX7_letter_8 rfl (lv_at hl 0 rfl) ?_
    refine va_get (D := D) (ci := 6) (v := .int (z.1 4)) (C := RX7) (T := TX7) (N := 5) hx hb hts hiX7 hown hK hP 0 rfl rfl 4 (by decide) k25 (fun _ h9 => h9) rfl dX7_letter_9 ?_
    refine lv_aload_n hx hb dX7_letter_12 rfl (lv_at hl 0 rfl) ?_
    refine va_get (D := D) (ci := 6) (v := .int (z.1 3)) (C := RX7) (T := TX7) (N := 5) hx hb hts hiX7 hown hK hP 0 rfl rfl 3 (by decide) k22 (fun _ h9 => h9) rfl dX7_letter_13 ?_
    refine lv_isub hx hb dX7_letter_16 ?_
    refine lv_iconst (v := 1) hx hb dX7_letter_17 (by decide) ?_
    refine lv_icmp_ne (tgt := 32) hx hb dX7_letter_18 (by decide) (fun c_18 => ?_) (fun c_18 => ?_)
    · have hf := ip c_18 hf
      refine lv_iconst (v := (-1)) hx hb dX7_letter_32 (by decide) ?_
      exact rR_i hx hb hr hlocks (so_ob hf) dX7_letter_33
    · have hf := iqn c_18 hf
      refine lv_aload_n hx hb dX7_letter_21 rfl (lv_at hl 0 rfl) ?_
      refine va_get (D := D) (ci := 6) (v := .int (z.1 3)) (C := RX7) (T := TX7) (N := 5) hx hb hts hiX7 hown hK hP 0 rfl rfl 3 (by decide) k22 (fun _ h9 => h9) rfl dX7_letter_22 ?_
      refine lv_aload_n hx hb dX7_letter_25 rfl (lv_at hl 0 rfl) ?_
      refine va_get (D := D) (ci := 6) (v := .int (z.1 1)) (C := RX7) (T := TX7) (N := 5) hx hb hts hiX7 hown hK hP 0 rfl rfl 1 (by decide) k15 (fun _ h9 => h9) rfl dX7_letter_26 ?_
      refine lv_icmp_lt (tgt := 34) hx hb dX7_letter_29 (by decide) (fun c_29 => ?_) (fun c_29 => ?_)
      · have hf := ip c_29 hf
        refine lv_aload_n hx hb dX7_letter_34 rfl (lv_at hl 0 rfl) ?_
        refine va_get (D := D) (ci := 6) (v := .ref (q 1)) (C := RX7) (T := TX7) (N := 5) hx hb hts hiX7 hown hK hP 0 rfl rfl 0 (by decide) k9 (fun _ h9 => h9) rfl dX7_letter_35 ?_
        refine lv_aload_n hx hb dX7_letter_38 rfl (lv_at hl 0 rfl) ?_
        refine va_get (D := D) (ci := 6) (v := .int (z.1 3)) (C := RX7) (T := TX7) (N := 5) hx hb hts hiX7 hown hK hP 0 rfl rfl 3 (by decide) k22 (fun _ h9 => h9) rfl dX7_letter_39 ?_
        obtain ⟨hi_, hf⟩ := gd_ob hf
        refine va_bald hx hb hK hP 1 1 rfl rfl (inB_in hi_) dX7_letter_42 ?_
        refine lv_bipush (v := 97) hx hb dX7_letter_43 (by decide) ?_
        refine lv_isub hx hb dX7_letter_45 ?_
        exact rR_i hx hb hr hlocks (so_ob hf) dX7_letter_46
      · have hf := iq c_29 hf
        refine lv_iconst (v := (-1)) hx hb dX7_letter_32 (by decide) ?_
        exact rR_i hx hb hr hlocks (so_ob hf) dX7_letter_33
def lX7_number_22 (z : OS) (j59 : Int32 → Option (Int32)) : Nat → Int32 → Int32 → Option (Int32)
  | 0, _, _ => none
  | n_22 + 1, v1_22, v2_22 => (if (z.1 4) ≤ v2_22 then j59 v1_22 else (if (z.1 1) ≤ v2_22 then j59 v1_22 else gd (inB v2_22 500) (nm ((((10 : Int32) * v1_22) + (z.2 0 (v2_22).toNatClampNeg)) - (48 : Int32)) (fun (v1_2 : Int32) => nm (v2_22 + (1 : Int32)) (fun (v2_3 : Int32) => lX7_number_22 z j59 n_22 v1_2 v2_3)))))
def fX7_number (fu : Nat) (z : OS) : Option (Int32) :=
  (if ((z.1 4) - (z.1 3)) ≤ (4 : Int32) then nm (z.1 3) (fun (v2_1 : Int32) => jn (κ := Int32 → Option (Int32)) (fun (v1_59 : Int32) => some v1_59) (fun j59 => lX7_number_22 z j59 fu (0 : Int32) v2_1)) else some (-1 : Int32))
set_option maxRecDepth 100000 in
set_option maxHeartbeats 4000000 in
theorem mX7_number (l : Launch) (D : va_G) (cI cB cZ cO : ClassId) (q : Nat → Nat) (fu : Nat) (z : OS) {r : Int32} (hf : fX7_number fu z = some r) : Met l yX7_number wsX7_number ({ frames := 0, cells := 0, slots := 0, locals := 0 }) (va_Pc [.ref (q 0)] (Pr D (gT cI cB cZ cO) (wT cB q z))) (Qr (some (.int r))) 0 0 (fun _ => False) := by
  unfold fX7_number at hf
  refine metR (ret := (some .int)) (own := RX7) rfl (by decide) rfl (Nat.le_of_ble_eq_true rfl) (fun p e s m args below meth c ls hx hb hr hml hown hlocks hts hP hK hl => ?_)
  have k25 := (hts (.fieldLink RX7 25 "ResolutionProver$Tokens" "end" "I") (List.mem_of_getElem? (i := 1) rfl))
  have k22 := (hts (.fieldLink RX7 22 "ResolutionProver$Tokens" "start" "I") (List.mem_of_getElem? (i := 2) rfl))
  have k15 := (hts (.fieldLink RX7 15 "ResolutionProver$Tokens" "length" "I") (List.mem_of_getElem? (i := 3) rfl))
  have k9 := (hts (.fieldLink RX7 9 "ResolutionProver$Tokens" "bytes" "[B") (List.mem_of_getElem? (i := 4) rfl))
  have hiX7 : ∀ w ∈ wsX70, w ∈ wsX7_number := (memIn_p [5, 6, 7, 8, 9] rfl)
  have hl : lv_has ls 3 [(0, .ref (q 0))] := hl
  refine lv_aload_n hx hb dX7_number_0 rfl (lv_at hl 0 rfl) ?_
  refine va_get (D := D) (ci := 6) (v := .int (z.1 4)) (C := RX7) (T := TX7) (N := 5) hx hb hts hiX7 hown hK hP 0 rfl rfl 4 (by decide) k25 (fun _ h9 => h9) rfl dX7_number_1 ?_
  refine lv_aload_n hx hb dX7_number_4 rfl (lv_at hl 0 rfl) ?_
  refine va_get (D := D) (ci := 6) (v := .int (z.1 3)) (C := RX7) (T := TX7) (N := 5) hx hb hts hiX7 hown hK hP 0 rfl rfl 3 (by decide) k22 (fun _ h9 => h9) rfl dX7_number_5 ?_
  refine lv_isub hx hb dX7_number_8 ?_
  refine lv_iconst (v := 4) hx hb dX7_number_9 (by decide) ?_
  refine lv_icmp_le (tgt := 15) hx hb dX7_number_10 (by decide) (fun c_10 => ?_) (fun c_10 => ?_)
  · have hf := ip c_10 hf
    refine lv_iconst (v := 0) hx hb dX7_number_15 (by decide) ?_
    refine lv_istore_n (lv' := [(1, .int (0 : Int32)), (0, .ref (q 0))]) hx hb dX7_number_16 rfl hl (by decide) rfl (fun ls hl => ?_)
    refine lv_aload_n hx hb dX7_number_17 rfl (lv_at hl 1 rfl) ?_
    refine va_get (D := D) (ci := 6) (v := .int (z.1 3)) (C := RX7) (T := TX7) (N := 5) hx hb hts hiX7 hown hK hP 0 rfl rfl 3 (by decide) k22 (fun _ h9 => h9) rfl dX7_number_18 ?_
    obtain ⟨v2_1, ev2_1, hf⟩ := nm_ob hf
    refine lv_nmi ev2_1 ?_
    refine lv_istore_n (lv' := [(2, .int v2_1), (1, .int (0 : Int32)), (0, .ref (q 0))]) hx hb dX7_number_21 rfl hl (by decide) rfl (fun ls hl => ?_)
    obtain ⟨j59, ej59, hf⟩ := jn_ob hf
    have hp59 : ∀ (v1_59 : Int32) (ls : Array Slot), j59 v1_59 = some r → lv_has ls 3 [(1, .int v1_59)] → W p l e (headSpec wsX7_number { frames := 0, cells := 0, slots := 0, locals := 0 }).room s m args below meth c s.heap [] 0 0 (MQ below (Qr (some (.int r))) args s 0 0 (fun _ => False)) (F0 m 59 ls []) := by
      intro v1_59 ls hf hl
      rw [ej59] at hf
      refine lv_iload_n hx hb dX7_number_59 rfl (lv_at hl 0 rfl) ?_
      exact rR_i hx hb hr hlocks (so_ob hf) dX7_number_60
    have hL22 : ∀ (n_22 : Nat) (v1_22 : Int32) (v2_22 : Int32) (ls : Array Slot), lX7_number_22 z j59 n_22 v1_22 v2_22 = some r → lv_has ls 3 [(0, .ref (q 0)), (1, .int v1_22), (2, .int v2_22)] → W p l e (headSpec wsX7_number { frames := 0, cells := 0, slots := 0, locals := 0 }).room s m args below meth c s.heap [] 0 0 (MQ below (Qr (some (.int r))) args s 0 0 (fun _ => False)) (F0 m 22 ls []) := by
      intro n_22
      induction n_22 with
      | zero =>
        intro v1_22 v2_22 ls hf
        exact no_ob hf
      | succ n_22 ih22 =>
        intro v1_22 v2_22 ls hf hl
        rw [lX7_number_22] at hf
        refine lv_iload_n hx hb dX7_number_22 rfl (lv_at hl 2 rfl) ?_
        refine lv_aload_n hx hb dX7_number_23 rfl (lv_at hl 0 rfl) ?_
        refine va_get (D := D) (ci := 6) (v := .int (z.1 4)) (C := RX7) (T := TX7) (N := 5) hx hb hts hiX7 hown hK hP 0 rfl rfl 4 (by decide) k25 (fun _ h9 => h9) rfl dX7_number_24 ?_
        refine lv_icmp_ge (tgt := 59) hx hb dX7_number_27 (by decide) (fun c_27 => ?_) (fun c_27 => ?_)
        · have hf := ip c_27 hf
          exact hp59 v1_22 _ hf (lv_sub hl [1] rfl)
        · have hf := iq c_27 hf
          refine lv_iload_n hx hb dX7_number_30 rfl (lv_at hl 2 rfl) ?_
          refine lv_aload_n hx hb dX7_number_31 rfl (lv_at hl 0 rfl) ?_
          refine va_get (D := D) (ci := 6) (v := .int (z.1 1)) (C := RX7) (T := TX7) (N := 5) hx hb hts hiX7 hown hK hP 0 rfl rfl 1 (by decide) k15 (fun _ h9 => h9) rfl dX7_number_32 ?_
          refine lv_icmp_ge (tgt := 59) hx hb dX7_number_35 (by decide) (fun c_35 => ?_) (fun c_35 => ?_)
          · have hf := ip c_35 hf
            exact hp59 v1_22 _ hf (lv_sub hl [1] rfl)
          · have hf := iq c_35 hf
            refine lv_bipush (v := 10) hx hb dX7_number_38 (by decide) ?_
            refine lv_iload_n hx hb dX7_number_40 rfl (lv_at hl 1 rfl) ?_
            refine lv_imul hx hb dX7_number_41 ?_
            refine lv_aload_n hx hb dX7_number_42 rfl (lv_at hl 0 rfl) ?_
            refine va_get (D := D) (ci := 6) (v := .ref (q 1)) (C := RX7) (T := TX7) (N := 5) hx hb hts hiX7 hown hK hP 0 rfl rfl 0 (by decide) k9 (fun _ h9 => h9) rfl dX7_number_43 ?_
            refine lv_iload_n hx hb dX7_number_46 rfl (lv_at hl 2 rfl) ?_
            obtain ⟨hi_, hf⟩ := gd_ob hf
            refine va_bald hx hb hK hP 1 1 rfl rfl (inB_in hi_) dX7_number_47 ?_
            refine lv_iadd hx hb dX7_number_48 ?_
            refine lv_bipush (v := 48) hx hb dX7_number_49 (by decide) ?_
            refine lv_isub hx hb dX7_number_51 ?_
            obtain ⟨v1_2, ev1_2, hf⟩ := nm_ob hf
            refine lv_nmi ev1_2 ?_
            refine lv_istore_n (lv' := [(1, .int v1_2), (0, .ref (q 0)), (2, .int v2_22)]) hx hb dX7_number_52 rfl hl (by decide) rfl (fun ls hl => ?_)
            obtain ⟨v2_3, ev2_3, hf⟩ := nm_ob hf
            refine lv_iinc (v := v2_3) (lv' := [(2, .int v2_3), (1, .int v1_2), (0, .ref (q 0))]) hx hb dX7_number_53 hl (k := 2) rfl (by rw [ev2_3]; rfl) (by decide) rfl (fun ls hl => ?_)
            refine lv_goto (tgt := 22) hx hb dX7_number_56 (by decide) ?_
            exact ih22 v1_2 v2_3 _ hf (lv_sub hl [2, 1, 0] rfl)
    exact hL22 fu (0 : Int32) v2_1 _ hf (lv_sub hl [2, 1, 0] rfl)
  · have hf := iq c_10 hf
    refine lv_iconst (v := (-1)) hx hb dX7_number_13 (by decide) ?_
    exact rR_i hx hb hr hlocks (so_ob hf) dX7_number_14
