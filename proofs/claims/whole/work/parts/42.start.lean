/-! The start of the law: its objects, its cell, its loop; and the claim out of it. -/
abbrev startV (cI cB cZ cO : ClassId) (Q : Nat → Nat → Nat) (X : Nat → OS) : List va_W := [wXO Q, wC cI (Q 1) (X 1), wC cI (Q 2) (X 2), wS (Q 3) (Q 4 0) (Q 5 0) (Q 6 0) (Q 7 0) (X 3), wT cB (Q 4) (X 4), wC cI (Q 5) (X 5), wA (Q 6) (X 6), wP (Q 7) (X 7), wH cO (Q 8) (Q 9 0) (Q 10 0) (Q 11 0) (Q 12 0) (Q 13 0) (Q 14 0) (Q 15 0) (Q 16 0) (X 8), wC cI (Q 9) (X 9), wC cI (Q 10) (X 10), wC cI (Q 11) (X 11), wC cI (Q 12) (X 12), wC cI (Q 13) (X 13), wC cI (Q 14) (X 14), wC cI (Q 15) (X 15), wC cI (Q 16) (X 16), wXS cO (Q 17) (Q 18 0) (Q 19 0), wC cI (Q 18) (X 18), wC cI (Q 19) (X 19), wXF cZ (Q 20) (X 20), wA (Q 21) (X 21), wP (Q 22) (X 22), wO cB (Q 23) (X 23)]
theorem fl_app (V : List va_W) (w : va_W) : fl V ++ w = fl (V ++ [w]) := by
  show V.flatten ++ w = (V ++ [w]).flatten
  rw [List.flatten_append, List.flatten_cons, List.flatten_nil, List.append_nil]
set_option maxRecDepth 100000 in
set_option maxHeartbeats 4000000 in
theorem xin_w (cI cB cZ cO : ClassId) (Q : Nat → Nat → Nat) : startV cI cB cZ cO Q Xin = [wXO Q, wC cI (Q 1) zX00, wC cI (Q 2) zX00, wS (Q 3) (Q 4 0) (Q 5 0) (Q 6 0) (Q 7 0) zX60, wT cB (Q 4) zX70, wC cI (Q 5) zX00, wA (Q 6) zX50, wP (Q 7) zX40, wH cO (Q 8) (Q 9 0) (Q 10 0) (Q 11 0) (Q 12 0) (Q 13 0) (Q 14 0) (Q 15 0) (Q 16 0) zX10, wC cI (Q 9) zX00, wC cI (Q 10) zX00, wC cI (Q 11) zX00, wC cI (Q 12) zX00, wC cI (Q 13) zX00, wC cI (Q 14) zX00, wC cI (Q 15) zX00, wC cI (Q 16) zX00, wXS cO (Q 17) (Q 18 0) (Q 19 0), wC cI (Q 18) zX00, wC cI (Q 19) zX00, wXF cZ (Q 20) zXF0, wA (Q 21) zX50, wP (Q 22) zX40, wO cB (Q 23) zX30] := rfl
section RowB
variable {p : Program} {l : Launch} {e : Env} {R : Room} {s : State} {m : MethodId} {args : Array Value} {below : List Frame} {meth : Method} {c : Code} {H : Heap} {locs : List Loc} {cells slots : Nat} {Q : State → Prop}
variable {pc : Nat} {ls : Array Slot} {rest st0 : List Value} {cc : ByteArray} {D : va_G} {tys : List (ClassId × FieldType)} {A : Nat → Prop} {H0 : Heap}
theorem alIb {α : Type} {y : MethodName} {bytes : ByteArray} {maxL nL n index mc ms b : Nat} {wsy Ts : List Cond} {rm : Room} {own : String} {V : List va_W} {wc : va_W} {wf : α → va_W} {rt : α → Nat}
    (S : CallFix p m c cc nL s args Ts own) (hM : Met l y wsy rm (va_Pc [.ref b] (Pw D tys wc H.size)) (Qn D (va_A wc H.size) wf rt b) mc ms (va_A wc H.size)) (cw : CallB R s args own index y bytes maxL none wsy rm mc ms n ∧ y.name = "<init>" ∧ (Cond.instanceMethod y).before args s = true)
    (hK : va_K D vwCl tys s) (hP : va_P D vwCl (fl V) H) (hD : va_D A (fl V)) (hS : va_S A H0 H locs) (hA : ∀ q, H0.size ≤ q → A q) (iC iR : List Nat) (nV : Nat) (hnV : V.length = nV) (hok : (iC ++ iR).isPerm (List.range nV) = true) (hC : fl (sel V iC) = wc)
    (hn : ([] : List Value).length = n) (hsize : ls.size = nL) (hstack : st0 = .ref b :: rest) (hW : (rest.map fun v => v.category).sum ≤ 8) (hdg : decode cc pc = .ok (.invokespecial index, 3)) (hc : cells + mc ≤ R.cells ∧ slots + ms ≤ R.slots)
    (kk : ∀ (q : α) (H1 : Heap) (locs1 : List Loc), rt q = b → va_P D vwCl (fl (sel V iR) ++ wf q) H1 → va_D A (fl (sel V iR) ++ wf q) → va_S A H0 H1 locs1 → W p l e R s m args below meth c H1 locs1 (cells + mc) (slots + ms) Q (F0 m (pc + 3) ls rest)) : W p l e R s m args below meth c H locs cells slots Q (F0 m pc ls st0) :=
  alGob hnV hok hC (va_runI (e := e) (g := F0 m pc ls st0) (As := []) (rest := rest) (cells := cells) (slots := slots) (locs := locs) (below := below) (meth := meth) S hM cw ⟨Pw_blind, fun U hU hW => ⟨rfl, by rw [hU], by rw [hU]; exact hP.subb iC hC, va_K.moved hW.alike hK, by subst hC; exact (hD.subb hnV hok).weaken (fun _ _ _ _ => trivial)⟩⟩ rfl hn hsize hstack (lv_room hW) hdg hc) hP hD hS hA kk
end RowB
/-! THE CLAIM OUT OF ONE WALK OF THE LAW'S BODY. Your part is whole_start (and what it stands on); all else here is the same for every law, but numbers. -/
def R_law : String := "ResolutionProverLaw"
def lw_P (b : Addr) (xs : List Int32) (args : Array Value) (s : State) : Prop := args = #[.ref b] ∧ s.IntsAt b xs ∧ xs.length ≤ 3072 ∧ (Jvm.Cond.and given_1 narrow_1).before args s = true
/-- what a walk over the start with the record d0 says of its end, said of the start itself -/
theorem lw_closed {s t : State} {o : Outcome} {d0 : Drawn} {L : List Loc} {k n : Nat} (hd0 : s.drawn.sameBut d0 lw_cs) (hv : ∃ v, o = .returned v) (hW : (s.setDrawn d0).WarmedH t.vm) (hs : (s.setDrawn d0).sameButNew ({ t with vm := s.vm } : State) L k n) : State.butDraws s t lw_cs (fun t1 => Framed s o t1 L k n) := by
  have h2 : t.drawn = d0 := congrArg State.drawn hs.1
  refine ⟨⟨hv, hW, State.sameButNew.setDrawn hs s.drawn⟩, ?_, by decide⟩
  rw [h2]
  exact hd0
def lw_Q (_ : Array Value) (s : State) (o : Outcome) (t : State) : Prop := o = .returned (some (.int 1)) ∧ State.butDraws s t lw_cs (fun t1 => Framed s o t1 [] 601024 7293034)
def lw_Z (below : List Frame) (a : Array Value) (s : State) : State → Prop := fun t => ∃ o, t.status = .running ∧ Ended t below o ∧ lw_Q a s o t
/-- the law's own end, with 1 on the stack, nothing written that was there before, its room as the claim has it; d0: the record of draws at this point (at the entry s.drawn: begin with 'refine W.base ?_' and 'have hd0 := Drawn.sameBut.refl s.drawn lw_cs') -/
theorem lw_ret {p : Program} {l : Launch} {e : Env} {s : State} {m : MethodId} {below : List Frame} {meth : Method} {c : Code} {b : Nat} {d0 : Drawn} (hd0 : s.drawn.sameBut d0 lw_cs) (hx : p.tables.exec = Jvm.exec) (hb : c.code = code) (hr : meth.sig.returnType = ret) (hlocks : meth.locks = false) {pc : Nat} {H : Heap} {ls : Array Slot} (hdg : decode code pc = .ok (.ireturn, 1)) : W p l e room_1 (s.setDrawn d0) m #[Value.ref b] below meth c H [] 601024 7293034 (lw_Z below #[Value.ref b] s) (F0 m pc ls [.int 1]) := by
  intro T hT X
  obtain ⟨fs, hret, hrun, hended, hW, hframe⟩ := X.leave (v := some (.int 1)) (hlocks := hlocks) (fun h => by rw [hr] at h; cases h)
  have hmeth' : T.vm.method? m = some meth := X.method'
  refine ⟨T.setFrames fs, ?_, .returned (some (.int 1)), hrun, hended, rfl, lw_closed hd0 ⟨_, rfl⟩ hW hframe⟩
  jvm_step X.here [X.here.top, hx, hb, hdg, hmeth', hr, ret, narrow_b1]
  (try refine ⟨rfl, ?_⟩); (try refine ⟨rfl, ?_⟩)
  first | (intro acts; rw [hret _ acts rfl rfl rfl]) | rw [hret _ _ rfl rfl rfl]
  exact Steps.refl _
/-- what holds at the law's entry: the machine, the code, the tables' words (any of lw_tbl by 'hts w (by decide +kernel)'), the script of L ints xs at the cell b, what the Statement gives of the start (any of its parts by flat_of_before) -/
def lw_At (p : Program) (s : State) (m : MethodId) (meth : Method) (c : Code) (b L : Nat) (xs : Nat → Int32) : Prop :=
  p.tables.exec = Jvm.exec ∧ c.code = code ∧ meth.sig.returnType = ret ∧ c.maxLocals = 9 ∧ s.vm.findClass R_law = some m.cls ∧ (∀ w ∈ lw_tbl, w.before #[Value.ref b] s = true) ∧ va_X b L xs s s.heap ∧ b < s.heap.size ∧ meth.locks = false ∧ (Jvm.Cond.and given_1 narrow_1).before #[Value.ref b] s = true
set_option maxRecDepth 100000 in
set_option maxHeartbeats 4000000 in
/-- from the entry, for every script of at most 3072 ints, the law comes to its end with true -/
theorem whole_start {p : Program} {e : Env} {s : State} {m : MethodId} {below : List Frame} {meth : Method} {c : Code} (l : Launch) (hflags : l.flags = flags0) {b L : Nat} {xs : Nat → Int32} (hL : L ≤ 3072) (C0 : lw_At p s m meth c b L xs) : W p l e room_1 s m #[Value.ref b] below meth c s.heap [] 0 0 (lw_Z below #[Value.ref b] s) (entryFrame m ([Value.ref b] : List Value).toArray 9) := by
  obtain ⟨hx, hb, hr, hml, hown, hts, hX, hbl, hlocks, hgv⟩ := id C0
  have hb : c.code = cL_law := hb
  have hown : s.vm.findClass RL = some m.cls := hown
  have hst : l.stackTraces = false := by
    have h9 : (!(flags0).contains Jvm.noTraceFlag) = false := by decide +kernel
    show (!l.flags.contains Jvm.noTraceFlag) = false
    rw [hflags]
    exact h9
  have hA : ∀ q : Nat, s.heap.size ≤ q → (fun q : Nat => s.heap.size ≤ q) q := fun _ h => h
  have hnA : ∀ a : Nat, a < s.heap.size → ¬ (fun q : Nat => s.heap.size ≤ q) a := fun a h => Nat.not_le.mpr h
  have hbA : ¬ (fun q : Nat => s.heap.size ≤ q) b := Nat.not_le.mpr hbl
  obtain ⟨D, cI, cB, cZ, cO, cJ, hK⟩ := K_in hts
  obtain ⟨aK, aV, mK, hE⟩ := EW_in (A := fun q : Nat => s.heap.size ≤ q) hts hgv hnA
  have hEA : EA (fun q : Nat => s.heap.size ≤ q) s s.heap := EA_in hts
  have hS : va_S (fun q : Nat => s.heap.size ≤ q) s.heap s.heap [] := va_S.rf
  have hP : va_P D vwCl [] s.heap := fun k q h => by simp at h
  have hD : va_D (fun q : Nat => s.heap.size ≤ q) [] := ⟨fun i j p q h => by simp at h, fun k q h => by simp at h⟩
  have hl := lv_entry ([.ref b]) (n := 9) (Nat.le_of_ble_eq_true rfl)
  rw [lg_entry_eq]
  generalize (lg_sl ([.ref b]) ++ List.replicate (9 - (lg_sl ([.ref b])).length) Slot.unset).toArray = ls at hl ⊢
  have hl : lv_has ls 9 [(0, .ref b)] := hl
  refine va_new (ci := 7) (fs := [.null, .null, .null, .null, .null, .null, .null, .null, .null]) (C := RX8) (T := TX8) (N := 9) hx hb hts in_wsX80 tyX8 tyX8_ok hown (hts (.classLink RL 8 RX8) (tq1 _ (List.mem_of_getElem? (i := 25) rfl))) (hts (.instantiable RX8 9) (tq1 _ (List.mem_of_getElem? (i := 26) rfl))) (hts (.initialized RX8) (tq1 _ (List.mem_of_getElem? (i := 1) rfl))) hK hP hD hS hA rfl (fun j hj => by rcases (show j = 0 ∨ j = 1 ∨ j = 2 ∨ j = 3 ∨ j = 4 ∨ j = 5 ∨ j = 6 ∨ j = 7 ∨ j = 8 by omega) with rfl | rfl | rfl | rfl | rfl | rfl | rfl | rfl | rfl <;> rfl) (Nat.le_of_ble_eq_true rfl) (Nat.le_of_ble_eq_true rfl) dL_law_0 (fun h0 H hP hD hS => ?_)
  have hP : va_P D vwCl (fl [[(h0, .inr (7, [.null, .null, .null, .null, .null, .null, .null, .null, .null]))]]) H := hP
  have hD : va_D (fun q : Nat => s.heap.size ≤ q) (fl [[(h0, .inr (7, [.null, .null, .null, .null, .null, .null, .null, .null, .null]))]]) := hD
  refine lv_dup hx hb dL_law_3 rfl ?_
  refine alIXb (host := RX8) (rest := [.ref h0]) ⟨hx, hb, hml, hown, hts⟩ (kX8_init l D cI cB cZ cO h0 _) (cwI 0 hts gL_law_X8_init rfl rfl rfl (hts (.initialized RX8) (tq1 _ (List.mem_of_getElem? (i := 1) rfl))) (hts (.methodLink RL 124 yX8_init) (tq1 _ (List.mem_of_getElem? (i := 27) rfl))) (hts (.instanceMethod yX8_init) (tq1 _ (List.mem_of_getElem? (i := 28) rfl))) rfl (by decide +kernel) ⟨Nat.le_of_ble_eq_true rfl, Nat.le_of_ble_eq_true rfl⟩) EA_ok hEA (hK.sub [0, 1, 2, 3] rfl) hP hD hS hA [0] [] 1 rfl (by decide +kernel) rfl rfl hl.1 rfl (Nat.le_of_ble_eq_true rfl) dL_law_4 ⟨Nat.le_of_ble_eq_true rfl, Nat.le_of_ble_eq_true rfl⟩ (fun Q H locs hq9 hP hD hS => ?_)
  have hq9 : Q 0 0 = h0 := hq9
  subst hq9
  have hP : va_P D vwCl (fl (startV cI cB cZ cO Q Xin)) H := by rw [xin_w]; exact hP
  have hD : va_D (fun q : Nat => s.heap.size ≤ q) (fl (startV cI cB cZ cO Q Xin)) := by rw [xin_w]; exact hD
  refine lv_astore_n (lv' := [(1, .ref (Q 0 0)), (0, .ref b)]) hx hb dL_law_7 rfl hl (by decide) rfl (fun ls hl => ?_)
  refine va_new (ci := 8) (fs := [.int 0, .null, .null, .null, .null, .null, .null, .int 0, .int 0, .int 0, .null, .null, .int 0, .int 0, .int 0, .null, .int 0, .int 0, .int 0, .int 0, .int 0, .int 0, .int 0, .int 0, .int 0, .null, .int 0]) (C := RX9) (T := TX9) (N := 27) hx hb hts in_wsX90 tyX9 tyX9_ok hown (hts (.classLink RL 125 RX9) (tq6 _ (List.mem_of_getElem? (i := 4) rfl))) (hts (.instantiable RX9 27) (tq6 _ (List.mem_of_getElem? (i := 5) rfl))) (hts (.initialized RX9) (tq1 _ (List.mem_of_getElem? (i := 9) rfl))) hK hP hD hS hA rfl (fun j hj => by rcases (show j = 0 ∨ j = 1 ∨ j = 2 ∨ j = 3 ∨ j = 4 ∨ j = 5 ∨ j = 6 ∨ j = 7 ∨ j = 8 ∨ j = 9 ∨ j = 10 ∨ j = 11 ∨ j = 12 ∨ j = 13 ∨ j = 14 ∨ j = 15 ∨ j = 16 ∨ j = 17 ∨ j = 18 ∨ j = 19 ∨ j = 20 ∨ j = 21 ∨ j = 22 ∨ j = 23 ∨ j = 24 ∨ j = 25 ∨ j = 26 by omega) with rfl | rfl | rfl | rfl | rfl | rfl | rfl | rfl | rfl | rfl | rfl | rfl | rfl | rfl | rfl | rfl | rfl | rfl | rfl | rfl | rfl | rfl | rfl | rfl | rfl | rfl | rfl <;> rfl) (Nat.le_of_ble_eq_true rfl) (Nat.le_of_ble_eq_true rfl) dL_law_8 (fun h1 H hP hD hS => ?_)
  rw [fl_app] at hP hD
  refine lv_dup hx hb dL_law_11 rfl ?_
  refine alIb (rest := [.ref h1]) ⟨hx, hb, hml, hown, hts⟩ (kX9_init l D cI cB cZ cO h1 _) (cwI 0 hts gL_law_X9_init rfl rfl rfl (hts (.initialized RX9) (tq1 _ (List.mem_of_getElem? (i := 9) rfl))) (hts (.methodLink RL 127 yX9_init) (tq6 _ (List.mem_of_getElem? (i := 6) rfl))) (hts (.instanceMethod yX9_init) (tq6 _ (List.mem_of_getElem? (i := 7) rfl))) rfl (by decide +kernel) ⟨Nat.le_of_ble_eq_true rfl, Nat.le_of_ble_eq_true rfl⟩) (hK.sub [0, 1, 2, 3] rfl) hP hD hS hA [24] [0, 1, 2, 3, 4, 5, 6, 7, 8, 9, 10, 11, 12, 13, 14, 15, 16, 17, 18, 19, 20, 21, 22, 23] 25 rfl (by decide +kernel) rfl rfl hl.1 rfl (Nat.le_of_ble_eq_true rfl) dL_law_12 ⟨Nat.le_of_ble_eq_true rfl, Nat.le_of_ble_eq_true rfl⟩ (fun q H locs hq9 hP hD hS => ?_)
  have hq9 : q 0 = h1 := hq9
  subst hq9
  rw [fl_app] at hP hD
  have hP : va_P D vwCl (fl (startV cI cB cZ cO Q Xin ++ [wM cI cB cZ q zX90])) H := hP
  have hD : va_D (fun q : Nat => s.heap.size ≤ q) (fl (startV cI cB cZ cO Q Xin ++ [wM cI cB cZ q zX90])) := hD
  refine lv_astore_n (lv' := [(2, .ref (q 0)), (1, .ref (Q 0 0)), (0, .ref b)]) hx hb dL_law_15 rfl hl (by decide) rfl (fun ls hl => ?_)
  refine lv_iconst (v := 1) hx hb dL_law_16 (by decide) ?_
  refine va_newa (atype := .long) (ty := .long) (a0 := (1, .inr (.inl (fun _ => 0)))) (N' := 1) hx hb (hts (.arrayClass .long) (tq8 _ (List.mem_of_getElem? (i := 195) rfl))) rfl hK hP hD hS hA (fun cA => rfl) (by decide) (by decide) (Nat.le_of_ble_eq_true rfl) (Nat.le_of_ble_eq_true rfl) (Nat.le_of_ble_eq_true rfl) dL_law_17 (fun a cA H hK1 hP hD hS => ?_)
  have e9 : cA = cJ := va_K_one hK1 (i := 5) (j := 4) rfl rfl
  rw [e9] at hP hD
  rw [fl_app] at hP hD
  have hperm : List.Perm (fl ((startV cI cB cZ cO Q Xin ++ [wM cI cB cZ q zX90]) ++ [wL cJ a (fun _ => 0)])) (fl (lawW cI cB cZ cO cJ Q q a Xin zX90 (fun _ => 0))) := (List.perm_append_singleton (wL cJ a (fun _ => 0)) (startV cI cB cZ cO Q Xin ++ [wM cI cB cZ q zX90])).flatten
  have hP : va_P D vwCl (fl (lawW cI cB cZ cO cJ Q q a Xin zX90 (fun _ => 0))) H := hP.perm hperm
  have hD : va_D (fun q : Nat => s.heap.size ≤ q) (fl (lawW cI cB cZ cO cJ Q q a Xin zX90 (fun _ => 0))) := hD.perm hperm
  refine lv_astore_n (lv' := [(3, .ref a), (2, .ref (q 0)), (1, .ref (Q 0 0)), (0, .ref b)]) hx hb dL_law_19 rfl hl (by decide) rfl (fun ls hl => ?_)
  refine lv_iconst (v := 0) hx hb dL_law_20 (by decide) ?_
  refine lv_istore (lv' := [(4, .int 0), (3, .ref a), (2, .ref (q 0)), (1, .ref (Q 0 0)), (0, .ref b)]) hx hb dL_law_21 hl (by decide) rfl (fun ls hl => ?_)
  have hl : lv_has ls 9 [(0, .ref b), (1, .ref (Q 0 0)), (2, .ref (q 0)), (3, .ref a), (4, .int (Int32.ofNat 0))] := lv_sub hl [4, 3, 2, 1, 0] rfl
  exact law_loop hst hx hb hml hown hts hK hA hX hbl hbA hE hL (fun H1 locs1 ls1 hS => va_forget (fun q hq => hS.2.2 q hq) (lv_iconst (v := 1) hx hb dL_law_2908 (by decide) (W.base (lw_ret (d0 := s.drawn) (Drawn.sameBut.refl s.drawn lw_cs) hx hb hr hlocks dL_law_2909)))) (L / 6) 0 _ _ Xin zX90 (fun _ => 0) H _ ls (by omega) (by omega) (by omega) (by omega) (all_ok xs (L / 6) (fun _ => 0)) hP hD hS hl
set_option maxHeartbeats 4000000 in
theorem lw_walk (l : Launch) (hflags : l.flags = flags0) (b : Addr) (xs : List Int32) : MetFree l x (headSpec (Jvm.Cond.code x code maxLocals ret :: tables_1) room_1) (lw_P b xs) (fun _ _ _ _ _ => True) lw_Q := by
  refine MetFree.of_bodyS (code := code) (maxLocals := maxLocals) (ret := ret) (by decide) ?_ ?_
  · intro args s m h hn
    obtain ⟨meth, c, h1, h2, h3, h4, h5, h6, -, -⟩ := Cond.code_spec hn (atoms_spec (ws := Jvm.Cond.code x code maxLocals ret :: tables_1) h _ List.mem_cons_self)
    exact ⟨meth, c, h1, h2, h3, h4, h5, h6⟩
  · intro p e s m args below meth c s₁ B hml0 hP _
    obtain ⟨rfl, hx, hbd, hgv⟩ := hP
    obtain ⟨scr, harrAt, hlist, hof, hsmall⟩ := hx
    obtain ⟨hcb, hkn, -, -⟩ := State.arrayAt?_spec harrAt
    have hown : s.vm.findClass R_law = some m.cls := findClass_of_methodNamed B.named
    have hts0 : ∀ c ∈ (Jvm.Cond.code x code maxLocals ret :: tables_1), c.before #[Value.ref b] s = true := atoms_spec (ws := Jvm.Cond.code x code maxLocals ret :: tables_1) B.pre
    have hts : ∀ w ∈ lw_tbl, w.before #[Value.ref b] s = true := k2_hts_sels lw_privs (fun w hw => hts0 w (List.mem_cons_of_mem _ hw)) lw_privs_ok
    have hml : c.maxLocals = 9 := B.maxLocals_eq (hts0 _ List.mem_cons_self)
    have X₀ : Stand p l e room_1 s m #[Value.ref b] below meth c s₁ [] 0 0 := Stand.of_body B
    have hh0 : s₁.heap = s.heap := by rw [B.state]; rfl
    have hsz : scr.slots.size = xs.length := by rw [← Array.length_toList, hlist, List.length_map]
    have hval : ∀ j : Nat, j < xs.length → scr.slots[j]? = some (.int (xs.getD j 0)) := fun j hj => by
      rw [← Array.getElem?_toList, hlist]
      simp [hj]
    have hbl : b < s.heap.size := (Array.getElem?_eq_some_iff.mp hcb).1
    have hX : va_X b xs.length (fun j => xs.getD j 0) s s.heap := ⟨scr, hcb, hof, hkn, hsz, hval⟩
    have K : W p l e room_1 s m #[Value.ref b] below meth c s₁.heap [] 0 0 (lw_Z below #[Value.ref b] s) (entryFrame m ([Value.ref b] : List Value).toArray 9) := by
      rw [hh0]
      exact whole_start l hflags hbd ⟨B.exec, B.bytes, B.returns, hml, hown, hts, hX, hbl, B.notSynchronized, hgv⟩
    obtain ⟨t, a1, o, b1, b2, b3⟩ := K s₁ rfl X₀
    exact ⟨t, o, a1, b1, b2, b3⟩
theorem lw_pre_spec {args : Array Value} {s : State} (h : (Jvm.Cond.and given_1 narrow_1).before args s = true) (hr : rest_1_c.before args s = true) : ∃ (b : Addr) (xs : List Int32), lw_P b xs args s := by
  have hs := flat_of_before _ h
  have hq := flat_of_before _ hr
  have hc : (Cond.count 1).before args s = true := hs _ (by decide +kernel)
  have harr : (Cond.arrayOf (.arg 0) .int).before args s = true := hs _ (by decide +kernel)
  have hle : (Cond.le (.length (.arg 0)) (.int 3072)).before args s = true := hs _ (by decide +kernel)
  have hlen : (Cond.isInt (.length (.arg 0))).before args s = true := hq _ (by decide +kernel)
  have hall : (Cond.all (.arg 0) (.isInt (.elem (.arg 0) (.index 0)))).before args s = true := hq _ (by decide +kernel)
  obtain ⟨b, xs, hb, hx⟩ := State.ints_of_pre rfl harr hlen hall
  have hsm : xs.length < 2 ^ 31 := hx.choose_spec.2.2.2
  have hev : (Term.length (.arg 0)).eval args s none [] s = some (.int xs.length.toInt32) := hx.length_eval hb
  have hv := Cond.le_ints hev (show (Term.int 3072).eval args s none [] s = some (.int 3072) from rfl)
  have hd : xs.length.toInt32 ≤ 3072 := by
    simpa [Cond.before, Cond.holds, hv] using hle
  have hN : xs.length ≤ 3072 := (Int32.ofNat_le_ofNat hsm (by decide)).mp (show Int32.ofNat xs.length ≤ Int32.ofNat 3072 from hd)
  exact ⟨b, xs, Cond.one_arg hc (show args[0]? = some (.ref b) from hb), hx, hN, h⟩
theorem lw_comes (l : Launch) (hflags : l.flags = flags0) : Comes l x (Jvm.Cond.code x code maxLocals ret :: tables_1) room_1 (fun tb e args s => Calls_1 tb e args s ∧ rest_1 tb e args s ∧ Pre_1 tb e args s)
    (fun _ _ args s o t => lw_Q args s o t) := by
  intro p e ha hc hk s m args below hf hfit hheap happ hpre
  obtain ⟨b, xs, hP⟩ := lw_pre_spec hpre.2.2 hpre.2.1
  obtain ⟨k, o, h1, h2, h3, hQ⟩ := lw_walk l hflags b xs p e ha hc hk s m args below hf ((Spec.applies_iff_loose hf).mp happ).1 hP trivial
  exact ⟨k, o, h1, h2, h3, hQ⟩
theorem lw_frame {s t : State} {o : Outcome} {args : Array Value} (h : State.butDraws s t lw_cs (fun t1 => Framed s o t1 [] 601024 7293034)) :
    State.butDraws s t [Jvm.Choice.named "NaN.bits"] (fun t1 => Framed s o t1 (fieldLocs frame_1_writes args s ++ arrayLocs frame_1_arrays args s ++ staticLocs frame_1_statics s) 601024 7293034) := h
theorem lw_limb (L : Cond) (hL : ∀ (args : Array Value) (s t : State), L.after args s (.returned (some (.int 1))) t = true) :
    ArmFor flags0 classFile x code maxLocals ret World_1 tables_1 room_1 Calls_1 rest_1 Pre_1
      (fun tb e a s o t => postC L tb e a s o t ∧ State.butDraws s t [Jvm.Choice.named "NaN.bits"] (fun t1 => Framed s o t1 (fieldLocs frame_1_writes a s ++ arrayLocs frame_1_arrays a s ++ staticLocs frame_1_statics s) 601024 7293034)) := by
  intro l hflags _ _ p e ha hc hk s m args below hf hfit hheap happ hpre
  obtain ⟨k, o, h1, h2, h3, rfl, hF⟩ := lw_comes l hflags p e ha hc hk s m args below hf hfit hheap happ hpre
  exact ⟨k, _, h1, h2, h3, hL args s _, lw_frame hF⟩
theorem i_vc : Claimed_1_1 ∧ Claimed_1_2 := ⟨lw_limb limb_1_1 (fun args s t => by simp [limb_1_1, Cond.after, Cond.holds, Cond.value]), lw_limb limb_1_2 (fun args s t => Cond.after_iff.mpr (by
  first | (rw [show limb_1_2 = Cond.eq .result (.int 1) from rfl, Cond.eq_ints (x := 1) (y := 1) rfl rfl]; simp; done) | (simp [limb_1_2, Cond.value, Term.eval]; done)))⟩
