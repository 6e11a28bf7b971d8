/-! Constructors of objects that hold objects. -/
abbrev nestL : List Cond := [.methodLinkNest RX6 11 yX7_init RX8, .methodLinkNest RX6 20 yX0_init RX8, .methodLinkNest RX6 27 yX5_init RX8, .methodLinkNest RX6 34 yX4_init RX8, .methodLinkNest RX1 24 yX0_init RX8, .methodLinkNest RX8 9 yX0_init RX8, .methodLinkNest RX8 21 yX6_init RX8, .methodLinkNest RX8 43 yX5_init RX8, .methodLinkNest RX8 50 yX4_init RX8, .methodLinkNest RX8 57 yX3_init RX8]
theorem nestL_tab : ∀ w ∈ nestL, w.onTables = true := by decide +kernel
theorem nestL_warm {s U : State} (hW : s.WarmedH U.vm) (h : ∀ w ∈ nestL, va_Nw w s) : ∀ w ∈ nestL, va_Nw w U := by
  have h0 := h _ (List.mem_of_getElem? (i := 0) rfl)
  have h1 := h _ (List.mem_of_getElem? (i := 1) rfl)
  have h2 := h _ (List.mem_of_getElem? (i := 2) rfl)
  have h3 := h _ (List.mem_of_getElem? (i := 3) rfl)
  have h4 := h _ (List.mem_of_getElem? (i := 4) rfl)
  have h5 := h _ (List.mem_of_getElem? (i := 5) rfl)
  have h6 := h _ (List.mem_of_getElem? (i := 6) rfl)
  have h7 := h _ (List.mem_of_getElem? (i := 7) rfl)
  have h8 := h _ (List.mem_of_getElem? (i := 8) rfl)
  have h9 := h _ (List.mem_of_getElem? (i := 9) rfl)
  unfold nestL
  exact List.forall_mem_cons.mpr ⟨va_Nw.warmM hW h0, List.forall_mem_cons.mpr ⟨va_Nw.warmM hW h1, List.forall_mem_cons.mpr ⟨va_Nw.warmM hW h2, List.forall_mem_cons.mpr ⟨va_Nw.warmM hW h3, List.forall_mem_cons.mpr ⟨va_Nw.warmM hW h4, List.forall_mem_cons.mpr ⟨va_Nw.warmM hW h5, List.forall_mem_cons.mpr ⟨va_Nw.warmM hW h6, List.forall_mem_cons.mpr ⟨va_Nw.warmM hW h7, List.forall_mem_cons.mpr ⟨va_Nw.warmM hW h8, List.forall_mem_cons.mpr ⟨va_Nw.warmM hW h9, fun _ h => absurd h List.not_mem_nil⟩⟩⟩⟩⟩⟩⟩⟩⟩⟩
abbrev EA : (Nat → Prop) → State → Heap → Prop := fun _ U _ => va_AO RX0 U ∧ ∀ w ∈ nestL, va_Nw w U
theorem EA_ok : EOk EA := ⟨fun _ _ _ _ e h => ⟨va_AO.moved (alike_vm e) h.1, fun w hw => va_Nw.same (nestL_tab w hw) e.symm (h.2 w hw)⟩, fun _ _ _ _ e h => ⟨va_AO.moved e.alike h.1, nestL_warm e h.2⟩, fun _ _ _ _ _ h => h, fun _ _ _ _ _ h => h⟩
section MetAX
variable {l : Launch} {y : MethodName} {ws ws' : List Cond} {cc : ByteArray} {maxL : Nat} {rm : Room} {D : va_G} {tys : List (ClassId × FieldType)} {w : va_W} {av : List Value} {E0 : (Nat → Prop) → State → Heap → Prop}
theorem metAX {α : Type} {own : String} {sz mc ms h0 : Nat} {wf : α → va_W} {rt : α → Nat} (ho : y.cls = own) (hy : plainName y.cls = true) (hw : ws = Cond.code y cc maxL none :: ws') (hn : (lg_sl av).length ≤ maxL)
    (body : ∀ (p : Program) (e : Env) (s : State) (m : MethodId) (args : Array Value) (below : List Frame) (meth : Method) (c : Code) (ls : Array Slot) (A : Nat → Prop), p.tables.exec = Jvm.exec → c.code = cc → meth.sig.returnType = none → c.maxLocals = maxL → s.vm.findClass own = some m.cls → meth.locks = false → meth.name = y.name → (∀ w ∈ ws, w.before args s = true) → va_K D vwCl tys s → (∀ q : Nat, s.heap.size ≤ q → A q) → va_P D vwCl w s.heap → va_D A w → va_S A s.heap s.heap [] → E0 A s s.heap → lv_has ls maxL (lv_args 0 av) →
      W p l e (headSpec ws rm).room s m args below meth c s.heap [] 0 0 (MQ below (Qn D A wf rt h0) args s mc ms A) (F0 m 0 ls [])) :
    Met l y ws rm (va_Pc av (PwX E0 D tys w sz)) (Qn D (va_A w sz) wf rt h0) mc ms (va_A w sz) := by
  refine Met.ofW (cc := cc) (maxL := maxL) (ret := none) hy hw ?_
  intro p e s m args below meth c s₁ B hml hv
  obtain ⟨rfl, ⟨hsz, hP, hK, hD0⟩, hE⟩ := hv
  subst hsz
  have hl := lv_entry av (n := maxL) hn
  rw [lg_entry_eq]
  exact body p e s m _ below meth c _ _ B.exec B.bytes B.returns hml (by rw [← ho]; exact findClass_of_methodNamed B.named) B.notSynchronized ((name_of_methodNamed B.named B.method).1) (atoms_spec (ws := ws) B.pre) hK (fun q h => Or.inr h) hP (hD0.self (sz := s.heap.size)) va_S.rf hE hl
end MetAX
section RowsAX
variable {p : Program} {l : Launch} {e : Env} {R : Room} {s : State} {m : MethodId} {args : Array Value} {below : List Frame} {meth : Method} {c : Code} {H : Heap} {locs : List Loc} {cells slots : Nat} {Q : State → Prop}
variable {pc : Nat} {ls : Array Slot} {rest st0 : List Value} {cc : ByteArray} {D : va_G} {tys : List (ClassId × FieldType)} {A : Nat → Prop} {H0 : Heap} {E0 : (Nat → Prop) → State → Heap → Prop}
theorem alIX {α : Type} {y : MethodName} {bytes : ByteArray} {maxL nL n index mc ms b : Nat} {wsy Ts : List Cond} {rm : Room} {own : String} {ws wc : va_W} {wf : α → va_W} {rt : α → Nat}
    (S : CallFix p m c cc nL s args Ts own) (hM : Met l y wsy rm (va_Pc [.ref b] (PwX E0 D tys wc H.size)) (Qn D (va_A wc H.size) wf rt b) mc ms (va_A wc H.size)) (cw : CallB R s args own index y bytes maxL none wsy rm mc ms n ∧ y.name = "<init>" ∧ (Cond.instanceMethod y).before args s = true)
    (hEk : EOk E0) (hE : E0 A s H) (hK : va_K D vwCl tys s) (hP : va_P D vwCl ws H) (hD : va_D A ws) (hS : va_S A H0 H locs) (hA : ∀ q, H0.size ≤ q → A q) (isC isR : List Nat) (hC : isC.map (fun i => ws[i]?) = wc.map some) (hPc : va_P D vwCl wc H) (hnC : va_nd isC = true) (hR : isR.map (fun i => ws[i]?) = (isR.filterMap (fun i => ws[i]?)).map some) (hnR : va_nd isR = true) (hdis : ∀ i ∈ isR, i ∉ isC)
    (hn : ([] : List Value).length = n) (hsize : ls.size = nL) (hstack : st0 = .ref b :: rest) (hW : (rest.map fun v => v.category).sum ≤ 8) (hdg : decode cc pc = .ok (.invokespecial index, 3)) (hc : cells + mc ≤ R.cells ∧ slots + ms ≤ R.slots)
    (kk : ∀ (q : α) (H1 : Heap) (locs1 : List Loc), rt q = b → va_P D vwCl ((isR.filterMap (fun i => ws[i]?)) ++ wf q) H1 → va_D A ((isR.filterMap (fun i => ws[i]?)) ++ wf q) → va_S A H0 H1 locs1 → W p l e R s m args below meth c H1 locs1 (cells + mc) (slots + ms) Q (F0 m (pc + 3) ls rest)) : W p l e R s m args below meth c H locs cells slots Q (F0 m pc ls st0) := by
  have hF := va_free (wc := wc) hD hS hA isC hC
  have hr := va_runI (e := e) (g := F0 m pc ls st0) (As := []) (rest := rest) (cells := cells) (slots := slots) (locs := locs) (below := below) (meth := meth) S hM cw ⟨PwX_blind hEk, fun U hU hW => ⟨rfl, ⟨by rw [hU], by rw [hU]; exact hPc, va_K.moved hW.alike hK, (hD.sub isC hnC hC).weaken (fun _ _ _ _ => trivial)⟩, by rw [hU]; exact hEk.2.1 _ s U H hW (hEk.2.2.2 A _ s H hF hE)⟩⟩ rfl hn hsize hstack (lv_room hW) hdg hc
  intro T hT X
  obtain ⟨v9, st₀, t, T', L, h0, X', hL, e1, e2, ⟨hv, ⟨q, hq, hP1, hD1⟩, hz, hk⟩, st⟩ := hr T hT X
  cases hv
  rw [h0] at hz hk
  rw [← e1] at hz hk hP1
  obtain ⟨hPj, hDj⟩ := va_join (wr := (isR.filterMap (fun i => ws[i]?))) (w1 := wf q) hP hD isC isR hC hR hnR hdis hk hF hP1 hD1
  obtain ⟨t2, a1, b1⟩ := kk q T'.heap (locs ++ L) hq hPj hDj
    ⟨Nat.le_trans hS.1 hz, fun q h1 h2 => by rw [hk q (Nat.lt_of_lt_of_le h1 hS.1) (fun z => h2 (hF q z))]; exact hS.2.1 q h1 h2, fun q hq => by
      rcases List.mem_append.mp hq with h | h
      · exact hS.2.2 q h
      · exact hF _ (hL q h)⟩ T' rfl X'
  exact ⟨t2, st t2 a1, b1⟩
theorem alINX {α : Type} {y : MethodName} {bytes : ByteArray} {maxL nL n index mc ms b : Nat} {wsy Ts : List Cond} {rm : Room} {own host : String} {ws wc : va_W} {wf : α → va_W} {rt : α → Nat}
    (S : CallFix p m c cc nL s args Ts own) (hM : Met l y wsy rm (va_Pc [.ref b] (PwX E0 D tys wc H.size)) (Qn D (va_A wc H.size) wf rt b) mc ms (va_A wc H.size)) (cw : va_CN R s args own index y host bytes maxL none wsy rm mc ms n ∧ y.name = "<init>" ∧ (Cond.instanceMethod y).before args s = true)
    (hEk : EOk E0) (hE : E0 A s H) (hK : va_K D vwCl tys s) (hP : va_P D vwCl ws H) (hD : va_D A ws) (hS : va_S A H0 H locs) (hA : ∀ q, H0.size ≤ q → A q) (isC isR : List Nat) (hC : isC.map (fun i => ws[i]?) = wc.map some) (hPc : va_P D vwCl wc H) (hnC : va_nd isC = true) (hR : isR.map (fun i => ws[i]?) = (isR.filterMap (fun i => ws[i]?)).map some) (hnR : va_nd isR = true) (hdis : ∀ i ∈ isR, i ∉ isC)
    (hn : ([] : List Value).length = n) (hsize : ls.size = nL) (hstack : st0 = .ref b :: rest) (hW : (rest.map fun v => v.category).sum ≤ 8) (hdg : decode cc pc = .ok (.invokespecial index, 3)) (hc : cells + mc ≤ R.cells ∧ slots + ms ≤ R.slots)
    (kk : ∀ (q : α) (H1 : Heap) (locs1 : List Loc), rt q = b → va_P D vwCl ((isR.filterMap (fun i => ws[i]?)) ++ wf q) H1 → va_D A ((isR.filterMap (fun i => ws[i]?)) ++ wf q) → va_S A H0 H1 locs1 → W p l e R s m args below meth c H1 locs1 (cells + mc) (slots + ms) Q (F0 m (pc + 3) ls rest)) : W p l e R s m args below meth c H locs cells slots Q (F0 m pc ls st0) := by
  have hF := va_free (wc := wc) hD hS hA isC hC
  have hr := va_runIN (e := e) (g := F0 m pc ls st0) (As := []) (rest := rest) (cells := cells) (slots := slots) (locs := locs) (below := below) (meth := meth) S hM cw ⟨PwX_blind hEk, fun U hU hW => ⟨rfl, ⟨by rw [hU], by rw [hU]; exact hPc, va_K.moved hW.alike hK, (hD.sub isC hnC hC).weaken (fun _ _ _ _ => trivial)⟩, by rw [hU]; exact hEk.2.1 _ s U H hW (hEk.2.2.2 A _ s H hF hE)⟩⟩ rfl hn hsize hstack (lv_room hW) hdg hc
  intro T hT X
  obtain ⟨v9, st₀, t, T', L, h0, X', hL, e1, e2, ⟨hv, ⟨q, hq, hP1, hD1⟩, hz, hk⟩, st⟩ := hr T hT X
  cases hv
  rw [h0] at hz hk
  rw [← e1] at hz hk hP1
  obtain ⟨hPj, hDj⟩ := va_join (wr := (isR.filterMap (fun i => ws[i]?))) (w1 := wf q) hP hD isC isR hC hR hnR hdis hk hF hP1 hD1
  obtain ⟨t2, a1, b1⟩ := kk q T'.heap (locs ++ L) hq hPj hDj
    ⟨Nat.le_trans hS.1 hz, fun q h1 h2 => by rw [hk q (Nat.lt_of_lt_of_le h1 hS.1) (fun z => h2 (hF q z))]; exact hS.2.1 q h1 h2, fun q hq => by
      rcases List.mem_append.mp hq with h | h
      · exact hS.2.2 q h
      · exact hF _ (hL q h)⟩ T' rfl X'
  exact ⟨t2, st t2 a1, b1⟩
theorem alIN {α : Type} {y : MethodName} {bytes : ByteArray} {maxL nL n index mc ms b : Nat} {wsy Ts : List Cond} {rm : Room} {own host : String} {ws wc : va_W} {wf : α → va_W} {rt : α → Nat}
    (S : CallFix p m c cc nL s args Ts own) (hM : Met l y wsy rm (va_Pc [.ref b] (Pw D tys wc H.size)) (Qn D (va_A wc H.size) wf rt b) mc ms (va_A wc H.size)) (cw : va_CN R s args own index y host bytes maxL none wsy rm mc ms n ∧ y.name = "<init>" ∧ (Cond.instanceMethod y).before args s = true)
    (hK : va_K D vwCl tys s) (hP : va_P D vwCl ws H) (hD : va_D A ws) (hS : va_S A H0 H locs) (hA : ∀ q, H0.size ≤ q → A q) (isC isR : List Nat) (hC : isC.map (fun i => ws[i]?) = wc.map some) (hPc : va_P D vwCl wc H) (hnC : va_nd isC = true) (hR : isR.map (fun i => ws[i]?) = (isR.filterMap (fun i => ws[i]?)).map some) (hnR : va_nd isR = true) (hdis : ∀ i ∈ isR, i ∉ isC)
    (hn : ([] : List Value).length = n) (hsize : ls.size = nL) (hstack : st0 = .ref b :: rest) (hW : (rest.map fun v => v.category).sum ≤ 8) (hdg : decode cc pc = .ok (.invokespecial index, 3)) (hc : cells + mc ≤ R.cells ∧ slots + ms ≤ R.slots)
    (kk : ∀ (q : α) (H1 : Heap) (locs1 : List Loc), rt q = b → va_P D vwCl ((isR.filterMap (fun i => ws[i]?)) ++ wf q) H1 → va_D A ((isR.filterMap (fun i => ws[i]?)) ++ wf q) → va_S A H0 H1 locs1 → W p l e R s m args below meth c H1 locs1 (cells + mc) (slots + ms) Q (F0 m (pc + 3) ls rest)) : W p l e R s m args below meth c H locs cells slots Q (F0 m pc ls st0) := by
  have hF := va_free (wc := wc) hD hS hA isC hC
  have hr := va_runIN (e := e) (g := F0 m pc ls st0) (As := []) (rest := rest) (cells := cells) (slots := slots) (locs := locs) (below := below) (meth := meth) S hM cw ⟨Pw_blind, fun U hU hW => ⟨rfl, by rw [hU], by rw [hU]; exact hPc, va_K.moved hW.alike hK, (hD.sub isC hnC hC).weaken (fun _ _ _ _ => trivial)⟩⟩ rfl hn hsize hstack (lv_room hW) hdg hc
  intro T hT X
  obtain ⟨v9, st₀, t, T', L, h0, X', hL, e1, e2, ⟨hv, ⟨q, hq, hP1, hD1⟩, hz, hk⟩, st⟩ := hr T hT X
  cases hv
  rw [h0] at hz hk
  rw [← e1] at hz hk hP1
  obtain ⟨hPj, hDj⟩ := va_join (wr := (isR.filterMap (fun i => ws[i]?))) (w1 := wf q) hP hD isC isR hC hR hnR hdis hk hF hP1 hD1
  obtain ⟨t2, a1, b1⟩ := kk q T'.heap (locs ++ L) hq hPj hDj
    ⟨Nat.le_trans hS.1 hz, fun q h1 h2 => by rw [hk q (Nat.lt_of_lt_of_le h1 hS.1) (fun z => h2 (hF q z))]; exact hS.2.1 q h1 h2, fun q hq => by
      rcases List.mem_append.mp hq with h | h
      · exact hS.2.2 q h
      · exact hF _ (hL q h)⟩ T' rfl X'
  exact ⟨t2, st t2 a1, b1⟩
end RowsAX
def zXF0 : OS := (fun _ => 0, fun _ _ => 0)
def zX60 : OS := (fun k => if k = 5 then (-1) else 0, fun k => fun _ => 0)
set_option maxRecDepth 100000 in
set_option maxHeartbeats 4000000 in
theorem kX6_init (l : Launch) (D : va_G) (cI cB cZ cO : ClassId) (h0 sz : Nat) : Met l yX6_init wsX6_init ({ frames := 2, cells := 11, slots := 877, locals := 32 }) (va_Pc [.ref h0] (PwX EA D (gT cI cB cZ cO) ([(h0, .inr (5, [.null, .null, .null, .null, .int 0, .int 0, .int 0, .int 0, .int 0]))]) sz)) (Qn D (va_A ([(h0, .inr (5, [.null, .null, .null, .null, .int 0, .int 0, .int 0, .int 0, .int 0]))]) sz) (fun (q : Nat → Nat → Nat) => wS (q 0) (q 1 0) (q 2 0) (q 3 0) (q 4 0) zX60 ++ wT cB (q 1) zX70 ++ wC cI (q 2) zX00 ++ wA (q 3) zX50 ++ wP (q 4) zX40) (fun q => q 0 0) h0) 11 877 (va_A ([(h0, .inr (5, [.null, .null, .null, .null, .int 0, .int 0, .int 0, .int 0, .int 0]))]) sz) := by
  refine metAX (own := RX6) rfl (by decide) rfl (Nat.le_of_ble_eq_true rfl) (fun p e s m args below meth c ls A hx hb hr hml hown hlocks hin hts hK hA hP hD hS hE hl => ?_)
  obtain ⟨hAO, hNW⟩ := id hE
  have hiX7 : ∀ w ∈ wsX70, w ∈ wsX6_init := (memIn_p [56, 57, 58, 59, 60] rfl)
  have hiX6 : ∀ w ∈ wsX60, w ∈ wsX6_init := (memIn_p [61, 62, 63, 64, 65, 66, 67, 68, 69] rfl)
  have hiX0 : ∀ w ∈ wsX00, w ∈ wsX6_init := (memIn_p [70, 71, 72, 73, 74, 75, 76, 77] rfl)
  have hiX5 : ∀ w ∈ wsX50, w ∈ wsX6_init := (memIn_p [78, 79] rfl)
  have hiX4 : ∀ w ∈ wsX40, w ∈ wsX6_init := (memIn_p [80, 81] rfl)
  have hl : lv_has ls 1 [(0, .ref h0)] := hl
  refine lv_aload_n hx hb dX6_init_0 rfl (lv_at hl 0 rfl) ?_
  refine W.objInit hx hb hown (hts (.methodLink RX6 3 objectInit) (List.mem_of_getElem? (i := 1) rfl)) (hts (.instanceMethod objectInit) (List.mem_of_getElem? (i := 2) rfl)) (hts (.code objectInit ⟨#[0xb1]⟩ 1 none) (List.mem_of_getElem? (i := 3) rfl)) rfl (by rw [hml]; exact hl.1) rfl dX6_init_1 (Nat.le_of_ble_eq_true rfl) (Nat.le_of_ble_eq_true rfl) ?_
  refine W.eq (g2 := F0 m 4 ls []) rfl ?_
  refine lv_aload_n hx hb dX6_init_4 rfl (lv_at hl 0 rfl) ?_
  refine va_new (ci := 6) (fs := [.null, .int 0, .int 0, .int 0, .int 0]) (C := RX7) (T := TX7) (N := 5) hx hb hts hiX7 tyX7 tyX7_ok hown (hts (.classLink RX6 9 RX7) (List.mem_of_getElem? (i := 4) rfl)) (hts (.instantiable RX7 5) (List.mem_of_getElem? (i := 5) rfl)) (hts (.initialized RX7) (List.mem_of_getElem? (i := 6) rfl)) hK hP hD hS hA rfl (fun j hj => by rcases (show j = 0 ∨ j = 1 ∨ j = 2 ∨ j = 3 ∨ j = 4 by omega) with rfl | rfl | rfl | rfl | rfl <;> rfl) (Nat.le_of_ble_eq_true rfl) (Nat.le_of_ble_eq_true rfl) dX6_init_5 (fun b1 H hP hD hS => ?_)
  have hP : va_P D vwCl ([(h0, .inr (5, [.null, .null, .null, .null, .int 0, .int 0, .int 0, .int 0, .int 0])), (b1, .inr (6, [.null, .int 0, .int 0, .int 0, .int 0]))]) H := hP
  have hD : va_D A ([(h0, .inr (5, [.null, .null, .null, .null, .int 0, .int 0, .int 0, .int 0, .int 0])), (b1, .inr (6, [.null, .int 0, .int 0, .int 0, .int 0]))]) := hD
  refine lv_dup hx hb dX6_init_8 rfl ?_
  refine alIN (rest := [.ref b1, .ref h0]) ⟨hx, hb, hml, hown, hts⟩ (kX7_init l D cI cB cZ cO b1 _) ⟨va_cnB (host := RX8) 0 hts gX6_init_X7_init_n11 rfl rfl rfl (hNW _ (List.mem_of_getElem? (i := 0) rfl)) (hts (.initialized RX7) (List.mem_of_getElem? (i := 6) rfl)) (by decide +kernel) ⟨Nat.le_of_ble_eq_true rfl, Nat.le_of_ble_eq_true rfl⟩, rfl, (hts (.instanceMethod yX7_init) (List.mem_of_getElem? (i := 25) rfl))⟩ hK hP hD hS hA [1] [0] rfl (hP.sub [1] rfl) (by decide) rfl (by decide) (by decide) rfl hl.1 rfl (Nat.le_of_ble_eq_true rfl) dX6_init_9 ⟨Nat.le_of_ble_eq_true rfl, Nat.le_of_ble_eq_true rfl⟩ (fun q2 H locs hq9 hP hD hS => ?_)
  have hq9 : q2 0 = b1 := hq9
  subst hq9
  have hP : va_P D vwCl ([(h0, .inr (5, [.null, .null, .null, .null, .int 0, .int 0, .int 0, .int 0, .int 0]))] ++ wT cB q2 zX70) H := hP
  have hD : va_D A ([(h0, .inr (5, [.null, .null, .null, .null, .int 0, .int 0, .int 0, .int 0, .int 0]))] ++ wT cB q2 zX70) := hD
  refine va_putF (D := D) (ci := 5) (v := .ref (q2 0)) (ty := (.object "ResolutionProver$Tokens")) (C := RX6) (T := TX6) (N := 9) hx hb hts hiX6 tyX6 tyX6_ok nmX6 hown hK hP hD hS 0 rfl rfl 0 (by decide) (hts (.fieldLink RX6 12 "ResolutionProver$Script" "tokens" "LResolutionProver$Tokens;") (List.mem_of_getElem? (i := 7) rfl)) (fun _ h9 => h9) rfl hin rfl (by decide +kernel) rfl rfl (Nat.le_of_ble_eq_true rfl) dX6_init_12 (fun H locs hP hD hS => ?_)
  have hP : va_P D vwCl ([(h0, .inr (5, [.ref (q2 0), .null, .null, .null, .int 0, .int 0, .int 0, .int 0, .int 0]))] ++ wT cB q2 zX70) H := hP
  have hD : va_D A ([(h0, .inr (5, [.ref (q2 0), .null, .null, .null, .int 0, .int 0, .int 0, .int 0, .int 0]))] ++ wT cB q2 zX70) := hD
  refine lv_aload_n hx hb dX6_init_15 rfl (lv_at hl 0 rfl) ?_
  refine va_new (ci := 0) (fs := [.null, .null, .null, .null, .null, .null, .int 0, .int 0]) (C := RX0) (T := TX0) (N := 8) hx hb hts hiX0 tyX0 tyX0_ok hown (hts (.classLink RX6 18 RX0) (List.mem_of_getElem? (i := 8) rfl)) (hts (.instantiable RX0 8) (List.mem_of_getElem? (i := 9) rfl)) (hts (.initialized RX0) (List.mem_of_getElem? (i := 10) rfl)) hK hP hD hS hA rfl (fun j hj => by rcases (show j = 0 ∨ j = 1 ∨ j = 2 ∨ j = 3 ∨ j = 4 ∨ j = 5 ∨ j = 6 ∨ j = 7 by omega) with rfl | rfl | rfl | rfl | rfl | rfl | rfl | rfl <;> rfl) (Nat.le_of_ble_eq_true rfl) (Nat.le_of_ble_eq_true rfl) dX6_init_16 (fun b3 H hP hD hS => ?_)
  have hP : va_P D vwCl ([(h0, .inr (5, [.ref (q2 0), .null, .null, .null, .int 0, .int 0, .int 0, .int 0, .int 0]))] ++ wT cB q2 zX70 ++ [(b3, .inr (0, [.null, .null, .null, .null, .null, .null, .int 0, .int 0]))]) H := hP
  have hD : va_D A ([(h0, .inr (5, [.ref (q2 0), .null, .null, .null, .int 0, .int 0, .int 0, .int 0, .int 0]))] ++ wT cB q2 zX70 ++ [(b3, .inr (0, [.null, .null, .null, .null, .null, .null, .int 0, .int 0]))]) := hD
  refine lv_dup hx hb dX6_init_19 rfl ?_
  refine alIN (rest := [.ref b3, .ref h0]) ⟨hx, hb, hml, hown, hts⟩ (kX0_init l D cI cB cZ cO b3 _) ⟨va_cnB (host := RX8) 0 hts gX6_init_X0_init_n20 rfl rfl rfl (hNW _ (List.mem_of_getElem? (i := 1) rfl)) (hts (.initialized RX0) (List.mem_of_getElem? (i := 10) rfl)) (by decide +kernel) ⟨Nat.le_of_ble_eq_true rfl, Nat.le_of_ble_eq_true rfl⟩, rfl, (hts (.instanceMethod yX0_init) (List.mem_of_getElem? (i := 34) rfl))⟩ hK hP hD hS hA [3] [0, 1, 2] rfl (hP.sub [3] rfl) (by decide) rfl (by decide) (by decide) rfl hl.1 rfl (Nat.le_of_ble_eq_true rfl) dX6_init_20 ⟨Nat.le_of_ble_eq_true rfl, Nat.le_of_ble_eq_true rfl⟩ (fun q4 H locs hq9 hP hD hS => ?_)
  have hq9 : q4 0 = b3 := hq9
  subst hq9
  have hP : va_P D vwCl ([(h0, .inr (5, [.ref (q2 0), .null, .null, .null, .int 0, .int 0, .int 0, .int 0, .int 0]))] ++ wT cB q2 zX70 ++ wC cI q4 zX00) H := hP
  have hD : va_D A ([(h0, .inr (5, [.ref (q2 0), .null, .null, .null, .int 0, .int 0, .int 0, .int 0, .int 0]))] ++ wT cB q2 zX70 ++ wC cI q4 zX00) := hD
  refine va_putF (D := D) (ci := 5) (v := .ref (q4 0)) (ty := (.object "ResolutionProver$Clauses")) (C := RX6) (T := TX6) (N := 9) hx hb hts hiX6 tyX6 tyX6_ok nmX6 hown hK hP hD hS 0 rfl rfl 1 (by decide) (hts (.fieldLink RX6 21 "ResolutionProver$Script" "draft" "LResolutionProver$Clauses;") (List.mem_of_getElem? (i := 11) rfl)) (fun _ h9 => h9) rfl hin rfl (by decide +kernel) rfl rfl (Nat.le_of_ble_eq_true rfl) dX6_init_23 (fun H locs hP hD hS => ?_)
  have hP : va_P D vwCl ([(h0, .inr (5, [.ref (q2 0), .ref (q4 0), .null, .null, .int 0, .int 0, .int 0, .int 0, .int 0]))] ++ wT cB q2 zX70 ++ wC cI q4 zX00) H := hP
  have hD : va_D A ([(h0, .inr (5, [.ref (q2 0), .ref (q4 0), .null, .null, .int 0, .int 0, .int 0, .int 0, .int 0]))] ++ wT cB q2 zX70 ++ wC cI q4 zX00) := hD
  refine lv_aload_n hx hb dX6_init_26 rfl (lv_at hl 0 rfl) ?_
  refine va_new (ci := 4) (fs := [.int 0, .int 0]) (C := RX5) (T := TX5) (N := 2) hx hb hts hiX5 tyX5 tyX5_ok hown (hts (.classLink RX6 25 RX5) (List.mem_of_getElem? (i := 12) rfl)) (hts (.instantiable RX5 2) (List.mem_of_getElem? (i := 13) rfl)) (hts (.initialized RX5) (List.mem_of_getElem? (i := 14) rfl)) hK hP hD hS hA rfl (fun j hj => by rcases (show j = 0 ∨ j = 1 by omega) with rfl | rfl <;> rfl) (Nat.le_of_ble_eq_true rfl) (Nat.le_of_ble_eq_true rfl) dX6_init_27 (fun b5 H hP hD hS => ?_)
  have hP : va_P D vwCl ([(h0, .inr (5, [.ref (q2 0), .ref (q4 0), .null, .null, .int 0, .int 0, .int 0, .int 0, .int 0]))] ++ wT cB q2 zX70 ++ wC cI q4 zX00 ++ [(b5, .inr (4, [.int 0, .int 0]))]) H := hP
  have hD : va_D A ([(h0, .inr (5, [.ref (q2 0), .ref (q4 0), .null, .null, .int 0, .int 0, .int 0, .int 0, .int 0]))] ++ wT cB q2 zX70 ++ wC cI q4 zX00 ++ [(b5, .inr (4, [.int 0, .int 0]))]) := hD
  refine lv_dup hx hb dX6_init_30 rfl ?_
  refine alIN (rest := [.ref b5, .ref h0]) ⟨hx, hb, hml, hown, hts⟩ (kX5_init l D cI cB cZ cO b5 _) ⟨va_cnB (host := RX8) 0 hts gX6_init_X5_init_n27 rfl rfl rfl (hNW _ (List.mem_of_getElem? (i := 2) rfl)) (hts (.initialized RX5) (List.mem_of_getElem? (i := 14) rfl)) (by decide +kernel) ⟨Nat.le_of_ble_eq_true rfl, Nat.le_of_ble_eq_true rfl⟩, rfl, (hts (.instanceMethod yX5_init) (List.mem_of_getElem? (i := 46) rfl))⟩ hK hP hD hS hA [10] [0, 1, 2, 3, 4, 5, 6, 7, 8, 9] rfl (hP.sub [10] rfl) (by decide) rfl (by decide) (by decide) rfl hl.1 rfl (Nat.le_of_ble_eq_true rfl) dX6_init_31 ⟨Nat.le_of_ble_eq_true rfl, Nat.le_of_ble_eq_true rfl⟩ (fun q6 H locs hq9 hP hD hS => ?_)
  have hq9 : q6 0 = b5 := hq9
  subst hq9
  have hP : va_P D vwCl ([(h0, .inr (5, [.ref (q2 0), .ref (q4 0), .null, .null, .int 0, .int 0, .int 0, .int 0, .int 0]))] ++ wT cB q2 zX70 ++ wC cI q4 zX00 ++ wA q6 zX50) H := hP
  have hD : va_D A ([(h0, .inr (5, [.ref (q2 0), .ref (q4 0), .null, .null, .int 0, .int 0, .int 0, .int 0, .int 0]))] ++ wT cB q2 zX70 ++ wC cI q4 zX00 ++ wA q6 zX50) := hD
  refine va_putF (D := D) (ci := 5) (v := .ref (q6 0)) (ty := (.object "ResolutionProver$Saturation")) (C := RX6) (T := TX6) (N := 9) hx hb hts hiX6 tyX6 tyX6_ok nmX6 hown hK hP hD hS 0 rfl rfl 2 (by decide) (hts (.fieldLink RX6 28 "ResolutionProver$Script" "saturation" "LResolutionProver$Saturation;") (List.mem_of_getElem? (i := 15) rfl)) (fun _ h9 => h9) rfl hin rfl (by decide +kernel) rfl rfl (Nat.le_of_ble_eq_true rfl) dX6_init_34 (fun H locs hP hD hS => ?_)
  have hP : va_P D vwCl ([(h0, .inr (5, [.ref (q2 0), .ref (q4 0), .ref (q6 0), .null, .int 0, .int 0, .int 0, .int 0, .int 0]))] ++ wT cB q2 zX70 ++ wC cI q4 zX00 ++ wA q6 zX50) H := hP
  have hD : va_D A ([(h0, .inr (5, [.ref (q2 0), .ref (q4 0), .ref (q6 0), .null, .int 0, .int 0, .int 0, .int 0, .int 0]))] ++ wT cB q2 zX70 ++ wC cI q4 zX00 ++ wA q6 zX50) := hD
  refine lv_aload_n hx hb dX6_init_37 rfl (lv_at hl 0 rfl) ?_
  refine va_new (ci := 3) (fs := [.int 0, .int 0]) (C := RX4) (T := TX4) (N := 2) hx hb hts hiX4 tyX4 tyX4_ok hown (hts (.classLink RX6 32 RX4) (List.mem_of_getElem? (i := 16) rfl)) (hts (.instantiable RX4 2) (List.mem_of_getElem? (i := 17) rfl)) (hts (.initialized RX4) (List.mem_of_getElem? (i := 18) rfl)) hK hP hD hS hA rfl (fun j hj => by rcases (show j = 0 ∨ j = 1 by omega) with rfl | rfl <;> rfl) (Nat.le_of_ble_eq_true rfl) (Nat.le_of_ble_eq_true rfl) dX6_init_38 (fun b7 H hP hD hS => ?_)
  have hP : va_P D vwCl ([(h0, .inr (5, [.ref (q2 0), .ref (q4 0), .ref (q6 0), .null, .int 0, .int 0, .int 0, .int 0, .int 0]))] ++ wT cB q2 zX70 ++ wC cI q4 zX00 ++ wA q6 zX50 ++ [(b7, .inr (3, [.int 0, .int 0]))]) H := hP
  have hD : va_D A ([(h0, .inr (5, [.ref (q2 0), .ref (q4 0), .ref (q6 0), .null, .int 0, .int 0, .int 0, .int 0, .int 0]))] ++ wT cB q2 zX70 ++ wC cI q4 zX00 ++ wA q6 zX50 ++ [(b7, .inr (3, [.int 0, .int 0]))]) := hD
  refine lv_dup hx hb dX6_init_41 rfl ?_
  refine alIN (rest := [.ref b7, .ref h0]) ⟨hx, hb, hml, hown, hts⟩ (kX4_init l D cI cB cZ cO b7 _) ⟨va_cnB (host := RX8) 0 hts gX6_init_X4_init_n34 rfl rfl rfl (hNW _ (List.mem_of_getElem? (i := 3) rfl)) (hts (.initialized RX4) (List.mem_of_getElem? (i := 18) rfl)) (by decide +kernel) ⟨Nat.le_of_ble_eq_true rfl, Nat.le_of_ble_eq_true rfl⟩, rfl, (hts (.instanceMethod yX4_init) (List.mem_of_getElem? (i := 51) rfl))⟩ hK hP hD hS hA [11] [0, 1, 2, 3, 4, 5, 6, 7, 8, 9, 10] rfl (hP.sub [11] rfl) (by decide) rfl (by decide) (by decide) rfl hl.1 rfl (Nat.le_of_ble_eq_true rfl) dX6_init_42 ⟨Nat.le_of_ble_eq_true rfl, Nat.le_of_ble_eq_true rfl⟩ (fun q8 H locs hq9 hP hD hS => ?_)
  have hq9 : q8 0 = b7 := hq9
  subst hq9
  have hP : va_P D vwCl ([(h0, .inr (5, [.ref (q2 0), .ref (q4 0), .ref (q6 0), .null, .int 0, .int 0, .int 0, .int 0, .int 0]))] ++ wT cB q2 zX70 ++ wC cI q4 zX00 ++ wA q6 zX50 ++ wP q8 zX40) H := hP
  have hD : va_D A ([(h0, .inr (5, [.ref (q2 0), .ref (q4 0), .ref (q6 0), .null, .int 0, .int 0, .int 0, .int 0, .int 0]))] ++ wT cB q2 zX70 ++ wC cI q4 zX00 ++ wA q6 zX50 ++ wP q8 zX40) := hD
  refine va_putF (D := D) (ci := 5) (v := .ref (q8 0)) (ty := (.object "ResolutionProver$Propagation")) (C := RX6) (T := TX6) (N := 9) hx hb hts hiX6 tyX6 tyX6_ok nmX6 hown hK hP hD hS 0 rfl rfl 3 (by decide) (hts (.fieldLink RX6 35 "ResolutionProver$Script" "propagation" "LResolutionProver$Propagation;") (List.mem_of_getElem? (i := 19) rfl)) (fun _ h9 => h9) rfl hin rfl (by decide +kernel) rfl rfl (Nat.le_of_ble_eq_true rfl) dX6_init_45 (fun H locs hP hD hS => ?_)
  have hP : va_P D vwCl ([(h0, .inr (5, [.ref (q2 0), .ref (q4 0), .ref (q6 0), .ref (q8 0), .int 0, .int 0, .int 0, .int 0, .int 0]))] ++ wT cB q2 zX70 ++ wC cI q4 zX00 ++ wA q6 zX50 ++ wP q8 zX40) H := hP
  have hD : va_D A ([(h0, .inr (5, [.ref (q2 0), .ref (q4 0), .ref (q6 0), .ref (q8 0), .int 0, .int 0, .int 0, .int 0, .int 0]))] ++ wT cB q2 zX70 ++ wC cI q4 zX00 ++ wA q6 zX50 ++ wP q8 zX40) := hD
  refine lv_aload_n hx hb dX6_init_48 rfl (lv_at hl 0 rfl) ?_
  refine lv_iconst (v := 0) hx hb dX6_init_49 (by decide) ?_
  refine va_put (D := D) (ci := 5) (v := .int 0) (ty := .int) (C := RX6) (T := TX6) (N := 9) hx hb hts hiX6 tyX6 tyX6_ok nmX6 hown hK hP hD hS 0 rfl rfl 4 (by decide) (hts (.fieldLink RX6 39 "ResolutionProver$Script" "errorCode" "I") (List.mem_of_getElem? (i := 20) rfl)) (fun _ h9 => h9) rfl (by decide +kernel) rfl rfl (Nat.le_of_ble_eq_true rfl) dX6_init_50 (fun H locs hP hD hS => ?_)
  have hP : va_P D vwCl ([(h0, .inr (5, [.ref (q2 0), .ref (q4 0), .ref (q6 0), .ref (q8 0), .int 0, .int 0, .int 0, .int 0, .int 0]))] ++ wT cB q2 zX70 ++ wC cI q4 zX00 ++ wA q6 zX50 ++ wP q8 zX40) H := hP
  have hD : va_D A ([(h0, .inr (5, [.ref (q2 0), .ref (q4 0), .ref (q6 0), .ref (q8 0), .int 0, .int 0, .int 0, .int 0, .int 0]))] ++ wT cB q2 zX70 ++ wC cI q4 zX00 ++ wA q6 zX50 ++ wP q8 zX40) := hD
  refine lv_aload_n hx hb dX6_init_53 rfl (lv_at hl 0 rfl) ?_
  refine lv_iconst (v := (-1)) hx hb dX6_init_54 (by decide) ?_
  refine va_put (D := D) (ci := 5) (v := .int (-1)) (ty := .int) (C := RX6) (T := TX6) (N := 9) hx hb hts hiX6 tyX6 tyX6_ok nmX6 hown hK hP hD hS 0 rfl rfl 5 (by decide) (hts (.fieldLink RX6 43 "ResolutionProver$Script" "errorPosition" "I") (List.mem_of_getElem? (i := 21) rfl)) (fun _ h9 => h9) rfl (by decide +kernel) rfl rfl (Nat.le_of_ble_eq_true rfl) dX6_init_55 (fun H locs hP hD hS => ?_)
  have hP : va_P D vwCl ([(h0, .inr (5, [.ref (q2 0), .ref (q4 0), .ref (q6 0), .ref (q8 0), .int 0, .int (-1), .int 0, .int 0, .int 0]))] ++ wT cB q2 zX70 ++ wC cI q4 zX00 ++ wA q6 zX50 ++ wP q8 zX40) H := hP
  have hD : va_D A ([(h0, .inr (5, [.ref (q2 0), .ref (q4 0), .ref (q6 0), .ref (q8 0), .int 0, .int (-1), .int 0, .int 0, .int 0]))] ++ wT cB q2 zX70 ++ wC cI q4 zX00 ++ wA q6 zX50 ++ wP q8 zX40) := hD
  refine lv_aload_n hx hb dX6_init_58 rfl (lv_at hl 0 rfl) ?_
  refine lv_iconst (v := 0) hx hb dX6_init_59 (by decide) ?_
  refine va_put (D := D) (ci := 5) (v := .int 0) (ty := .int) (C := RX6) (T := TX6) (N := 9) hx hb hts hiX6 tyX6 tyX6_ok nmX6 hown hK hP hD hS 0 rfl rfl 6 (by decide) (hts (.fieldLink RX6 46 "ResolutionProver$Script" "commands" "I") (List.mem_of_getElem? (i := 22) rfl)) (fun _ h9 => h9) rfl (by decide +kernel) rfl rfl (Nat.le_of_ble_eq_true rfl) dX6_init_60 (fun H locs hP hD hS => ?_)
  have hP : va_P D vwCl ([(h0, .inr (5, [.ref (q2 0), .ref (q4 0), .ref (q6 0), .ref (q8 0), .int 0, .int (-1), .int 0, .int 0, .int 0]))] ++ wT cB q2 zX70 ++ wC cI q4 zX00 ++ wA q6 zX50 ++ wP q8 zX40) H := hP
  have hD : va_D A ([(h0, .inr (5, [.ref (q2 0), .ref (q4 0), .ref (q6 0), .ref (q8 0), .int 0, .int (-1), .int 0, .int 0, .int 0]))] ++ wT cB q2 zX70 ++ wC cI q4 zX00 ++ wA q6 zX50 ++ wP q8 zX40) := hD
  refine lv_aload_n hx hb dX6_init_63 rfl (lv_at hl 0 rfl) ?_
  refine lv_iconst (v := 0) hx hb dX6_init_64 (by decide) ?_
  refine va_put (D := D) (ci := 5) (v := .int 0) (ty := .int) (C := RX6) (T := TX6) (N := 9) hx hb hts hiX6 tyX6 tyX6_ok nmX6 hown hK hP hD hS 0 rfl rfl 7 (by decide) (hts (.fieldLink RX6 49 "ResolutionProver$Script" "positive" "I") (List.mem_of_getElem? (i := 23) rfl)) (fun _ h9 => h9) rfl (by decide +kernel) rfl rfl (Nat.le_of_ble_eq_true rfl) dX6_init_65 (fun H locs hP hD hS => ?_)
  have hP : va_P D vwCl ([(h0, .inr (5, [.ref (q2 0), .ref (q4 0), .ref (q6 0), .ref (q8 0), .int 0, .int (-1), .int 0, .int 0, .int 0]))] ++ wT cB q2 zX70 ++ wC cI q4 zX00 ++ wA q6 zX50 ++ wP q8 zX40) H := hP
  have hD : va_D A ([(h0, .inr (5, [.ref (q2 0), .ref (q4 0), .ref (q6 0), .ref (q8 0), .int 0, .int (-1), .int 0, .int 0, .int 0]))] ++ wT cB q2 zX70 ++ wC cI q4 zX00 ++ wA q6 zX50 ++ wP q8 zX40) := hD
  refine lv_aload_n hx hb dX6_init_68 rfl (lv_at hl 0 rfl) ?_
  refine lv_iconst (v := 0) hx hb dX6_init_69 (by decide) ?_
  refine va_put (D := D) (ci := 5) (v := .int 0) (ty := .int) (C := RX6) (T := TX6) (N := 9) hx hb hts hiX6 tyX6 tyX6_ok nmX6 hown hK hP hD hS 0 rfl rfl 8 (by decide) (hts (.fieldLink RX6 52 "ResolutionProver$Script" "negative" "I") (List.mem_of_getElem? (i := 24) rfl)) (fun _ h9 => h9) rfl (by decide +kernel) rfl rfl (Nat.le_of_ble_eq_true rfl) dX6_init_70 (fun H locs hP hD hS => ?_)
  have hP : va_P D vwCl ([(h0, .inr (5, [.ref (q2 0), .ref (q4 0), .ref (q6 0), .ref (q8 0), .int 0, .int (-1), .int 0, .int 0, .int 0]))] ++ wT cB q2 zX70 ++ wC cI q4 zX00 ++ wA q6 zX50 ++ wP q8 zX40) H := hP
  have hD : va_D A ([(h0, .inr (5, [.ref (q2 0), .ref (q4 0), .ref (q6 0), .ref (q8 0), .int 0, .int (-1), .int 0, .int 0, .int 0]))] ++ wT cB q2 zX70 ++ wC cI q4 zX00 ++ wA q6 zX50 ++ wP q8 zX40) := hD
  exact rA_v (q := (fun i => [(fun k => [h0].getD k 0), q2, q4, q6, q8].getD i (fun _ => 0))) hx hb hr hlocks hP hD hS rfl rfl dX6_init_73
def zX10 : OS := (fun k => 0, fun k => fun _ => 0)
set_option maxRecDepth 100000 in
set_option maxHeartbeats 4000000 in
theorem kX1_init (l : Launch) (D : va_G) (cI cB cZ cO : ClassId) (h0 sz : Nat) : Met l yX1_init wsX1_init ({ frames := 2, cells := 57, slots := 2952, locals := 32 }) (va_Pc [.ref h0] (PwX EA D (gT cI cB cZ cO) ([(h0, .inr (1, [.null, .int 0, .int 0]))]) sz)) (Qn D (va_A ([(h0, .inr (1, [.null, .int 0, .int 0]))]) sz) (fun (q : Nat → Nat → Nat) => wH cO (q 0) (q 1 0) (q 2 0) (q 3 0) (q 4 0) (q 5 0) (q 6 0) (q 7 0) (q 8 0) zX10 ++ wC cI (q 1) zX00 ++ wC cI (q 2) zX00 ++ wC cI (q 3) zX00 ++ wC cI (q 4) zX00 ++ wC cI (q 5) zX00 ++ wC cI (q 6) zX00 ++ wC cI (q 7) zX00 ++ wC cI (q 8) zX00) (fun q => q 0 0) h0) 57 2952 (va_A ([(h0, .inr (1, [.null, .int 0, .int 0]))]) sz) := by
  refine metAX (own := RX1) rfl (by decide) rfl (Nat.le_of_ble_eq_true rfl) (fun p e s m args below meth c ls A hx hb hr hml hown hlocks hin hts hK hA hP hD hS hE hl => ?_)
  obtain ⟨hAO, hNW⟩ := id hE
  have hiX1 : ∀ w ∈ wsX10, w ∈ wsX1_init := (memIn_p [22, 23, 24] rfl)
  have hiX0 : ∀ w ∈ wsX00, w ∈ wsX1_init := (memIn_p [25, 26, 27, 28, 29, 30, 31, 32] rfl)
  have hl : lv_has ls 2 [(0, .ref h0)] := hl
  refine lv_aload_n hx hb dX1_init_0 rfl (lv_at hl 0 rfl) ?_
  refine W.objInit hx hb hown (hts (.methodLink RX1 3 objectInit) (List.mem_of_getElem? (i := 1) rfl)) (hts (.instanceMethod objectInit) (List.mem_of_getElem? (i := 2) rfl)) (hts (.code objectInit ⟨#[0xb1]⟩ 1 none) (List.mem_of_getElem? (i := 3) rfl)) rfl (by rw [hml]; exact hl.1) rfl dX1_init_1 (Nat.le_of_ble_eq_true rfl) (Nat.le_of_ble_eq_true rfl) ?_
  refine W.eq (g2 := F0 m 4 ls []) rfl ?_
  refine lv_aload_n hx hb dX1_init_4 rfl (lv_at hl 0 rfl) ?_
  refine lv_bipush (v := 8) hx hb dX1_init_5 (by decide) ?_
  refine va_newq (C := RX0) (N' := 8) hx hb hown (hts (.classLink RX1 9 RX0) (List.mem_of_getElem? (i := 4) rfl)) hAO hK hP hD hS hA (by decide) (by decide) (Nat.le_of_ble_eq_true rfl) (Nat.le_of_ble_eq_true rfl) (Nat.le_of_ble_eq_true rfl) dX1_init_7 (fun a1 cA H hK hP hD hS => ?_)
  have e9 : cA = cO := va_K_oneO hK (i := 4) (j := 3) rfl rfl
  rw [e9] at hP hD
  have hK : va_K D vwCl (gT cI cB cZ cO) s := hK.sub [0, 1, 2, 3] rfl
  have hP : va_P D vwCl ([(h0, .inr (1, [.null, .int 0, .int 0])), (a1, .inl (cO, 8, .inr (.inr (.inr (.inr (fun _ => none))))))]) H := hP
  have hD : va_D A ([(h0, .inr (1, [.null, .int 0, .int 0])), (a1, .inl (cO, 8, .inr (.inr (.inr (.inr (fun _ => none))))))]) := hD
  refine va_putF (D := D) (ci := 1) (v := .ref a1) (ty := (.array (.object "ResolutionProver$Clauses"))) (C := RX1) (T := TX1) (N := 3) hx hb hts hiX1 tyX1 tyX1_ok nmX1 hown hK hP hD hS 0 rfl rfl 0 (by decide) (hts (.fieldLink RX1 11 "ResolutionProver$History" "states" "[LResolutionProver$Clauses;") (List.mem_of_getElem? (i := 5) rfl)) (fun _ h9 => h9) rfl hin rfl (by decide +kernel) rfl rfl (Nat.le_of_ble_eq_true rfl) dX1_init_10 (fun H locs hP hD hS => ?_)
  have hP : va_P D vwCl ([(h0, .inr (1, [.ref a1, .int 0, .int 0])), (a1, .inl (cO, 8, .inr (.inr (.inr (.inr (fun _ => none))))))]) H := hP
  have hD : va_D A ([(h0, .inr (1, [.ref a1, .int 0, .int 0])), (a1, .inl (cO, 8, .inr (.inr (.inr (.inr (fun _ => none))))))]) := hD
  refine lv_aload_n hx hb dX1_init_13 rfl (lv_at hl 0 rfl) ?_
  refine lv_iconst (v := 0) hx hb dX1_init_14 (by decide) ?_
  refine va_put (D := D) (ci := 1) (v := .int 0) (ty := .int) (C := RX1) (T := TX1) (N := 3) hx hb hts hiX1 tyX1 tyX1_ok nmX1 hown hK hP hD hS 0 rfl rfl 1 (by decide) (hts (.fieldLink RX1 17 "ResolutionProver$History" "next" "I") (List.mem_of_getElem? (i := 6) rfl)) (fun _ h9 => h9) rfl (by decide +kernel) rfl rfl (Nat.le_of_ble_eq_true rfl) dX1_init_15 (fun H locs hP hD hS => ?_)
  have hP : va_P D vwCl ([(h0, .inr (1, [.ref a1, .int 0, .int 0])), (a1, .inl (cO, 8, .inr (.inr (.inr (.inr (fun _ => none))))))]) H := hP
  have hD : va_D A ([(h0, .inr (1, [.ref a1, .int 0, .int 0])), (a1, .inl (cO, 8, .inr (.inr (.inr (.inr (fun _ => none))))))]) := hD
  refine lv_aload_n hx hb dX1_init_18 rfl (lv_at hl 0 rfl) ?_
  refine lv_iconst (v := 0) hx hb dX1_init_19 (by decide) ?_
  refine va_put (D := D) (ci := 1) (v := .int 0) (ty := .int) (C := RX1) (T := TX1) (N := 3) hx hb hts hiX1 tyX1 tyX1_ok nmX1 hown hK hP hD hS 0 rfl rfl 2 (by decide) (hts (.fieldLink RX1 21 "ResolutionProver$History" "count" "I") (List.mem_of_getElem? (i := 7) rfl)) (fun _ h9 => h9) rfl (by decide +kernel) rfl rfl (Nat.le_of_ble_eq_true rfl) dX1_init_20 (fun H locs hP hD hS => ?_)
  have hP : va_P D vwCl ([(h0, .inr (1, [.ref a1, .int 0, .int 0])), (a1, .inl (cO, 8, .inr (.inr (.inr (.inr (fun _ => none))))))]) H := hP
  have hD : va_D A ([(h0, .inr (1, [.ref a1, .int 0, .int 0])), (a1, .inl (cO, 8, .inr (.inr (.inr (.inr (fun _ => none))))))]) := hD
  refine lv_iconst (v := 0) hx hb dX1_init_23 (by decide) ?_
  refine lv_istore_n (lv' := [(1, .int 0), (0, .ref h0)]) hx hb dX1_init_24 rfl hl (by decide) rfl (fun ls hl => ?_)
  refine lv_iload_n hx hb dX1_init_25 rfl (lv_at hl 0 rfl) ?_
  refine lv_bipush (v := 8) hx hb dX1_init_26 (by decide) ?_
  refine lv_icmp_ge (tgt := 50) hx hb dX1_init_28 (by decide) (fun c9 => absurd c9 (by decide)) (fun _ => ?_)
  refine lv_aload_n hx hb dX1_init_31 rfl (lv_at hl 1 rfl) ?_
  refine va_get (D := D) (ci := 1) (v := .ref a1) (C := RX1) (T := TX1) (N := 3) hx hb hts hiX1 hown hK hP 0 rfl rfl 0 (by decide) (hts (.fieldLink RX1 11 "ResolutionProver$History" "states" "[LResolutionProver$Clauses;") (List.mem_of_getElem? (i := 5) rfl)) (fun _ h9 => h9) rfl dX1_init_32 ?_
  refine lv_iload_n hx hb dX1_init_35 rfl (lv_at hl 0 rfl) ?_
  refine va_new (ci := 0) (fs := [.null, .null, .null, .null, .null, .null, .int 0, .int 0]) (C := RX0) (T := TX0) (N := 8) hx hb hts hiX0 tyX0 tyX0_ok hown (hts (.classLink RX1 9 RX0) (List.mem_of_getElem? (i := 4) rfl)) (hts (.instantiable RX0 8) (List.mem_of_getElem? (i := 8) rfl)) (hts (.initialized RX0) (List.mem_of_getElem? (i := 9) rfl)) hK hP hD hS hA rfl (fun j hj => by rcases (show j = 0 ∨ j = 1 ∨ j = 2 ∨ j = 3 ∨ j = 4 ∨ j = 5 ∨ j = 6 ∨ j = 7 by omega) with rfl | rfl | rfl | rfl | rfl | rfl | rfl | rfl <;> rfl) (Nat.le_of_ble_eq_true rfl) (Nat.le_of_ble_eq_true rfl) dX1_init_36 (fun b2 H hP hD hS => ?_)
  have hP : va_P D vwCl ([(h0, .inr (1, [.ref a1, .int 0, .int 0])), (a1, .inl (cO, 8, .inr (.inr (.inr (.inr (fun _ => none)))))), (b2, .inr (0, [.null, .null, .null, .null, .null, .null, .int 0, .int 0]))]) H := hP
  have hD : va_D A ([(h0, .inr (1, [.ref a1, .int 0, .int 0])), (a1, .inl (cO, 8, .inr (.inr (.inr (.inr (fun _ => none)))))), (b2, .inr (0, [.null, .null, .null, .null, .null, .null, .int 0, .int 0]))]) := hD
  refine lv_dup hx hb dX1_init_39 rfl ?_
  refine alIN (rest := [.ref b2, .int 0, .ref a1]) ⟨hx, hb, hml, hown, hts⟩ (kX0_init l D cI cB cZ cO b2 _) ⟨va_cnB (host := RX8) 0 hts gX1_init_X0_init_n24 rfl rfl rfl (hNW _ (List.mem_of_getElem? (i := 4) rfl)) (hts (.initialized RX0) (List.mem_of_getElem? (i := 9) rfl)) (by decide +kernel) ⟨Nat.le_of_ble_eq_true rfl, Nat.le_of_ble_eq_true rfl⟩, rfl, (hts (.instanceMethod yX0_init) (List.mem_of_getElem? (i := 10) rfl))⟩ hK hP hD hS hA [2] [0, 1] rfl (hP.sub [2] rfl) (by decide) rfl (by decide) (by decide) rfl hl.1 rfl (Nat.le_of_ble_eq_true rfl) dX1_init_40 ⟨Nat.le_of_ble_eq_true rfl, Nat.le_of_ble_eq_true rfl⟩ (fun q3 H locs hq9 hP hD hS => ?_)
  have hq9 : q3 0 = b2 := hq9
  subst hq9
  have hP : va_P D vwCl ([(h0, .inr (1, [.ref a1, .int 0, .int 0])), (a1, .inl (cO, 8, .inr (.inr (.inr (.inr (fun _ => none))))))] ++ wC cI q3 zX00) H := hP
  have hD : va_D A ([(h0, .inr (1, [.ref a1, .int 0, .int 0])), (a1, .inl (cO, 8, .inr (.inr (.inr (.inr (fun _ => none))))))] ++ wC cI q3 zX00) := hD
  refine va_astq hx hb hK hP hD hS 1 3 2 0 rfl rfl rfl rfl (inB_in (by decide)) dX1_init_43 (fun H locs hP hD hS => ?_)
  have hP : va_P D vwCl ([(h0, .inr (1, [.ref a1, .int 0, .int 0])), (a1, .inl (cO, 8, .inr (.inr (.inr (.inr (va_up (fun _ => none) 0 (some (q3 0))))))))] ++ wC cI q3 zX00) H := hP
  have hD : va_D A ([(h0, .inr (1, [.ref a1, .int 0, .int 0])), (a1, .inl (cO, 8, .inr (.inr (.inr (.inr (va_up (fun _ => none) 0 (some (q3 0))))))))] ++ wC cI q3 zX00) := hD
  refine lv_iinc (v := 1) (lv' := [(1, .int 1), (0, .ref h0)]) hx hb dX1_init_44 hl (k := 0) rfl (by decide) (by decide) rfl (fun ls hl => ?_)
  refine lv_goto (tgt := 25) hx hb dX1_init_47 (by decide) ?_
  refine lv_iload_n hx hb dX1_init_25 rfl (lv_at hl 0 rfl) ?_
  refine lv_bipush (v := 8) hx hb dX1_init_26 (by decide) ?_
  refine lv_icmp_ge (tgt := 50) hx hb dX1_init_28 (by decide) (fun c9 => absurd c9 (by decide)) (fun _ => ?_)
  refine lv_aload_n hx hb dX1_init_31 rfl (lv_at hl 1 rfl) ?_
  refine va_get (D := D) (ci := 1) (v := .ref a1) (C := RX1) (T := TX1) (N := 3) hx hb hts hiX1 hown hK hP 0 rfl rfl 0 (by decide) (hts (.fieldLink RX1 11 "ResolutionProver$History" "states" "[LResolutionProver$Clauses;") (List.mem_of_getElem? (i := 5) rfl)) (fun _ h9 => h9) rfl dX1_init_32 ?_
  refine lv_iload_n hx hb dX1_init_35 rfl (lv_at hl 0 rfl) ?_
  refine va_new (ci := 0) (fs := [.null, .null, .null, .null, .null, .null, .int 0, .int 0]) (C := RX0) (T := TX0) (N := 8) hx hb hts hiX0 tyX0 tyX0_ok hown (hts (.classLink RX1 9 RX0) (List.mem_of_getElem? (i := 4) rfl)) (hts (.instantiable RX0 8) (List.mem_of_getElem? (i := 8) rfl)) (hts (.initialized RX0) (List.mem_of_getElem? (i := 9) rfl)) hK hP hD hS hA rfl (fun j hj => by rcases (show j = 0 ∨ j = 1 ∨ j = 2 ∨ j = 3 ∨ j = 4 ∨ j = 5 ∨ j = 6 ∨ j = 7 by omega) with rfl | rfl | rfl | rfl | rfl | rfl | rfl | rfl <;> rfl) (Nat.le_of_ble_eq_true rfl) (Nat.le_of_ble_eq_true rfl) dX1_init_36 (fun b4 H hP hD hS => ?_)
  have hP : va_P D vwCl ([(h0, .inr (1, [.ref a1, .int 0, .int 0])), (a1, .inl (cO, 8, .inr (.inr (.inr (.inr (va_up (fun _ => none) 0 (some (q3 0))))))))] ++ wC cI q3 zX00 ++ [(b4, .inr (0, [.null, .null, .null, .null, .null, .null, .int 0, .int 0]))]) H := hP
  have hD : va_D A ([(h0, .inr (1, [.ref a1, .int 0, .int 0])), (a1, .inl (cO, 8, .inr (.inr (.inr (.inr (va_up (fun _ => none) 0 (some (q3 0))))))))] ++ wC cI q3 zX00 ++ [(b4, .inr (0, [.null, .null, .null, .null, .null, .null, .int 0, .int 0]))]) := hD
  refine lv_dup hx hb dX1_init_39 rfl ?_
  refine alIN (rest := [.ref b4, .int 1, .ref a1]) ⟨hx, hb, hml, hown, hts⟩ (kX0_init l D cI cB cZ cO b4 _) ⟨va_cnB (host := RX8) 0 hts gX1_init_X0_init_n24 rfl rfl rfl (hNW _ (List.mem_of_getElem? (i := 4) rfl)) (hts (.initialized RX0) (List.mem_of_getElem? (i := 9) rfl)) (by decide +kernel) ⟨Nat.le_of_ble_eq_true rfl, Nat.le_of_ble_eq_true rfl⟩, rfl, (hts (.instanceMethod yX0_init) (List.mem_of_getElem? (i := 10) rfl))⟩ hK hP hD hS hA [9] [0, 1, 2, 3, 4, 5, 6, 7, 8] rfl (hP.sub [9] rfl) (by decide) rfl (by decide) (by decide) rfl hl.1 rfl (Nat.le_of_ble_eq_true rfl) dX1_init_40 ⟨Nat.le_of_ble_eq_true rfl, Nat.le_of_ble_eq_true rfl⟩ (fun q5 H locs hq9 hP hD hS => ?_)
  have hq9 : q5 0 = b4 := hq9
  subst hq9
  have hP : va_P D vwCl ([(h0, .inr (1, [.ref a1, .int 0, .int 0])), (a1, .inl (cO, 8, .inr (.inr (.inr (.inr (va_up (fun _ => none) 0 (some (q3 0))))))))] ++ wC cI q3 zX00 ++ wC cI q5 zX00) H := hP
  have hD : va_D A ([(h0, .inr (1, [.ref a1, .int 0, .int 0])), (a1, .inl (cO, 8, .inr (.inr (.inr (.inr (va_up (fun _ => none) 0 (some (q3 0))))))))] ++ wC cI q3 zX00 ++ wC cI q5 zX00) := hD
  refine va_astq hx hb hK hP hD hS 1 3 9 0 rfl rfl rfl rfl (inB_in (by decide)) dX1_init_43 (fun H locs hP hD hS => ?_)
  have hP : va_P D vwCl ([(h0, .inr (1, [.ref a1, .int 0, .int 0])), (a1, .inl (cO, 8, .inr (.inr (.inr (.inr (va_up (va_up (fun _ => none) 0 (some (q3 0))) 1 (some (q5 0))))))))] ++ wC cI q3 zX00 ++ wC cI q5 zX00) H := hP
  have hD : va_D A ([(h0, .inr (1, [.ref a1, .int 0, .int 0])), (a1, .inl (cO, 8, .inr (.inr (.inr (.inr (va_up (va_up (fun _ => none) 0 (some (q3 0))) 1 (some (q5 0))))))))] ++ wC cI q3 zX00 ++ wC cI q5 zX00) := hD
  refine lv_iinc (v := 2) (lv' := [(1, .int 2), (0, .ref h0)]) hx hb dX1_init_44 hl (k := 0) rfl (by decide) (by decide) rfl (fun ls hl => ?_)
  refine lv_goto (tgt := 25) hx hb dX1_init_47 (by decide) ?_
  refine lv_iload_n hx hb dX1_init_25 rfl (lv_at hl 0 rfl) ?_
  refine lv_bipush (v := 8) hx hb dX1_init_26 (by decide) ?_
  refine lv_icmp_ge (tgt := 50) hx hb dX1_init_28 (by decide) (fun c9 => absurd c9 (by decide)) (fun _ => ?_)
  refine lv_aload_n hx hb dX1_init_31 rfl (lv_at hl 1 rfl) ?_
  refine va_get (D := D) (ci := 1) (v := .ref a1) (C := RX1) (T := TX1) (N := 3) hx hb hts hiX1 hown hK hP 0 rfl rfl 0 (by decide) (hts (.fieldLink RX1 11 "ResolutionProver$History" "states" "[LResolutionProver$Clauses;") (List.mem_of_getElem? (i := 5) rfl)) (fun _ h9 => h9) rfl dX1_init_32 ?_
  refine lv_iload_n hx hb dX1_init_35 rfl (lv_at hl 0 rfl) ?_
  refine va_new (ci := 0) (fs := [.null, .null, .null, .null, .null, .null, .int 0, .int 0]) (C := RX0) (T := TX0) (N := 8) hx hb hts hiX0 tyX0 tyX0_ok hown (hts (.classLink RX1 9 RX0) (List.mem_of_getElem? (i := 4) rfl)) (hts (.instantiable RX0 8) (List.mem_of_getElem? (i := 8) rfl)) (hts (.initialized RX0) (List.mem_of_getElem? (i := 9) rfl)) hK hP hD hS hA rfl (fun j hj => by rcases (show j = 0 ∨ j = 1 ∨ j = 2 ∨ j = 3 ∨ j = 4 ∨ j = 5 ∨ j = 6 ∨ j = 7 by omega) with rfl | rfl | rfl | rfl | rfl | rfl | rfl | rfl <;> rfl) (Nat.le_of_ble_eq_true rfl) (Nat.le_of_ble_eq_true rfl) dX1_init_36 (fun b6 H hP hD hS => ?_)
  have hP : va_P D vwCl ([(h0, .inr (1, [.ref a1, .int 0, .int 0])), (a1, .inl (cO, 8, .inr (.inr (.inr (.inr (va_up (va_up (fun _ => none) 0 (some (q3 0))) 1 (some (q5 0))))))))] ++ wC cI q3 zX00 ++ wC cI q5 zX00 ++ [(b6, .inr (0, [.null, .null, .null, .null, .null, .null, .int 0, .int 0]))]) H := hP
  have hD : va_D A ([(h0, .inr (1, [.ref a1, .int 0, .int 0])), (a1, .inl (cO, 8, .inr (.inr (.inr (.inr (va_up (va_up (fun _ => none) 0 (some (q3 0))) 1 (some (q5 0))))))))] ++ wC cI q3 zX00 ++ wC cI q5 zX00 ++ [(b6, .inr (0, [.null, .null, .null, .null, .null, .null, .int 0, .int 0]))]) := hD
  refine lv_dup hx hb dX1_init_39 rfl ?_
  refine alIN (rest := [.ref b6, .int 2, .ref a1]) ⟨hx, hb, hml, hown, hts⟩ (kX0_init l D cI cB cZ cO b6 _) ⟨va_cnB (host := RX8) 0 hts gX1_init_X0_init_n24 rfl rfl rfl (hNW _ (List.mem_of_getElem? (i := 4) rfl)) (hts (.initialized RX0) (List.mem_of_getElem? (i := 9) rfl)) (by decide +kernel) ⟨Nat.le_of_ble_eq_true rfl, Nat.le_of_ble_eq_true rfl⟩, rfl, (hts (.instanceMethod yX0_init) (List.mem_of_getElem? (i := 10) rfl))⟩ hK hP hD hS hA [16] [0, 1, 2, 3, 4, 5, 6, 7, 8, 9, 10, 11, 12, 13, 14, 15] rfl (hP.sub [16] rfl) (by decide) rfl (by decide) (by decide) rfl hl.1 rfl (Nat.le_of_ble_eq_true rfl) dX1_init_40 ⟨Nat.le_of_ble_eq_true rfl, Nat.le_of_ble_eq_true rfl⟩ (fun q7 H locs hq9 hP hD hS => ?_)
  have hq9 : q7 0 = b6 := hq9
  subst hq9
  have hP : va_P D vwCl ([(h0, .inr (1, [.ref a1, .int 0, .int 0])), (a1, .inl (cO, 8, .inr (.inr (.inr (.inr (va_up (va_up (fun _ => none) 0 (some (q3 0))) 1 (some (q5 0))))))))] ++ wC cI q3 zX00 ++ wC cI q5 zX00 ++ wC cI q7 zX00) H := hP
  have hD : va_D A ([(h0, .inr (1, [.ref a1, .int 0, .int 0])), (a1, .inl (cO, 8, .inr (.inr (.inr (.inr (va_up (va_up (fun _ => none) 0 (some (q3 0))) 1 (some (q5 0))))))))] ++ wC cI q3 zX00 ++ wC cI q5 zX00 ++ wC cI q7 zX00) := hD
  refine va_astq hx hb hK hP hD hS 1 3 16 0 rfl rfl rfl rfl (inB_in (by decide)) dX1_init_43 (fun H locs hP hD hS => ?_)
  have hP : va_P D vwCl ([(h0, .inr (1, [.ref a1, .int 0, .int 0])), (a1, .inl (cO, 8, .inr (.inr (.inr (.inr (va_up (va_up (va_up (fun _ => none) 0 (some (q3 0))) 1 (some (q5 0))) 2 (some (q7 0))))))))] ++ wC cI q3 zX00 ++ wC cI q5 zX00 ++ wC cI q7 zX00) H := hP
  have hD : va_D A ([(h0, .inr (1, [.ref a1, .int 0, .int 0])), (a1, .inl (cO, 8, .inr (.inr (.inr (.inr (va_up (va_up (va_up (fun _ => none) 0 (some (q3 0))) 1 (some (q5 0))) 2 (some (q7 0))))))))] ++ wC cI q3 zX00 ++ wC cI q5 zX00 ++ wC cI q7 zX00) := hD
  refine lv_iinc (v := 3) (lv' := [(1, .int 3), (0, .ref h0)]) hx hb dX1_init_44 hl (k := 0) rfl (by decide) (by decide) rfl (fun ls hl => ?_)
  refine lv_goto (tgt := 25) hx hb dX1_init_47 (by decide) ?_
  refine lv_iload_n hx hb dX1_init_25 rfl (lv_at hl 0 rfl) ?_
  refine lv_bipush (v := 8) hx hb dX1_init_26 (by decide) ?_
  refine lv_icmp_ge (tgt := 50) hx hb dX1_init_28 (by decide) (fun c9 => absurd c9 (by decide)) (fun _ => ?_)
  refine lv_aload_n hx hb dX1_init_31 rfl (lv_at hl 1 rfl) ?_
  refine va_get (D := D) (ci := 1) (v := .ref a1) (C := RX1) (T := TX1) (N := 3) hx hb hts hiX1 hown hK hP 0 rfl rfl 0 (by decide) (hts (.fieldLink RX1 11 "ResolutionProver$History" "states" "[LResolutionProver$Clauses;") (List.mem_of_getElem? (i := 5) rfl)) (fun _ h9 => h9) rfl dX1_init_32 ?_
  refine lv_iload_n hx hb dX1_init_35 rfl (lv_at hl 0 rfl) ?_
  refine va_new (ci := 0) (fs := [.null, .null, .null, .null, .null, .null, .int 0, .int 0]) (C := RX0) (T := TX0) (N := 8) hx hb hts hiX0 tyX0 tyX0_ok hown (hts (.classLink RX1 9 RX0) (List.mem_of_getElem? (i := 4) rfl)) (hts (.instantiable RX0 8) (List.mem_of_getElem? (i := 8) rfl)) (hts (.initialized RX0) (List.mem_of_getElem? (i := 9) rfl)) hK hP hD hS hA rfl (fun j hj => by rcases (show j = 0 ∨ j = 1 ∨ j = 2 ∨ j = 3 ∨ j = 4 ∨ j = 5 ∨ j = 6 ∨ j = 7 by omega) with rfl | rfl | rfl | rfl | rfl | rfl | rfl | rfl <;> rfl) (Nat.le_of_ble_eq_true rfl) (Nat.le_of_ble_eq_true rfl) dX1_init_36 (fun b8 H hP hD hS => ?_)
  have hP : va_P D vwCl ([(h0, .inr (1, [.ref a1, .int 0, .int 0])), (a1, .inl (cO, 8, .inr (.inr (.inr (.inr (va_up (va_up (va_up (fun _ => none) 0 (some (q3 0))) 1 (some (q5 0))) 2 (some (q7 0))))))))] ++ wC cI q3 zX00 ++ wC cI q5 zX00 ++ wC cI q7 zX00 ++ [(b8, .inr (0, [.null, .null, .null, .null, .null, .null, .int 0, .int 0]))]) H := hP
  have hD : va_D A ([(h0, .inr (1, [.ref a1, .int 0, .int 0])), (a1, .inl (cO, 8, .inr (.inr (.inr (.inr (va_up (va_up (va_up (fun _ => none) 0 (some (q3 0))) 1 (some (q5 0))) 2 (some (q7 0))))))))] ++ wC cI q3 zX00 ++ wC cI q5 zX00 ++ wC cI q7 zX00 ++ [(b8, .inr (0, [.null, .null, .null, .null, .null, .null, .int 0, .int 0]))]) := hD
  refine lv_dup hx hb dX1_init_39 rfl ?_
  refine alIN (rest := [.ref b8, .int 3, .ref a1]) ⟨hx, hb, hml, hown, hts⟩ (kX0_init l D cI cB cZ cO b8 _) ⟨va_cnB (host := RX8) 0 hts gX1_init_X0_init_n24 rfl rfl rfl (hNW _ (List.mem_of_getElem? (i := 4) rfl)) (hts (.initialized RX0) (List.mem_of_getElem? (i := 9) rfl)) (by decide +kernel) ⟨Nat.le_of_ble_eq_true rfl, Nat.le_of_ble_eq_true rfl⟩, rfl, (hts (.instanceMethod yX0_init) (List.mem_of_getElem? (i := 10) rfl))⟩ hK hP hD hS hA [23] [0, 1, 2, 3, 4, 5, 6, 7, 8, 9, 10, 11, 12, 13, 14, 15, 16, 17, 18, 19, 20, 21, 22] rfl (hP.sub [23] rfl) (by decide) rfl (by decide) (by decide) rfl hl.1 rfl (Nat.le_of_ble_eq_true rfl) dX1_init_40 ⟨Nat.le_of_ble_eq_true rfl, Nat.le_of_ble_eq_true rfl⟩ (fun q9 H locs hq9 hP hD hS => ?_)
  have hq9 : q9 0 = b8 := hq9
  subst hq9
  have hP : va_P D vwCl ([(h0, .inr (1, [.ref a1, .int 0, .int 0])), (a1, .inl (cO, 8, .inr (.inr (.inr (.inr (va_up (va_up (va_up (fun _ => none) 0 (some (q3 0))) 1 (some (q5 0))) 2 (some (q7 0))))))))] ++ wC cI q3 zX00 ++ wC cI q5 zX00 ++ wC cI q7 zX00 ++ wC cI q9 zX00) H := hP
  have hD : va_D A ([(h0, .inr (1, [.ref a1, .int 0, .int 0])), (a1, .inl (cO, 8, .inr (.inr (.inr (.inr (va_up (va_up (va_up (fun _ => none) 0 (some (q3 0))) 1 (some (q5 0))) 2 (some (q7 0))))))))] ++ wC cI q3 zX00 ++ wC cI q5 zX00 ++ wC cI q7 zX00 ++ wC cI q9 zX00) := hD
  refine va_astq hx hb hK hP hD hS 1 3 23 0 rfl rfl rfl rfl (inB_in (by decide)) dX1_init_43 (fun H locs hP hD hS => ?_)
  have hP : va_P D vwCl ([(h0, .inr (1, [.ref a1, .int 0, .int 0])), (a1, .inl (cO, 8, .inr (.inr (.inr (.inr (va_up (va_up (va_up (va_up (fun _ => none) 0 (some (q3 0))) 1 (some (q5 0))) 2 (some (q7 0))) 3 (some (q9 0))))))))] ++ wC cI q3 zX00 ++ wC cI q5 zX00 ++ wC cI q7 zX00 ++ wC cI q9 zX00) H := hP
  have hD : va_D A ([(h0, .inr (1, [.ref a1, .int 0, .int 0])), (a1, .inl (cO, 8, .inr (.inr (.inr (.inr (va_up (va_up (va_up (va_up (fun _ => none) 0 (some (q3 0))) 1 (some (q5 0))) 2 (some (q7 0))) 3 (some (q9 0))))))))] ++ wC cI q3 zX00 ++ wC cI q5 zX00 ++ wC cI q7 zX00 ++ wC cI q9 zX00) := hD
  refine lv_iinc (v := 4) (lv' := [(1, .int 4), (0, .ref h0)]) hx hb dX1_init_44 hl (k := 0) rfl (by decide) (by decide) rfl (fun ls hl => ?_)
  refine lv_goto (tgt := 25) hx hb dX1_init_47 (by decide) ?_
  refine lv_iload_n hx hb dX1_init_25 rfl (lv_at hl 0 rfl) ?_
  refine lv_bipush (v := 8) hx hb dX1_init_26 (by decide) ?_
  refine lv_icmp_ge (tgt := 50) hx hb dX1_init_28 (by decide) (fun c9 => absurd c9 (by decide)) (fun _ => ?_)
  refine lv_aload_n hx hb dX1_init_31 rfl (lv_at hl 1 rfl) ?_
  refine va_get (D := D) (ci := 1) (v := .ref a1) (C := RX1) (T := TX1) (N := 3) hx hb hts hiX1 hown hK hP 0 rfl rfl 0 (by decide) (hts (.fieldLink RX1 11 "ResolutionProver$History" "states" "[LResolutionProver$Clauses;") (List.mem_of_getElem? (i := 5) rfl)) (fun _ h9 => h9) rfl dX1_init_32 ?_
  refine lv_iload_n hx hb dX1_init_35 rfl (lv_at hl 0 rfl) ?_
  refine va_new (ci := 0) (fs := [.null, .null, .null, .null, .null, .null, .int 0, .int 0]) (C := RX0) (T := TX0) (N := 8) hx hb hts hiX0 tyX0 tyX0_ok hown (hts (.classLink RX1 9 RX0) (List.mem_of_getElem? (i := 4) rfl)) (hts (.instantiable RX0 8) (List.mem_of_getElem? (i := 8) rfl)) (hts (.initialized RX0) (List.mem_of_getElem? (i := 9) rfl)) hK hP hD hS hA rfl (fun j hj => by rcases (show j = 0 ∨ j = 1 ∨ j = 2 ∨ j = 3 ∨ j = 4 ∨ j = 5 ∨ j = 6 ∨ j = 7 by omega) with rfl | rfl | rfl | rfl | rfl | rfl | rfl | rfl <;> rfl) (Nat.le_of_ble_eq_true rfl) (Nat.le_of_ble_eq_true rfl) dX1_init_36 (fun b10 H hP hD hS => ?_)
  have hP : va_P D vwCl ([(h0, .inr (1, [.ref a1, .int 0, .int 0])), (a1, .inl (cO, 8, .inr (.inr (.inr (.inr (va_up (va_up (va_up (va_up (fun _ => none) 0 (some (q3 0))) 1 (some (q5 0))) 2 (some (q7 0))) 3 (some (q9 0))))))))] ++ wC cI q3 zX00 ++ wC cI q5 zX00 ++ wC cI q7 zX00 ++ wC cI q9 zX00 ++ [(b10, .inr (0, [.null, .null, .null, .null, .null, .null, .int 0, .int 0]))]) H := hP
  have hD : va_D A ([(h0, .inr (1, [.ref a1, .int 0, .int 0])), (a1, .inl (cO, 8, .inr (.inr (.inr (.inr (va_up (va_up (va_up (va_up (fun _ => none) 0 (some (q3 0))) 1 (some (q5 0))) 2 (some (q7 0))) 3 (some (q9 0))))))))] ++ wC cI q3 zX00 ++ wC cI q5 zX00 ++ wC cI q7 zX00 ++ wC cI q9 zX00 ++ [(b10, .inr (0, [.null, .null, .null, .null, .null, .null, .int 0, .int 0]))]) := hD
  refine lv_dup hx hb dX1_init_39 rfl ?_
  refine alIN (rest := [.ref b10, .int 4, .ref a1]) ⟨hx, hb, hml, hown, hts⟩ (kX0_init l D cI cB cZ cO b10 _) ⟨va_cnB (host := RX8) 0 hts gX1_init_X0_init_n24 rfl rfl rfl (hNW _ (List.mem_of_getElem? (i := 4) rfl)) (hts (.initialized RX0) (List.mem_of_getElem? (i := 9) rfl)) (by decide +kernel) ⟨Nat.le_of_ble_eq_true rfl, Nat.le_of_ble_eq_true rfl⟩, rfl, (hts (.instanceMethod yX0_init) (List.mem_of_getElem? (i := 10) rfl))⟩ hK hP hD hS hA [30] [0, 1, 2, 3, 4, 5, 6, 7, 8, 9, 10, 11, 12, 13, 14, 15, 16, 17, 18, 19, 20, 21, 22, 23, 24, 25, 26, 27, 28, 29] rfl (hP.sub [30] rfl) (by decide) rfl (by decide) (by decide) rfl hl.1 rfl (Nat.le_of_ble_eq_true rfl) dX1_init_40 ⟨Nat.le_of_ble_eq_true rfl, Nat.le_of_ble_eq_true rfl⟩ (fun q11 H locs hq9 hP hD hS => ?_)
  have hq9 : q11 0 = b10 := hq9
  subst hq9
  have hP : va_P D vwCl ([(h0, .inr (1, [.ref a1, .int 0, .int 0])), (a1, .inl (cO, 8, .inr (.inr (.inr (.inr (va_up (va_up (va_up (va_up (fun _ => none) 0 (some (q3 0))) 1 (some (q5 0))) 2 (some (q7 0))) 3 (some (q9 0))))))))] ++ wC cI q3 zX00 ++ wC cI q5 zX00 ++ wC cI q7 zX00 ++ wC cI q9 zX00 ++ wC cI q11 zX00) H := hP
  have hD : va_D A ([(h0, .inr (1, [.ref a1, .int 0, .int 0])), (a1, .inl (cO, 8, .inr (.inr (.inr (.inr (va_up (va_up (va_up (va_up (fun _ => none) 0 (some (q3 0))) 1 (some (q5 0))) 2 (some (q7 0))) 3 (some (q9 0))))))))] ++ wC cI q3 zX00 ++ wC cI q5 zX00 ++ wC cI q7 zX00 ++ wC cI q9 zX00 ++ wC cI q11 zX00) := hD
  refine va_astq hx hb hK hP hD hS 1 3 30 0 rfl rfl rfl rfl (inB_in (by decide)) dX1_init_43 (fun H locs hP hD hS => ?_)
  have hP : va_P D vwCl ([(h0, .inr (1, [.ref a1, .int 0, .int 0])), (a1, .inl (cO, 8, .inr (.inr (.inr (.inr (va_up (va_up (va_up (va_up (va_up (fun _ => none) 0 (some (q3 0))) 1 (some (q5 0))) 2 (some (q7 0))) 3 (some (q9 0))) 4 (some (q11 0))))))))] ++ wC cI q3 zX00 ++ wC cI q5 zX00 ++ wC cI q7 zX00 ++ wC cI q9 zX00 ++ wC cI q11 zX00) H := hP
  have hD : va_D A ([(h0, .inr (1, [.ref a1, .int 0, .int 0])), (a1, .inl (cO, 8, .inr (.inr (.inr (.inr (va_up (va_up (va_up (va_up (va_up (fun _ => none) 0 (some (q3 0))) 1 (some (q5 0))) 2 (some (q7 0))) 3 (some (q9 0))) 4 (some (q11 0))))))))] ++ wC cI q3 zX00 ++ wC cI q5 zX00 ++ wC cI q7 zX00 ++ wC cI q9 zX00 ++ wC cI q11 zX00) := hD
  refine lv_iinc (v := 5) (lv' := [(1, .int 5), (0, .ref h0)]) hx hb dX1_init_44 hl (k := 0) rfl (by decide) (by decide) rfl (fun ls hl => ?_)
  refine lv_goto (tgt := 25) hx hb dX1_init_47 (by decide) ?_
  refine lv_iload_n hx hb dX1_init_25 rfl (lv_at hl 0 rfl) ?_
  refine lv_bipush (v := 8) hx hb dX1_init_26 (by decide) ?_
  refine lv_icmp_ge (tgt := 50) hx hb dX1_init_28 (by decide) (fun c9 => absurd c9 (by decide)) (fun _ => ?_)
  refine lv_aload_n hx hb dX1_init_31 rfl (lv_at hl 1 rfl) ?_
  refine va_get (D := D) (ci := 1) (v := .ref a1) (C := RX1) (T := TX1) (N := 3) hx hb hts hiX1 hown hK hP 0 rfl rfl 0 (by decide) (hts (.fieldLink RX1 11 "ResolutionProver$History" "states" "[LResolutionProver$Clauses;") (List.mem_of_getElem? (i := 5) rfl)) (fun _ h9 => h9) rfl dX1_init_32 ?_
  refine lv_iload_n hx hb dX1_init_35 rfl (lv_at hl 0 rfl) ?_
  refine va_new (ci := 0) (fs := [.null, .null, .null, .null, .null, .null, .int 0, .int 0]) (C := RX0) (T := TX0) (N := 8) hx hb hts hiX0 tyX0 tyX0_ok hown (hts (.classLink RX1 9 RX0) (List.mem_of_getElem? (i := 4) rfl)) (hts (.instantiable RX0 8) (List.mem_of_getElem? (i := 8) rfl)) (hts (.initialized RX0) (List.mem_of_getElem? (i := 9) rfl)) hK hP hD hS hA rfl (fun j hj => by rcases (show j = 0 ∨ j = 1 ∨ j = 2 ∨ j = 3 ∨ j = 4 ∨ j = 5 ∨ j = 6 ∨ j = 7 by omega) with rfl | rfl | rfl | rfl | rfl | rfl | rfl | rfl <;> rfl) (Nat.le_of_ble_eq_true rfl) (Nat.le_of_ble_eq_true rfl) dX1_init_36 (fun b12 H hP hD hS => ?_)
  have hP : va_P D vwCl ([(h0, .inr (1, [.ref a1, .int 0, .int 0])), (a1, .inl (cO, 8, .inr (.inr (.inr (.inr (va_up (va_up (va_up (va_up (va_up (fun _ => none) 0 (some (q3 0))) 1 (some (q5 0))) 2 (some (q7 0))) 3 (some (q9 0))) 4 (some (q11 0))))))))] ++ wC cI q3 zX00 ++ wC cI q5 zX00 ++ wC cI q7 zX00 ++ wC cI q9 zX00 ++ wC cI q11 zX00 ++ [(b12, .inr (0, [.null, .null, .null, .null, .null, .null, .int 0, .int 0]))]) H := hP
  have hD : va_D A ([(h0, .inr (1, [.ref a1, .int 0, .int 0])), (a1, .inl (cO, 8, .inr (.inr (.inr (.inr (va_up (va_up (va_up (va_up (va_up (fun _ => none) 0 (some (q3 0))) 1 (some (q5 0))) 2 (some (q7 0))) 3 (some (q9 0))) 4 (some (q11 0))))))))] ++ wC cI q3 zX00 ++ wC cI q5 zX00 ++ wC cI q7 zX00 ++ wC cI q9 zX00 ++ wC cI q11 zX00 ++ [(b12, .inr (0, [.null, .null, .null, .null, .null, .null, .int 0, .int 0]))]) := hD
  refine lv_dup hx hb dX1_init_39 rfl ?_
  refine alIN (rest := [.ref b12, .int 5, .ref a1]) ⟨hx, hb, hml, hown, hts⟩ (kX0_init l D cI cB cZ cO b12 _) ⟨va_cnB (host := RX8) 0 hts gX1_init_X0_init_n24 rfl rfl rfl (hNW _ (List.mem_of_getElem? (i := 4) rfl)) (hts (.initialized RX0) (List.mem_of_getElem? (i := 9) rfl)) (by decide +kernel) ⟨Nat.le_of_ble_eq_true rfl, Nat.le_of_ble_eq_true rfl⟩, rfl, (hts (.instanceMethod yX0_init) (List.mem_of_getElem? (i := 10) rfl))⟩ hK hP hD hS hA [37] [0, 1, 2, 3, 4, 5, 6, 7, 8, 9, 10, 11, 12, 13, 14, 15, 16, 17, 18, 19, 20, 21, 22, 23, 24, 25, 26, 27, 28, 29, 30, 31, 32, 33, 34, 35, 36] rfl (hP.sub [37] rfl) (by decide) rfl (by decide) (by decide) rfl hl.1 rfl (Nat.le_of_ble_eq_true rfl) dX1_init_40 ⟨Nat.le_of_ble_eq_true rfl, Nat.le_of_ble_eq_true rfl⟩ (fun q13 H locs hq9 hP hD hS => ?_)
  have hq9 : q13 0 = b12 := hq9
  subst hq9
  have hP : va_P D vwCl ([(h0, .inr (1, [.ref a1, .int 0, .int 0])), (a1, .inl (cO, 8, .inr (.inr (.inr (.inr (va_up (va_up (va_up (va_up (va_up (fun _ => none) 0 (some (q3 0))) 1 (some (q5 0))) 2 (some (q7 0))) 3 (some (q9 0))) 4 (some (q11 0))))))))] ++ wC cI q3 zX00 ++ wC cI q5 zX00 ++ wC cI q7 zX00 ++ wC cI q9 zX00 ++ wC cI q11 zX00 ++ wC cI q13 zX00) H := hP
  have hD : va_D A ([(h0, .inr (1, [.ref a1, .int 0, .int 0])), (a1, .inl (cO, 8, .inr (.inr (.inr (.inr (va_up (va_up (va_up (va_up (va_up (fun _ => none) 0 (some (q3 0))) 1 (some (q5 0))) 2 (some (q7 0))) 3 (some (q9 0))) 4 (some (q11 0))))))))] ++ wC cI q3 zX00 ++ wC cI q5 zX00 ++ wC cI q7 zX00 ++ wC cI q9 zX00 ++ wC cI q11 zX00 ++ wC cI q13 zX00) := hD
  refine va_astq hx hb hK hP hD hS 1 3 37 0 rfl rfl rfl rfl (inB_in (by decide)) dX1_init_43 (fun H locs hP hD hS => ?_)
  have hP : va_P D vwCl ([(h0, .inr (1, [.ref a1, .int 0, .int 0])), (a1, .inl (cO, 8, .inr (.inr (.inr (.inr (va_up (va_up (va_up (va_up (va_up (va_up (fun _ => none) 0 (some (q3 0))) 1 (some (q5 0))) 2 (some (q7 0))) 3 (some (q9 0))) 4 (some (q11 0))) 5 (some (q13 0))))))))] ++ wC cI q3 zX00 ++ wC cI q5 zX00 ++ wC cI q7 zX00 ++ wC cI q9 zX00 ++ wC cI q11 zX00 ++ wC cI q13 zX00) H := hP
  have hD : va_D A ([(h0, .inr (1, [.ref a1, .int 0, .int 0])), (a1, .inl (cO, 8, .inr (.inr (.inr (.inr (va_up (va_up (va_up (va_up (va_up (va_up (fun _ => none) 0 (some (q3 0))) 1 (some (q5 0))) 2 (some (q7 0))) 3 (some (q9 0))) 4 (some (q11 0))) 5 (some (q13 0))))))))] ++ wC cI q3 zX00 ++ wC cI q5 zX00 ++ wC cI q7 zX00 ++ wC cI q9 zX00 ++ wC cI q11 zX00 ++ wC cI q13 zX00) := hD
  refine lv_iinc (v := 6) (lv' := [(1, .int 6), (0, .ref h0)]) hx hb dX1_init_44 hl (k := 0) rfl (by decide) (by decide) rfl (fun ls hl => ?_)
  refine lv_goto (tgt := 25) hx hb dX1_init_47 (by decide) ?_
  refine lv_iload_n hx hb dX1_init_25 rfl (lv_at hl 0 rfl) ?_
  refine lv_bipush (v := 8) hx hb dX1_init_26 (by decide) ?_
  refine lv_icmp_ge (tgt := 50) hx hb dX1_init_28 (by decide) (fun c9 => absurd c9 (by decide)) (fun _ => ?_)
  refine lv_aload_n hx hb dX1_init_31 rfl (lv_at hl 1 rfl) ?_
  refine va_get (D := D) (ci := 1) (v := .ref a1) (C := RX1) (T := TX1) (N := 3) hx hb hts hiX1 hown hK hP 0 rfl rfl 0 (by decide) (hts (.fieldLink RX1 11 "ResolutionProver$History" "states" "[LResolutionProver$Clauses;") (List.mem_of_getElem? (i := 5) rfl)) (fun _ h9 => h9) rfl dX1_init_32 ?_
  refine lv_iload_n hx hb dX1_init_35 rfl (lv_at hl 0 rfl) ?_
  refine va_new (ci := 0) (fs := [.null, .null, .null, .null, .null, .null, .int 0, .int 0]) (C := RX0) (T := TX0) (N := 8) hx hb hts hiX0 tyX0 tyX0_ok hown (hts (.classLink RX1 9 RX0) (List.mem_of_getElem? (i := 4) rfl)) (hts (.instantiable RX0 8) (List.mem_of_getElem? (i := 8) rfl)) (hts (.initialized RX0) (List.mem_of_getElem? (i := 9) rfl)) hK hP hD hS hA rfl (fun j hj => by rcases (show j = 0 ∨ j = 1 ∨ j = 2 ∨ j = 3 ∨ j = 4 ∨ j = 5 ∨ j = 6 ∨ j = 7 by omega) with rfl | rfl | rfl | rfl | rfl | rfl | rfl | rfl <;> rfl) (Nat.le_of_ble_eq_true rfl) (Nat.le_of_ble_eq_true rfl) dX1_init_36 (fun b14 H hP hD hS => ?_)
  have hP : va_P D vwCl ([(h0, .inr (1, [.ref a1, .int 0, .int 0])), (a1, .inl (cO, 8, .inr (.inr (.inr (.inr (va_up (va_up (va_up (va_up (va_up (va_up (fun _ => none) 0 (some (q3 0))) 1 (some (q5 0))) 2 (some (q7 0))) 3 (some (q9 0))) 4 (some (q11 0))) 5 (some (q13 0))))))))] ++ wC cI q3 zX00 ++ wC cI q5 zX00 ++ wC cI q7 zX00 ++ wC cI q9 zX00 ++ wC cI q11 zX00 ++ wC cI q13 zX00 ++ [(b14, .inr (0, [.null, .null, .null, .null, .null, .null, .int 0, .int 0]))]) H := hP
  have hD : va_D A ([(h0, .inr (1, [.ref a1, .int 0, .int 0])), (a1, .inl (cO, 8, .inr (.inr (.inr (.inr (va_up (va_up (va_up (va_up (va_up (va_up (fun _ => none) 0 (some (q3 0))) 1 (some (q5 0))) 2 (some (q7 0))) 3 (some (q9 0))) 4 (some (q11 0))) 5 (some (q13 0))))))))] ++ wC cI q3 zX00 ++ wC cI q5 zX00 ++ wC cI q7 zX00 ++ wC cI q9 zX00 ++ wC cI q11 zX00 ++ wC cI q13 zX00 ++ [(b14, .inr (0, [.null, .null, .null, .null, .null, .null, .int 0, .int 0]))]) := hD
  refine lv_dup hx hb dX1_init_39 rfl ?_
  refine alIN (rest := [.ref b14, .int 6, .ref a1]) ⟨hx, hb, hml, hown, hts⟩ (kX0_init l D cI cB cZ cO b14 _) ⟨va_cnB (host := RX8) 0 hts gX1_init_X0_init_n24 rfl rfl rfl (hNW _ (List.mem_of_getElem? (i := 4) rfl)) (hts (.initialized RX0) (List.mem_of_getElem? (i := 9) rfl)) (by decide +kernel) ⟨Nat.le_of_ble_eq_true rfl, Nat.le_of_ble_eq_true rfl⟩, rfl, (hts (.instanceMethod yX0_init) (List.mem_of_getElem? (i := 10) rfl))⟩ hK hP hD hS hA [44] [0, 1, 2, 3, 4, 5, 6, 7, 8, 9, 10, 11, 12, 13, 14, 15, 16, 17, 18, 19, 20, 21, 22, 23, 24, 25, 26, 27, 28, 29, 30, 31, 32, 33, 34, 35, 36, 37, 38, 39, 40, 41, 42, 43] rfl (hP.sub [44] rfl) (by decide) rfl (by decide) (by decide) rfl hl.1 rfl (Nat.le_of_ble_eq_true rfl) dX1_init_40 ⟨Nat.le_of_ble_eq_true rfl, Nat.le_of_ble_eq_true rfl⟩ (fun q15 H locs hq9 hP hD hS => ?_)
  have hq9 : q15 0 = b14 := hq9
  subst hq9
  have hP : va_P D vwCl ([(h0, .inr (1, [.ref a1, .int 0, .int 0])), (a1, .inl (cO, 8, .inr (.inr (.inr (.inr (va_up (va_up (va_up (va_up (va_up (va_up (fun _ => none) 0 (some (q3 0))) 1 (some (q5 0))) 2 (some (q7 0))) 3 (some (q9 0))) 4 (some (q11 0))) 5 (some (q13 0))))))))] ++ wC cI q3 zX00 ++ wC cI q5 zX00 ++ wC cI q7 zX00 ++ wC cI q9 zX00 ++ wC cI q11 zX00 ++ wC cI q13 zX00 ++ wC cI q15 zX00) H := hP
  have hD : va_D A ([(h0, .inr (1, [.ref a1, .int 0, .int 0])), (a1, .inl (cO, 8, .inr (.inr (.inr (.inr (va_up (va_up (va_up (va_up (va_up (va_up (fun _ => none) 0 (some (q3 0))) 1 (some (q5 0))) 2 (some (q7 0))) 3 (some (q9 0))) 4 (some (q11 0))) 5 (some (q13 0))))))))] ++ wC cI q3 zX00 ++ wC cI q5 zX00 ++ wC cI q7 zX00 ++ wC cI q9 zX00 ++ wC cI q11 zX00 ++ wC cI q13 zX00 ++ wC cI q15 zX00) := hD
  refine va_astq hx hb hK hP hD hS 1 3 44 0 rfl rfl rfl rfl (inB_in (by decide)) dX1_init_43 (fun H locs hP hD hS => ?_)
  have hP : va_P D vwCl ([(h0, .inr (1, [.ref a1, .int 0, .int 0])), (a1, .inl (cO, 8, .inr (.inr (.inr (.inr (va_up (va_up (va_up (va_up (va_up (va_up (va_up (fun _ => none) 0 (some (q3 0))) 1 (some (q5 0))) 2 (some (q7 0))) 3 (some (q9 0))) 4 (some (q11 0))) 5 (some (q13 0))) 6 (some (q15 0))))))))] ++ wC cI q3 zX00 ++ wC cI q5 zX00 ++ wC cI q7 zX00 ++ wC cI q9 zX00 ++ wC cI q11 zX00 ++ wC cI q13 zX00 ++ wC cI q15 zX00) H := hP
  have hD : va_D A ([(h0, .inr (1, [.ref a1, .int 0, .int 0])), (a1, .inl (cO, 8, .inr (.inr (.inr (.inr (va_up (va_up (va_up (va_up (va_up (va_up (va_up (fun _ => none) 0 (some (q3 0))) 1 (some (q5 0))) 2 (some (q7 0))) 3 (some (q9 0))) 4 (some (q11 0))) 5 (some (q13 0))) 6 (some (q15 0))))))))] ++ wC cI q3 zX00 ++ wC cI q5 zX00 ++ wC cI q7 zX00 ++ wC cI q9 zX00 ++ wC cI q11 zX00 ++ wC cI q13 zX00 ++ wC cI q15 zX00) := hD
  refine lv_iinc (v := 7) (lv' := [(1, .int 7), (0, .ref h0)]) hx hb dX1_init_44 hl (k := 0) rfl (by decide) (by decide) rfl (fun ls hl => ?_)
  refine lv_goto (tgt := 25) hx hb dX1_init_47 (by decide) ?_
  refine lv_iload_n hx hb dX1_init_25 rfl (lv_at hl 0 rfl) ?_
  refine lv_bipush (v := 8) hx hb dX1_init_26 (by decide) ?_
  refine lv_icmp_ge (tgt := 50) hx hb dX1_init_28 (by decide) (fun c9 => absurd c9 (by decide)) (fun _ => ?_)
  refine lv_aload_n hx hb dX1_init_31 rfl (lv_at hl 1 rfl) ?_
  refine va_get (D := D) (ci := 1) (v := .ref a1) (C := RX1) (T := TX1) (N := 3) hx hb hts hiX1 hown hK hP 0 rfl rfl 0 (by decide) (hts (.fieldLink RX1 11 "ResolutionProver$History" "states" "[LResolutionProver$Clauses;") (List.mem_of_getElem? (i := 5) rfl)) (fun _ h9 => h9) rfl dX1_init_32 ?_
  refine lv_iload_n hx hb dX1_init_35 rfl (lv_at hl 0 rfl) ?_
  refine va_new (ci := 0) (fs := [.null, .null, .null, .null, .null, .null, .int 0, .int 0]) (C := RX0) (T := TX0) (N := 8) hx hb hts hiX0 tyX0 tyX0_ok hown (hts (.classLink RX1 9 RX0) (List.mem_of_getElem? (i := 4) rfl)) (hts (.instantiable RX0 8) (List.mem_of_getElem? (i := 8) rfl)) (hts (.initialized RX0) (List.mem_of_getElem? (i := 9) rfl)) hK hP hD hS hA rfl (fun j hj => by rcases (show j = 0 ∨ j = 1 ∨ j = 2 ∨ j = 3 ∨ j = 4 ∨ j = 5 ∨ j = 6 ∨ j = 7 by omega) with rfl | rfl | rfl | rfl | rfl | rfl | rfl | rfl <;> rfl) (Nat.le_of_ble_eq_true rfl) (Nat.le_of_ble_eq_true rfl) dX1_init_36 (fun b16 H hP hD hS => ?_)
  have hP : va_P D vwCl ([(h0, .inr (1, [.ref a1, .int 0, .int 0])), (a1, .inl (cO, 8, .inr (.inr (.inr (.inr (va_up (va_up (va_up (va_up (va_up (va_up (va_up (fun _ => none) 0 (some (q3 0))) 1 (some (q5 0))) 2 (some (q7 0))) 3 (some (q9 0))) 4 (some (q11 0))) 5 (some (q13 0))) 6 (some (q15 0))))))))] ++ wC cI q3 zX00 ++ wC cI q5 zX00 ++ wC cI q7 zX00 ++ wC cI q9 zX00 ++ wC cI q11 zX00 ++ wC cI q13 zX00 ++ wC cI q15 zX00 ++ [(b16, .inr (0, [.null, .null, .null, .null, .null, .null, .int 0, .int 0]))]) H := hP
  have hD : va_D A ([(h0, .inr (1, [.ref a1, .int 0, .int 0])), (a1, .inl (cO, 8, .inr (.inr (.inr (.inr (va_up (va_up (va_up (va_up (va_up (va_up (va_up (fun _ => none) 0 (some (q3 0))) 1 (some (q5 0))) 2 (some (q7 0))) 3 (some (q9 0))) 4 (some (q11 0))) 5 (some (q13 0))) 6 (some (q15 0))))))))] ++ wC cI q3 zX00 ++ wC cI q5 zX00 ++ wC cI q7 zX00 ++ wC cI q9 zX00 ++ wC cI q11 zX00 ++ wC cI q13 zX00 ++ wC cI q15 zX00 ++ [(b16, .inr (0, [.null, .null, .null, .null, .null, .null, .int 0, .int 0]))]) := hD
  refine lv_dup hx hb dX1_init_39 rfl ?_
  refine alIN (rest := [.ref b16, .int 7, .ref a1]) ⟨hx, hb, hml, hown, hts⟩ (kX0_init l D cI cB cZ cO b16 _) ⟨va_cnB (host := RX8) 0 hts gX1_init_X0_init_n24 rfl rfl rfl (hNW _ (List.mem_of_getElem? (i := 4) rfl)) (hts (.initialized RX0) (List.mem_of_getElem? (i := 9) rfl)) (by decide +kernel) ⟨Nat.le_of_ble_eq_true rfl, Nat.le_of_ble_eq_true rfl⟩, rfl, (hts (.instanceMethod yX0_init) (List.mem_of_getElem? (i := 10) rfl))⟩ hK hP hD hS hA [51] [0, 1, 2, 3, 4, 5, 6, 7, 8, 9, 10, 11, 12, 13, 14, 15, 16, 17, 18, 19, 20, 21, 22, 23, 24, 25, 26, 27, 28, 29, 30, 31, 32, 33, 34, 35, 36, 37, 38, 39, 40, 41, 42, 43, 44, 45, 46, 47, 48, 49, 50] rfl (hP.sub [51] rfl) (by decide) rfl (by decide) (by decide) rfl hl.1 rfl (Nat.le_of_ble_eq_true rfl) dX1_init_40 ⟨Nat.le_of_ble_eq_true rfl, Nat.le_of_ble_eq_true rfl⟩ (fun q17 H locs hq9 hP hD hS => ?_)
  have hq9 : q17 0 = b16 := hq9
  subst hq9
  have hP : va_P D vwCl ([(h0, .inr (1, [.ref a1, .int 0, .int 0])), (a1, .inl (cO, 8, .inr (.inr (.inr (.inr (va_up (va_up (va_up (va_up (va_up (va_up (va_up (fun _ => none) 0 (some (q3 0))) 1 (some (q5 0))) 2 (some (q7 0))) 3 (some (q9 0))) 4 (some (q11 0))) 5 (some (q13 0))) 6 (some (q15 0))))))))] ++ wC cI q3 zX00 ++ wC cI q5 zX00 ++ wC cI q7 zX00 ++ wC cI q9 zX00 ++ wC cI q11 zX00 ++ wC cI q13 zX00 ++ wC cI q15 zX00 ++ wC cI q17 zX00) H := hP
  have hD : va_D A ([(h0, .inr (1, [.ref a1, .int 0, .int 0])), (a1, .inl (cO, 8, .inr (.inr (.inr (.inr (va_up (va_up (va_up (va_up (va_up (va_up (va_up (fun _ => none) 0 (some (q3 0))) 1 (some (q5 0))) 2 (some (q7 0))) 3 (some (q9 0))) 4 (some (q11 0))) 5 (some (q13 0))) 6 (some (q15 0))))))))] ++ wC cI q3 zX00 ++ wC cI q5 zX00 ++ wC cI q7 zX00 ++ wC cI q9 zX00 ++ wC cI q11 zX00 ++ wC cI q13 zX00 ++ wC cI q15 zX00 ++ wC cI q17 zX00) := hD
  refine va_astq hx hb hK hP hD hS 1 3 51 0 rfl rfl rfl rfl (inB_in (by decide)) dX1_init_43 (fun H locs hP hD hS => ?_)
  have hP : va_P D vwCl ([(h0, .inr (1, [.ref a1, .int 0, .int 0])), (a1, .inl (cO, 8, .inr (.inr (.inr (.inr (va_up (va_up (va_up (va_up (va_up (va_up (va_up (va_up (fun _ => none) 0 (some (q3 0))) 1 (some (q5 0))) 2 (some (q7 0))) 3 (some (q9 0))) 4 (some (q11 0))) 5 (some (q13 0))) 6 (some (q15 0))) 7 (some (q17 0))))))))] ++ wC cI q3 zX00 ++ wC cI q5 zX00 ++ wC cI q7 zX00 ++ wC cI q9 zX00 ++ wC cI q11 zX00 ++ wC cI q13 zX00 ++ wC cI q15 zX00 ++ wC cI q17 zX00) H := hP
  have hD : va_D A ([(h0, .inr (1, [.ref a1, .int 0, .int 0])), (a1, .inl (cO, 8, .inr (.inr (.inr (.inr (va_up (va_up (va_up (va_up (va_up (va_up (va_up (va_up (fun _ => none) 0 (some (q3 0))) 1 (some (q5 0))) 2 (some (q7 0))) 3 (some (q9 0))) 4 (some (q11 0))) 5 (some (q13 0))) 6 (some (q15 0))) 7 (some (q17 0))))))))] ++ wC cI q3 zX00 ++ wC cI q5 zX00 ++ wC cI q7 zX00 ++ wC cI q9 zX00 ++ wC cI q11 zX00 ++ wC cI q13 zX00 ++ wC cI q15 zX00 ++ wC cI q17 zX00) := hD
  refine lv_iinc (v := 8) (lv' := [(1, .int 8), (0, .ref h0)]) hx hb dX1_init_44 hl (k := 0) rfl (by decide) (by decide) rfl (fun ls hl => ?_)
  refine lv_goto (tgt := 25) hx hb dX1_init_47 (by decide) ?_
  refine lv_iload_n hx hb dX1_init_25 rfl (lv_at hl 0 rfl) ?_
  refine lv_bipush (v := 8) hx hb dX1_init_26 (by decide) ?_
  refine lv_icmp_ge (tgt := 50) hx hb dX1_init_28 (by decide) (fun _ => ?_) (fun c9 => absurd (by decide) c9)
  exact rA_v (q := (fun i => [(fun k => [h0, a1].getD k 0), q3, q5, q7, q9, q11, q13, q15, q17].getD i (fun _ => 0))) hx hb hr hlocks hP hD hS rfl rfl dX1_init_50
