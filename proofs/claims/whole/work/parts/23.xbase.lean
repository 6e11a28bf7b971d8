/-! The prover's own level: its cells, what it may throw, contracts of methods that return or throw, and their rows. -/
abbrev wXO (Q : Nat → Nat → Nat) : va_W := [(Q 0 0, .inr (7, [.ref (Q 1 0), .ref (Q 2 0), .ref (Q 3 0), .ref (Q 8 0), .ref (Q 17 0), .ref (Q 20 0), .ref (Q 21 0), .ref (Q 22 0), .ref (Q 23 0)]))]
def rf8 (a0 a1 a2 a3 a4 a5 a6 a7 : Nat) : Nat → Option Nat := va_up (va_up (va_up (va_up (va_up (va_up (va_up (va_up (fun _ => none) 0 (some a0)) 1 (some a1)) 2 (some a2)) 3 (some a3)) 4 (some a4)) 5 (some a5)) 6 (some a6)) 7 (some a7)
def rf2 (a0 a1 : Nat) : Nat → Option Nat := va_up (va_up (fun _ => none) 0 (some a0)) 1 (some a1)
abbrev wH (cO : ClassId) (q : Nat → Nat) (a0 a1 a2 a3 a4 a5 a6 a7 : Nat) (z : OS) : va_W := [(q 0, .inr (1, [.ref (q 1), .int (z.1 1), .int (z.1 2)])), (q 1, .inl (cO, 8, .inr (.inr (.inr (.inr (rf8 a0 a1 a2 a3 a4 a5 a6 a7))))))]
abbrev wXS (cO : ClassId) (q : Nat → Nat) (a0 a1 : Nat) : va_W := [(q 0, .inl (cO, 2, .inr (.inr (.inr (.inr (rf2 a0 a1))))))]
abbrev wXF (cZ : ClassId) (q : Nat → Nat) (z : OS) : va_W := [(q 0, .inl (cZ, 2, .inl (z.2 0)))]
def exn (k : Nat) : String := if k = 1 then "java/lang/IndexOutOfBoundsException" else if k = 2 then "java/lang/IllegalArgumentException" else "java/lang/IllegalStateException"
abbrev vnames : List String := ["java/lang/RuntimeException", "java/lang/Exception"]
def BB : List Cond := [.declares (Bundle.initS "java/lang/RuntimeException"), .declares (Bundle.initS "java/lang/Exception"), .declares (Bundle.initS Bundle.tN), .castable "java/lang/IndexOutOfBoundsException" "java/lang/IndexOutOfBoundsException", .castable "java/lang/IllegalArgumentException" "java/lang/IllegalArgumentException", .castable "java/lang/IllegalStateException" "java/lang/IllegalStateException"]
theorem BB_tab : ∀ w ∈ BB, w.onTables = true := by decide +kernel
theorem BB_warm {s U : State} (hW : s.WarmedH U.vm) (h : ∀ w ∈ BB, va_Nw w s) : ∀ w ∈ BB, va_Nw w U := by
  have h0 := h _ (List.mem_of_getElem? (i := 0) rfl)
  have h1 := h _ (List.mem_of_getElem? (i := 1) rfl)
  have h2 := h _ (List.mem_of_getElem? (i := 2) rfl)
  have h3 := h _ (List.mem_of_getElem? (i := 3) rfl)
  have h4 := h _ (List.mem_of_getElem? (i := 4) rfl)
  have h5 := h _ (List.mem_of_getElem? (i := 5) rfl)
  unfold BB
  exact List.forall_mem_cons.mpr ⟨va_Nw.warmD hW h0, List.forall_mem_cons.mpr ⟨va_Nw.warmD hW h1, List.forall_mem_cons.mpr ⟨va_Nw.warmD hW h2, List.forall_mem_cons.mpr ⟨va_Nw.warmC hW h3, List.forall_mem_cons.mpr ⟨va_Nw.warmC hW h4, List.forall_mem_cons.mpr ⟨va_Nw.warmC hW h5, fun _ h => absurd h List.not_mem_nil⟩⟩⟩⟩⟩⟩
def MsX (mK : Nat → Nat) (U : State) : Prop := vk_R RX8 93 "the text has a parse error" (mK 0) U ∧ vk_R RX8 111 "the script has a parse error" (mK 1) U ∧ vk_R RX8 352 "there is no such clause" (mK 2) U ∧ vk_R RX8 362 "this is no variable mask" (mK 3) U ∧ vk_R RX8 364 "a variable stands beside its negation" (mK 4) U ∧ vk_R RX8 355 "there is no such variable" (mK 5) U ∧ vk_R RX8 291 "there are 60 clauses" (mK 6) U ∧ vk_R RX8 294 "the clause exists already" (mK 7) U ∧ vk_R RX8 299 "the clauses are not resolvable" (mK 8) U ∧ vk_R RX8 304 "the resolvent exists, or there are 60 clauses" (mK 9) U ∧ vk_R RX8 309 "steps are 1 to 99" (mK 10) U ∧ vk_R RX8 311 "there is no next step" (mK 11) U ∧ vk_R RX8 317 "the clause is a parent" (mK 12) U ∧ vk_R RX8 329 "there is no change to undo" (mK 13) U ∧ vk_R RX8 357 "there is no such slot" (mK 14) U ∧ vk_R RX8 337 "the slot is empty" (mK 15) U
theorem MsX.map {mK : Nat → Nat} {u U : State} (f : ∀ (own : String) (k : Nat) (tx : String) (a : Nat), vk_R own k tx a u → vk_R own k tx a U) (h : MsX mK u) : MsX mK U := ⟨f _ _ _ _ h.1, f _ _ _ _ h.2.1, f _ _ _ _ h.2.2.1, f _ _ _ _ h.2.2.2.1, f _ _ _ _ h.2.2.2.2.1, f _ _ _ _ h.2.2.2.2.2.1, f _ _ _ _ h.2.2.2.2.2.2.1, f _ _ _ _ h.2.2.2.2.2.2.2.1, f _ _ _ _ h.2.2.2.2.2.2.2.2.1, f _ _ _ _ h.2.2.2.2.2.2.2.2.2.1, f _ _ _ _ h.2.2.2.2.2.2.2.2.2.2.1, f _ _ _ _ h.2.2.2.2.2.2.2.2.2.2.2.1, f _ _ _ _ h.2.2.2.2.2.2.2.2.2.2.2.2.1, f _ _ _ _ h.2.2.2.2.2.2.2.2.2.2.2.2.2.1, f _ _ _ _ h.2.2.2.2.2.2.2.2.2.2.2.2.2.2.1, f _ _ _ _ h.2.2.2.2.2.2.2.2.2.2.2.2.2.2.2⟩
theorem MsX_93 {mK : Nat → Nat} {U : State} (h : MsX mK U) : vk_R RX8 93 "the text has a parse error" (mK 0) U := h.1
theorem MsX_111 {mK : Nat → Nat} {U : State} (h : MsX mK U) : vk_R RX8 111 "the script has a parse error" (mK 1) U := h.2.1
theorem MsX_352 {mK : Nat → Nat} {U : State} (h : MsX mK U) : vk_R RX8 352 "there is no such clause" (mK 2) U := h.2.2.1
theorem MsX_362 {mK : Nat → Nat} {U : State} (h : MsX mK U) : vk_R RX8 362 "this is no variable mask" (mK 3) U := h.2.2.2.1
theorem MsX_364 {mK : Nat → Nat} {U : State} (h : MsX mK U) : vk_R RX8 364 "a variable stands beside its negation" (mK 4) U := h.2.2.2.2.1
theorem MsX_355 {mK : Nat → Nat} {U : State} (h : MsX mK U) : vk_R RX8 355 "there is no such variable" (mK 5) U := h.2.2.2.2.2.1
theorem MsX_291 {mK : Nat → Nat} {U : State} (h : MsX mK U) : vk_R RX8 291 "there are 60 clauses" (mK 6) U := h.2.2.2.2.2.2.1
theorem MsX_294 {mK : Nat → Nat} {U : State} (h : MsX mK U) : vk_R RX8 294 "the clause exists already" (mK 7) U := h.2.2.2.2.2.2.2.1
theorem MsX_299 {mK : Nat → Nat} {U : State} (h : MsX mK U) : vk_R RX8 299 "the clauses are not resolvable" (mK 8) U := h.2.2.2.2.2.2.2.2.1
theorem MsX_304 {mK : Nat → Nat} {U : State} (h : MsX mK U) : vk_R RX8 304 "the resolvent exists, or there are 60 clauses" (mK 9) U := h.2.2.2.2.2.2.2.2.2.1
theorem MsX_309 {mK : Nat → Nat} {U : State} (h : MsX mK U) : vk_R RX8 309 "steps are 1 to 99" (mK 10) U := h.2.2.2.2.2.2.2.2.2.2.1
theorem MsX_311 {mK : Nat → Nat} {U : State} (h : MsX mK U) : vk_R RX8 311 "there is no next step" (mK 11) U := h.2.2.2.2.2.2.2.2.2.2.2.1
theorem MsX_317 {mK : Nat → Nat} {U : State} (h : MsX mK U) : vk_R RX8 317 "the clause is a parent" (mK 12) U := h.2.2.2.2.2.2.2.2.2.2.2.2.1
theorem MsX_329 {mK : Nat → Nat} {U : State} (h : MsX mK U) : vk_R RX8 329 "there is no change to undo" (mK 13) U := h.2.2.2.2.2.2.2.2.2.2.2.2.2.1
theorem MsX_357 {mK : Nat → Nat} {U : State} (h : MsX mK U) : vk_R RX8 357 "there is no such slot" (mK 14) U := h.2.2.2.2.2.2.2.2.2.2.2.2.2.2.1
theorem MsX_337 {mK : Nat → Nat} {U : State} (h : MsX mK U) : vk_R RX8 337 "the slot is empty" (mK 15) U := h.2.2.2.2.2.2.2.2.2.2.2.2.2.2.2
def EX (aK aV mK : Nat → Nat) : (Nat → Prop) → State → Heap → Prop := fun A U H => EL aK aV A U H ∧ vx_Zq Bundle.tN "UNASSIGNED_STACK" Bundle.steD A U H ∧ vx_Zq Bundle.tN "SUPPRESSED_SENTINEL" Bundle.listD A U H ∧ (∀ w ∈ BB, va_Nw w U) ∧ MsX mK U
theorem EX_ok (aK aV mK : Nat → Nat) : EOk (EX aK aV mK) := by
  have hL := EL_ok aK aV
  refine ⟨fun A u U H e h => ⟨hL.1 A u U H e h.1, vx_Zq.moved (alike_vm e) h.2.1, vx_Zq.moved (alike_vm e) h.2.2.1, fun w hw => va_Nw.same (BB_tab w hw) e.symm (h.2.2.2.1 w hw), h.2.2.2.2.map (fun _ _ _ _ => vk_R.same e)⟩, fun A u U H e h => ⟨hL.2.1 A u U H e h.1, vx_Zq.moved e.alike h.2.1, vx_Zq.moved e.alike h.2.2.1, BB_warm e h.2.2.2.1, h.2.2.2.2.map (fun _ _ _ _ => vk_R.warm e)⟩, fun A U H H1 e h => ⟨hL.2.2.1 A U H H1 e h.1, h.2.1.kept e, h.2.2.1.kept e, h.2.2.2⟩, fun A B U H e h => ⟨hL.2.2.2 A B U H e h.1, h.2.1.narrow e, h.2.2.1.narrow e, h.2.2.2⟩⟩
def Qx (D : va_G) (A : Nat → Prop) (k : Nat) (v : Option Value) (w1 : va_W) : Array Value → State → Outcome → State → Prop := fun a st o t => k = 0 ∧ Qw D A v w1 a st o t
def XCx (D : va_G) (A : Nat → Prop) (k : Nat) (w1 : va_W) : String → State → State → Prop := fun E st t => k ≠ 0 ∧ E = exn k ∧ va_P D vwCl w1 t.heap ∧ va_D A w1 ∧ va_F A st t
theorem vgood95 : ∀ w ∈ Cond.classLink RX8 91 "java/lang/IllegalArgumentException" :: Cond.initialized "java/lang/IllegalArgumentException" :: vx_atS RX8 95 "java/lang/IllegalArgumentException" vnames, vx_ot w = true := by decide +kernel
theorem vgood293 : ∀ w ∈ Cond.classLink RX8 289 "java/lang/IllegalStateException" :: Cond.initialized "java/lang/IllegalStateException" :: vx_atS RX8 293 "java/lang/IllegalStateException" vnames, vx_ot w = true := by decide +kernel
theorem vgood354 : ∀ w ∈ Cond.classLink RX8 350 "java/lang/IndexOutOfBoundsException" :: Cond.initialized "java/lang/IndexOutOfBoundsException" :: vx_atS RX8 354 "java/lang/IndexOutOfBoundsException" vnames, vx_ot w = true := by decide +kernel
theorem vbb95 : ∀ w ∈ (vx_atS RX8 95 "java/lang/IllegalArgumentException" vnames).filter (fun w => !goodWord w), w ∈ BB := by decide +kernel
theorem vbb293 : ∀ w ∈ (vx_atS RX8 293 "java/lang/IllegalStateException" vnames).filter (fun w => !goodWord w), w ∈ BB := by decide +kernel
theorem vbb354 : ∀ w ∈ (vx_atS RX8 354 "java/lang/IndexOutOfBoundsException" vnames).filter (fun w => !goodWord w), w ∈ BB := by decide +kernel
section MetV
variable {l : Launch} {y : MethodName} {ws ws' : List Cond} {cc : ByteArray} {maxL : Nat} {ret : Option FieldType} {rm : Room} {D : va_G} {tys : List (ClassId × FieldType)} {w w1 : va_W} {av : List Value} {v : Option Value} {E0 : (Nat → Prop) → State → Heap → Prop}
theorem metV {own : String} {sz mc ms k : Nat} (ho : y.cls = own) (hy : plainName y.cls = true) (hw : ws = Cond.code y cc maxL ret :: ws') (hn : (lg_sl av).length ≤ maxL)
    (body : ∀ (p : Program) (e : Env) (s : State) (m : MethodId) (args : Array Value) (below : List Frame) (meth : Method) (c : Code) (ls : Array Slot) (A : Nat → Prop), p.tables.exec = Jvm.exec → c.code = cc → meth.sig.returnType = ret → c.maxLocals = maxL → s.vm.findClass own = some m.cls → meth.locks = false → (∀ w ∈ ws, w.before args s = true) → (∀ x ∈ c.exceptionTable.toList, False) → va_K D vwCl tys s → (∀ q : Nat, s.heap.size ≤ q → A q) → va_P D vwCl w s.heap → va_D A w → va_S A s.heap s.heap [] → E0 A s s.heap → lv_has ls maxL (lv_args 0 av) →
      W p l e (headSpec ws rm).room s m args below meth c s.heap [] 0 0 (vx_MQ below (Qx D A k v w1) (XCx D A k w1) args s mc ms A) (F0 m 0 ls [])) :
    vx_Met l y ws rm (va_Pc av (PwX E0 D tys w sz)) (Qx D (va_A w sz) k v w1) (XCx D (va_A w sz) k w1) mc ms (va_A w sz) := by
  refine vx_ofW (cc := cc) (maxL := maxL) (ret := ret) hy hw ?_
  intro p e s m args below meth c s₁ B hml hnt hv
  obtain ⟨rfl, ⟨hsz, hP, hK, hD0⟩, hE⟩ := hv
  subst hsz
  have hl := lv_entry av (n := maxL) hn
  rw [lg_entry_eq]
  exact body p e s m _ below meth c _ _ B.exec B.bytes B.returns hml (by rw [← ho]; exact findClass_of_methodNamed B.named) B.notSynchronized (atoms_spec (ws := ws) B.pre) hnt hK (fun q h => Or.inr h) hP (hD0.self (sz := s.heap.size)) va_S.rf hE hl
end MetV
section RowsV
variable {p : Program} {l : Launch} {e : Env} {R : Room} {s : State} {m : MethodId} {args : Array Value} {below : List Frame} {meth : Method} {c : Code} {H : Heap} {locs : List Loc} {cells slots : Nat} {Q : State → Prop}
variable {pc : Nat} {ls : Array Slot} {rest st0 : List Value} {cc : ByteArray} {D : va_G} {tys : List (ClassId × FieldType)} {A : Nat → Prop} {E0 : (Nat → Prop) → State → Heap → Prop} {mc ms k : Nat}
theorem cs_ob {β : Type} {P : Prop} {c : Prop} [Decidable c] {a b : Option β} {r : β} (hf : (if c then a else b) = some r) (f : c → a = some r → P) (g : ¬ c → b = some r → P) : P := by
  by_cases h : c
  · rw [if_pos h] at hf; exact f h hf
  · rw [if_neg h] at hf; exact g h hf
theorem lv_rfk {x : Option Nat} {a : Nat} (e1 : va_rf x = .ref a) (k : W p l e R s m args below meth c H locs cells slots Q (F0 m pc ls (.ref a :: rest))) : W p l e R s m args below meth c H locs cells slots Q (F0 m pc ls (va_rf x :: rest)) := by rw [e1]; exact k
theorem rV_i {v r : Int32} {w w1 : va_W} (hx : p.tables.exec = Jvm.exec) (hb : c.code = cc) (hr : meth.sig.returnType = some .int) (hlocks : meth.locks = false) (hP : va_P D vwCl w H) (hD : va_D A w) (hS : va_S A s.heap H locs) (h1 : cells ≤ mc) (h2 : slots ≤ ms) (hk : 0 = k) (he : v = r) (hw : w = w1) (hdg : decode cc pc = .ok (.ireturn, 1)) :
    W p l e R s m args below meth c H locs cells slots (vx_MQ below (Qx D A k (some (.int r)) w1) (XCx D A k w1) args s mc ms A) (F0 m pc ls [.int v]) := by
  subst he; subst hw
  exact vx_ret (W.widen h1 h2 (W.iret hx hb hr (fun t ht _ => ⟨hk.symm, rfl, by rw [ht]; exact hP, hD, hS.F ht⟩) hS.2.2 hdg hlocks))
theorem rV_z {v r : Int32} {w w1 : va_W} (hx : p.tables.exec = Jvm.exec) (hb : c.code = cc) (hr : meth.sig.returnType = some .boolean) (hlocks : meth.locks = false) (hP : va_P D vwCl w H) (hD : va_D A w) (hS : va_S A s.heap H locs) (h1 : cells ≤ mc) (h2 : slots ≤ ms) (hz : isZ v = true) (hk : 0 = k) (he : v = r) (hw : w = w1) (hdg : decode cc pc = .ok (.ireturn, 1)) :
    W p l e R s m args below meth c H locs cells slots (vx_MQ below (Qx D A k (some (.int r)) w1) (XCx D A k w1) args s mc ms A) (F0 m pc ls [.int v]) := by
  subst he; subst hw
  exact vx_ret (W.widen h1 h2 (W.zret hx hb hr (isZ_n hz) (fun t ht _ => ⟨hk.symm, rfl, by rw [ht]; exact hP, hD, hS.F ht⟩) hS.2.2 hdg hlocks))
theorem rV_l {v r : Int64} {w w1 : va_W} (hx : p.tables.exec = Jvm.exec) (hb : c.code = cc) (hr : meth.sig.returnType = some .long) (hlocks : meth.locks = false) (hP : va_P D vwCl w H) (hD : va_D A w) (hS : va_S A s.heap H locs) (h1 : cells ≤ mc) (h2 : slots ≤ ms) (hk : 0 = k) (he : v = r) (hw : w = w1) (hdg : decode cc pc = .ok (.lreturn, 1)) :
    W p l e R s m args below meth c H locs cells slots (vx_MQ below (Qx D A k (some (.long r)) w1) (XCx D A k w1) args s mc ms A) (F0 m pc ls [.long v]) := by
  subst he; subst hw
  exact vx_ret (W.widen h1 h2 (W.lret hx hb hr (fun t ht _ => ⟨hk.symm, rfl, by rw [ht]; exact hP, hD, hS.F ht⟩) hS.2.2 hdg hlocks))
theorem rV_v {w w1 : va_W} (hx : p.tables.exec = Jvm.exec) (hb : c.code = cc) (hr : meth.sig.returnType = none) (hlocks : meth.locks = false) (hP : va_P D vwCl w H) (hD : va_D A w) (hS : va_S A s.heap H locs) (h1 : cells ≤ mc) (h2 : slots ≤ ms) (hk : 0 = k) (hw : w = w1) (hdg : decode cc pc = .ok (.return_, 1)) :
    W p l e R s m args below meth c H locs cells slots (vx_MQ below (Qx D A k none w1) (XCx D A k w1) args s mc ms A) (F0 m pc ls []) := by
  subst hw
  exact vx_ret (W.widen h1 h2 (W.vret hx hb hr (fun t ht _ => ⟨hk.symm, rfl, by rw [ht]; exact hP, hD, hS.F ht⟩) hS.2.2 hdg hlocks))
theorem va_P.still {w : va_W} {H1 : Heap} (h : va_P D vwCl w H) (hq : ∀ q : Nat, q < H.size → H1[q]? = H[q]?) : va_P D vwCl w H1 := h.kept (fun j x hx => hq x.1 (h j x hx).lt)
/-- a throw of the prover's own, with a text by ldc_w -/
theorem xthrW {cls text : String} {ik is ic sa j : Nat} {aK aV mK : Nat → Nat} {v : Option Value} {w w1 : va_W} (hx : p.tables.exec = Jvm.exec) (hb : c.code = cc) (hl : l.stackTraces = false) (hown : s.vm.findClass RX8 = some m.cls) (hcls : Bundle.fit cls = true)
    (hk : (Cond.classLink RX8 ik cls).before args s = true) (hini : (Cond.initialized cls).before args s = true) (hstr : vk_R RX8 is text sa s) (hgw : ∀ w ∈ (vx_atS RX8 ic cls vnames).filter goodWord, w.before args s = true) (hbb : ∀ w ∈ (vx_atS RX8 ic cls vnames).filter (fun w => !goodWord w), w ∈ BB)
    (hgood : ∀ w ∈ Cond.classLink RX8 ik cls :: Cond.initialized cls :: vx_atS RX8 ic cls vnames, vx_ot w = true) (hE : EX aK aV mK A s s.heap) (hS : va_S A s.heap H locs) (hsize : ls.size = c.maxLocals)
    (d0 : decode cc pc = .ok (.new ik, 3)) (d3 : decode cc (pc + 3) = .ok (.dup, 1)) (d4 : decode cc (pc + 4) = .ok (.ldc_w is, 3)) (d7 : decode cc (pc + 7) = .ok (.invokespecial ic, 3)) (d10 : decode cc (pc + 10) = .ok (.athrow, 1))
    (hnt : ∀ x ∈ c.exceptionTable.toList, False) (hRframes : 5 < R.frames) (hRlocals : (rest.map fun v => v.category).sum + 82 ≤ R.locals) (hRcells : cells + 1 ≤ R.cells) (hRslots : slots + 6 ≤ R.slots) (hlocks : meth.locks = false)
    (hP : va_P D vwCl w H) (hD : va_D A w) (hj : j = k) (hj0 : j ≠ 0) (hjc : cls = exn j) (hw : w = w1) (hc : cells + 1 ≤ mc) (hs : slots + 6 ≤ ms) :
    W p l e R s m args below meth c H locs cells slots (vx_MQ below (Qx D A k v w1) (XCx D A k w1) args s mc ms A) (F0 m pc ls rest) := by
  subst hj; subst hw
  exact vx_throwSW (names := vnames) hx hb hl hown hcls (by decide) hk hini hstr (vx_hat hgw hbb (fun w hw => va_Nw.use (BB_tab w hw) (hE.2.2.2.1 w hw))) hgood hE.2.1 hE.2.2.1 hS hsize d0 d3 d4 d7 d10 (fun x hx => (hnt x hx).elim) hRframes hRlocals hRcells hRslots hlocks
    (fun t hW hz hq => ⟨hj0, hjc, va_P.still hP hq, hD, Nat.le_trans hS.1 hz, fun q h1 h2 => (hq q (Nat.lt_of_lt_of_le h1 hS.1)).trans (hS.2.1 q h1 h2)⟩) hS.2.2 hc hs
/-- the same with a text by ldc -/
theorem xthr {cls text : String} {ik is ic sa j : Nat} {aK aV mK : Nat → Nat} {v : Option Value} {w w1 : va_W} (hx : p.tables.exec = Jvm.exec) (hb : c.code = cc) (hl : l.stackTraces = false) (hown : s.vm.findClass RX8 = some m.cls) (hcls : Bundle.fit cls = true)
    (hk : (Cond.classLink RX8 ik cls).before args s = true) (hini : (Cond.initialized cls).before args s = true) (hstr : vk_R RX8 is text sa s) (hgw : ∀ w ∈ (vx_atS RX8 ic cls vnames).filter goodWord, w.before args s = true) (hbb : ∀ w ∈ (vx_atS RX8 ic cls vnames).filter (fun w => !goodWord w), w ∈ BB)
    (hgood : ∀ w ∈ Cond.classLink RX8 ik cls :: Cond.initialized cls :: vx_atS RX8 ic cls vnames, vx_ot w = true) (hE : EX aK aV mK A s s.heap) (hS : va_S A s.heap H locs) (hsize : ls.size = c.maxLocals)
    (d0 : decode cc pc = .ok (.new ik, 3)) (d3 : decode cc (pc + 3) = .ok (.dup, 1)) (d4 : decode cc (pc + 4) = .ok (.ldc is, 2)) (d6 : decode cc (pc + 6) = .ok (.invokespecial ic, 3)) (d9 : decode cc (pc + 9) = .ok (.athrow, 1))
    (hnt : ∀ x ∈ c.exceptionTable.toList, False) (hRframes : 5 < R.frames) (hRlocals : (rest.map fun v => v.category).sum + 82 ≤ R.locals) (hRcells : cells + 1 ≤ R.cells) (hRslots : slots + 6 ≤ R.slots) (hlocks : meth.locks = false)
    (hP : va_P D vwCl w H) (hD : va_D A w) (hj : j = k) (hj0 : j ≠ 0) (hjc : cls = exn j) (hw : w = w1) (hc : cells + 1 ≤ mc) (hs : slots + 6 ≤ ms) :
    W p l e R s m args below meth c H locs cells slots (vx_MQ below (Qx D A k v w1) (XCx D A k w1) args s mc ms A) (F0 m pc ls rest) := by
  subst hj; subst hw
  exact vx_throwS (names := vnames) hx hb hl hown hcls (by decide) hk hini hstr (vx_hat hgw hbb (fun w hw => va_Nw.use (BB_tab w hw) (hE.2.2.2.1 w hw))) hgood hE.2.1 hE.2.2.1 hS hsize d0 d3 d4 d6 d9 (fun x hx => (hnt x hx).elim) hRframes hRlocals hRcells hRslots hlocks
    (fun t hW hz hq => ⟨hj0, hjc, va_P.still hP hq, hD, Nat.le_trans hS.1 hz, fun q h1 h2 => (hq q (Nat.lt_of_lt_of_le h1 hS.1)).trans (hS.2.1 q h1 h2)⟩) hS.2.2 hc hs
/-- a call of a method that returns or throws, over the same cells -/
theorem xcallV {y : MethodName} {bytes : ByteArray} {maxL nL n index j mc1 ms1 : Nat} {ret : Option FieldType} {wsy Ts : List Cond} {rm : Room} {own C : String} {b : Nat} {As : List Value} {v : Option Value} {ws w1 : va_W}
    (S : CallFix p m c cc nL s args Ts own) (hM : vx_Met l y wsy rm (va_Pc (.ref b :: As) (PwX E0 D tys ws H.size)) (Qx D (va_A ws H.size) j v w1) (XCx D (va_A ws H.size) j w1) mc1 ms1 (va_A ws H.size)) (cw : CallW R s args own C index y bytes maxL ret wsy rm mc1 ms1 n)
    (hEk : EOk E0) (hE : E0 A s H) (hK : va_K D vwCl tys s) (hP : va_P D vwCl ws H) (hD : va_D A ws) (hS : va_S A s.heap H locs) (hA : ∀ q, s.heap.size ≤ q → A q)
    (hrecv : ∃ cellB : Cell, H[b]? = some cellB ∧ cellB.vm.isStatics = false ∧ s.vm.findClass C = some cellB.cls)
    (hn : As.length = n) (hsize : ls.size = nL) (hstack : st0 = As.reverse ++ .ref b :: rest) (hW : (rest.map fun v => v.category).sum ≤ 8) (hdg : decode cc pc = .ok (.invokevirtual index, 3)) (hc : cells + mc1 ≤ R.cells ∧ slots + ms1 ≤ R.slots)
    (kx : ∀ (H1 : Heap) (locs1 : List Loc) (q : Addr) (ce : Cell), ¬ j = 0 → va_P D vwCl w1 H1 → va_D A w1 → va_S A s.heap H1 locs1 → H1[q]? = some ce → ce.vm = .none → s.vm.findClass (exn j) = some ce.cls → vx_W p l e R s m args below meth c H1 locs1 (cells + mc1) (slots + ms1) Q (F0 m pc ls rest) q)
    (kk : ∀ (H1 : Heap) (locs1 : List Loc), j = 0 → va_P D vwCl w1 H1 → va_D A w1 → va_S A s.heap H1 locs1 → W p l e R s m args below meth c H1 locs1 (cells + mc1) (slots + ms1) Q (F0 m (pc + 3) ls (v.toList ++ rest))) : W p l e R s m args below meth c H locs cells slots Q (F0 m pc ls st0) := by
  have hF : ∀ q, va_A ws H.size q → A q := fun q h => by
    rcases h with ⟨k9, e9, h⟩ | h
    · exact hD.2 k9 (q, e9) h
    · exact hA q (Nat.le_trans hS.1 h)
  have hr := vx_runV (p := p) (l := l) (e := e) (R := R) (g := F0 m pc ls st0) (rest := rest) (cells := cells) (slots := slots) (locs := locs) (below := below) (meth := meth) S hM cw ⟨PwX_blind hEk, hrecv, fun U hU hW => ⟨rfl, ⟨by rw [hU], by rw [hU]; exact hP, va_K.moved hW.alike hK, hD.weaken (fun _ _ _ _ => trivial)⟩, by rw [hU]; exact hEk.2.1 _ s U H hW (hEk.2.2.2 A _ s H hF hE)⟩⟩ rfl hn hsize hstack (lv_room hW) hdg hc
  intro T hT X
  rcases hr T hT X with ⟨v9, st₀, t, T', L, h0, X', hL, e1, e2, ⟨hj, hv, hP1, hD1, hFr⟩, st⟩ | ⟨q, st₀, t, T', L, E9, ce, h0, X', hL, e1, e2, ⟨hj, hE9, hP1, hD1, hFr⟩, hce, hcv, hcl, st⟩
  · cases hv
    obtain ⟨k1, k2, k3⟩ := vx_keep h0 e1 hS (fun q _ h => hF q h) hF hL hFr
    obtain ⟨t2, a1, b1⟩ := kk T'.heap (locs ++ L) hj (by rw [e1]; exact hP1) (hD1.weaken (fun _ q _ h => hF q.1 h)) k3 T' rfl X'
    exact ⟨t2, st t2 a1, b1⟩
  · subst hE9
    obtain ⟨k1, k2, k3⟩ := vx_keep h0 e1 hS (fun q _ h => hF q h) hF hL hFr
    obtain ⟨t2, a1, b1⟩ := kx T'.heap (locs ++ L) q ce hj (by rw [e1]; exact hP1) (hD1.weaken (fun _ q _ h => hF q.1 h)) k3 (by rw [e1]; exact hce) hcv hcl T' rfl X'
    exact ⟨t2, st.trans a1, b1⟩
/-- what a callee has thrown leaves the method -/
theorem xout {q : Addr} {ce : Cell} {j : Nat} {v : Option Value} {w w1 : va_W} (hnt : ∀ x ∈ c.exceptionTable.toList, False) (hlocks : meth.locks = false) (hcell : H[q]? = some ce) (hv : ce.vm = .none) (hcl : s.vm.findClass (exn j) = some ce.cls)
    (hP : va_P D vwCl w H) (hD : va_D A w) (hS : va_S A s.heap H locs) (hj0 : ¬ j = 0) (hj : j = k) (hw : w = w1) (h1 : cells ≤ mc) (h2 : slots ≤ ms) :
    vx_W p l e R s m args below meth c H locs cells slots (vx_MQ below (Qx D A k v w1) (XCx D A k w1) args s mc ms A) (F0 m pc ls rest) q := by
  subst hj; subst hw
  exact vx_out (fun x hx => (hnt x hx).elim) hlocks hcell hv hcl (fun t ht _ => ⟨hj0, rfl, by rw [ht]; exact hP, hD, hS.F ht⟩) hS.2.2 h1 h2
end RowsV
