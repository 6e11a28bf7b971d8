/-! The law's wrappers: what is caught, and the rows of their calls. -/
abbrev gL (cI cB cZ cO cJ : ClassId) : List (ClassId × FieldType) := [(cI, .int), (cB, .byte), (cZ, .boolean), (cO, .object RX0), (cJ, .long)]
abbrev wL (cJ : ClassId) (a : Nat) (o : Nat → Int64) : va_W := [(a, .inl (cJ, 1, .inr (.inl o)))]
def EW (aK aV mK : Nat → Nat) : (Nat → Prop) → State → Heap → Prop := fun A U H => EX aK aV mK A U H ∧ va_Nc (exn 2) (exn 1) U ∧ va_Nc (exn 3) (exn 1) U ∧ va_Nc (exn 3) (exn 2) U
theorem EW_ok (aK aV mK : Nat → Nat) : EOk (EW aK aV mK) := by
  have hX := EX_ok aK aV mK
  exact ⟨fun A u U H e h => ⟨hX.1 A u U H e h.1, h.2.1.moved (alike_vm e), h.2.2.1.moved (alike_vm e), h.2.2.2.moved (alike_vm e)⟩, fun A u U H e h => ⟨hX.2.1 A u U H e h.1, h.2.1.moved e.alike, h.2.2.1.moved e.alike, h.2.2.2.moved e.alike⟩, fun A U H H1 e h => ⟨hX.2.2.1 A U H H1 e h.1, h.2⟩, fun A B U H e h => ⟨hX.2.2.2 A B U H e h.1, h.2⟩⟩
section MetL
variable {l : Launch} {y : MethodName} {ws ws' : List Cond} {cc : ByteArray} {maxL : Nat} {ret : Option FieldType} {rm : Room} {D : va_G} {tys : List (ClassId × FieldType)} {w w1 : va_W} {av : List Value} {v : Option Value} {E0 : (Nat → Prop) → State → Heap → Prop} {hh : List (Nat × Nat × Nat × Nat)}
theorem metL {own : String} {sz mc ms : Nat} (ho : y.cls = own) (hy : plainName y.cls = true) (hw : ws = Cond.codeWith y cc maxL ret hh :: ws') (hn : (lg_sl av).length ≤ maxL)
    (body : ∀ (p : Program) (e : Env) (s : State) (m : MethodId) (args : Array Value) (below : List Frame) (meth : Method) (c : Code) (ls : Array Slot) (A : Nat → Prop), p.tables.exec = Jvm.exec → c.code = cc → meth.sig.returnType = ret → c.maxLocals = maxL → s.vm.findClass own = some m.cls → meth.locks = false → (∀ w ∈ ws, w.before args s = true) → c.exceptionTable.toList = tableOf hh → va_K D vwCl tys s → (∀ q : Nat, s.heap.size ≤ q → A q) → va_P D vwCl w s.heap → va_D A w → va_S A s.heap s.heap [] → E0 A s s.heap → lv_has ls maxL (lv_args 0 av) →
      W p l e (headSpec ws rm).room s m args below meth c s.heap [] 0 0 (MQ below (Qw D A v w1) args s mc ms A) (F0 m 0 ls [])) :
    Met l y ws rm (va_Pc av (PwX E0 D tys w sz)) (Qw D (va_A w sz) v w1) mc ms (va_A w sz) := by
  refine va_MetW (cc := cc) (maxL := maxL) (ret := ret) (hh := hh) hy hw ?_
  intro p e s m args below meth c s₁ B hml hv
  obtain ⟨rfl, ⟨hsz, hP, hK, hD0⟩, hE⟩ := hv
  subst hsz
  have hl := lv_entry av (n := maxL) hn
  have hts := atoms_spec (ws := ws) B.pre
  have htab := vx_table (x := y) B (hts _ (by rw [hw]; exact List.mem_cons_self))
  rw [lg_entry_eq]
  exact body p e s m _ below meth c _ _ B.exec B.bytes B.returns hml (by rw [← ho]; exact findClass_of_methodNamed B.named) B.notSynchronized hts htab hK (fun q h => Or.inr h) hP (hD0.self (sz := s.heap.size)) va_S.rf hE hl
end MetL
section RowsL
variable {p : Program} {l : Launch} {e : Env} {R : Room} {s : State} {m : MethodId} {args : Array Value} {below : List Frame} {meth : Method} {c : Code} {H : Heap} {locs : List Loc} {cells slots : Nat} {Q : State → Prop}
variable {pc : Nat} {ls : Array Slot} {rest st0 : List Value} {cc : ByteArray} {D : va_G} {tys : List (ClassId × FieldType)} {A : Nat → Prop} {H0 : Heap} {E0 : (Nat → Prop) → State → Heap → Prop} {mc ms : Nat}
theorem rL_i {v r : Int32} {w w1 : va_W} (hx : p.tables.exec = Jvm.exec) (hb : c.code = cc) (hr : meth.sig.returnType = some .int) (hlocks : meth.locks = false) (hP : va_P D vwCl w H) (hD : va_D A w) (hS : va_S A s.heap H locs) (h1 : cells ≤ mc) (h2 : slots ≤ ms) (he : v = r) (hw : w = w1) (hdg : decode cc pc = .ok (.ireturn, 1)) :
    W p l e R s m args below meth c H locs cells slots (MQ below (Qw D A (some (.int r)) w1) args s mc ms A) (F0 m pc ls [.int v]) := by
  subst he; subst hw
  exact W.widen h1 h2 (W.iret hx hb hr (fun t ht _ => ⟨rfl, by rw [ht]; exact hP, hD, hS.F ht⟩) hS.2.2 hdg hlocks)
theorem joinb {V V2 : List va_W} {w1 : va_W} {iC iR : List Nat} {nV : Nat} {H1 : Heap} (hnV : V.length = nV) (hok : (iC ++ iR).isPerm (List.range nV) = true) (hC2 : fl (sel V2 iC) = w1) (hR : sel V2 iR = sel V iR) (hL : V2.length = V.length)
    (hP : va_P D vwCl (fl V) H) (hD : va_D A (fl V)) (hF : ∀ q, va_A (fl (sel V iC)) H.size q → A q) (hk : ∀ q : Nat, q < H.size → ¬ va_A (fl (sel V iC)) H.size q → H1[q]? = H[q]?) (hP1 : va_P D vwCl w1 H1) (hD1 : va_D (va_A (fl (sel V iC)) H.size) w1) : va_P D vwCl (fl V2) H1 ∧ va_D A (fl V2) := by
  have hp := fl_split hnV hok
  have hp2 : List.Perm (w1 ++ fl (sel V iR)) (fl V2) := by rw [← hC2, ← hR]; exact fl_split (hL.trans hnV) hok
  obtain ⟨hPj, hDj⟩ := va_join (wr := fl (sel V iR)) (w1 := w1) (hP.perm hp.symm) (hD.perm hp.symm) (List.range (fl (sel V iC)).length) ((List.range (fl (sel V iR)).length).map ((fl (sel V iC)).length + ·)) (map_range_app _ _) (map_range_app2 _ _) (va_nd_of (by
      rw [List.Nodup, List.pairwise_map]
      exact (List.nodup_range (n := (fl (sel V iR)).length)).imp (fun h => by omega))) (fun i hi hi2 => by
      obtain ⟨j, -, rfl⟩ := List.mem_map.mp hi
      have := List.mem_range.mp hi2
      omega) hk hF hP1 hD1
  exact ⟨hPj.perm (List.perm_append_comm.trans hp2), hDj.perm (List.perm_append_comm.trans hp2)⟩
/-- a call of a method that returns or throws, over a part of the blocks -/
theorem xcallW {y : MethodName} {bytes : ByteArray} {maxL nL n index j mc1 ms1 : Nat} {ret : Option FieldType} {wsy Ts : List Cond} {rm : Room} {own C : String} {b : Nat} {As : List Value} {v : Option Value} {V : List va_W} {wc w1 : va_W} (V2 : List va_W)
    (S : CallFix p m c cc nL s args Ts own) (hM : vx_Met l y wsy rm (va_Pc (.ref b :: As) (PwX E0 D tys wc H.size)) (Qx D (va_A wc H.size) j v w1) (XCx D (va_A wc H.size) j w1) mc1 ms1 (va_A wc H.size)) (cw : CallW R s args own C index y bytes maxL ret wsy rm mc1 ms1 n)
    (hEk : EOk E0) (hE : E0 A s H) (hK : va_K D vwCl tys s) (hP : va_P D vwCl (fl V) H) (hD : va_D A (fl V)) (hS : va_S A s.heap H locs) (hA : ∀ q, s.heap.size ≤ q → A q) (iC iR : List Nat) (nV : Nat) (hnV : V.length = nV) (hok : (iC ++ iR).isPerm (List.range nV) = true) (hC : fl (sel V iC) = wc) (hC2 : fl (sel V2 iC) = w1) (WR : List va_W) (hR1 : sel V iR = WR) (hR2 : sel V2 iR = WR) (hL : V2.length = nV)
    (hrecv : ∃ cellB : Cell, H[b]? = some cellB ∧ cellB.vm.isStatics = false ∧ s.vm.findClass C = some cellB.cls)
    (hn : As.length = n) (hsize : ls.size = nL) (hstack : st0 = As.reverse ++ .ref b :: rest) (hW : (rest.map fun v => v.category).sum ≤ 8) (hdg : decode cc pc = .ok (.invokevirtual index, 3)) (hc : cells + mc1 ≤ R.cells ∧ slots + ms1 ≤ R.slots)
    (kx : ∀ (H1 : Heap) (locs1 : List Loc) (q : Addr) (ce : Cell), ¬ j = 0 → va_P D vwCl (fl V2) H1 → va_D A (fl V2) → va_S A s.heap H1 locs1 → H1[q]? = some ce → ce.vm = .none → s.vm.findClass (exn j) = some ce.cls → vx_W p l e R s m args below meth c H1 locs1 (cells + mc1) (slots + ms1) Q (F0 m pc ls rest) q)
    (kk : ∀ (H1 : Heap) (locs1 : List Loc), j = 0 → va_P D vwCl (fl V2) H1 → va_D A (fl V2) → va_S A s.heap H1 locs1 → W p l e R s m args below meth c H1 locs1 (cells + mc1) (slots + ms1) Q (F0 m (pc + 3) ls (v.toList ++ rest))) : W p l e R s m args below meth c H locs cells slots Q (F0 m pc ls st0) := by
  subst hC
  have hF := va_freeb hD hnV hok hS hA
  have hr := vx_runV (p := p) (l := l) (e := e) (R := R) (g := F0 m pc ls st0) (rest := rest) (cells := cells) (slots := slots) (locs := locs) (below := below) (meth := meth) S hM cw ⟨PwX_blind hEk, hrecv, fun U hU hW => ⟨rfl, ⟨by rw [hU], by rw [hU]; exact hP.subb iC rfl, va_K.moved hW.alike hK, (hD.subb hnV hok).weaken (fun _ _ _ _ => trivial)⟩, by rw [hU]; exact hEk.2.1 _ s U H hW (hEk.2.2.2 A _ s H hF hE)⟩⟩ rfl hn hsize hstack (lv_room hW) hdg hc
  intro T hT X
  rcases hr T hT X with ⟨v9, st₀, t, T', L, h0, X', hL9, e1, e2, ⟨hj, hv, hP1, hD1, hFr⟩, st⟩ | ⟨q, st₀, t, T', L, E9, ce, h0, X', hL9, e1, e2, ⟨hj, hE9, hP1, hD1, hFr⟩, hce, hcv, hcl, st⟩
  · cases hv
    obtain ⟨k1, k2, k3⟩ := vx_keep h0 e1 hS (fun q _ h => hF q h) hF hL9 hFr
    rw [← e1] at hP1
    obtain ⟨hPj, hDj⟩ := joinb hnV hok hC2 (hR2.trans hR1.symm) (hL.trans hnV.symm) hP hD hF k2 hP1 hD1
    obtain ⟨t2, a1, b1⟩ := kk T'.heap (locs ++ L) hj hPj hDj k3 T' rfl X'
    exact ⟨t2, st t2 a1, b1⟩
  · subst hE9
    obtain ⟨k1, k2, k3⟩ := vx_keep h0 e1 hS (fun q _ h => hF q h) hF hL9 hFr
    rw [← e1] at hP1
    obtain ⟨hPj, hDj⟩ := joinb hnV hok hC2 (hR2.trans hR1.symm) (hL.trans hnV.symm) hP hD hF k2 hP1 hD1
    obtain ⟨t2, a1, b1⟩ := kx T'.heap (locs ++ L) q ce hj hPj hDj k3 (by rw [e1]; exact hce) hcv hcl T' rfl X'
    exact ⟨t2, st.trans a1, b1⟩
/-- what is thrown is caught by the first row -/
theorem xc1 {own : String} {q : Addr} {ce : Cell} {k : Nat} {x : ExceptionTableEntry} {suf : List ExceptionTableEntry} (hown : s.vm.findClass own = some m.cls) (htab : c.exceptionTable.toList = x :: suf) (hx : covers x pc = true) (h0 : x.catchType ≠ 0)
    (hlink : (Cond.classLink own x.catchType (exn k)).before args s = true) (hcast : va_Nw (.castable (exn k) (exn k)) s) (hcell : H[q]? = some ce) (hv : ce.vm = .none) (hcl : s.vm.findClass (exn k) = some ce.cls)
    (kk : W p l e R s m args below meth c H locs cells slots Q (F0 m x.handlerPc ls [.ref q])) : vx_W p l e R s m args below meth c H locs cells slots Q (F0 m pc ls rest) q :=
  vx_catch hown [] x suf htab (fun z hz => absurd hz List.not_mem_nil) hx h0 hlink (va_Nw.use rfl hcast) hcell hv hcl kk
/-- by the second -/
theorem xc2 {own : String} {q : Addr} {ce : Cell} {k k1 : Nat} {x1 x : ExceptionTableEntry} {suf : List ExceptionTableEntry} (hown : s.vm.findClass own = some m.cls) (htab : c.exceptionTable.toList = x1 :: x :: suf) (h1 : x1.catchType ≠ 0) (hl1 : (Cond.classLink own x1.catchType (exn k1)).before args s = true) (hn1 : va_Nc (exn k) (exn k1) s) (hx : covers x pc = true) (h0 : x.catchType ≠ 0)
    (hlink : (Cond.classLink own x.catchType (exn k)).before args s = true) (hcast : va_Nw (.castable (exn k) (exn k)) s) (hcell : H[q]? = some ce) (hv : ce.vm = .none) (hcl : s.vm.findClass (exn k) = some ce.cls)
    (kk : W p l e R s m args below meth c H locs cells slots Q (F0 m x.handlerPc ls [.ref q])) : vx_W p l e R s m args below meth c H locs cells slots Q (F0 m pc ls rest) q :=
  vx_catch hown [x1] x suf htab (fun z hz => by rw [List.mem_singleton] at hz; subst hz; exact Or.inr ⟨h1, _, hl1, hn1⟩) hx h0 hlink (va_Nw.use rfl hcast) hcell hv hcl kk
/-- by the third -/
theorem xc3 {own : String} {q : Addr} {ce : Cell} {k k1 k2 : Nat} {x1 x2 x : ExceptionTableEntry} {suf : List ExceptionTableEntry} (hown : s.vm.findClass own = some m.cls) (htab : c.exceptionTable.toList = x1 :: x2 :: x :: suf) (h1 : x1.catchType ≠ 0) (hl1 : (Cond.classLink own x1.catchType (exn k1)).before args s = true) (hn1 : va_Nc (exn k) (exn k1) s) (h2 : x2.catchType ≠ 0) (hl2 : (Cond.classLink own x2.catchType (exn k2)).before args s = true) (hn2 : va_Nc (exn k) (exn k2) s) (hx : covers x pc = true) (h0 : x.catchType ≠ 0)
    (hlink : (Cond.classLink own x.catchType (exn k)).before args s = true) (hcast : va_Nw (.castable (exn k) (exn k)) s) (hcell : H[q]? = some ce) (hv : ce.vm = .none) (hcl : s.vm.findClass (exn k) = some ce.cls)
    (kk : W p l e R s m args below meth c H locs cells slots Q (F0 m x.handlerPc ls [.ref q])) : vx_W p l e R s m args below meth c H locs cells slots Q (F0 m pc ls rest) q :=
  vx_catch hown [x1, x2] x suf htab (fun z hz => by
    rcases List.mem_cons.mp hz with hz | hz
    · subst hz; exact Or.inr ⟨h1, _, hl1, hn1⟩
    · rw [List.mem_singleton] at hz; subst hz; exact Or.inr ⟨h2, _, hl2, hn2⟩) hx h0 hlink (va_Nw.use rfl hcast) hcell hv hcl kk
end RowsL
