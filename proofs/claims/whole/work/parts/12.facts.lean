/-! The words of the texts: each is a constant of both classes; what a method may know beside its cells. -/
def lt (i : Nat) : List Int32 := match i with
  | 0 => [108, 111, 103, 105, 99]
  | 1 => [99, 108, 97, 117, 115, 101]
  | 2 => [114, 101, 115, 111, 108, 118, 101]
  | 3 => [115, 97, 116, 117, 114, 97, 116, 101]
  | 4 => [100, 114, 111, 112]
  | 5 => [110, 101, 103, 97, 116, 101]
  | 6 => [105, 110, 118, 101, 114, 116]
  | 7 => [114, 101, 100, 117, 99, 101]
  | 8 => [101, 120, 112, 101, 99, 116]
  | 9 => [99, 108, 97, 117, 115, 101, 115]
  | 10 => [109, 111, 100, 101, 108, 115]
  | 11 => [114, 101, 102, 117, 116, 101, 100]
  | 12 => [111, 112, 101, 110]
  | 13 => [105, 109, 112, 108, 105, 101, 100]
  | 14 => [102, 105, 120, 101, 100]
  | 15 => [115, 117, 98, 115, 117, 109, 101, 100]
  | 16 => [115, 105, 122, 101]
  | _ => [100, 101, 112, 116, 104]
/-- facts of the start that no change of the cells A touches -/
def EOk (E : (Nat → Prop) → State → Heap → Prop) : Prop := (∀ (A : Nat → Prop) (u U : State) (H : Heap), U.vm = u.vm → E A u H → E A U H) ∧ (∀ (A : Nat → Prop) (u U : State) (H : Heap), u.WarmedH U.vm → E A u H → E A U H) ∧ (∀ (A : Nat → Prop) (U : State) (H H1 : Heap), (∀ a : Nat, a < H.size → ¬ A a → H1[a]? = H[a]?) → E A U H → E A U H1) ∧ ∀ (A B : Nat → Prop) (U : State) (H : Heap), (∀ q, B q → A q) → E A U H → E B U H
abbrev EN : (Nat → Prop) → State → Heap → Prop := fun _ _ _ => True
theorem EN_ok : EOk EN := ⟨fun _ _ _ _ _ h => h, fun _ _ _ _ _ h => h, fun _ _ _ _ _ h => h, fun _ _ _ _ _ h => h⟩
abbrev ET (tx : List Int32) (a v : Nat) : (Nat → Prop) → State → Heap → Prop := fun A U H => Txt tx a v A U H
theorem alike_vm {u U : State} (h : U.vm = u.vm) : u.vm.Alike U.vm := by rw [h]; exact Vm.Alike.refl _
theorem ET_ok (tx : List Int32) (a v : Nat) : EOk (ET tx a v) := ⟨fun _ _ _ _ e h => h.moved (alike_vm e), fun _ _ _ _ e h => h.moved e.alike, fun _ _ _ _ e h => h.kept e, fun _ _ _ _ e h => h.narrow e⟩
def LdS (aK : Nat → Nat) (U : State) : Prop := vk_R RX6 61 "logic" (aK 0) U ∧ vk_R RX6 94 "clause" (aK 1) U ∧ vk_R RX6 99 "resolve" (aK 2) U ∧ vk_R RX6 104 "saturate" (aK 3) U ∧ vk_R RX6 109 "drop" (aK 4) U ∧ vk_R RX6 114 "negate" (aK 5) U ∧ vk_R RX6 119 "invert" (aK 6) U ∧ vk_R RX6 124 "reduce" (aK 7) U ∧ vk_R RX6 129 "expect" (aK 8) U ∧ vk_R RX6 182 "clauses" (aK 9) U ∧ vk_R RX6 193 "models" (aK 10) U ∧ vk_R RX6 200 "refuted" (aK 11) U ∧ vk_R RX6 202 "open" (aK 12) U ∧ vk_R RX6 204 "implied" (aK 13) U ∧ vk_R RX6 210 "fixed" (aK 14) U ∧ vk_R RX6 215 "subsumed" (aK 15) U ∧ vk_R RX6 220 "size" (aK 16) U ∧ vk_R RX6 226 "depth" (aK 17) U
def LdM (aK : Nat → Nat) (U : State) : Prop := vk_R RX9 334 "logic" (aK 0) U ∧ vk_R RX9 281 "clause" (aK 1) U ∧ vk_R RX9 286 "resolve" (aK 2) U ∧ vk_R RX9 291 "saturate" (aK 3) U ∧ vk_R RX9 296 "drop" (aK 4) U ∧ vk_R RX9 301 "negate" (aK 5) U ∧ vk_R RX9 306 "invert" (aK 6) U ∧ vk_R RX9 308 "reduce" (aK 7) U ∧ vk_R RX9 313 "expect" (aK 8) U ∧ vk_R RX9 247 "clauses" (aK 9) U ∧ vk_R RX9 253 "models" (aK 10) U ∧ vk_R RX9 257 "refuted" (aK 11) U ∧ vk_R RX9 259 "open" (aK 12) U ∧ vk_R RX9 276 "implied" (aK 13) U ∧ vk_R RX9 261 "fixed" (aK 14) U ∧ vk_R RX9 266 "subsumed" (aK 15) U ∧ vk_R RX9 270 "size" (aK 16) U ∧ vk_R RX9 272 "depth" (aK 17) U
theorem LdS.map {aK : Nat → Nat} {u U : State} (f : ∀ (own : String) (k : Nat) (tx : String) (a : Nat), vk_R own k tx a u → vk_R own k tx a U) (h : LdS aK u) : LdS aK U := ⟨f _ _ _ _ h.1, f _ _ _ _ h.2.1, f _ _ _ _ h.2.2.1, f _ _ _ _ h.2.2.2.1, f _ _ _ _ h.2.2.2.2.1, f _ _ _ _ h.2.2.2.2.2.1, f _ _ _ _ h.2.2.2.2.2.2.1, f _ _ _ _ h.2.2.2.2.2.2.2.1, f _ _ _ _ h.2.2.2.2.2.2.2.2.1, f _ _ _ _ h.2.2.2.2.2.2.2.2.2.1, f _ _ _ _ h.2.2.2.2.2.2.2.2.2.2.1, f _ _ _ _ h.2.2.2.2.2.2.2.2.2.2.2.1, f _ _ _ _ h.2.2.2.2.2.2.2.2.2.2.2.2.1, f _ _ _ _ h.2.2.2.2.2.2.2.2.2.2.2.2.2.1, f _ _ _ _ h.2.2.2.2.2.2.2.2.2.2.2.2.2.2.1, f _ _ _ _ h.2.2.2.2.2.2.2.2.2.2.2.2.2.2.2.1, f _ _ _ _ h.2.2.2.2.2.2.2.2.2.2.2.2.2.2.2.2.1, f _ _ _ _ h.2.2.2.2.2.2.2.2.2.2.2.2.2.2.2.2.2⟩
theorem LdM.map {aK : Nat → Nat} {u U : State} (f : ∀ (own : String) (k : Nat) (tx : String) (a : Nat), vk_R own k tx a u → vk_R own k tx a U) (h : LdM aK u) : LdM aK U := ⟨f _ _ _ _ h.1, f _ _ _ _ h.2.1, f _ _ _ _ h.2.2.1, f _ _ _ _ h.2.2.2.1, f _ _ _ _ h.2.2.2.2.1, f _ _ _ _ h.2.2.2.2.2.1, f _ _ _ _ h.2.2.2.2.2.2.1, f _ _ _ _ h.2.2.2.2.2.2.2.1, f _ _ _ _ h.2.2.2.2.2.2.2.2.1, f _ _ _ _ h.2.2.2.2.2.2.2.2.2.1, f _ _ _ _ h.2.2.2.2.2.2.2.2.2.2.1, f _ _ _ _ h.2.2.2.2.2.2.2.2.2.2.2.1, f _ _ _ _ h.2.2.2.2.2.2.2.2.2.2.2.2.1, f _ _ _ _ h.2.2.2.2.2.2.2.2.2.2.2.2.2.1, f _ _ _ _ h.2.2.2.2.2.2.2.2.2.2.2.2.2.2.1, f _ _ _ _ h.2.2.2.2.2.2.2.2.2.2.2.2.2.2.2.1, f _ _ _ _ h.2.2.2.2.2.2.2.2.2.2.2.2.2.2.2.2.1, f _ _ _ _ h.2.2.2.2.2.2.2.2.2.2.2.2.2.2.2.2.2⟩
def EL (aK aV : Nat → Nat) : (Nat → Prop) → State → Heap → Prop := fun A U H => (∀ i : Nat, Txt (lt i) (aK i) (aV i) A U H) ∧ LdS aK U ∧ LdM aK U
theorem EL_ok (aK aV : Nat → Nat) : EOk (EL aK aV) := ⟨fun _ _ _ _ e h => ⟨fun i => (h.1 i).moved (alike_vm e), h.2.1.map (fun _ _ _ _ => vk_R.same e), h.2.2.map (fun _ _ _ _ => vk_R.same e)⟩, fun _ _ _ _ e h => ⟨fun i => (h.1 i).moved e.alike, h.2.1.map (fun _ _ _ _ => vk_R.warm e), h.2.2.map (fun _ _ _ _ => vk_R.warm e)⟩, fun _ _ _ _ e h => ⟨fun i => (h.1 i).kept e, h.2⟩, fun _ _ _ _ e h => ⟨fun i => (h.1 i).narrow e, h.2⟩⟩
theorem EL_s0 {aK aV : Nat → Nat} {A : Nat → Prop} {U : State} {H : Heap} (h : EL aK aV A U H) : vk_R RX6 61 "logic" (aK 0) U := h.2.1.1
theorem EL_m0 {aK aV : Nat → Nat} {A : Nat → Prop} {U : State} {H : Heap} (h : EL aK aV A U H) : vk_R RX9 334 "logic" (aK 0) U := h.2.2.1
theorem EL_s1 {aK aV : Nat → Nat} {A : Nat → Prop} {U : State} {H : Heap} (h : EL aK aV A U H) : vk_R RX6 94 "clause" (aK 1) U := h.2.1.2.1
theorem EL_m1 {aK aV : Nat → Nat} {A : Nat → Prop} {U : State} {H : Heap} (h : EL aK aV A U H) : vk_R RX9 281 "clause" (aK 1) U := h.2.2.2.1
theorem EL_s2 {aK aV : Nat → Nat} {A : Nat → Prop} {U : State} {H : Heap} (h : EL aK aV A U H) : vk_R RX6 99 "resolve" (aK 2) U := h.2.1.2.2.1
theorem EL_m2 {aK aV : Nat → Nat} {A : Nat → Prop} {U : State} {H : Heap} (h : EL aK aV A U H) : vk_R RX9 286 "resolve" (aK 2) U := h.2.2.2.2.1
theorem EL_s3 {aK aV : Nat → Nat} {A : Nat → Prop} {U : State} {H : Heap} (h : EL aK aV A U H) : vk_R RX6 104 "saturate" (aK 3) U := h.2.1.2.2.2.1
theorem EL_m3 {aK aV : Nat → Nat} {A : Nat → Prop} {U : State} {H : Heap} (h : EL aK aV A U H) : vk_R RX9 291 "saturate" (aK 3) U := h.2.2.2.2.2.1
theorem EL_s4 {aK aV : Nat → Nat} {A : Nat → Prop} {U : State} {H : Heap} (h : EL aK aV A U H) : vk_R RX6 109 "drop" (aK 4) U := h.2.1.2.2.2.2.1
theorem EL_m4 {aK aV : Nat → Nat} {A : Nat → Prop} {U : State} {H : Heap} (h : EL aK aV A U H) : vk_R RX9 296 "drop" (aK 4) U := h.2.2.2.2.2.2.1
theorem EL_s5 {aK aV : Nat → Nat} {A : Nat → Prop} {U : State} {H : Heap} (h : EL aK aV A U H) : vk_R RX6 114 "negate" (aK 5) U := h.2.1.2.2.2.2.2.1
theorem EL_m5 {aK aV : Nat → Nat} {A : Nat → Prop} {U : State} {H : Heap} (h : EL aK aV A U H) : vk_R RX9 301 "negate" (aK 5) U := h.2.2.2.2.2.2.2.1
theorem EL_s6 {aK aV : Nat → Nat} {A : Nat → Prop} {U : State} {H : Heap} (h : EL aK aV A U H) : vk_R RX6 119 "invert" (aK 6) U := h.2.1.2.2.2.2.2.2.1
theorem EL_m6 {aK aV : Nat → Nat} {A : Nat → Prop} {U : State} {H : Heap} (h : EL aK aV A U H) : vk_R RX9 306 "invert" (aK 6) U := h.2.2.2.2.2.2.2.2.1
theorem EL_s7 {aK aV : Nat → Nat} {A : Nat → Prop} {U : State} {H : Heap} (h : EL aK aV A U H) : vk_R RX6 124 "reduce" (aK 7) U := h.2.1.2.2.2.2.2.2.2.1
theorem EL_m7 {aK aV : Nat → Nat} {A : Nat → Prop} {U : State} {H : Heap} (h : EL aK aV A U H) : vk_R RX9 308 "reduce" (aK 7) U := h.2.2.2.2.2.2.2.2.2.1
theorem EL_s8 {aK aV : Nat → Nat} {A : Nat → Prop} {U : State} {H : Heap} (h : EL aK aV A U H) : vk_R RX6 129 "expect" (aK 8) U := h.2.1.2.2.2.2.2.2.2.2.1
theorem EL_m8 {aK aV : Nat → Nat} {A : Nat → Prop} {U : State} {H : Heap} (h : EL aK aV A U H) : vk_R RX9 313 "expect" (aK 8) U := h.2.2.2.2.2.2.2.2.2.2.1
theorem EL_s9 {aK aV : Nat → Nat} {A : Nat → Prop} {U : State} {H : Heap} (h : EL aK aV A U H) : vk_R RX6 182 "clauses" (aK 9) U := h.2.1.2.2.2.2.2.2.2.2.2.1
theorem EL_m9 {aK aV : Nat → Nat} {A : Nat → Prop} {U : State} {H : Heap} (h : EL aK aV A U H) : vk_R RX9 247 "clauses" (aK 9) U := h.2.2.2.2.2.2.2.2.2.2.2.1
theorem EL_s10 {aK aV : Nat → Nat} {A : Nat → Prop} {U : State} {H : Heap} (h : EL aK aV A U H) : vk_R RX6 193 "models" (aK 10) U := h.2.1.2.2.2.2.2.2.2.2.2.2.1
theorem EL_m10 {aK aV : Nat → Nat} {A : Nat → Prop} {U : State} {H : Heap} (h : EL aK aV A U H) : vk_R RX9 253 "models" (aK 10) U := h.2.2.2.2.2.2.2.2.2.2.2.2.1
theorem EL_s11 {aK aV : Nat → Nat} {A : Nat → Prop} {U : State} {H : Heap} (h : EL aK aV A U H) : vk_R RX6 200 "refuted" (aK 11) U := h.2.1.2.2.2.2.2.2.2.2.2.2.2.1
theorem EL_m11 {aK aV : Nat → Nat} {A : Nat → Prop} {U : State} {H : Heap} (h : EL aK aV A U H) : vk_R RX9 257 "refuted" (aK 11) U := h.2.2.2.2.2.2.2.2.2.2.2.2.2.1
theorem EL_s12 {aK aV : Nat → Nat} {A : Nat → Prop} {U : State} {H : Heap} (h : EL aK aV A U H) : vk_R RX6 202 "open" (aK 12) U := h.2.1.2.2.2.2.2.2.2.2.2.2.2.2.1
theorem EL_m12 {aK aV : Nat → Nat} {A : Nat → Prop} {U : State} {H : Heap} (h : EL aK aV A U H) : vk_R RX9 259 "open" (aK 12) U := h.2.2.2.2.2.2.2.2.2.2.2.2.2.2.1
theorem EL_s13 {aK aV : Nat → Nat} {A : Nat → Prop} {U : State} {H : Heap} (h : EL aK aV A U H) : vk_R RX6 204 "implied" (aK 13) U := h.2.1.2.2.2.2.2.2.2.2.2.2.2.2.2.1
theorem EL_m13 {aK aV : Nat → Nat} {A : Nat → Prop} {U : State} {H : Heap} (h : EL aK aV A U H) : vk_R RX9 276 "implied" (aK 13) U := h.2.2.2.2.2.2.2.2.2.2.2.2.2.2.2.1
theorem EL_s14 {aK aV : Nat → Nat} {A : Nat → Prop} {U : State} {H : Heap} (h : EL aK aV A U H) : vk_R RX6 210 "fixed" (aK 14) U := h.2.1.2.2.2.2.2.2.2.2.2.2.2.2.2.2.1
theorem EL_m14 {aK aV : Nat → Nat} {A : Nat → Prop} {U : State} {H : Heap} (h : EL aK aV A U H) : vk_R RX9 261 "fixed" (aK 14) U := h.2.2.2.2.2.2.2.2.2.2.2.2.2.2.2.2.1
theorem EL_s15 {aK aV : Nat → Nat} {A : Nat → Prop} {U : State} {H : Heap} (h : EL aK aV A U H) : vk_R RX6 215 "subsumed" (aK 15) U := h.2.1.2.2.2.2.2.2.2.2.2.2.2.2.2.2.2.1
theorem EL_m15 {aK aV : Nat → Nat} {A : Nat → Prop} {U : State} {H : Heap} (h : EL aK aV A U H) : vk_R RX9 266 "subsumed" (aK 15) U := h.2.2.2.2.2.2.2.2.2.2.2.2.2.2.2.2.2.1
theorem EL_s16 {aK aV : Nat → Nat} {A : Nat → Prop} {U : State} {H : Heap} (h : EL aK aV A U H) : vk_R RX6 220 "size" (aK 16) U := h.2.1.2.2.2.2.2.2.2.2.2.2.2.2.2.2.2.2.1
theorem EL_m16 {aK aV : Nat → Nat} {A : Nat → Prop} {U : State} {H : Heap} (h : EL aK aV A U H) : vk_R RX9 270 "size" (aK 16) U := h.2.2.2.2.2.2.2.2.2.2.2.2.2.2.2.2.2.2.1
theorem EL_s17 {aK aV : Nat → Nat} {A : Nat → Prop} {U : State} {H : Heap} (h : EL aK aV A U H) : vk_R RX6 226 "depth" (aK 17) U := h.2.1.2.2.2.2.2.2.2.2.2.2.2.2.2.2.2.2.2
theorem EL_m17 {aK aV : Nat → Nat} {A : Nat → Prop} {U : State} {H : Heap} (h : EL aK aV A U H) : vk_R RX9 272 "depth" (aK 17) U := h.2.2.2.2.2.2.2.2.2.2.2.2.2.2.2.2.2.2.2
def PrX (E : (Nat → Prop) → State → Heap → Prop) (D : va_G) (tys : List (ClassId × FieldType)) (w : va_W) : State → Prop := fun U => Pr D tys w U ∧ E (fun _ => False) U U.heap
def PwX (E : (Nat → Prop) → State → Heap → Prop) (D : va_G) (tys : List (ClassId × FieldType)) (w : va_W) (sz : Nat) : State → Prop := fun U => Pw D tys w sz U ∧ E (va_A w sz) U U.heap
theorem PrX_blind {E : (Nat → Prop) → State → Heap → Prop} (hE : EOk E) {D : va_G} {tys : List (ClassId × FieldType)} {w : va_W} {av : List Value} : FrameBlind (va_Pc av (PrX E D tys w)) := fun a U g mk h => ⟨h.1, (Pr_blind (D := D) (tys := tys) (w := w) (av := av) a U g mk ⟨h.1, h.2.1⟩).2, hE.1 _ U (U.calling g mk a) _ rfl h.2.2⟩
theorem PwX_blind {E : (Nat → Prop) → State → Heap → Prop} (hE : EOk E) {D : va_G} {tys : List (ClassId × FieldType)} {w : va_W} {sz : Nat} {av : List Value} : FrameBlind (va_Pc av (PwX E D tys w sz)) := fun a U g mk h => ⟨h.1, (Pw_blind (D := D) (tys := tys) (w := w) (sz := sz) (av := av) a U g mk ⟨h.1, h.2.1⟩).2, hE.1 _ U (U.calling g mk a) _ rfl h.2.2⟩
section MetsX
variable {l : Launch} {y : MethodName} {ws ws' : List Cond} {cc : ByteArray} {maxL : Nat} {ret : Option FieldType} {rm : Room} {D : va_G} {tys : List (ClassId × FieldType)} {w w1 : va_W} {av : List Value} {v : Option Value} {E0 : (Nat → Prop) → State → Heap → Prop}
theorem metRX {own : String} (ho : y.cls = own) (hy : plainName y.cls = true) (hw : ws = Cond.code y cc maxL ret :: ws') (hn : (lg_sl av).length ≤ maxL)
    (body : ∀ (p : Program) (e : Env) (s : State) (m : MethodId) (args : Array Value) (below : List Frame) (meth : Method) (c : Code) (ls : Array Slot), p.tables.exec = Jvm.exec → c.code = cc → meth.sig.returnType = ret → c.maxLocals = maxL → s.vm.findClass own = some m.cls → meth.locks = false → (∀ w ∈ ws, w.before args s = true) → va_P D vwCl w s.heap → va_K D vwCl tys s → E0 (fun _ => False) s s.heap → lv_has ls maxL (lv_args 0 av) →
      W p l e (headSpec ws rm).room s m args below meth c s.heap [] 0 0 (MQ below (Qr v) args s 0 0 (fun _ => False)) (F0 m 0 ls [])) :
    Met l y ws rm (va_Pc av (PrX E0 D tys w)) (Qr v) 0 0 (fun _ => False) :=
  metG ho hy hw hn (fun p e s m args below meth c ls hx hb hr hml hown hlocks hts hB hl => body p e s m args below meth c ls hx hb hr hml hown hlocks hts hB.1.1 hB.1.2 hB.2 hl)
theorem metWX {own : String} {sz : Nat} (ho : y.cls = own) (hy : plainName y.cls = true) (hw : ws = Cond.code y cc maxL ret :: ws') (hn : (lg_sl av).length ≤ maxL)
    (body : ∀ (p : Program) (e : Env) (s : State) (m : MethodId) (args : Array Value) (below : List Frame) (meth : Method) (c : Code) (ls : Array Slot) (A : Nat → Prop), p.tables.exec = Jvm.exec → c.code = cc → meth.sig.returnType = ret → c.maxLocals = maxL → s.vm.findClass own = some m.cls → meth.locks = false → (∀ w ∈ ws, w.before args s = true) → va_K D vwCl tys s → (∀ q : Nat, s.heap.size ≤ q → A q) → va_P D vwCl w s.heap → va_D A w → va_S A s.heap s.heap [] → E0 A s s.heap → lv_has ls maxL (lv_args 0 av) →
      W p l e (headSpec ws rm).room s m args below meth c s.heap [] 0 0 (MQ below (Qw D A v w1) args s 0 0 A) (F0 m 0 ls [])) :
    Met l y ws rm (va_Pc av (PwX E0 D tys w sz)) (Qw D (va_A w sz) v w1) 0 0 (va_A w sz) := by
  refine Met.ofW (cc := cc) (maxL := maxL) (ret := ret) hy hw ?_
  intro p e s m args below meth c s₁ B hml hv
  obtain ⟨rfl, ⟨hsz, hP, hK, hD0⟩, hE⟩ := hv
  subst hsz
  have hl := lv_entry av (n := maxL) hn
  rw [lg_entry_eq]
  exact body p e s m _ below meth c _ _ B.exec B.bytes B.returns hml (by rw [← ho]; exact findClass_of_methodNamed B.named) B.notSynchronized (atoms_spec (ws := ws) B.pre) hK (fun q h => Or.inr h) hP (hD0.self (sz := s.heap.size)) va_S.rf hE hl
end MetsX
section RowsX
variable {p : Program} {l : Launch} {e : Env} {R : Room} {s : State} {m : MethodId} {args : Array Value} {below : List Frame} {meth : Method} {c : Code} {H : Heap} {locs : List Loc} {cells slots : Nat} {Q : State → Prop}
variable {pc : Nat} {ls : Array Slot} {rest st0 : List Value} {cc : ByteArray} {D : va_G} {tys : List (ClassId × FieldType)} {A : Nat → Prop} {E0 : (Nat → Prop) → State → Heap → Prop}
/-- a virtual call of a method that reads, with facts -/
theorem rdVX {y : MethodName} {bytes : ByteArray} {maxL nL n index : Nat} {ret : Option FieldType} {ws Ts : List Cond} {rm : Room} {own C : String} {b : Nat} {As : List Value} {wc : va_W} {v : Option Value}
    (S : CallFix p m c cc nL s args Ts own) (hM : Met l y ws rm (va_Pc (.ref b :: As) (PrX E0 D tys wc)) (Qr v) 0 0 (fun _ => False)) (cw : CallW R s args own C index y bytes maxL ret ws rm 0 0 n)
    (hEk : EOk E0) (hE : E0 A s H) (hK : va_K D vwCl tys s) (hP : va_P D vwCl wc H) (hrecv : ∃ cellB : Cell, H[b]? = some cellB ∧ cellB.vm.isStatics = false ∧ s.vm.findClass C = some cellB.cls)
    (hn : As.length = n) (hsize : ls.size = nL) (hstack : st0 = As.reverse ++ .ref b :: rest) (hW : (rest.map fun v => v.category).sum ≤ 8) (hdg : decode cc pc = .ok (.invokevirtual index, 3)) (hc : cells ≤ R.cells ∧ slots ≤ R.slots)
    (kk : W p l e R s m args below meth c H locs cells slots Q (F0 m (pc + 3) ls (v.toList ++ rest))) : W p l e R s m args below meth c H locs cells slots Q (F0 m pc ls st0) :=
  rdGo (va_runV (g := F0 m pc ls st0) (rest := rest) S hM cw ⟨PrX_blind hEk, hrecv, fun U hU hW => ⟨rfl, ⟨by rw [hU]; exact hP, va_K.moved hW.alike hK⟩, by rw [hU]; exact hEk.2.1 _ s U H hW (hEk.2.2.2 A _ s H (fun _ q => q.elim) hE)⟩⟩ rfl hn hsize hstack (lv_room hW) hdg hc) kk
/-- a virtual call of a method that writes, over a part of the cells, with facts -/
theorem wrVX {y : MethodName} {bytes : ByteArray} {maxL nL n index : Nat} {ret : Option FieldType} {wsy Ts : List Cond} {rm : Room} {own C : String} {b : Nat} {As : List Value} {v : Option Value} {ws wc w1 ws2 : va_W}
    (S : CallFix p m c cc nL s args Ts own) (hM : Met l y wsy rm (va_Pc (.ref b :: As) (PwX E0 D tys wc H.size)) (Qw D (va_A wc H.size) v w1) 0 0 (va_A wc H.size)) (cw : CallW R s args own C index y bytes maxL ret wsy rm 0 0 n)
    (hEk : EOk E0) (hE : E0 A s H) (hK : va_K D vwCl tys s) (hP : va_P D vwCl ws H) (hD : va_D A ws) (hS : va_S A s.heap H locs) (hA : ∀ q, s.heap.size ≤ q → A q) (isC isR isP : List Nat) (hC : isC.map (fun i => ws[i]?) = wc.map some) (hPc : va_P D vwCl wc H) (hnC : va_nd isC = true) (hR : isR.map (fun i => ws[i]?) = (isR.filterMap (fun i => ws[i]?)).map some) (hnR : va_nd isR = true) (hdis : ∀ i ∈ isR, i ∉ isC) (hnP : va_nd isP = true) (hP2 : isP.map (fun i => ((isR.filterMap (fun i => ws[i]?)) ++ w1)[i]?) = ws2.map some)
    (hrecv : ∃ cellB : Cell, H[b]? = some cellB ∧ cellB.vm.isStatics = false ∧ s.vm.findClass C = some cellB.cls)
    (hn : As.length = n) (hsize : ls.size = nL) (hstack : st0 = As.reverse ++ .ref b :: rest) (hW : (rest.map fun v => v.category).sum ≤ 8) (hdg : decode cc pc = .ok (.invokevirtual index, 3)) (hc : cells ≤ R.cells ∧ slots ≤ R.slots)
    (kk : ∀ (H1 : Heap) (locs1 : List Loc), va_P D vwCl ws2 H1 → va_D A ws2 → va_S A s.heap H1 locs1 → W p l e R s m args below meth c H1 locs1 cells slots Q (F0 m (pc + 3) ls (v.toList ++ rest))) : W p l e R s m args below meth c H locs cells slots Q (F0 m pc ls st0) :=
  wrGo (va_runV (g := F0 m pc ls st0) (rest := rest) S hM cw ⟨PwX_blind hEk, hrecv, fun U hU hW => ⟨rfl, ⟨by rw [hU], by rw [hU]; exact hPc, va_K.moved hW.alike hK, (hD.sub isC hnC hC).weaken (fun _ _ _ _ => trivial)⟩, by rw [hU]; exact hEk.2.1 _ s U H hW (hEk.2.2.2 A _ s H (va_free hD hS hA isC hC) hE)⟩⟩ rfl hn hsize hstack (lv_room hW) hdg hc) hP hD hS hA isC isR isP hC hR hnR hdis hnP hP2 kk
/-- a virtual call of a method that writes, over the same cells, with facts -/
theorem weVX {y : MethodName} {bytes : ByteArray} {maxL nL n index : Nat} {ret : Option FieldType} {wsy Ts : List Cond} {rm : Room} {own C : String} {b : Nat} {As : List Value} {v : Option Value} {ws w1 : va_W}
    (S : CallFix p m c cc nL s args Ts own) (hM : Met l y wsy rm (va_Pc (.ref b :: As) (PwX E0 D tys ws H.size)) (Qw D (va_A ws H.size) v w1) 0 0 (va_A ws H.size)) (cw : CallW R s args own C index y bytes maxL ret wsy rm 0 0 n)
    (hEk : EOk E0) (hE : E0 A s H) (hK : va_K D vwCl tys s) (hP : va_P D vwCl ws H) (hD : va_D A ws) (hS : va_S A s.heap H locs) (hA : ∀ q, s.heap.size ≤ q → A q)
    (hrecv : ∃ cellB : Cell, H[b]? = some cellB ∧ cellB.vm.isStatics = false ∧ s.vm.findClass C = some cellB.cls)
    (hn : As.length = n) (hsize : ls.size = nL) (hstack : st0 = As.reverse ++ .ref b :: rest) (hW : (rest.map fun v => v.category).sum ≤ 8) (hdg : decode cc pc = .ok (.invokevirtual index, 3)) (hc : cells ≤ R.cells ∧ slots ≤ R.slots)
    (kk : ∀ (H1 : Heap) (locs1 : List Loc), va_P D vwCl w1 H1 → va_D A w1 → va_S A s.heap H1 locs1 → W p l e R s m args below meth c H1 locs1 cells slots Q (F0 m (pc + 3) ls (v.toList ++ rest))) : W p l e R s m args below meth c H locs cells slots Q (F0 m pc ls st0) :=
  weGo (va_runV (g := F0 m pc ls st0) (rest := rest) S hM cw ⟨PwX_blind hEk, hrecv, fun U hU hW => ⟨rfl, ⟨by rw [hU], by rw [hU]; exact hP, va_K.moved hW.alike hK, hD.weaken (fun _ _ _ _ => trivial)⟩, by rw [hU]; exact hEk.2.1 _ s U H hW (hEk.2.2.2 A _ s H (fun q h => by
    rcases h with ⟨k, e9, h⟩ | h
    · exact hD.2 k (q, e9) h
    · exact hA q (Nat.le_trans hS.1 h)) hE)⟩⟩ rfl hn hsize hstack (lv_room hW) hdg hc) hD hS hA kk
end RowsX
abbrev wS (q : Nat → Nat) (aT aC aA aP : Nat) (z : OS) : va_W := [(q 0, .inr (5, [.ref aT, .ref aC, .ref aA, .ref aP, .int (z.1 4), .int (z.1 5), .int (z.1 6), .int (z.1 7), .int (z.1 8)]))]
