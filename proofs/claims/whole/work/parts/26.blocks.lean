/-! Worlds of many blocks: a list of blocks, chosen from by the block's number. -/
abbrev fl (V : List va_W) : va_W := V.flatten
abbrev sel (V : List va_W) (is : List Nat) : List va_W := is.filterMap (fun i => V[i]?)
theorem sel_range (V : List va_W) : sel V (List.range V.length) = V := by
  apply List.ext_getElem?
  intro n
  induction V generalizing n with
  | nil => rfl
  | cons a V ih =>
    unfold sel
    rw [List.length_cons, List.range_succ_eq_map, List.filterMap_cons]
    show (a :: List.filterMap (fun i => (a :: V)[i]?) (List.map Nat.succ (List.range V.length)))[n]? = _
    rw [List.filterMap_map]
    cases n with
    | zero => rfl
    | succ n =>
      rw [List.getElem?_cons_succ, List.getElem?_cons_succ]
      exact ih n
theorem va_P.perm {D : va_G} {cl : List vw_C} {w w' : va_W} {H : Heap} (h : va_P D cl w H) (hp : List.Perm w w') : va_P D cl w' H := fun k q hk => by
  obtain ⟨j, hj⟩ := List.mem_iff_getElem?.mp (hp.mem_iff.mpr (List.mem_of_getElem? hk))
  exact h j q hj
theorem va_D_nodup {A : Nat → Prop} {w : va_W} : va_D A w ↔ (w.map Prod.fst).Nodup ∧ ∀ q ∈ w, A q.1 := by
  constructor
  · intro h
    refine ⟨?_, fun q hq => ?_⟩
    · rw [List.Nodup, List.pairwise_iff_getElem]
      intro i j hi hj hij he
      have hi' : i < w.length := by rw [List.length_map] at hi; exact hi
      have hj' : j < w.length := by rw [List.length_map] at hj; exact hj
      rw [List.getElem_map, List.getElem_map] at he
      have := h.1 i j w[i] w[j] (List.getElem?_eq_getElem hi') (List.getElem?_eq_getElem hj') he
      omega
    · obtain ⟨j, hj⟩ := List.mem_iff_getElem?.mp hq
      exact h.2 j q hj
  · rintro ⟨h1, h2⟩
    refine ⟨fun i j p q hi hj he => ?_, fun k q hk => h2 q (List.mem_of_getElem? hk)⟩
    have a1 : (w.map Prod.fst)[i]? = some p.1 := by rw [List.getElem?_map, hi]; rfl
    have a2 : (w.map Prod.fst)[j]? = some q.1 := by rw [List.getElem?_map, hj]; rfl
    have hi' : i < (w.map Prod.fst).length := (List.getElem?_eq_some_iff.mp a1).1
    exact (List.getElem?_inj hi' h1).mp (by rw [a1, a2, he])
theorem va_D.perm {A : Nat → Prop} {w w' : va_W} (h : va_D A w) (hp : List.Perm w w') : va_D A w' := by
  rw [va_D_nodup] at h ⊢
  exact ⟨(hp.map Prod.fst).nodup_iff.mp h.1, fun q hq => h.2 q (hp.mem_iff.mpr hq)⟩
theorem fl_split {V : List va_W} {iC iR : List Nat} {nV : Nat} (hnV : V.length = nV) (h : (iC ++ iR).isPerm (List.range nV) = true) : List.Perm (fl (sel V iC) ++ fl (sel V iR)) (fl V) := by
  subst hnV
  have h1 := (List.isPerm_iff.mp h).filterMap (fun i => V[i]?)
  have h2 := sel_range V
  unfold sel at h2
  rw [h2, List.filterMap_append] at h1
  have h3 := h1.flatten
  rw [List.flatten_append] at h3
  exact h3
theorem va_P.subb {D : va_G} {cl : List vw_C} {V : List va_W} {ws' : va_W} {H : Heap} (h : va_P D cl (fl V) H) (is : List Nat) (hs : fl (sel V is) = ws') : va_P D cl ws' H := by
  subst hs
  intro k q hk
  have hm := List.mem_of_getElem? hk
  rw [List.mem_flatten] at hm
  obtain ⟨b, hb, hq⟩ := hm
  obtain ⟨i, -, hi⟩ := List.mem_filterMap.mp hb
  obtain ⟨j, hj⟩ := List.mem_iff_getElem?.mp (show q ∈ fl V from List.mem_flatten.mpr ⟨b, List.mem_of_getElem? hi, hq⟩)
  exact h j q hj
theorem map_range_app (a b : va_W) : (List.range a.length).map (fun i => (a ++ b)[i]?) = a.map some := by
  apply List.ext_getElem?
  intro n
  rw [List.getElem?_map, List.getElem?_map]
  by_cases h : n < a.length
  · rw [List.getElem?_range h, List.getElem?_eq_getElem h]
    show some ((a ++ b)[n]?) = some (some a[n])
    rw [List.getElem?_append_left h, List.getElem?_eq_getElem h]
  · rw [List.getElem?_eq_none (by rw [List.length_range]; omega), List.getElem?_eq_none (by omega)]
    rfl
theorem map_range_app2 (a b : va_W) : ((List.range b.length).map (a.length + ·)).map (fun i => (a ++ b)[i]?) = b.map some := by
  apply List.ext_getElem?
  intro n
  rw [List.getElem?_map, List.getElem?_map, List.getElem?_map]
  by_cases h : n < b.length
  · rw [List.getElem?_range h, List.getElem?_eq_getElem h]
    show some ((a ++ b)[a.length + n]?) = some (some b[n])
    rw [List.getElem?_append_right (Nat.le_add_right _ _), Nat.add_sub_cancel_left, List.getElem?_eq_getElem h]
  · rw [List.getElem?_eq_none (by rw [List.length_range]; omega), List.getElem?_eq_none (by omega)]
    rfl
theorem va_nd_of : ∀ {is : List Nat}, is.Nodup → va_nd is = true
  | [], _ => rfl
  | i :: is, h => by
    rw [List.nodup_cons] at h
    simp only [va_nd, Bool.and_eq_true, va_nd_of h.2, and_true]
    simp [h.1]
section RowsF
variable {p : Program} {l : Launch} {e : Env} {R : Room} {s : State} {m : MethodId} {args : Array Value} {below : List Frame} {meth : Method} {c : Code} {H : Heap} {locs : List Loc} {cells slots : Nat} {Q : State → Prop}
variable {pc : Nat} {ls : Array Slot} {rest st0 : List Value} {cc : ByteArray} {D : va_G} {tys : List (ClassId × FieldType)} {A : Nat → Prop} {H0 : Heap} {E0 : (Nat → Prop) → State → Heap → Prop}
theorem va_D.subb {V : List va_W} {iC iR : List Nat} {nV : Nat} (h : va_D A (fl V)) (hnV : V.length = nV) (hok : (iC ++ iR).isPerm (List.range nV) = true) : va_D A (fl (sel V iC)) := by
  have h1 := h.perm (fl_split hnV hok).symm
  exact h1.sub (List.range (fl (sel V iC)).length) (va_nd_of List.nodup_range) (map_range_app _ _)
theorem va_freeb {V : List va_W} {iC iR : List Nat} {nV : Nat} (h : va_D A (fl V)) (hnV : V.length = nV) (hok : (iC ++ iR).isPerm (List.range nV) = true) (hS : va_S A H0 H locs) (hA : ∀ q, H0.size ≤ q → A q) : ∀ q, va_A (fl (sel V iC)) H.size q → A q :=
  va_free (h.perm (fl_split hnV hok).symm) hS hA (List.range (fl (sel V iC)).length) (map_range_app _ _)
theorem wrGob {a : Array Value} {v : Option Value} {V V2 : List va_W} {wc w1 : va_W} {iC iR : List Nat} {nV : Nat} (hnV : V.length = nV) (hok : (iC ++ iR).isPerm (List.range nV) = true) (hC : fl (sel V iC) = wc) (hC2 : fl (sel V2 iC) = w1) (hR : sel V2 iR = sel V iR) (hL : V2.length = V.length)
    (hr : va_Run p l e R s m args below meth c H locs cells slots 0 0 (F0 m pc ls st0) rest (Qw D (va_A wc H.size) v w1 a) (va_A wc H.size))
    (hP : va_P D vwCl (fl V) H) (hD : va_D A (fl V)) (hS : va_S A H0 H locs) (hA : ∀ q, H0.size ≤ q → A q)
    (kk : ∀ (H1 : Heap) (locs1 : List Loc), va_P D vwCl (fl V2) H1 → va_D A (fl V2) → va_S A H0 H1 locs1 → W p l e R s m args below meth c H1 locs1 cells slots Q (F0 m (pc + 3) ls (v.toList ++ rest))) : W p l e R s m args below meth c H locs cells slots Q (F0 m pc ls st0) := by
  subst hC
  have hF := va_freeb hD hnV hok hS hA
  have hp := fl_split hnV hok
  have hp2 : List.Perm (w1 ++ fl (sel V iR)) (fl V2) := by rw [← hC2, ← hR]; exact fl_split (hL.trans hnV) hok
  intro T hT X
  obtain ⟨v9, st₀, t, T', L, h0, X', hL, e1, e2, ⟨hv, hP1, hD1, hz, hk⟩, st⟩ := hr T hT X
  cases hv
  rw [h0] at hz hk
  rw [← e1] at hz hk hP1
  obtain ⟨hPj, hDj⟩ := va_join (wr := fl (sel V iR)) (w1 := w1) (hP.perm hp.symm) (hD.perm hp.symm) (List.range (fl (sel V iC)).length) ((List.range (fl (sel V iR)).length).map ((fl (sel V iC)).length + ·)) (map_range_app _ _) (map_range_app2 _ _) (va_nd_of (by
      rw [List.Nodup, List.pairwise_map]
      exact (List.nodup_range (n := (fl (sel V iR)).length)).imp (fun h => by omega))) (fun i hi hi2 => by
      obtain ⟨j, -, rfl⟩ := List.mem_map.mp hi
      have := List.mem_range.mp hi2
      omega) hk hF hP1 hD1
  obtain ⟨t2, a1, b1⟩ := kk T'.heap (locs ++ L) (hPj.perm (List.perm_append_comm.trans hp2)) (hDj.perm (List.perm_append_comm.trans hp2))
    ⟨Nat.le_trans hS.1 hz, fun q h1 h2 => by rw [hk q (Nat.lt_of_lt_of_le h1 hS.1) (fun z => h2 (hF q z))]; exact hS.2.1 q h1 h2, fun q hq => by
      rcases List.mem_append.mp hq with h | h
      · exact hS.2.2 q h
      · exact hF _ (hL q h)⟩ T' rfl X'
  exact ⟨t2, st t2 a1, b1⟩
theorem wrVb {y : MethodName} {bytes : ByteArray} {maxL nL n index : Nat} {ret : Option FieldType} {wsy Ts : List Cond} {rm : Room} {own C : String} {b : Nat} {As : List Value} {v : Option Value} {V : List va_W} {wc w1 : va_W} (V2 : List va_W)
    (S : CallFix p m c cc nL s args Ts own) (hM : Met l y wsy rm (va_Pc (.ref b :: As) (Pw D tys wc H.size)) (Qw D (va_A wc H.size) v w1) 0 0 (va_A wc H.size)) (cw : CallW R s args own C index y bytes maxL ret wsy rm 0 0 n)
    (hK : va_K D vwCl tys s) (hP : va_P D vwCl (fl V) H) (hD : va_D A (fl V)) (hS : va_S A H0 H locs) (hA : ∀ q, H0.size ≤ q → A q) (iC iR : List Nat) (nV : Nat) (hnV : V.length = nV) (hok : (iC ++ iR).isPerm (List.range nV) = true) (hC : fl (sel V iC) = wc) (hC2 : fl (sel V2 iC) = w1) (WR : List va_W) (hR1 : sel V iR = WR) (hR2 : sel V2 iR = WR) (hL : V2.length = nV)
    (hrecv : ∃ cellB : Cell, H[b]? = some cellB ∧ cellB.vm.isStatics = false ∧ s.vm.findClass C = some cellB.cls)
    (hn : As.length = n) (hsize : ls.size = nL) (hstack : st0 = As.reverse ++ .ref b :: rest) (hW : (rest.map fun v => v.category).sum ≤ 8) (hdg : decode cc pc = .ok (.invokevirtual index, 3)) (hc : cells ≤ R.cells ∧ slots ≤ R.slots)
    (kk : ∀ (H1 : Heap) (locs1 : List Loc), va_P D vwCl (fl V2) H1 → va_D A (fl V2) → va_S A H0 H1 locs1 → W p l e R s m args below meth c H1 locs1 cells slots Q (F0 m (pc + 3) ls (v.toList ++ rest))) : W p l e R s m args below meth c H locs cells slots Q (F0 m pc ls st0) :=
  wrGob hnV hok hC hC2 (hR2.trans hR1.symm) (hL.trans hnV.symm) (va_runV (g := F0 m pc ls st0) (rest := rest) S hM cw ⟨Pw_blind, hrecv, fun U hU hW => ⟨rfl, by rw [hU], by rw [hU]; exact hP.subb iC hC, va_K.moved hW.alike hK, by subst hC; exact (hD.subb hnV hok).weaken (fun _ _ _ _ => trivial)⟩⟩ rfl hn hsize hstack (lv_room hW) hdg hc) hP hD hS hA kk
theorem wrVXb {y : MethodName} {bytes : ByteArray} {maxL nL n index : Nat} {ret : Option FieldType} {wsy Ts : List Cond} {rm : Room} {own C : String} {b : Nat} {As : List Value} {v : Option Value} {V : List va_W} {wc w1 : va_W} (V2 : List va_W)
    (S : CallFix p m c cc nL s args Ts own) (hM : Met l y wsy rm (va_Pc (.ref b :: As) (PwX E0 D tys wc H.size)) (Qw D (va_A wc H.size) v w1) 0 0 (va_A wc H.size)) (cw : CallW R s args own C index y bytes maxL ret wsy rm 0 0 n)
    (hEk : EOk E0) (hE : E0 A s H) (hK : va_K D vwCl tys s) (hP : va_P D vwCl (fl V) H) (hD : va_D A (fl V)) (hS : va_S A s.heap H locs) (hA : ∀ q, s.heap.size ≤ q → A q) (iC iR : List Nat) (nV : Nat) (hnV : V.length = nV) (hok : (iC ++ iR).isPerm (List.range nV) = true) (hC : fl (sel V iC) = wc) (hC2 : fl (sel V2 iC) = w1) (WR : List va_W) (hR1 : sel V iR = WR) (hR2 : sel V2 iR = WR) (hL : V2.length = nV)
    (hrecv : ∃ cellB : Cell, H[b]? = some cellB ∧ cellB.vm.isStatics = false ∧ s.vm.findClass C = some cellB.cls)
    (hn : As.length = n) (hsize : ls.size = nL) (hstack : st0 = As.reverse ++ .ref b :: rest) (hW : (rest.map fun v => v.category).sum ≤ 8) (hdg : decode cc pc = .ok (.invokevirtual index, 3)) (hc : cells ≤ R.cells ∧ slots ≤ R.slots)
    (kk : ∀ (H1 : Heap) (locs1 : List Loc), va_P D vwCl (fl V2) H1 → va_D A (fl V2) → va_S A s.heap H1 locs1 → W p l e R s m args below meth c H1 locs1 cells slots Q (F0 m (pc + 3) ls (v.toList ++ rest))) : W p l e R s m args below meth c H locs cells slots Q (F0 m pc ls st0) :=
  wrGob hnV hok hC hC2 (hR2.trans hR1.symm) (hL.trans hnV.symm) (va_runV (g := F0 m pc ls st0) (rest := rest) S hM cw ⟨PwX_blind hEk, hrecv, fun U hU hW => ⟨rfl, ⟨by rw [hU], by rw [hU]; exact hP.subb iC hC, va_K.moved hW.alike hK, by subst hC; exact (hD.subb hnV hok).weaken (fun _ _ _ _ => trivial)⟩, by rw [hU]; exact hEk.2.1 _ s U H hW (hEk.2.2.2 A _ s H (by subst hC; exact va_freeb hD hnV hok hS hA) hE)⟩⟩ rfl hn hsize hstack (lv_room hW) hdg hc) hP hD hS hA kk
theorem alGob {α : Type} {a : Array Value} {mc ms b : Nat} {V : List va_W} {wc : va_W} {wf : α → va_W} {rt : α → Nat} {iC iR : List Nat} {nV : Nat} (hnV : V.length = nV) (hok : (iC ++ iR).isPerm (List.range nV) = true) (hC : fl (sel V iC) = wc)
    (hr : va_Run p l e R s m args below meth c H locs cells slots mc ms (F0 m pc ls st0) rest (Qn D (va_A wc H.size) wf rt b a) (va_A wc H.size))
    (hP : va_P D vwCl (fl V) H) (hD : va_D A (fl V)) (hS : va_S A H0 H locs) (hA : ∀ q, H0.size ≤ q → A q)
    (kk : ∀ (q : α) (H1 : Heap) (locs1 : List Loc), rt q = b → va_P D vwCl (fl (sel V iR) ++ wf q) H1 → va_D A (fl (sel V iR) ++ wf q) → va_S A H0 H1 locs1 → W p l e R s m args below meth c H1 locs1 (cells + mc) (slots + ms) Q (F0 m (pc + 3) ls rest)) : W p l e R s m args below meth c H locs cells slots Q (F0 m pc ls st0) := by
  subst hC
  have hF := va_freeb hD hnV hok hS hA
  have hp := fl_split hnV hok
  intro T hT X
  obtain ⟨v9, st₀, t, T', L, h0, X', hL, e1, e2, ⟨hv, ⟨q, hq, hP1, hD1⟩, hz, hk⟩, st⟩ := hr T hT X
  cases hv
  rw [h0] at hz hk
  rw [← e1] at hz hk hP1
  obtain ⟨hPj, hDj⟩ := va_join (wr := fl (sel V iR)) (w1 := wf q) (hP.perm hp.symm) (hD.perm hp.symm) (List.range (fl (sel V iC)).length) ((List.range (fl (sel V iR)).length).map ((fl (sel V iC)).length + ·)) (map_range_app _ _) (map_range_app2 _ _) (va_nd_of (by
      rw [List.Nodup, List.pairwise_map]
      exact (List.nodup_range (n := (fl (sel V iR)).length)).imp (fun h => by omega))) (fun i hi hi2 => by
      obtain ⟨j, -, rfl⟩ := List.mem_map.mp hi
      have := List.mem_range.mp hi2
      omega) hk hF hP1 hD1
  obtain ⟨t2, a1, b1⟩ := kk q T'.heap (locs ++ L) hq hPj hDj
    ⟨Nat.le_trans hS.1 hz, fun q h1 h2 => by rw [hk q (Nat.lt_of_lt_of_le h1 hS.1) (fun z => h2 (hF q z))]; exact hS.2.1 q h1 h2, fun q hq => by
      rcases List.mem_append.mp hq with h | h
      · exact hS.2.2 q h
      · exact hF _ (hL q h)⟩ T' rfl X'
  exact ⟨t2, st t2 a1, b1⟩
theorem alINb {α : Type} {y : MethodName} {bytes : ByteArray} {maxL nL n index mc ms b : Nat} {wsy Ts : List Cond} {rm : Room} {own host : String} {V : List va_W} {wc : va_W} {wf : α → va_W} {rt : α → Nat}
    (S : CallFix p m c cc nL s args Ts own) (hM : Met l y wsy rm (va_Pc [.ref b] (Pw D tys wc H.size)) (Qn D (va_A wc H.size) wf rt b) mc ms (va_A wc H.size)) (cw : va_CN R s args own index y host bytes maxL none wsy rm mc ms n ∧ y.name = "<init>" ∧ (Cond.instanceMethod y).before args s = true)
    (hK : va_K D vwCl tys s) (hP : va_P D vwCl (fl V) H) (hD : va_D A (fl V)) (hS : va_S A H0 H locs) (hA : ∀ q, H0.size ≤ q → A q) (iC iR : List Nat) (nV : Nat) (hnV : V.length = nV) (hok : (iC ++ iR).isPerm (List.range nV) = true) (hC : fl (sel V iC) = wc)
    (hn : ([] : List Value).length = n) (hsize : ls.size = nL) (hstack : st0 = .ref b :: rest) (hW : (rest.map fun v => v.category).sum ≤ 8) (hdg : decode cc pc = .ok (.invokespecial index, 3)) (hc : cells + mc ≤ R.cells ∧ slots + ms ≤ R.slots)
    (kk : ∀ (q : α) (H1 : Heap) (locs1 : List Loc), rt q = b → va_P D vwCl (fl (sel V iR) ++ wf q) H1 → va_D A (fl (sel V iR) ++ wf q) → va_S A H0 H1 locs1 → W p l e R s m args below meth c H1 locs1 (cells + mc) (slots + ms) Q (F0 m (pc + 3) ls rest)) : W p l e R s m args below meth c H locs cells slots Q (F0 m pc ls st0) :=
  alGob hnV hok hC (va_runIN (e := e) (g := F0 m pc ls st0) (As := []) (rest := rest) (cells := cells) (slots := slots) (locs := locs) (below := below) (meth := meth) S hM cw ⟨Pw_blind, fun U hU hW => ⟨rfl, by rw [hU], by rw [hU]; exact hP.subb iC hC, va_K.moved hW.alike hK, by subst hC; exact (hD.subb hnV hok).weaken (fun _ _ _ _ => trivial)⟩⟩ rfl hn hsize hstack (lv_room hW) hdg hc) hP hD hS hA kk
theorem alINXb {α : Type} {y : MethodName} {bytes : ByteArray} {maxL nL n index mc ms b : Nat} {wsy Ts : List Cond} {rm : Room} {own host : String} {V : List va_W} {wc : va_W} {wf : α → va_W} {rt : α → Nat}
    (S : CallFix p m c cc nL s args Ts own) (hM : Met l y wsy rm (va_Pc [.ref b] (PwX E0 D tys wc H.size)) (Qn D (va_A wc H.size) wf rt b) mc ms (va_A wc H.size)) (cw : va_CN R s args own index y host bytes maxL none wsy rm mc ms n ∧ y.name = "<init>" ∧ (Cond.instanceMethod y).before args s = true)
    (hEk : EOk E0) (hE : E0 A s H) (hK : va_K D vwCl tys s) (hP : va_P D vwCl (fl V) H) (hD : va_D A (fl V)) (hS : va_S A H0 H locs) (hA : ∀ q, H0.size ≤ q → A q) (iC iR : List Nat) (nV : Nat) (hnV : V.length = nV) (hok : (iC ++ iR).isPerm (List.range nV) = true) (hC : fl (sel V iC) = wc)
    (hn : ([] : List Value).length = n) (hsize : ls.size = nL) (hstack : st0 = .ref b :: rest) (hW : (rest.map fun v => v.category).sum ≤ 8) (hdg : decode cc pc = .ok (.invokespecial index, 3)) (hc : cells + mc ≤ R.cells ∧ slots + ms ≤ R.slots)
    (kk : ∀ (q : α) (H1 : Heap) (locs1 : List Loc), rt q = b → va_P D vwCl (fl (sel V iR) ++ wf q) H1 → va_D A (fl (sel V iR) ++ wf q) → va_S A H0 H1 locs1 → W p l e R s m args below meth c H1 locs1 (cells + mc) (slots + ms) Q (F0 m (pc + 3) ls rest)) : W p l e R s m args below meth c H locs cells slots Q (F0 m pc ls st0) :=
  alGob hnV hok hC (va_runIN (e := e) (g := F0 m pc ls st0) (As := []) (rest := rest) (cells := cells) (slots := slots) (locs := locs) (below := below) (meth := meth) S hM cw ⟨PwX_blind hEk, fun U hU hW => ⟨rfl, ⟨by rw [hU], by rw [hU]; exact hP.subb iC hC, va_K.moved hW.alike hK, by subst hC; exact (hD.subb hnV hok).weaken (fun _ _ _ _ => trivial)⟩, by rw [hU]; exact hEk.2.1 _ s U H hW (hEk.2.2.2 A _ s H (by subst hC; exact va_freeb hD hnV hok hS hA) hE)⟩⟩ rfl hn hsize hstack (lv_room hW) hdg hc) hP hD hS hA kk
theorem alIXb {α : Type} {y : MethodName} {bytes : ByteArray} {maxL nL n index mc ms b : Nat} {wsy Ts : List Cond} {rm : Room} {own host : String} {V : List va_W} {wc : va_W} {wf : α → va_W} {rt : α → Nat}
    (S : CallFix p m c cc nL s args Ts own) (hM : Met l y wsy rm (va_Pc [.ref b] (PwX E0 D tys wc H.size)) (Qn D (va_A wc H.size) wf rt b) mc ms (va_A wc H.size)) (cw : CallB R s args own index y bytes maxL none wsy rm mc ms n ∧ y.name = "<init>" ∧ (Cond.instanceMethod y).before args s = true)
    (hEk : EOk E0) (hE : E0 A s H) (hK : va_K D vwCl tys s) (hP : va_P D vwCl (fl V) H) (hD : va_D A (fl V)) (hS : va_S A H0 H locs) (hA : ∀ q, H0.size ≤ q → A q) (iC iR : List Nat) (nV : Nat) (hnV : V.length = nV) (hok : (iC ++ iR).isPerm (List.range nV) = true) (hC : fl (sel V iC) = wc)
    (hn : ([] : List Value).length = n) (hsize : ls.size = nL) (hstack : st0 = .ref b :: rest) (hW : (rest.map fun v => v.category).sum ≤ 8) (hdg : decode cc pc = .ok (.invokespecial index, 3)) (hc : cells + mc ≤ R.cells ∧ slots + ms ≤ R.slots)
    (kk : ∀ (q : α) (H1 : Heap) (locs1 : List Loc), rt q = b → va_P D vwCl (fl (sel V iR) ++ wf q) H1 → va_D A (fl (sel V iR) ++ wf q) → va_S A H0 H1 locs1 → W p l e R s m args below meth c H1 locs1 (cells + mc) (slots + ms) Q (F0 m (pc + 3) ls rest)) : W p l e R s m args below meth c H locs cells slots Q (F0 m pc ls st0) :=
  alGob hnV hok hC (va_runI (e := e) (g := F0 m pc ls st0) (As := []) (rest := rest) (cells := cells) (slots := slots) (locs := locs) (below := below) (meth := meth) S hM cw ⟨PwX_blind hEk, fun U hU hW => ⟨rfl, ⟨by rw [hU], by rw [hU]; exact hP.subb iC hC, va_K.moved hW.alike hK, by subst hC; exact (hD.subb hnV hok).weaken (fun _ _ _ _ => trivial)⟩, by rw [hU]; exact hEk.2.1 _ s U H hW (hEk.2.2.2 A _ s H (by subst hC; exact va_freeb hD hnV hok hS hA) hE)⟩⟩ rfl hn hsize hstack (lv_room hW) hdg hc) hP hD hS hA kk
end RowsF
