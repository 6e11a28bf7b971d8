/-! The law's own rows: calls of its wrappers over a part of the blocks, the states of a run. -/
section RowsM
variable {p : Program} {l : Launch} {e : Env} {R : Room} {s : State} {m : MethodId} {args : Array Value} {below : List Frame} {meth : Method} {c : Code} {H : Heap} {locs : List Loc} {cells slots : Nat} {Q : State → Prop}
variable {pc : Nat} {ls : Array Slot} {rest st0 : List Value} {cc : ByteArray} {D : va_G} {tys : List (ClassId × FieldType)} {A : Nat → Prop} {H0 : Heap} {E0 : (Nat → Prop) → State → Heap → Prop}
theorem wrSWb {y : MethodName} {bytes : ByteArray} {maxL nL n index mc1 ms1 : Nat} {ret : Option FieldType} {hh : List (Nat × Nat × Nat × Nat)} {wsy Ts : List Cond} {rm : Room} {own : String} {As : List Value} {v : Option Value} {V : List va_W} {wc w1 : va_W} (V2 : List va_W)
    (S : CallFix p m c cc nL s args Ts own) (hM : Met l y wsy rm (va_Pc As (PwX E0 D tys wc H.size)) (Qw D (va_A wc H.size) v w1) mc1 ms1 (va_A wc H.size)) (cw : vx_CSW R s args own index y bytes maxL ret hh wsy rm mc1 ms1 n)
    (hEk : EOk E0) (hE : E0 A s H) (hK : va_K D vwCl tys s) (hP : va_P D vwCl (fl V) H) (hD : va_D A (fl V)) (hS : va_S A s.heap H locs) (hA : ∀ q, s.heap.size ≤ q → A q) (iC iR : List Nat) (nV : Nat) (hnV : V.length = nV) (hok : (iC ++ iR).isPerm (List.range nV) = true) (hC : fl (sel V iC) = wc) (hC2 : fl (sel V2 iC) = w1) (WR : List va_W) (hR1 : sel V iR = WR) (hR2 : sel V2 iR = WR) (hL : V2.length = nV)
    (hn : As.length = n) (hsize : ls.size = nL) (hstack : st0 = As.reverse ++ rest) (hW : (rest.map fun v => v.category).sum ≤ 8) (hdg : decode cc pc = .ok (.invokestatic index, 3)) (hc : cells + mc1 ≤ R.cells ∧ slots + ms1 ≤ R.slots)
    (kk : ∀ (H1 : Heap) (locs1 : List Loc), va_P D vwCl (fl V2) H1 → va_D A (fl V2) → va_S A s.heap H1 locs1 → W p l e R s m args below meth c H1 locs1 (cells + mc1) (slots + ms1) Q (F0 m (pc + 3) ls (v.toList ++ rest))) : W p l e R s m args below meth c H locs cells slots Q (F0 m pc ls st0) := by
  subst hC
  have hF := va_freeb hD hnV hok hS hA
  have hr := vx_runSW (p := p) (l := l) (e := e) (R := R) (g := F0 m pc ls st0) (rest := rest) (cells := cells) (slots := slots) (locs := locs) (below := below) (meth := meth) S hM cw ⟨PwX_blind hEk, fun U hU hW => ⟨rfl, ⟨by rw [hU], by rw [hU]; exact hP.subb iC rfl, va_K.moved hW.alike hK, (hD.subb hnV hok).weaken (fun _ _ _ _ => trivial)⟩, by rw [hU]; exact hEk.2.1 _ s U H hW (hEk.2.2.2 A _ s H hF hE)⟩⟩ rfl hn hsize hstack (lv_room hW) hdg hc
  intro T hT X
  obtain ⟨v9, st₀, t, T', L, h0, X', hL9, e1, e2, ⟨hv, hP1, hD1, hFr⟩, st⟩ := hr T hT X
  cases hv
  obtain ⟨k1, k2, k3⟩ := vx_keep h0 e1 hS (fun q _ h => hF q h) hF hL9 hFr
  rw [← e1] at hP1
  obtain ⟨hPj, hDj⟩ := joinb hnV hok hC2 (hR2.trans hR1.symm) (hL.trans hnV.symm) hP hD hF k2 hP1 hD1
  obtain ⟨t2, a1, b1⟩ := kk T'.heap (locs ++ L) hPj hDj k3 T' rfl X'
  exact ⟨t2, st t2 a1, b1⟩
end RowsM
