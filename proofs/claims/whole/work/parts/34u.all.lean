/-! Part II: the start of the law, and all its calls. -/
/-- the class's parts after the constructor -/
def Xin (k : Nat) : OS := if k = 3 then zX60 else if k = 4 then zX70 else if k = 6 ∨ k = 21 then zX50 else if k = 7 ∨ k = 22 then zX40 else if k = 8 then zX10 else if k = 20 then zXF0 else if k = 23 then zX30 else zX00
theorem Inv_in : Inv Xin zX90 := by
  refine ⟨⟨4, 0, ⟨by omega, by omega, by omega, rfl, rfl, rfl, rfl⟩, fun k hk => absurd hk (by omega), fun k hk => absurd hk (by omega), fun k hk => absurd hk (by omega), fun k hk => absurd hk (by omega)⟩, ⟨0, rfl, rfl, by omega, fun i hi => absurd hi (by omega)⟩, ⟨rfl, rfl⟩, ⟨0, 0, by omega, by omega, rfl, rfl, rfl, fun j hj => absurd hj (by omega)⟩, fun k hk => ⟨?_, fun t => absurd ?_ t⟩, ⟨0, rfl, rfl, by omega, fun i hi => absurd hi (by omega)⟩⟩
  · have cs : k = 0 ∨ k = 1 := by omega
    rcases cs with rfl | rfl <;> rfl
  · have cs : k = 0 ∨ k = 1 := by omega
    rcases cs with rfl | rfl <;> rfl
theorem all_ok (xs : Nat → Int32) (n : Nat) (o : Nat → Int64) : lawLoop 10000 xs n 0 Xin zX90 o = some () :=
  lawLoop_ok (by omega) (fun a1 a2 a3 a4 a5 {_ _} o h => cA_37 a1 a2 a3 a4 a5 o (by omega) h) xs n 0 Xin zX90 o Inv_in
