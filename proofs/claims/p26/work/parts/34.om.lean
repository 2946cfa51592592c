/-! THE START -/
def h50 : Nat → Int32 := upd (upd (upd (upd (fun _ => 0) 0 50) 1 50) 2 50) 3 50
/-- the world of two new objects -/
def om0 : Om := (fun i => if i = 15 then h50 else if i = 38 then h50 else if i = 17 then upd (fun _ => 0) 2 (-1) else if i = 29 then upd (fun _ => 0) 30 (-1) else fun _ => 0, fun _ _ => 0)
theorem R.o : R om0 := ⟨0, 0, ⟨0, by omega, rfl, rfl, fun k hk => absurd hk (by omega)⟩, ⟨rfl, fun _ _ => rfl⟩, ⟨rfl, 0, by omega, rfl, rfl, fun k hk => absurd hk (by omega)⟩, ⟨by omega, rfl, rfl, by decide, rfl, fun s hs => absurd hs (by omega), fun _ _ => rfl, fun _ _ => rfl, fun _ _ => rfl, fun _ _ _ => rfl, fun _ _ => rfl⟩, ⟨rfl, rfl, 0, 0, by omega, rfl, rfl, by decide, rfl, rfl, rfl⟩, Or.inl ⟨rfl, rfl⟩⟩
