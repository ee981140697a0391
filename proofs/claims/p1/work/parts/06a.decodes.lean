def zdq (m : Nat) : Bool := (zinsL.getD m []).all (fun q => decide (decode (zbb m) q.1 = .ok q.2))
theorem zdec0 : (List.range 41).all (fun j => zdq j) = true := by decide +kernel
