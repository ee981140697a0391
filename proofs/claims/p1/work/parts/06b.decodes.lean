theorem zdec1 : (List.range 41).all (fun j => zdq (41 + j)) = true := by decide +kernel
