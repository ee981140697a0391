theorem zdec2 : (List.range 41).all (fun j => zdq (82 + j)) = true := by decide +kernel
