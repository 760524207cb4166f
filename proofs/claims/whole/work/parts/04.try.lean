theorem t_hasBay (a b : Int) (μ : MM) : EE 11 0 [(41, a), (0, b)] [] μ = if b < 0 then some (0, μ) else if b < μ a 1 then some (1, μ) else some (0, μ) := unr_eq [] 11 20 0 _ _ _
