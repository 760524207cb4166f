/-! ===== the program's text as equations of the answer ===== -/
def nn (x : Int) (K : RR) : RR := if x = 0 then none else K
def ix (x i : Int) (K : RR) : RR := if 0 ≤ i ∧ i < cln x then K else none
def zo (v : Int) (K : RR) : RR := if v = 0 ∨ v = 1 then K else none
