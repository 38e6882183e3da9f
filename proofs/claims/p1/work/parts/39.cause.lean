/-! THE LETTER OF cause, as a function of its three ints (0: they are out of range) -/
def fsq (k : Int) : Bool := (List.range 400).any fun r => decide ((r : Int) * r = k)
def fcause0 (p s o : Int) : Int := if o * (p - 1) % (s - 1) ≠ 0 then 114 else if o * (p - 1) / (s - 1) * p % s ≠ 0 then 98 else if o * (p - 1) / (s - 1) * p / s < p then 102 else if o * (p - 1) / (s - 1) * p / s = p ∧ p % 2 = 0 ∧ fsq (s - o) = false then 115 else 45
def fcause (p s o : Int32) : Int32 := if p < 2 ∨ 100000 < p ∨ s < 2 ∨ p ≤ s ∨ o < 1 ∨ 100000 < o then 0 else Int32.ofInt (fcause0 p.toInt s.toInt o.toInt)
