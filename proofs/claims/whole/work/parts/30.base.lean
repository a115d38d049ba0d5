/-! words for locals and truth values -/
abbrev vi (x : Int32) : Option Value := some (.int x)
abbrev vl (x : Int64) : Option Value := some (.long x)
abbrev vr (x : Nat) : Option Value := some (.ref x)
abbrev vu : Option Value := none
def b2 (b : Bool) : Int32 := if b then 1 else 0
