/-! the constant places: references that the constructors lay once and for all, kinds and lengths of the places they make (filled later by program) -/
def qm_SK : List (List (Option Nat)) := []
def qm_SKK : List (Nat × Nat) := []
/-- the kinds of the classes' fields: 0 an int, 1 a long, 2 a reference -/
def qm_FT : List (List Nat) := vwCl.map fun r => (List.range r.2.2).map fun k => if (r.2.1 k).2.2.1 = "I" then 0 else if (r.2.1 k).2.2.1 = "Z" then 0 else if (r.2.1 k).2.2.1 = "J" then 1 else 2
