/-! reading and writing the pure heap, in the machine -/
def qm_pt (r : vw_C) (k : Nat) : FieldType := (parseFieldDescriptor (r.2.1 k).2.2.1).getD .int
def qm_clc (r : vw_C) : Bool := (u_ws r.1 r.2.1 r.2.2).all (fun w => decide (w ∈ qm_tb)) && ((List.range r.2.2).all (fun k => decide (parseFieldDescriptor (r.2.1 k).2.2.1 = some (qm_pt r k)) && decide ((r.2.1 k).1 = r.1)) && (List.range r.2.2).all (fun a => (List.range r.2.2).all (fun b => a == b || !decide ((r.2.1 a).2.1 = (r.2.1 b).2.1))))
set_option maxRecDepth 100000 in
theorem qm_clk : vwCl.all qm_clc = true := by decide +kernel
theorem qm_clok {ci : Nat} {r : vw_C} (h : vwCl[ci]? = some r) : (∀ w ∈ u_ws r.1 r.2.1 r.2.2, w ∈ qm_tb) ∧ (∀ k, k < r.2.2 → parseFieldDescriptor (r.2.1 k).2.2.1 = some (qm_pt r k)) ∧ (∀ k, k < r.2.2 → (r.2.1 k).1 = r.1) ∧ ∀ a, a < r.2.2 → ∀ b, b < r.2.2 → a ≠ b → (r.2.1 a).2.1 ≠ (r.2.1 b).2.1 := by
  have h1 := List.all_eq_true.mp qm_clk r (List.mem_of_getElem? h)
  unfold qm_clc at h1
  simp only [Bool.and_eq_true, List.all_eq_true, decide_eq_true_eq, List.mem_range, Bool.or_eq_true, beq_iff_eq, Bool.not_eq_true', decide_eq_false_iff_not] at h1
  exact ⟨h1.1, fun k hk => (h1.2.1 k hk).1, fun k hk => (h1.2.1 k hk).2, fun a ha b hb e => (h1.2.2 a ha b hb).resolve_left e⟩
