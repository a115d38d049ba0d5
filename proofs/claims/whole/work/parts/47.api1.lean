/-! the reference: calls of the face, first ones -/
def inb (k : Int32) (m : Nat) : Bool := decide (0 ≤ k ∧ k ≤ nI m - 1)
theorem inb_e {k : Int32} {m : Nat} (hm : m < 2 ^ 31) (h : inb k m = true) : ∃ t, t < m ∧ k = nI t := by
  have h1 := of_decide_eq_true h
  exact in_of h1.1 h1.2 hm
theorem inb_n {t m : Nat} (hm : m < 2 ^ 31) (h : t < m) : inb (nI t) m = true := by
  refine decide_eq_true ⟨nI_pos' (by omega), ?_⟩
  rcases m with _ | m
  · omega
  · rw [nI_pred]
    exact nI_le (by omega) (by omega)
theorem inb_f {k : Int32} {m : Nat} (h : ¬ (0 ≤ k ∧ k ≤ nI m - 1)) : inb k m = false := decide_eq_false h
theorem dv10n {x : Int32} (hx : x < 0) : (x / 10).toInt ≤ 0 := by
  have e1 : (x / 10).toInt = x.toInt.tdiv 10 := Int32.toInt_div_of_ne_right x 10 (by decide)
  have e2 : x.toInt < 0 := Int32.lt_iff_toInt_lt.mp hx
  have e3 : x.toInt.tdiv 10 = -((-x.toInt).tdiv 10) := by rw [Int.neg_tdiv, Int.neg_neg]
  have e4 : 0 ≤ (-x.toInt).tdiv 10 := Int.tdiv_nonneg (by omega) (by decide)
  omega
theorem dv10 {x : Int32} {g : Nat} (h1 : 1 ≤ g) (h2 : g < 100) (h : x / 10 = nI g) : ∃ k, k < 10 ∧ x = nI (10 * g + k) ∧ x - x / 10 * 10 = nI k := by
  by_cases hx : x < 0
  · have e := dv10n hx
    rw [h, nI_toInt (by omega)] at e
    omega
  · obtain ⟨a, ha, rfl⟩ := nI_of hx
    have e1 : nI a / 10 = nI (a / 10) := pk_div ha (by decide) (by decide)
    have e2 : nI a - nI a / 10 * 10 = nI (a % 10) := pk_rem ha (by decide) (by decide)
    rw [e1] at h
    have e3 := (nI_eq (by omega) (by omega)).mp h
    exact ⟨a % 10, Nat.mod_lt _ (by decide), by congr 1; omega, e2⟩
/-- a number of two digits: its tens -/
theorem dv10' {g k : Nat} (hk : k < 10) (hg : g < 1000) : nI (10 * g + k) / 10 = nI g ∧ nI (10 * g + k) - nI (10 * g + k) / 10 * 10 = nI k := by
  have e1 : nI (10 * g + k) / 10 = nI ((10 * g + k) / 10) := pk_div (by omega) (by decide) (by decide)
  have e2 : nI (10 * g + k) - nI (10 * g + k) / 10 * 10 = nI ((10 * g + k) % 10) := pk_rem (by omega) (by decide) (by decide)
  rw [e2, e1]
  exact ⟨by congr 1; omega, by congr 1; omega⟩
theorem e_ofState {G : qm_G} (hG : G.2.2.2.2 = true) (d : Nat) (h : qm_H) {n : Nat} (hn : h.1 26 23 = nI n) (hn6 : n ≤ 6) (what : Int32) : qm_Ev G d 0 0 qyX10_ofState [.ref 26, .int what] h (fun r h' => r = some (.int (s_of n (rps h) what)) ∧ h = h') := by
  refine qm_Ev.run (M := mX10_ofState) okX10_ofState rfl hG fun z => ?_
  refine ⟨by decide, fun c => ?_, fun c => ?_⟩
  · refine ⟨by decide, ⟨fun q => ⟨fun c1 => ⟨fun c2 => ⟨fun c3 => ?_, fun c3 => ?_⟩, fun c2 => ?_⟩, fun c1 => ?_⟩, fun q => ?_, fun q => ?_, fun q => ?_, fun q => ?_, trivial⟩, fun q => ?_⟩
    · exact ⟨trivial, by rw [s_of, if_pos c, if_neg c1, if_neg c2, if_neg c3], rfl⟩
    · exact ⟨rfl, trivial, by rw [s_of, if_pos c, if_neg c1, if_neg c2, if_pos c3]; rfl, rfl⟩
    · exact ⟨rfl, trivial, by rw [s_of, if_pos c, if_neg c1, if_pos c2]; rfl, rfl⟩
    · exact ⟨rfl, trivial, by rw [s_of, if_pos c, if_pos c1]; rfl, rfl⟩
    · obtain ⟨k, hk, e, -⟩ := dv10 (x := what) (g := 1) (by decide) (by decide) q
      exact absurd c (by rw [e]; exact nI_nlt (b := 10) (by omega) (by omega))
    · obtain ⟨k, hk, e, -⟩ := dv10 (x := what) (g := 2) (by decide) (by decide) q
      exact absurd c (by rw [e]; exact nI_nlt (b := 10) (by omega) (by omega))
    · obtain ⟨k, hk, e, -⟩ := dv10 (x := what) (g := 3) (by decide) (by decide) q
      exact absurd c (by rw [e]; exact nI_nlt (b := 10) (by omega) (by omega))
    · obtain ⟨k, hk, e, -⟩ := dv10 (x := what) (g := 4) (by decide) (by decide) q
      exact absurd c (by rw [e]; exact nI_nlt (b := 10) (by omega) (by omega))
    · have n0 : ¬ what = 0 := fun e => by rw [e] at q; revert q; decide
      have n1 : ¬ what = 1 := fun e => by rw [e] at q; revert q; decide
      have n2 : ¬ what = 2 := fun e => by rw [e] at q; revert q; decide
      exact ⟨trivial, by rw [s_of, if_pos c, if_neg n0, if_neg n1, if_neg n2], rfl⟩
  · have hpos : ¬ what < 0 := fun q => c (Int32.lt_of_lt_of_le q (by decide))
    obtain ⟨a, ha, rfl⟩ := nI_of hpos
    have ha10 : 10 ≤ a := by
      rcases Nat.lt_or_ge a 10 with q | q
      · exact absurd (nI_lt q (by decide)) c
      · exact q
    have e1 : nI a / 10 = nI (a / 10) := pk_div ha (by decide) (by decide)
    have e2 : nI a - nI a / 10 * 10 = nI (a % 10) := pk_rem ha (by decide) (by decide)
    have ecl : (nI (a % 10)).toNatClampNeg = a % 10 := nI_clamp (by omega)
    refine ⟨rfl, fun (c2 : nI a - nI a / 10 * 10 < h.1 26 23) => ?_, fun (c2 : ¬ nI a - nI a / 10 * 10 < h.1 26 23) => ?_⟩
    · rw [hn] at c2
      have c3 : a % 10 < n := by
        rw [e2] at c2
        exact (nI_ltI (by omega) (by omega)).mp c2
      have hin : vp_in (nI a - nI a / 10 * 10) 6 := by rw [e2]; exact vp_in_nI (by omega) (by decide)
      have key : ∀ X, (if nI a / 10 = 1 then (rps h).1 (a % 10) else if nI a / 10 = 2 then (rps h).2.1 (a % 10) else if nI a / 10 = 3 then (rps h).2.2.1 (a % 10) else if nI a / 10 = 4 then (rps h).2.2.2.1 (a % 10) else -1) = X → s_of n (rps h) (nI a) = X := by
        intro X hX
        rw [s_of, if_neg c, if_pos c2, e2, ecl]
        exact hX
      refine ⟨by decide, ⟨fun q => ?_, fun q => ?_, fun q => ?_, fun q => ?_, fun q => ?_, trivial⟩, fun q => ?_⟩
      · rw [e1] at q
        have := (nI_eq (a := a / 10) (b := 0) (by omega) (by decide)).mp q
        omega
      · refine ⟨rfl, _, rfl, rfl, hin, trivial, ?_, rfl⟩
        rw [key _ (if_pos q), e2, ecl]
        rfl
      · refine ⟨rfl, _, rfl, rfl, hin, trivial, ?_, rfl⟩
        rw [key _ ((if_neg (by rw [q]; decide)).trans (if_pos q)), e2, ecl]
        rfl
      · refine ⟨rfl, _, rfl, rfl, hin, trivial, ?_, rfl⟩
        rw [key _ ((if_neg (by rw [q]; decide)).trans ((if_neg (by rw [q]; decide)).trans (if_pos q))), e2, ecl]
        rfl
      · refine ⟨rfl, _, rfl, rfl, hin, trivial, ?_, rfl⟩
        rw [key _ ((if_neg (by rw [q]; decide)).trans ((if_neg (by rw [q]; decide)).trans ((if_neg (by rw [q]; decide)).trans (if_pos q)))), e2, ecl]
        rfl
      · have q' : ∀ j : Nat, j < 5 → nI a / 10 ≠ nI j := by
          intro j hj e
          rw [e, nI_toInt (by omega)] at q
          simp only [List.length_cons, List.length_nil, List.drop] at q
          omega
        refine ⟨trivial, ?_, rfl⟩
        rw [key _ ((if_neg (q' 1 (by decide))).trans ((if_neg (q' 2 (by decide))).trans ((if_neg (q' 3 (by decide))).trans (if_neg (q' 4 (by decide))))))]
    · rw [hn] at c2
      exact ⟨trivial, by rw [s_of, if_neg c, if_neg c2], rfl⟩
