/-! the class: who is missing -/
def ms1 (m : Nat) (l : Nat × (Nat → Int32)) : Bool := ((decide (l.1 = 3) || decide (l.1 = 4)) && decide (nI m ≤ l.2 1)) || (decide (l.1 = 4) && decide (nI m ≤ l.2 2))
theorem mx_or {x a b : Int32} : decide (x ≤ mx a b) = (decide (x ≤ a) || decide (x ≤ b)) := by
  rw [Bool.eq_iff_iff, Bool.or_eq_true, decide_eq_true_eq, decide_eq_true_eq, decide_eq_true_eq, mx]
  split
  · rename_i c
    exact ⟨fun q => Or.inr q, fun q => q.elim (fun q => Int32.le_trans q c) id⟩
  · rename_i c
    exact ⟨fun q => Or.inl q, fun q => q.elim id (fun q => Int32.le_trans q (Int32.le_of_lt (Int32.not_le.mp c)))⟩
theorem far2_or (m : Nat) (l : Nat × (Nat → Int32)) (f : Int32) : decide (nI m ≤ far2 l.1 l.2 f) = (decide (nI m ≤ f) || ms1 m l) := by
  rw [far2, ms1, far1]
  by_cases c4 : l.1 = 4
  · rw [if_pos c4, if_pos (Or.inr c4), mx_or, mx_or, decide_eq_true c4, Bool.or_true, Bool.true_and, Bool.true_and, Bool.or_assoc]
  · rw [if_neg c4, decide_eq_false c4, Bool.or_false, Bool.false_and, Bool.or_false]
    by_cases c3 : l.1 = 3
    · rw [if_pos (Or.inl c3), mx_or, decide_eq_true c3, Bool.true_and]
    · rw [if_neg (fun z => z.elim c3 c4), decide_eq_false c3, Bool.false_and, Bool.or_false]
theorem frf_any (m : Nat) : ∀ (acc : List (Nat × (Nat → Int32))) (f : Int32), decide (nI m ≤ frf acc f) = (decide (nI m ≤ f) || acc.any (ms1 m))
  | [], f => by rw [List.any_nil, Bool.or_false]; rfl
  | l :: acc, f => by
    rw [show frf (l :: acc) f = frf acc (far2 l.1 l.2 f) from rfl, frf_any m acc, far2_or, List.any_cons, Bool.or_assoc]
/-- the lines that the reader holds -/
def LNS (h : qm_H) (acc : List (Nat × (Nat → Int32))) : Prop := h.1 8 3 = nI acc.length ∧ acc.length ≤ 150 ∧ ∀ k, k < acc.length → h.1 9 (4 * k) = nI (lat acc k).1 ∧ (lat acc k).1 < 12 ∧ ∀ i, 1 ≤ i → i ≤ 3 → h.1 9 (4 * k + i) = (lat acc k).2 i
theorem any_lat {acc : List (Nat × (Nat → Int32))} {p : Nat × (Nat → Int32) → Bool} : acc.any p = true ↔ ∃ k, k < acc.length ∧ p (lat acc k) = true := by
  rw [List.any_eq_true]
  constructor
  · rintro ⟨x, x1, x2⟩
    obtain ⟨k, hk, e⟩ := List.getElem_of_mem x1
    refine ⟨k, hk, ?_⟩
    rw [lat, List.getD_eq_getElem?_getD, List.getElem?_eq_getElem hk, e]; exact x2
  · rintro ⟨k, hk, e⟩
    exact ⟨lat acc k, lat_in hk, e⟩
theorem c_missing {G : qm_G} (hG : G.2.2.2.2 = true) (d : Nat) (h : qm_H) {acc : List (Nat × (Nat → Int32))} {m : Nat} (hS : LNS h acc) (hm : h.1 8 4 = nI m) : qm_Ev G d 0 0 qyX2_tellsOfMissing [.ref 8] h (fun r h' => r = some (.int (b2 (acc.any (ms1 m)))) ∧ h = h') := by
  obtain ⟨s1, s2, s3⟩ := hS
  obtain ⟨V, hV⟩ : ∃ V, V = acc.any (ms1 m) := ⟨_, rfl⟩
  rw [← hV]
  refine qm_Ev.by (M := mX2_tellsOfMissing) okX2_tellsOfMissing (Nat.le_of_ble_eq_true rfl) hG fun z hA => ?_
  have stop : ∀ k, k < acc.length → ms1 m (lat acc k) = true → V = true := fun k hk q => by rw [hV]; exact any_lat.mpr ⟨k, hk, q⟩
  have start := qm_for (P := fun k => (∀ i, i < k → ms1 m (lat acc i) = false) → qm_PW G mX2_tellsOfMissing z 2 0 0 [vr 8, vi (nI k), vu] [] (h)) (N := acc.length) ?_ ?_
  · exact qm_wp_ok hA [2] 10 _ _ _ _ _ _ (start (fun i hi => absurd hi (Nat.not_lt_zero _)))
  · intro all
    have eV : V = false := by
      cases q : V with
      | false => rfl
      | true =>
        obtain ⟨k, k1, k2⟩ := any_lat.mp (hV ▸ q)
        rw [all k k1] at k2
        exact absurd k2 (by decide)
    exact qm_wp_ok hA [] 10 _ _ _ _ _ _ ⟨rfl, fun _ => ⟨rfl, congV (by rw [eV]; rfl), rfl⟩, fun (q : ¬ h.1 8 3 ≤ nI acc.length) => absurd (by rw [s1]; exact Int32.le_refl _) q⟩
  · intro k hk nx all
    obtain ⟨l1, l2, l3⟩ := s3 k hk
    have v1 := l3 1 (by decide) (by decide)
    have v2 := l3 2 (by decide) (by decide)
    obtain ⟨l, hl⟩ : ∃ l, l = lat acc k := ⟨_, rfl⟩
    rw [← hl] at l1 l2 v1 v2
    have stop := stop k hk
    rw [← hl] at stop
    have ek : (4 : Int32) * nI k = nI (4 * k) := by rw [show (4 : Int32) = nI 4 from rfl, pk_mul]
    have ek1 : (4 : Int32) * nI k + 1 = nI (4 * k + 1) := by rw [ek, nI_1]
    have ek2 : (4 : Int32) * nI k + 2 = nI (4 * k + 2) := by rw [ek]; exact nI_add _ 2
    have i0 : vp_in ((4 : Int32) * nI k) 600 := by rw [ek]; exact vp_in_nI (by omega) (by decide)
    have i1 : vp_in ((4 : Int32) * nI k + 1) 600 := by rw [ek1]; exact vp_in_nI (by omega) (by decide)
    have i2 : vp_in ((4 : Int32) * nI k + 2) 600 := by rw [ek2]; exact vp_in_nI (by omega) (by decide)
    have w0 : h.1 9 ((4 : Int32) * nI k).toNatClampNeg = nI l.1 := by rw [ek, nI_clamp (by omega), l1]
    have w1 : h.1 9 ((4 : Int32) * nI k + 1).toNatClampNeg = l.2 1 := by rw [ek1, nI_clamp (by omega), v1]
    have w2 : h.1 9 ((4 : Int32) * nI k + 2).toNatClampNeg = l.2 2 := by rw [ek2, nI_clamp (by omega), v2]
    have ne : ∀ c, c < 12 → (nI l.1 = nI c ↔ l.1 = c) := fun c hc => nI_eq (by omega) (by omega)
    have m51 : ms1 m l = false → qm_PW G mX2_tellsOfMissing z 51 0 0 [vr 8, vi (nI k), vu] [] (h) := fun q => by
      have k2 := nx (fun i hi => by
        rcases Nat.lt_or_ge i k with x | x
        · exact all i x
        · rw [show i = k by omega, ← hl]; exact q)
      rw [← nI_1] at k2
      exact qm_wp_ok hA [2] 10 _ _ _ _ _ _ k2
    have m35 : ((decide (l.1 = 3) || decide (l.1 = 4)) && decide (nI m ≤ l.2 1)) = false → qm_PW G mX2_tellsOfMissing z 35 0 0 [vr 8, vi (nI k), vi (nI l.1)] [] (h) := fun q => by
      refine qm_wp_ok hA [51] 30 _ _ _ _ _ _ ⟨fun (y : ¬ nI l.1 = nI 4) => qm_PW.mask [true, true, false] (m51 ?_), fun (y : nI l.1 = nI 4) => ⟨rfl, _, rfl, rfl, i2, rfl, fun (y2 : h.1 9 ((4 : Int32) * nI k + 2).toNatClampNeg < h.1 8 4) => qm_PW.mask [true, true, false] (m51 ?_), fun (y2 : ¬ h.1 9 ((4 : Int32) * nI k + 2).toNatClampNeg < h.1 8 4) => ⟨rfl, congV ?_, rfl⟩⟩⟩
      · rw [ms1, q, decide_eq_false (fun z => y ((ne 4 (by decide)).mpr z))]; rfl
      · rw [w2, hm] at y2
        rw [ms1, q, decide_eq_false (Int32.not_le.mpr y2), Bool.and_false]; rfl
      · rw [w2, hm] at y2
        rw [stop (by rw [ms1, q, decide_eq_true ((ne 4 (by decide)).mp y), decide_eq_true (Int32.not_lt.mp y2)]; rfl)]; rfl
    have m22 : (decide (l.1 = 3) || decide (l.1 = 4)) = true → qm_PW G mX2_tellsOfMissing z 22 0 0 [vr 8, vi (nI k), vi (nI l.1)] [] (h) := fun q => by
      refine qm_wp_ok hA [35] 30 _ _ _ _ _ _ ⟨rfl, _, rfl, rfl, i1, rfl, fun (y : h.1 9 ((4 : Int32) * nI k + 1).toNatClampNeg < h.1 8 4) => m35 ?_, fun (y : ¬ h.1 9 ((4 : Int32) * nI k + 1).toNatClampNeg < h.1 8 4) => ⟨rfl, congV ?_, rfl⟩⟩
      · rw [w1, hm] at y
        rw [decide_eq_false (Int32.not_le.mpr y), Bool.and_false]
      · rw [w1, hm] at y
        rw [stop (by rw [ms1, q, decide_eq_true (Int32.not_lt.mp y)]; rfl)]; rfl
    have g16 : qm_PW G mX2_tellsOfMissing z 16 0 0 [vr 8, vi (nI k), vi (nI l.1)] [] (h) := by
      refine qm_wp_ok hA [22, 35] 20 _ _ _ _ _ _ ⟨fun (y : nI l.1 = nI 3) => m22 ?_, fun (y : ¬ nI l.1 = nI 3) => ⟨fun (y2 : ¬ nI l.1 = nI 4) => m35 ?_, fun (y2 : nI l.1 = nI 4) => m22 ?_⟩⟩
      · rw [decide_eq_true ((ne 3 (by decide)).mp y)]; rfl
      · rw [decide_eq_false (fun z => y ((ne 3 (by decide)).mpr z)), decide_eq_false (fun z => y2 ((ne 4 (by decide)).mpr z))]; rfl
      · rw [decide_eq_true ((ne 4 (by decide)).mp y2), Bool.or_true]
    rw [← w0] at g16
    exact qm_wp_ok hA [16] 30 _ _ _ _ _ _ ⟨rfl, fun (y : h.1 8 3 ≤ nI k) => absurd y (by rw [s1]; exact nI_ge hk (by omega)), fun _ => ⟨fun (y : nI 150 ≤ nI k) => absurd y (nI_ge (by omega) (by decide)), fun _ => ⟨rfl, _, rfl, rfl, i0, g16⟩⟩⟩
