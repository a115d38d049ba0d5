/-! the calls that change what is told: both answer alike -/
theorem TWN.put {h h' : qm_H} {a m m' k Q : Nat} {W W' : Nat → Nat → Int32} {T : Nat → Int32} (y : TWN h a m W) (o : OB h h') (hm : k < m ∧ m' = m ∨ k = m ∧ m' = m + 1) (r : qm_rd true h' a k = some Q) (ro : ∀ t, t ≠ k → qm_rd true h' a t = qm_rd true h a t) (n : TO h' Q T (nn T)) (v : VT T (nn T)) (eT : ∀ j, j < 31 → W' k j = T j) (eW : ∀ t, t < 2 → t ≠ k → ∀ j, j < 31 → W' t j = W t j) : TWN h' a m' W' := fun t ht => by
  by_cases c : t = k
  · subst c
    have en := nn_co (eT 0 (by decide))
    exact ⟨fun _ => ⟨Q, r, by rw [en]; exact TO_co eT v.1 n, by rw [en]; exact VT_co eT v⟩, fun q => absurd q (by omega)⟩
  · obtain ⟨y1, y2⟩ := y t ht
    refine ⟨fun q => ?_, fun q => by rw [ro t c]; exact y2 (by omega)⟩
    obtain ⟨Q', q1, q2, q3⟩ := y1 (by omega)
    have en := nn_co (eW t ht c 0 (by decide))
    exact ⟨Q', by rw [ro t c]; exact q1, by rw [en]; exact TO_co (eW t ht c) q3.1 (o.1 _ _ _ q2), by rw [en]; exact VT_co (eW t ht c) q3⟩
theorem YRS.put {h h' : qm_H} {a m m' k Q : Nat} {W W' : Nat → Nat → Int32} {T : Nat → Int32} (y : YRS h a m W) (o : OB h h') (hm : k < m ∧ m' = m ∨ k = m ∧ m' = m + 1) (r : qm_rd true h' a k = some Q) (ro : ∀ t, t ≠ k → qm_rd true h' a t = qm_rd true h a t) (n : RO h' Q 4 T (nn T)) (v : VY T (nn T)) (vc : VYc T (nn T)) (eT : ∀ j, j < 161 → W' k j = T j) (eW : ∀ t, t < 2 → t ≠ k → ∀ j, j < 161 → W' t j = W t j) : YRS h' a m' W' := fun t ht => by
  by_cases c : t = k
  · subst c
    have en := nn_co (eT 0 (by decide))
    have := v.1
    exact ⟨fun _ => ⟨Q, r, by rw [en]; exact RO_co (fun j hj => eT j (by omega)) n, by rw [en]; exact VY_co eT v, by rw [en]; exact VYc_co this eT vc⟩, fun q => absurd q (by omega)⟩
  · obtain ⟨y1, y2⟩ := y t ht
    refine ⟨fun q => ?_, fun q => by rw [ro t c]; exact y2 (by omega)⟩
    obtain ⟨Q', q1, q2, q3, q4⟩ := y1 (by omega)
    have en := nn_co (eW t ht c 0 (by decide))
    have := q3.1
    exact ⟨Q', by rw [ro t c]; exact q1, by rw [en]; exact RO_co (fun j hj => eW t ht c j (by omega)) (o.2 _ _ _ _ q2), by rw [en]; exact VY_co (eW t ht c) q3, by rw [en]; exact VYc_co this (eW t ht c) q4⟩
theorem LGS.put {h h' : qm_H} {a m m' k Q : Nat} {W W' : Nat → Nat → Int32} {T : Nat → Int32} (y : LGS h a m W) (o : OB h h') (hm : k < m ∧ m' = m ∨ k = m ∧ m' = m + 1) (r : qm_rd true h' a k = some Q) (ro : ∀ t, t ≠ k → qm_rd true h' a t = qm_rd true h a t) (n : RO h' Q 2 T (nn T)) (v : VL T (nn T)) (eT : ∀ j, j < 17 → W' k j = T j) (eW : ∀ t, t < 2 → t ≠ k → ∀ j, j < 17 → W' t j = W t j) : LGS h' a m' W' := fun t ht => by
  by_cases c : t = k
  · subst c
    have en := nn_co (eT 0 (by decide))
    have := v.1
    exact ⟨fun _ => ⟨Q, r, by rw [en]; exact RO_co (fun j hj => eT j (by omega)) n, by rw [en]; exact VL_co eT v⟩, fun q => absurd q (by omega)⟩
  · obtain ⟨y1, y2⟩ := y t ht
    refine ⟨fun q => ?_, fun q => by rw [ro t c]; exact y2 (by omega)⟩
    obtain ⟨Q', q1, q2, q3⟩ := y1 (by omega)
    have en := nn_co (eW t ht c 0 (by decide))
    have := q3.1
    exact ⟨Q', by rw [ro t c]; exact q1, by rw [en]; exact RO_co (fun j hj => eW t ht c j (by omega)) (o.2 _ _ _ _ q2), by rw [en]; exact VL_co (eW t ht c) q3⟩
