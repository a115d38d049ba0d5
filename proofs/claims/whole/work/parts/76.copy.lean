/-! the reference: what is read is kept; images; feeding -/
theorem e_store32 {G : qm_G} (hG : G.2.2.2.2 = true) (d : Nat) (h : qm_H) {k : Nat} (hk : k < 2) : qm_Ev G d 0 0 qyX10_store [.ref 26, .ref 32, .int (nI 31), .int (nI k)] h (fun r h' => r = none ∧ (∀ j, j < 31 → h'.1 32 (31 * k + j) = h.1 35 j) ∧ (∀ j, j < 31 * k ∨ 31 * k + 31 ≤ j → h'.1 32 j = h.1 32 j) ∧ sb [32] h h') := by
  refine qm_Ev.by (M := mX10_store) okX10_store (Nat.le_of_ble_eq_true rfl) hG fun z hA => ?_
  refine qm_wp_ok hA [2] 20 _ _ _ _ _ _ ?_
  refine qm_for (P := fun i => ∀ h', sb [32] h h' → (∀ j, j < i → h'.1 32 (31 * k + j) = h.1 35 j) → (∀ j, j < 31 * k ∨ 31 * k + 31 ≤ j → h'.1 32 j = h.1 32 j) → qm_PW G mX10_store z 2 0 0 [vr 26, vr 32, vi (nI 31), vi (nI k), vi (nI i)] [] h') (N := 31) ?_ ?_ h sb.rf (fun j q => by omega) (fun _ _ => rfl)
  · intro h' c1 c2 c3
    exact qm_wp_ok hA [] 20 _ _ _ _ _ _ ⟨fun _ => ⟨rfl, rfl, c2, c3, c1⟩, fun q => absurd (by decide) q⟩
  · intro i hi nx h' c1 c2 c3
    have ei : nI 31 * nI k + nI i = nI (31 * k + i) := by rw [pk_mul, nI_add]
    refine qm_wp_ok hA [2] 40 _ _ _ _ _ _ ⟨fun q => absurd q (nI_ge hi (by decide)), fun _ => ⟨rfl, _, rfl, rfl, (vp_in_nI (by omega) (by decide) : vp_in (nI i) 161), rfl, ?_, ?_⟩⟩
    · show vp_in (nI 31 * nI k + nI i) 248
      rw [ei]; exact vp_in_nI (by omega) (by decide)
    · have k2 := nx (qm_si h' 32 (31 * k + i) (h'.1 35 i)) (c1.si (by decide)) (fun j hj => by
        rw [si_row]
        by_cases e : j = i
        · rw [e, up_s, c1.2 35 (by decide)]
        · rw [up_n _ _ (by omega)]; exact c2 j (by omega)) (fun j hj => by
        rw [si_row, up_n _ _ (by omega)]; exact c3 j hj)
      have e1 : (nI 31 * nI k + nI i).toNatClampNeg = 31 * k + i := by rw [ei, nI_clamp (by omega)]
      have e2 : (nI i).toNatClampNeg = i := nI_clamp (by omega)
      have k3 : qm_PW G mX10_store z 2 0 0 [vr 26, vr 32, vi (nI 31), vi (nI k), vi (nI i + 1)] [] (qm_si h' 32 (nI 31 * nI k + nI i).toNatClampNeg (h'.1 35 (nI i).toNatClampNeg)) := by rw [e1, e2, nI_1]; exact k2
      exact k3
theorem e_store33 {G : qm_G} (hG : G.2.2.2.2 = true) (d : Nat) (h : qm_H) {k : Nat} (hk : k < 2) : qm_Ev G d 0 0 qyX10_store [.ref 26, .ref 33, .int (nI 161), .int (nI k)] h (fun r h' => r = none ∧ (∀ j, j < 161 → h'.1 33 (161 * k + j) = h.1 35 j) ∧ (∀ j, j < 161 * k ∨ 161 * k + 161 ≤ j → h'.1 33 j = h.1 33 j) ∧ sb [33] h h') := by
  refine qm_Ev.by (M := mX10_store) okX10_store (Nat.le_of_ble_eq_true rfl) hG fun z hA => ?_
  refine qm_wp_ok hA [2] 20 _ _ _ _ _ _ ?_
  refine qm_for (P := fun i => ∀ h', sb [33] h h' → (∀ j, j < i → h'.1 33 (161 * k + j) = h.1 35 j) → (∀ j, j < 161 * k ∨ 161 * k + 161 ≤ j → h'.1 33 j = h.1 33 j) → qm_PW G mX10_store z 2 0 0 [vr 26, vr 33, vi (nI 161), vi (nI k), vi (nI i)] [] h') (N := 161) ?_ ?_ h sb.rf (fun j q => by omega) (fun _ _ => rfl)
  · intro h' c1 c2 c3
    exact qm_wp_ok hA [] 20 _ _ _ _ _ _ ⟨fun _ => ⟨rfl, rfl, c2, c3, c1⟩, fun q => absurd (by decide) q⟩
  · intro i hi nx h' c1 c2 c3
    have ei : nI 161 * nI k + nI i = nI (161 * k + i) := by rw [pk_mul, nI_add]
    refine qm_wp_ok hA [2] 40 _ _ _ _ _ _ ⟨fun q => absurd q (nI_ge hi (by decide)), fun _ => ⟨rfl, _, rfl, rfl, (vp_in_nI (by omega) (by decide) : vp_in (nI i) 161), rfl, ?_, ?_⟩⟩
    · show vp_in (nI 161 * nI k + nI i) 1288
      rw [ei]; exact vp_in_nI (by omega) (by decide)
    · have k2 := nx (qm_si h' 33 (161 * k + i) (h'.1 35 i)) (c1.si (by decide)) (fun j hj => by
        rw [si_row]
        by_cases e : j = i
        · rw [e, up_s, c1.2 35 (by decide)]
        · rw [up_n _ _ (by omega)]; exact c2 j (by omega)) (fun j hj => by
        rw [si_row, up_n _ _ (by omega)]; exact c3 j hj)
      have e1 : (nI 161 * nI k + nI i).toNatClampNeg = 161 * k + i := by rw [ei, nI_clamp (by omega)]
      have e2 : (nI i).toNatClampNeg = i := nI_clamp (by omega)
      have k3 : qm_PW G mX10_store z 2 0 0 [vr 26, vr 33, vi (nI 161), vi (nI k), vi (nI i + 1)] [] (qm_si h' 33 (nI 161 * nI k + nI i).toNatClampNeg (h'.1 35 (nI i).toNatClampNeg)) := by rw [e1, e2, nI_1]; exact k2
      exact k3
theorem e_store34 {G : qm_G} (hG : G.2.2.2.2 = true) (d : Nat) (h : qm_H) {k : Nat} (hk : k < 2) : qm_Ev G d 0 0 qyX10_store [.ref 26, .ref 34, .int (nI 17), .int (nI k)] h (fun r h' => r = none ∧ (∀ j, j < 17 → h'.1 34 (17 * k + j) = h.1 35 j) ∧ (∀ j, j < 17 * k ∨ 17 * k + 17 ≤ j → h'.1 34 j = h.1 34 j) ∧ sb [34] h h') := by
  refine qm_Ev.by (M := mX10_store) okX10_store (Nat.le_of_ble_eq_true rfl) hG fun z hA => ?_
  refine qm_wp_ok hA [2] 20 _ _ _ _ _ _ ?_
  refine qm_for (P := fun i => ∀ h', sb [34] h h' → (∀ j, j < i → h'.1 34 (17 * k + j) = h.1 35 j) → (∀ j, j < 17 * k ∨ 17 * k + 17 ≤ j → h'.1 34 j = h.1 34 j) → qm_PW G mX10_store z 2 0 0 [vr 26, vr 34, vi (nI 17), vi (nI k), vi (nI i)] [] h') (N := 17) ?_ ?_ h sb.rf (fun j q => by omega) (fun _ _ => rfl)
  · intro h' c1 c2 c3
    exact qm_wp_ok hA [] 20 _ _ _ _ _ _ ⟨fun _ => ⟨rfl, rfl, c2, c3, c1⟩, fun q => absurd (by decide) q⟩
  · intro i hi nx h' c1 c2 c3
    have ei : nI 17 * nI k + nI i = nI (17 * k + i) := by rw [pk_mul, nI_add]
    refine qm_wp_ok hA [2] 40 _ _ _ _ _ _ ⟨fun q => absurd q (nI_ge hi (by decide)), fun _ => ⟨rfl, _, rfl, rfl, (vp_in_nI (by omega) (by decide) : vp_in (nI i) 161), rfl, ?_, ?_⟩⟩
    · show vp_in (nI 17 * nI k + nI i) 136
      rw [ei]; exact vp_in_nI (by omega) (by decide)
    · have k2 := nx (qm_si h' 34 (17 * k + i) (h'.1 35 i)) (c1.si (by decide)) (fun j hj => by
        rw [si_row]
        by_cases e : j = i
        · rw [e, up_s, c1.2 35 (by decide)]
        · rw [up_n _ _ (by omega)]; exact c2 j (by omega)) (fun j hj => by
        rw [si_row, up_n _ _ (by omega)]; exact c3 j hj)
      have e1 : (nI 17 * nI k + nI i).toNatClampNeg = 17 * k + i := by rw [ei, nI_clamp (by omega)]
      have e2 : (nI i).toNatClampNeg = i := nI_clamp (by omega)
      have k3 : qm_PW G mX10_store z 2 0 0 [vr 26, vr 34, vi (nI 17), vi (nI k), vi (nI i + 1)] [] (qm_si h' 34 (nI 17 * nI k + nI i).toNatClampNeg (h'.1 35 (nI i).toNatClampNeg)) := by rw [e1, e2, nI_1]; exact k2
      exact k3
theorem e_copyRow28 {G : qm_G} (hG : G.2.2.2.2 = true) (d : Nat) (h : qm_H) {a b : Nat} (ha : a < 4) (hb : b < 4) (hab : a ≠ b) : qm_Ev G d 0 0 qyX10_copyRow [.ref 28, .int (nI 1), .int (nI a), .int (nI b)] h (fun r h' => r = none ∧ (∀ j, j < 1 → h'.1 28 (1 * b + j) = h.1 28 (1 * a + j)) ∧ (∀ j, j < 1 * b ∨ 1 * b + 1 ≤ j → h'.1 28 j = h.1 28 j) ∧ sb [28] h h') := by
  refine qm_Ev.by (M := mX10_copyRow) okX10_copyRow (Nat.le_of_ble_eq_true rfl) hG fun z hA => ?_
  refine qm_wp_ok hA [2] 20 _ _ _ _ _ _ ?_
  refine qm_for (P := fun i => ∀ h', sb [28] h h' → (∀ j, j < i → h'.1 28 (1 * b + j) = h.1 28 (1 * a + j)) → (∀ j, j < 1 * b ∨ 1 * b + 1 ≤ j → h'.1 28 j = h.1 28 j) → qm_PW G mX10_copyRow z 2 0 0 [vr 28, vi (nI 1), vi (nI a), vi (nI b), vi (nI i)] [] h') (N := 1) ?_ ?_ h sb.rf (fun j q => by omega) (fun _ _ => rfl)
  · intro h' c1 c2 c3
    exact qm_wp_ok hA [] 20 _ _ _ _ _ _ ⟨fun _ => ⟨rfl, rfl, c2, c3, c1⟩, fun q => absurd (by decide) q⟩
  · intro i hi nx h' c1 c2 c3
    have ei : nI 1 * nI b + nI i = nI (1 * b + i) := by rw [pk_mul, nI_add]
    have ej : nI 1 * nI a + nI i = nI (1 * a + i) := by rw [pk_mul, nI_add]
    refine qm_wp_ok hA [2] 40 _ _ _ _ _ _ ⟨fun q => absurd q (nI_ge hi (by decide)), fun _ => ⟨rfl, ?_, rfl, ?_, ?_⟩⟩
    · show vp_in (nI 1 * nI a + nI i) 4
      rw [ej]; exact vp_in_nI (by omega) (by decide)
    · show vp_in (nI 1 * nI b + nI i) 4
      rw [ei]; exact vp_in_nI (by omega) (by decide)
    · have e0 : h'.1 28 (1 * a + i) = h.1 28 (1 * a + i) := c3 _ (by omega)
      have k2 := nx (qm_si h' 28 (1 * b + i) (h'.1 28 (1 * a + i))) (c1.si (by decide)) (fun j hj => by
        rw [si_row]
        by_cases e : j = i
        · rw [e, up_s, e0]
        · rw [up_n _ _ (by omega)]; exact c2 j (by omega)) (fun j hj => by
        rw [si_row, up_n _ _ (by omega)]; exact c3 j hj)
      have e1 : (nI 1 * nI b + nI i).toNatClampNeg = 1 * b + i := by rw [ei, nI_clamp (by omega)]
      have e2 : (nI 1 * nI a + nI i).toNatClampNeg = 1 * a + i := by rw [ej, nI_clamp (by omega)]
      have k3 : qm_PW G mX10_copyRow z 2 0 0 [vr 28, vi (nI 1), vi (nI a), vi (nI b), vi (nI i + 1)] [] (qm_si h' 28 (nI 1 * nI b + nI i).toNatClampNeg (h'.1 28 (nI 1 * nI a + nI i).toNatClampNeg)) := by rw [e1, e2, nI_1]; exact k2
      exact k3
theorem e_copyRow29 {G : qm_G} (hG : G.2.2.2.2 = true) (d : Nat) (h : qm_H) {a b : Nat} (ha : a < 4) (hb : b < 4) (hab : a ≠ b) : qm_Ev G d 0 0 qyX10_copyRow [.ref 29, .int (nI 1), .int (nI a), .int (nI b)] h (fun r h' => r = none ∧ (∀ j, j < 1 → h'.1 29 (1 * b + j) = h.1 29 (1 * a + j)) ∧ (∀ j, j < 1 * b ∨ 1 * b + 1 ≤ j → h'.1 29 j = h.1 29 j) ∧ sb [29] h h') := by
  refine qm_Ev.by (M := mX10_copyRow) okX10_copyRow (Nat.le_of_ble_eq_true rfl) hG fun z hA => ?_
  refine qm_wp_ok hA [2] 20 _ _ _ _ _ _ ?_
  refine qm_for (P := fun i => ∀ h', sb [29] h h' → (∀ j, j < i → h'.1 29 (1 * b + j) = h.1 29 (1 * a + j)) → (∀ j, j < 1 * b ∨ 1 * b + 1 ≤ j → h'.1 29 j = h.1 29 j) → qm_PW G mX10_copyRow z 2 0 0 [vr 29, vi (nI 1), vi (nI a), vi (nI b), vi (nI i)] [] h') (N := 1) ?_ ?_ h sb.rf (fun j q => by omega) (fun _ _ => rfl)
  · intro h' c1 c2 c3
    exact qm_wp_ok hA [] 20 _ _ _ _ _ _ ⟨fun _ => ⟨rfl, rfl, c2, c3, c1⟩, fun q => absurd (by decide) q⟩
  · intro i hi nx h' c1 c2 c3
    have ei : nI 1 * nI b + nI i = nI (1 * b + i) := by rw [pk_mul, nI_add]
    have ej : nI 1 * nI a + nI i = nI (1 * a + i) := by rw [pk_mul, nI_add]
    refine qm_wp_ok hA [2] 40 _ _ _ _ _ _ ⟨fun q => absurd q (nI_ge hi (by decide)), fun _ => ⟨rfl, ?_, rfl, ?_, ?_⟩⟩
    · show vp_in (nI 1 * nI a + nI i) 4
      rw [ej]; exact vp_in_nI (by omega) (by decide)
    · show vp_in (nI 1 * nI b + nI i) 4
      rw [ei]; exact vp_in_nI (by omega) (by decide)
    · have e0 : h'.1 29 (1 * a + i) = h.1 29 (1 * a + i) := c3 _ (by omega)
      have k2 := nx (qm_si h' 29 (1 * b + i) (h'.1 29 (1 * a + i))) (c1.si (by decide)) (fun j hj => by
        rw [si_row]
        by_cases e : j = i
        · rw [e, up_s, e0]
        · rw [up_n _ _ (by omega)]; exact c2 j (by omega)) (fun j hj => by
        rw [si_row, up_n _ _ (by omega)]; exact c3 j hj)
      have e1 : (nI 1 * nI b + nI i).toNatClampNeg = 1 * b + i := by rw [ei, nI_clamp (by omega)]
      have e2 : (nI 1 * nI a + nI i).toNatClampNeg = 1 * a + i := by rw [ej, nI_clamp (by omega)]
      have k3 : qm_PW G mX10_copyRow z 2 0 0 [vr 29, vi (nI 1), vi (nI a), vi (nI b), vi (nI i + 1)] [] (qm_si h' 29 (nI 1 * nI b + nI i).toNatClampNeg (h'.1 29 (nI 1 * nI a + nI i).toNatClampNeg)) := by rw [e1, e2, nI_1]; exact k2
      exact k3
theorem e_copyRow30 {G : qm_G} (hG : G.2.2.2.2 = true) (d : Nat) (h : qm_H) {a b : Nat} (ha : a < 4) (hb : b < 4) (hab : a ≠ b) : qm_Ev G d 0 0 qyX10_copyRow [.ref 30, .int (nI 1), .int (nI a), .int (nI b)] h (fun r h' => r = none ∧ (∀ j, j < 1 → h'.1 30 (1 * b + j) = h.1 30 (1 * a + j)) ∧ (∀ j, j < 1 * b ∨ 1 * b + 1 ≤ j → h'.1 30 j = h.1 30 j) ∧ sb [30] h h') := by
  refine qm_Ev.by (M := mX10_copyRow) okX10_copyRow (Nat.le_of_ble_eq_true rfl) hG fun z hA => ?_
  refine qm_wp_ok hA [2] 20 _ _ _ _ _ _ ?_
  refine qm_for (P := fun i => ∀ h', sb [30] h h' → (∀ j, j < i → h'.1 30 (1 * b + j) = h.1 30 (1 * a + j)) → (∀ j, j < 1 * b ∨ 1 * b + 1 ≤ j → h'.1 30 j = h.1 30 j) → qm_PW G mX10_copyRow z 2 0 0 [vr 30, vi (nI 1), vi (nI a), vi (nI b), vi (nI i)] [] h') (N := 1) ?_ ?_ h sb.rf (fun j q => by omega) (fun _ _ => rfl)
  · intro h' c1 c2 c3
    exact qm_wp_ok hA [] 20 _ _ _ _ _ _ ⟨fun _ => ⟨rfl, rfl, c2, c3, c1⟩, fun q => absurd (by decide) q⟩
  · intro i hi nx h' c1 c2 c3
    have ei : nI 1 * nI b + nI i = nI (1 * b + i) := by rw [pk_mul, nI_add]
    have ej : nI 1 * nI a + nI i = nI (1 * a + i) := by rw [pk_mul, nI_add]
    refine qm_wp_ok hA [2] 40 _ _ _ _ _ _ ⟨fun q => absurd q (nI_ge hi (by decide)), fun _ => ⟨rfl, ?_, rfl, ?_, ?_⟩⟩
    · show vp_in (nI 1 * nI a + nI i) 4
      rw [ej]; exact vp_in_nI (by omega) (by decide)
    · show vp_in (nI 1 * nI b + nI i) 4
      rw [ei]; exact vp_in_nI (by omega) (by decide)
    · have e0 : h'.1 30 (1 * a + i) = h.1 30 (1 * a + i) := c3 _ (by omega)
      have k2 := nx (qm_si h' 30 (1 * b + i) (h'.1 30 (1 * a + i))) (c1.si (by decide)) (fun j hj => by
        rw [si_row]
        by_cases e : j = i
        · rw [e, up_s, e0]
        · rw [up_n _ _ (by omega)]; exact c2 j (by omega)) (fun j hj => by
        rw [si_row, up_n _ _ (by omega)]; exact c3 j hj)
      have e1 : (nI 1 * nI b + nI i).toNatClampNeg = 1 * b + i := by rw [ei, nI_clamp (by omega)]
      have e2 : (nI 1 * nI a + nI i).toNatClampNeg = 1 * a + i := by rw [ej, nI_clamp (by omega)]
      have k3 : qm_PW G mX10_copyRow z 2 0 0 [vr 30, vi (nI 1), vi (nI a), vi (nI b), vi (nI i + 1)] [] (qm_si h' 30 (nI 1 * nI b + nI i).toNatClampNeg (h'.1 30 (nI 1 * nI a + nI i).toNatClampNeg)) := by rw [e1, e2, nI_1]; exact k2
      exact k3
theorem e_copyRow31 {G : qm_G} (hG : G.2.2.2.2 = true) (d : Nat) (h : qm_H) {a b : Nat} (ha : a < 4) (hb : b < 4) (hab : a ≠ b) : qm_Ev G d 0 0 qyX10_copyRow [.ref 31, .int (nI 3), .int (nI a), .int (nI b)] h (fun r h' => r = none ∧ (∀ j, j < 3 → h'.1 31 (3 * b + j) = h.1 31 (3 * a + j)) ∧ (∀ j, j < 3 * b ∨ 3 * b + 3 ≤ j → h'.1 31 j = h.1 31 j) ∧ sb [31] h h') := by
  refine qm_Ev.by (M := mX10_copyRow) okX10_copyRow (Nat.le_of_ble_eq_true rfl) hG fun z hA => ?_
  refine qm_wp_ok hA [2] 20 _ _ _ _ _ _ ?_
  refine qm_for (P := fun i => ∀ h', sb [31] h h' → (∀ j, j < i → h'.1 31 (3 * b + j) = h.1 31 (3 * a + j)) → (∀ j, j < 3 * b ∨ 3 * b + 3 ≤ j → h'.1 31 j = h.1 31 j) → qm_PW G mX10_copyRow z 2 0 0 [vr 31, vi (nI 3), vi (nI a), vi (nI b), vi (nI i)] [] h') (N := 3) ?_ ?_ h sb.rf (fun j q => by omega) (fun _ _ => rfl)
  · intro h' c1 c2 c3
    exact qm_wp_ok hA [] 20 _ _ _ _ _ _ ⟨fun _ => ⟨rfl, rfl, c2, c3, c1⟩, fun q => absurd (by decide) q⟩
  · intro i hi nx h' c1 c2 c3
    have ei : nI 3 * nI b + nI i = nI (3 * b + i) := by rw [pk_mul, nI_add]
    have ej : nI 3 * nI a + nI i = nI (3 * a + i) := by rw [pk_mul, nI_add]
    refine qm_wp_ok hA [2] 40 _ _ _ _ _ _ ⟨fun q => absurd q (nI_ge hi (by decide)), fun _ => ⟨rfl, ?_, rfl, ?_, ?_⟩⟩
    · show vp_in (nI 3 * nI a + nI i) 12
      rw [ej]; exact vp_in_nI (by omega) (by decide)
    · show vp_in (nI 3 * nI b + nI i) 12
      rw [ei]; exact vp_in_nI (by omega) (by decide)
    · have e0 : h'.1 31 (3 * a + i) = h.1 31 (3 * a + i) := c3 _ (by omega)
      have k2 := nx (qm_si h' 31 (3 * b + i) (h'.1 31 (3 * a + i))) (c1.si (by decide)) (fun j hj => by
        rw [si_row]
        by_cases e : j = i
        · rw [e, up_s, e0]
        · rw [up_n _ _ (by omega)]; exact c2 j (by omega)) (fun j hj => by
        rw [si_row, up_n _ _ (by omega)]; exact c3 j hj)
      have e1 : (nI 3 * nI b + nI i).toNatClampNeg = 3 * b + i := by rw [ei, nI_clamp (by omega)]
      have e2 : (nI 3 * nI a + nI i).toNatClampNeg = 3 * a + i := by rw [ej, nI_clamp (by omega)]
      have k3 : qm_PW G mX10_copyRow z 2 0 0 [vr 31, vi (nI 3), vi (nI a), vi (nI b), vi (nI i + 1)] [] (qm_si h' 31 (nI 3 * nI b + nI i).toNatClampNeg (h'.1 31 (nI 3 * nI a + nI i).toNatClampNeg)) := by rw [e1, e2, nI_1]; exact k2
      exact k3
theorem e_copyRow32 {G : qm_G} (hG : G.2.2.2.2 = true) (d : Nat) (h : qm_H) {a b : Nat} (ha : a < 4) (hb : b < 4) (hab : a ≠ b) : qm_Ev G d 0 0 qyX10_copyRow [.ref 32, .int (nI 62), .int (nI a), .int (nI b)] h (fun r h' => r = none ∧ (∀ j, j < 62 → h'.1 32 (62 * b + j) = h.1 32 (62 * a + j)) ∧ (∀ j, j < 62 * b ∨ 62 * b + 62 ≤ j → h'.1 32 j = h.1 32 j) ∧ sb [32] h h') := by
  refine qm_Ev.by (M := mX10_copyRow) okX10_copyRow (Nat.le_of_ble_eq_true rfl) hG fun z hA => ?_
  refine qm_wp_ok hA [2] 20 _ _ _ _ _ _ ?_
  refine qm_for (P := fun i => ∀ h', sb [32] h h' → (∀ j, j < i → h'.1 32 (62 * b + j) = h.1 32 (62 * a + j)) → (∀ j, j < 62 * b ∨ 62 * b + 62 ≤ j → h'.1 32 j = h.1 32 j) → qm_PW G mX10_copyRow z 2 0 0 [vr 32, vi (nI 62), vi (nI a), vi (nI b), vi (nI i)] [] h') (N := 62) ?_ ?_ h sb.rf (fun j q => by omega) (fun _ _ => rfl)
  · intro h' c1 c2 c3
    exact qm_wp_ok hA [] 20 _ _ _ _ _ _ ⟨fun _ => ⟨rfl, rfl, c2, c3, c1⟩, fun q => absurd (by decide) q⟩
  · intro i hi nx h' c1 c2 c3
    have ei : nI 62 * nI b + nI i = nI (62 * b + i) := by rw [pk_mul, nI_add]
    have ej : nI 62 * nI a + nI i = nI (62 * a + i) := by rw [pk_mul, nI_add]
    refine qm_wp_ok hA [2] 40 _ _ _ _ _ _ ⟨fun q => absurd q (nI_ge hi (by decide)), fun _ => ⟨rfl, ?_, rfl, ?_, ?_⟩⟩
    · show vp_in (nI 62 * nI a + nI i) 248
      rw [ej]; exact vp_in_nI (by omega) (by decide)
    · show vp_in (nI 62 * nI b + nI i) 248
      rw [ei]; exact vp_in_nI (by omega) (by decide)
    · have e0 : h'.1 32 (62 * a + i) = h.1 32 (62 * a + i) := c3 _ (by omega)
      have k2 := nx (qm_si h' 32 (62 * b + i) (h'.1 32 (62 * a + i))) (c1.si (by decide)) (fun j hj => by
        rw [si_row]
        by_cases e : j = i
        · rw [e, up_s, e0]
        · rw [up_n _ _ (by omega)]; exact c2 j (by omega)) (fun j hj => by
        rw [si_row, up_n _ _ (by omega)]; exact c3 j hj)
      have e1 : (nI 62 * nI b + nI i).toNatClampNeg = 62 * b + i := by rw [ei, nI_clamp (by omega)]
      have e2 : (nI 62 * nI a + nI i).toNatClampNeg = 62 * a + i := by rw [ej, nI_clamp (by omega)]
      have k3 : qm_PW G mX10_copyRow z 2 0 0 [vr 32, vi (nI 62), vi (nI a), vi (nI b), vi (nI i + 1)] [] (qm_si h' 32 (nI 62 * nI b + nI i).toNatClampNeg (h'.1 32 (nI 62 * nI a + nI i).toNatClampNeg)) := by rw [e1, e2, nI_1]; exact k2
      exact k3
theorem e_copyRow33 {G : qm_G} (hG : G.2.2.2.2 = true) (d : Nat) (h : qm_H) {a b : Nat} (ha : a < 4) (hb : b < 4) (hab : a ≠ b) : qm_Ev G d 0 0 qyX10_copyRow [.ref 33, .int (nI 322), .int (nI a), .int (nI b)] h (fun r h' => r = none ∧ (∀ j, j < 322 → h'.1 33 (322 * b + j) = h.1 33 (322 * a + j)) ∧ (∀ j, j < 322 * b ∨ 322 * b + 322 ≤ j → h'.1 33 j = h.1 33 j) ∧ sb [33] h h') := by
  refine qm_Ev.by (M := mX10_copyRow) okX10_copyRow (Nat.le_of_ble_eq_true rfl) hG fun z hA => ?_
  refine qm_wp_ok hA [2] 20 _ _ _ _ _ _ ?_
  refine qm_for (P := fun i => ∀ h', sb [33] h h' → (∀ j, j < i → h'.1 33 (322 * b + j) = h.1 33 (322 * a + j)) → (∀ j, j < 322 * b ∨ 322 * b + 322 ≤ j → h'.1 33 j = h.1 33 j) → qm_PW G mX10_copyRow z 2 0 0 [vr 33, vi (nI 322), vi (nI a), vi (nI b), vi (nI i)] [] h') (N := 322) ?_ ?_ h sb.rf (fun j q => by omega) (fun _ _ => rfl)
  · intro h' c1 c2 c3
    exact qm_wp_ok hA [] 20 _ _ _ _ _ _ ⟨fun _ => ⟨rfl, rfl, c2, c3, c1⟩, fun q => absurd (by decide) q⟩
  · intro i hi nx h' c1 c2 c3
    have ei : nI 322 * nI b + nI i = nI (322 * b + i) := by rw [pk_mul, nI_add]
    have ej : nI 322 * nI a + nI i = nI (322 * a + i) := by rw [pk_mul, nI_add]
    refine qm_wp_ok hA [2] 40 _ _ _ _ _ _ ⟨fun q => absurd q (nI_ge hi (by decide)), fun _ => ⟨rfl, ?_, rfl, ?_, ?_⟩⟩
    · show vp_in (nI 322 * nI a + nI i) 1288
      rw [ej]; exact vp_in_nI (by omega) (by decide)
    · show vp_in (nI 322 * nI b + nI i) 1288
      rw [ei]; exact vp_in_nI (by omega) (by decide)
    · have e0 : h'.1 33 (322 * a + i) = h.1 33 (322 * a + i) := c3 _ (by omega)
      have k2 := nx (qm_si h' 33 (322 * b + i) (h'.1 33 (322 * a + i))) (c1.si (by decide)) (fun j hj => by
        rw [si_row]
        by_cases e : j = i
        · rw [e, up_s, e0]
        · rw [up_n _ _ (by omega)]; exact c2 j (by omega)) (fun j hj => by
        rw [si_row, up_n _ _ (by omega)]; exact c3 j hj)
      have e1 : (nI 322 * nI b + nI i).toNatClampNeg = 322 * b + i := by rw [ei, nI_clamp (by omega)]
      have e2 : (nI 322 * nI a + nI i).toNatClampNeg = 322 * a + i := by rw [ej, nI_clamp (by omega)]
      have k3 : qm_PW G mX10_copyRow z 2 0 0 [vr 33, vi (nI 322), vi (nI a), vi (nI b), vi (nI i + 1)] [] (qm_si h' 33 (nI 322 * nI b + nI i).toNatClampNeg (h'.1 33 (nI 322 * nI a + nI i).toNatClampNeg)) := by rw [e1, e2, nI_1]; exact k2
      exact k3
theorem e_copyRow34 {G : qm_G} (hG : G.2.2.2.2 = true) (d : Nat) (h : qm_H) {a b : Nat} (ha : a < 4) (hb : b < 4) (hab : a ≠ b) : qm_Ev G d 0 0 qyX10_copyRow [.ref 34, .int (nI 34), .int (nI a), .int (nI b)] h (fun r h' => r = none ∧ (∀ j, j < 34 → h'.1 34 (34 * b + j) = h.1 34 (34 * a + j)) ∧ (∀ j, j < 34 * b ∨ 34 * b + 34 ≤ j → h'.1 34 j = h.1 34 j) ∧ sb [34] h h') := by
  refine qm_Ev.by (M := mX10_copyRow) okX10_copyRow (Nat.le_of_ble_eq_true rfl) hG fun z hA => ?_
  refine qm_wp_ok hA [2] 20 _ _ _ _ _ _ ?_
  refine qm_for (P := fun i => ∀ h', sb [34] h h' → (∀ j, j < i → h'.1 34 (34 * b + j) = h.1 34 (34 * a + j)) → (∀ j, j < 34 * b ∨ 34 * b + 34 ≤ j → h'.1 34 j = h.1 34 j) → qm_PW G mX10_copyRow z 2 0 0 [vr 34, vi (nI 34), vi (nI a), vi (nI b), vi (nI i)] [] h') (N := 34) ?_ ?_ h sb.rf (fun j q => by omega) (fun _ _ => rfl)
  · intro h' c1 c2 c3
    exact qm_wp_ok hA [] 20 _ _ _ _ _ _ ⟨fun _ => ⟨rfl, rfl, c2, c3, c1⟩, fun q => absurd (by decide) q⟩
  · intro i hi nx h' c1 c2 c3
    have ei : nI 34 * nI b + nI i = nI (34 * b + i) := by rw [pk_mul, nI_add]
    have ej : nI 34 * nI a + nI i = nI (34 * a + i) := by rw [pk_mul, nI_add]
    refine qm_wp_ok hA [2] 40 _ _ _ _ _ _ ⟨fun q => absurd q (nI_ge hi (by decide)), fun _ => ⟨rfl, ?_, rfl, ?_, ?_⟩⟩
    · show vp_in (nI 34 * nI a + nI i) 136
      rw [ej]; exact vp_in_nI (by omega) (by decide)
    · show vp_in (nI 34 * nI b + nI i) 136
      rw [ei]; exact vp_in_nI (by omega) (by decide)
    · have e0 : h'.1 34 (34 * a + i) = h.1 34 (34 * a + i) := c3 _ (by omega)
      have k2 := nx (qm_si h' 34 (34 * b + i) (h'.1 34 (34 * a + i))) (c1.si (by decide)) (fun j hj => by
        rw [si_row]
        by_cases e : j = i
        · rw [e, up_s, e0]
        · rw [up_n _ _ (by omega)]; exact c2 j (by omega)) (fun j hj => by
        rw [si_row, up_n _ _ (by omega)]; exact c3 j hj)
      have e1 : (nI 34 * nI b + nI i).toNatClampNeg = 34 * b + i := by rw [ei, nI_clamp (by omega)]
      have e2 : (nI 34 * nI a + nI i).toNatClampNeg = 34 * a + i := by rw [ej, nI_clamp (by omega)]
      have k3 : qm_PW G mX10_copyRow z 2 0 0 [vr 34, vi (nI 34), vi (nI a), vi (nI b), vi (nI i + 1)] [] (qm_si h' 34 (nI 34 * nI b + nI i).toNatClampNeg (h'.1 34 (nI 34 * nI a + nI i).toNatClampNeg)) := by rw [e1, e2, nI_1]; exact k2
      exact k3
/-- rows of a slot, copied -/
def CP (a b : Nat) (h h' : qm_H) (p w : Nat) : Prop := (∀ j, j < w → h'.1 p (w * b + j) = h.1 p (w * a + j)) ∧ (∀ j, j < w * b ∨ w * b + w ≤ j → h'.1 p j = h.1 p j)
def CA (a b : Nat) (h h' : qm_H) : Prop := CP a b h h' 27 600 ∧ CP a b h h' 28 1 ∧ CP a b h h' 29 1 ∧ CP a b h h' 30 1 ∧ CP a b h h' 31 3 ∧ CP a b h h' 32 62 ∧ CP a b h h' 33 322 ∧ CP a b h h' 34 34 ∧ sb [27, 28, 29, 30, 31, 32, 33, 34] h h'
def BY (t : Nat → Int32) : Prop := ∀ k, k < 2400 → ∃ b, b < 256 ∧ t k = byI b
theorem by_by : ∀ b, b < 256 → (byI b).toInt8.toInt32 = byI b := by decide +kernel
theorem CP.l {a b : Nat} {h h' h2 : qm_H} {p w : Nat} (k : CP a b h h' p w) (e : h2.1 p = h'.1 p) : CP a b h h2 p w := ⟨fun j hj => by rw [e]; exact k.1 j hj, fun j hj => by rw [e]; exact k.2 j hj⟩
theorem CP.f {a b : Nat} {h h' h2 : qm_H} {p w : Nat} (k : CP a b h' h2 p w) (e : h'.1 p = h.1 p) : CP a b h h2 p w := ⟨fun j hj => by rw [← e]; exact k.1 j hj, fun j hj => by rw [← e]; exact k.2 j hj⟩
theorem e_copyAll {G : qm_G} (hG : G.2.2.2.2 = true) (d : Nat) (h : qm_H) {a b : Nat} (ha : a < 4) (hb : b < 4) (hab : a ≠ b) (hBy : BY (h.1 27)) : qm_Ev G (d + 1) 0 0 qyX10_copyAll [.ref 26, .int (nI a), .int (nI b)] h (fun r h' => r = none ∧ CA a b h h') := by
  refine qm_Ev.by (M := mX10_copyAll) okX10_copyAll (Nat.le_of_ble_eq_true rfl) hG fun z hA => ?_
  refine qm_wp_ok hA [2] 20 _ _ _ _ _ _ ?_
  refine qm_for (P := fun i => ∀ h', sb [27] h h' → (∀ j, j < i → h'.1 27 (600 * b + j) = h.1 27 (600 * a + j)) → (∀ j, j < 600 * b ∨ 600 * b + 600 ≤ j → h'.1 27 j = h.1 27 j) → qm_PW G mX10_copyAll z 2 0 0 [vr 26, vi (nI a), vi (nI b), vi (nI i)] [] h') (N := 600) ?_ ?_ h sb.rf (fun j q => by omega) (fun _ _ => rfl)
  · intro h1 c1 c2 c3
    refine qm_wp_ok hA [] 60 _ _ _ _ _ _ ⟨fun _ => ⟨rfl, _, rfl, 0, 0, _, e_copyRow28 hG d h1 ha hb hab, ⟨Nat.le_refl _, Nat.le_refl _⟩, ?_⟩, fun q => absurd (by decide) q⟩
    rintro _ h2 ⟨rfl, x1, x2, x3⟩
    refine ⟨rfl, _, rfl, 0, 0, _, e_copyRow29 hG d h2 ha hb hab, ⟨Nat.le_refl _, Nat.le_refl _⟩, ?_⟩
    rintro _ h3 ⟨rfl, y1, y2, y3⟩
    refine ⟨rfl, _, rfl, 0, 0, _, e_copyRow30 hG d h3 ha hb hab, ⟨Nat.le_refl _, Nat.le_refl _⟩, ?_⟩
    rintro _ h4 ⟨rfl, z1, z2, z3⟩
    refine ⟨rfl, _, rfl, 0, 0, _, e_copyRow31 hG d h4 ha hb hab, ⟨Nat.le_refl _, Nat.le_refl _⟩, ?_⟩
    rintro _ h5 ⟨rfl, u1, u2, u3⟩
    refine ⟨rfl, _, rfl, 0, 0, _, e_copyRow32 hG d h5 ha hb hab, ⟨Nat.le_refl _, Nat.le_refl _⟩, ?_⟩
    rintro _ h6 ⟨rfl, v1, v2, v3⟩
    refine ⟨rfl, _, rfl, 0, 0, _, e_copyRow33 hG d h6 ha hb hab, ⟨Nat.le_refl _, Nat.le_refl _⟩, ?_⟩
    rintro _ h7 ⟨rfl, w1, w2, w3⟩
    refine ⟨rfl, _, rfl, 0, 0, _, e_copyRow34 hG d h7 ha hb hab, ⟨Nat.le_refl _, Nat.le_refl _⟩, ?_⟩
    rintro _ h8 ⟨rfl, t1, t2, t3⟩
    have f1 : ∀ q, q ≠ 27 → h1.1 q = h.1 q := fun q hq => c1.2 q (by rw [List.mem_singleton]; exact hq)
    have f2 : ∀ q, q ≠ 28 → h2.1 q = h1.1 q := fun q hq => x3.2 q (by rw [List.mem_singleton]; exact hq)
    have f3 : ∀ q, q ≠ 29 → h3.1 q = h2.1 q := fun q hq => y3.2 q (by rw [List.mem_singleton]; exact hq)
    have f4 : ∀ q, q ≠ 30 → h4.1 q = h3.1 q := fun q hq => z3.2 q (by rw [List.mem_singleton]; exact hq)
    have f5 : ∀ q, q ≠ 31 → h5.1 q = h4.1 q := fun q hq => u3.2 q (by rw [List.mem_singleton]; exact hq)
    have f6 : ∀ q, q ≠ 32 → h6.1 q = h5.1 q := fun q hq => v3.2 q (by rw [List.mem_singleton]; exact hq)
    have f7 : ∀ q, q ≠ 33 → h7.1 q = h6.1 q := fun q hq => w3.2 q (by rw [List.mem_singleton]; exact hq)
    have f8 : ∀ q, q ≠ 34 → h8.1 q = h7.1 q := fun q hq => t3.2 q (by rw [List.mem_singleton]; exact hq)
    have k27 : CP a b h h1 27 600 := ⟨c2, c3⟩
    have k28 : CP a b h1 h2 28 1 := ⟨x1, x2⟩
    have k29 : CP a b h2 h3 29 1 := ⟨y1, y2⟩
    have k30 : CP a b h3 h4 30 1 := ⟨z1, z2⟩
    have k31 : CP a b h4 h5 31 3 := ⟨u1, u2⟩
    have k32 : CP a b h5 h6 32 62 := ⟨v1, v2⟩
    have k33 : CP a b h6 h7 33 322 := ⟨w1, w2⟩
    have k34 : CP a b h7 h8 34 34 := ⟨t1, t2⟩
    refine ⟨rfl, rfl, k27.l ?_, (k28.l ?_).f ?_, (k29.l ?_).f ?_, (k30.l ?_).f ?_, (k31.l ?_).f ?_, (k32.l ?_).f ?_, (k33.l ?_).f ?_, k34.f ?_, ?_⟩
    · rw [f8 27 (by decide), f7 27 (by decide), f6 27 (by decide), f5 27 (by decide), f4 27 (by decide), f3 27 (by decide), f2 27 (by decide)]
    · rw [f8 28 (by decide), f7 28 (by decide), f6 28 (by decide), f5 28 (by decide), f4 28 (by decide), f3 28 (by decide)]
    · rw [f1 28 (by decide)]
    · rw [f8 29 (by decide), f7 29 (by decide), f6 29 (by decide), f5 29 (by decide), f4 29 (by decide)]
    · rw [f2 29 (by decide), f1 29 (by decide)]
    · rw [f8 30 (by decide), f7 30 (by decide), f6 30 (by decide), f5 30 (by decide)]
    · rw [f3 30 (by decide), f2 30 (by decide), f1 30 (by decide)]
    · rw [f8 31 (by decide), f7 31 (by decide), f6 31 (by decide)]
    · rw [f4 31 (by decide), f3 31 (by decide), f2 31 (by decide), f1 31 (by decide)]
    · rw [f8 32 (by decide), f7 32 (by decide)]
    · rw [f5 32 (by decide), f4 32 (by decide), f3 32 (by decide), f2 32 (by decide), f1 32 (by decide)]
    · rw [f8 33 (by decide)]
    · rw [f6 33 (by decide), f5 33 (by decide), f4 33 (by decide), f3 33 (by decide), f2 33 (by decide), f1 33 (by decide)]
    · rw [f7 34 (by decide), f6 34 (by decide), f5 34 (by decide), f4 34 (by decide), f3 34 (by decide), f2 34 (by decide), f1 34 (by decide)]
    · exact ((((((((c1.mono (by decide)).tr (x3.mono (by decide))).tr (y3.mono (by decide))).tr (z3.mono (by decide))).tr (u3.mono (by decide))).tr (v3.mono (by decide))).tr (w3.mono (by decide))).tr (t3.mono (by decide)))
  · intro i hi nx h' c1 c2 c3
    have ei : (600 : Int32) * nI b + nI i = nI (600 * b + i) := by rw [show (600 : Int32) = nI 600 from rfl, pk_mul, nI_add]
    have ej : (600 : Int32) * nI a + nI i = nI (600 * a + i) := by rw [show (600 : Int32) = nI 600 from rfl, pk_mul, nI_add]
    refine qm_wp_ok hA [2] 40 _ _ _ _ _ _ ⟨fun q => absurd q (nI_ge hi (by decide)), fun _ => ⟨rfl, _, rfl, rfl, _, rfl, rfl, ?_, rfl, ?_, ?_⟩⟩
    · show vp_in ((600 : Int32) * nI a + nI i) 2400
      rw [ej]; exact vp_in_nI (by omega) (by decide)
    · show vp_in ((600 : Int32) * nI b + nI i) 2400
      rw [ei]; exact vp_in_nI (by omega) (by decide)
    · have e0 : h'.1 27 (600 * a + i) = h.1 27 (600 * a + i) := c3 _ (by omega)
      obtain ⟨bb, b1, b2⟩ := hBy (600 * a + i) (by omega)
      have e3 : (h'.1 27 (600 * a + i)).toInt8.toInt32 = h'.1 27 (600 * a + i) := by rw [e0, b2, by_by bb b1]
      have k2 := nx (qm_si h' 27 (600 * b + i) (h'.1 27 (600 * a + i))) (c1.si (by decide)) (fun j hj => by
        rw [si_row]
        by_cases e : j = i
        · rw [e, up_s, e0]
        · rw [up_n _ _ (by omega)]; exact c2 j (by omega)) (fun j hj => by
        rw [si_row, up_n _ _ (by omega)]; exact c3 j hj)
      have e1 : ((600 : Int32) * nI b + nI i).toNatClampNeg = 600 * b + i := by rw [ei, nI_clamp (by omega)]
      have e2 : ((600 : Int32) * nI a + nI i).toNatClampNeg = 600 * a + i := by rw [ej, nI_clamp (by omega)]
      have k3 : qm_PW G mX10_copyAll z 2 0 0 [vr 26, vi (nI a), vi (nI b), vi (nI i + 1)] [] (qm_si h' 27 ((600 : Int32) * nI b + nI i).toNatClampNeg (h'.1 27 ((600 : Int32) * nI a + nI i).toNatClampNeg).toInt8.toInt32) := by rw [e1, e2, e3, nI_1]; exact k2
      exact k3
theorem a_image {G : qm_G} (hG : G.2.2.2.2 = true) (d : Nat) (h : qm_H) (hBy : BY (h.1 27)) (k : Int32) : qm_Ev G (d + 2) 0 0 qyX10_image [.ref 26, .int k] h (fun r h' => (inb k 3 = false ∧ r = some (.int 0) ∧ h' = qm_si h 26 0 0) ∨ (∃ s, s < 3 ∧ k = nI s ∧ r = some (.int 1) ∧ ∃ h1, CA 0 (s + 1) (qm_si h 26 0 0) h1 ∧ h' = qm_si h1 50 s 1)) := by
  refine qm_Ev.run (M := mX10_image) okX10_image rfl hG fun z => ?_
  refine ⟨rfl, trivial, 0, 0, _, e_in hG (d + 1) (qm_si h 26 0 0) k 0 2, ⟨Nat.le_refl _, Nat.le_refl _⟩, ?_⟩
  rintro _ _ ⟨rfl, rfl⟩
  refine b2_ne (fun hb => ?_) (fun hb => ⟨rfl, Or.inl ⟨hb, rfl, rfl⟩⟩)
  obtain ⟨s, hs, rfl⟩ := inb_e (m := 3) (by decide) hb
  have ec := e_copyAll hG d (qm_si h 26 0 0) (a := 0) (b := s + 1) (by decide) (by omega) (by omega) (by rw [si_ne _ _ _ (by decide)]; exact hBy)
  rw [← nI_1] at ec
  refine ⟨rfl, 0, 0, _, ec, ⟨Nat.le_refl _, Nat.le_refl _⟩, ?_⟩
  rintro _ h1 ⟨rfl, c⟩
  refine ⟨rfl, _, rfl, rfl, (vp_in_nI (by omega) (by decide) : vp_in (nI s) 3), rfl, Or.inr ⟨s, hs, rfl, rfl, h1, c, ?_⟩⟩
  rw [nI_clamp (by omega)]; rfl
theorem a_again {G : qm_G} (hG : G.2.2.2.2 = true) (d : Nat) (h : qm_H) (hBy : BY (h.1 27)) (sv : Nat → Bool) (hsv : ∀ s, s < 3 → h.1 50 s = b2 (sv s)) (k : Int32) : qm_Ev G (d + 2) 0 0 qyX10_again [.ref 26, .int k] h (fun r h' => ((inb k 3 = false ∨ ∃ s, s < 3 ∧ k = nI s ∧ sv s = false) ∧ r = some (.int 0) ∧ h' = qm_si h 26 0 0) ∨ (∃ s, s < 3 ∧ k = nI s ∧ sv s = true ∧ r = some (.int 1) ∧ CA (s + 1) 0 (qm_si h 26 0 0) h')) := by
  refine qm_Ev.run (M := mX10_again) okX10_again rfl hG fun z => ?_
  refine ⟨rfl, trivial, 0, 0, _, e_in hG (d + 1) (qm_si h 26 0 0) k 0 2, ⟨Nat.le_refl _, Nat.le_refl _⟩, ?_⟩
  rintro _ _ ⟨rfl, rfl⟩
  refine b2_eq (fun hb => ?_) (fun hb => ⟨rfl, Or.inl ⟨Or.inl hb, rfl, rfl⟩⟩)
  obtain ⟨s, hs, rfl⟩ := inb_e (m := 3) (by decide) hb
  have e50 : (qm_si h 26 0 0).1 50 (nI s).toNatClampNeg = b2 (sv s) := by rw [nI_clamp (by omega), si_ne _ _ _ (by decide)]; exact hsv s hs
  refine ⟨rfl, _, rfl, rfl, (vp_in_nI (by omega) (by decide) : vp_in (nI s) 3), fun (q : ¬ (qm_si h 26 0 0).1 50 (nI s).toNatClampNeg = 0) => ?_, fun (q : (qm_si h 26 0 0).1 50 (nI s).toNatClampNeg = 0) => ⟨rfl, Or.inl ⟨Or.inr ⟨s, hs, rfl, ?_⟩, rfl, rfl⟩⟩⟩
  · rw [e50] at q
    have hsv1 : sv s = true := by
      cases z : sv s
      · rw [z] at q; exact absurd rfl q
      · rfl
    have ec := e_copyAll hG d (qm_si h 26 0 0) (a := s + 1) (b := 0) (by omega) (by decide) (by omega) (by rw [si_ne _ _ _ (by decide)]; exact hBy)
    rw [← nI_1] at ec
    refine ⟨rfl, 0, 0, _, ec, ⟨Nat.le_refl _, Nat.le_refl _⟩, ?_⟩
    rintro _ h1 ⟨rfl, c⟩
    exact ⟨rfl, Or.inr ⟨s, hs, rfl, hsv1, rfl, c⟩⟩
  · rw [e50] at q
    cases z : sv s
    · rfl
    · rw [z] at q; exact absurd q (by decide)
