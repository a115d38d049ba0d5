/-! the class: a new town -/
def tl7 (k : Nat) : Nat := if k = 7 then 64 else 6
/-- a town in the making: k of its rows are there -/
def TI (h0 h : qm_H) (P k : Nat) : Prop := h.2.2.2.2 = P + 1 + k ∧ h.2.2.2.1 P = (6, 0) ∧ (∀ q, q < P → h.1 q = h0.1 q ∧ h.2.1 q = h0.2.1 q ∧ h.2.2.1 q = h0.2.2.1 q ∧ h.2.2.2.1 q = h0.2.2.2.1 q) ∧ (∀ j, 1 ≤ j → j ≤ k → h.2.2.1 P j = some (P + j) ∧ h.2.2.2.1 (P + j) = (10, tl7 j)) ∧ h.1 P 0 = 0 ∧ (1 ≤ k → ∀ j, j < 6 → h.1 (P + 1) j = 1) ∧ ∀ i, 2 ≤ i → i ≤ k → ∀ j, h.1 (P + i) j = 0
theorem TI.nx {h0 h : qm_H} {P k : Nat} (t : TI h0 h P k) (hk : 1 ≤ k) : TI h0 (qm_sr (qm_nw h 10 (tl7 (k + 1))) P (k + 1) (some (P + (k + 1)))) P (k + 1) := by
  obtain ⟨t1, t2, t3, t4, t5, t6, t7⟩ := t
  have e : P + (k + 1) = h.2.2.2.2 := by omega
  have n0 : P ≠ h.2.2.2.2 := by omega
  have k3 : ∀ q, q ≠ h.2.2.2.2 → (qm_sr (qm_nw h 10 (tl7 (k + 1))) P (k + 1) (some (P + (k + 1)))).1 q = h.1 q := fun q hq => up_n _ _ hq
  have k4 : ∀ q, q ≠ h.2.2.2.2 → (qm_sr (qm_nw h 10 (tl7 (k + 1))) P (k + 1) (some (P + (k + 1)))).2.1 q = h.2.1 q := fun q hq => up_n _ _ hq
  have k5 : ∀ q, q ≠ h.2.2.2.2 → (qm_sr (qm_nw h 10 (tl7 (k + 1))) P (k + 1) (some (P + (k + 1)))).2.2.2.1 q = h.2.2.2.1 q := fun q hq => up_n _ _ hq
  have k6 : ∀ q, q ≠ P → q ≠ h.2.2.2.2 → (qm_sr (qm_nw h 10 (tl7 (k + 1))) P (k + 1) (some (P + (k + 1)))).2.2.1 q = h.2.2.1 q := fun q hp hq => (up_n _ _ hp).trans (up_n _ _ hq)
  have k7 : (qm_sr (qm_nw h 10 (tl7 (k + 1))) P (k + 1) (some (P + (k + 1)))).2.2.1 P = va_up (h.2.2.1 P) (k + 1) (some (P + (k + 1))) := by
    refine (up_s _ _ _).trans ?_
    show va_up (va_up h.2.2.1 h.2.2.2.2 _ P) _ _ = _
    rw [up_n _ _ n0]
  refine ⟨by show h.2.2.2.2 + 1 = _; omega, by rw [k5 _ n0]; exact t2, fun q hq => ?_, fun j j1 j2 => ?_, by rw [k3 _ n0]; exact t5, fun _ j hj => ?_, fun i i1 i2 j => ?_⟩
  · rw [k3 _ (by omega), k4 _ (by omega), k5 _ (by omega), k6 _ (by omega) (by omega)]; exact t3 q hq
  · rw [k7]
    by_cases c : j = k + 1
    · subst c
      refine ⟨up_s _ _ _, ?_⟩
      rw [e]; exact up_s _ _ _
    · rw [up_n _ _ c, k5 _ (by omega)]; exact t4 j j1 (by omega)
  · rw [k3 _ (by omega)]; exact t6 hk j hj
  · by_cases c : i = k + 1
    · subst c
      have : (qm_sr (qm_nw h 10 (tl7 (k + 1))) P (k + 1) (some (P + (k + 1)))).1 (P + (k + 1)) = fun _ => 0 := by rw [e]; exact up_s _ _ _
      rw [this]
    · rw [k3 _ (by omega)]; exact t7 i i1 (by omega) j
theorem TI.is {h0 h : qm_H} {P k : Nat} (t : TI h0 h P k) (h5 : 51 ≤ P) : qm_is true h P 6 := (is_hi h5).mpr ⟨by rw [t.1]; omega, by rw [t.2.1]⟩
theorem wr_hi {p k : Nat} {o : Option Nat} (hp : 51 ≤ p) : qm_wr true p k o := by
  unfold qm_wr
  have e : (bif true then ((qm_SK[p]?).bind (fun r => r[k]?)).join else none) = none := by
    rw [List.getElem?_eq_none (Nat.le_trans qm_SKle hp)]
    rfl
  rw [e]; trivial
theorem TI.th {h0 h : qm_H} {P : Nat} (t : TI h0 h P 7) (h5 : 51 ≤ P) : TH h P ∧ TK h P (tdI 0) := by
  have ti := t.is h5
  obtain ⟨t1, t2, t3, t4, t5, t6, t7⟩ := t
  refine ⟨⟨⟨h5, by omega⟩, ti, fun k a b => ?_⟩, t5, fun j hj => ?_⟩
  · obtain ⟨x, y⟩ := t4 k a b
    exact ⟨by rw [rd_hi h5]; exact x, (is_hi (by omega)).mpr ⟨by omega, by rw [y]⟩, by rw [kn_hi (by omega), y]; rfl⟩
  · refine ⟨by rw [t6 (by decide) j hj, tdI, if_pos ⟨rfl, by omega, by omega⟩], ?_, ?_, ?_, ?_⟩
    · rw [t7 2 (by decide) (by decide), tdI, if_neg (by omega)]
    · rw [t7 3 (by decide) (by decide), tdI, if_neg (by omega)]
    · rw [t7 4 (by decide) (by decide), tdI, if_neg (by omega)]
    · rw [t7 5 (by decide) (by decide), tdI, if_neg (by omega)]
