/-! the class: a new town's making -/
theorem TI.l {h0 h : qm_H} {P k j : Nat} {v : Int64} (t : TI h0 h P k) : TI h0 (qm_sl h P j v) P k := by
  obtain ⟨t1, t2, t3, t4, t5, t6, t7⟩ := t
  refine ⟨t1, t2, fun q hq => ?_, t4, t5, t6, t7⟩
  obtain ⟨x1, x2, x3, x4⟩ := t3 q hq
  exact ⟨x1, (up_n _ _ (Nat.ne_of_lt hq)).trans x2, x3, x4⟩
def w6 (h : qm_H) (P : Nat) : qm_H := qm_si (qm_si (qm_si (qm_si (qm_si (qm_si (qm_nw (qm_si h P 0 0) 10 6) (P + 1) 0 1) (P + 1) 1 1) (P + 1) 2 1) (P + 1) 3 1) (P + 1) 4 1) (P + 1) 5 1
theorem TI.w {h0 : qm_H} {a : Nat → Nat → Int32} {b : Nat → Nat → Int64} {c : Nat → Nat → Option Nat} {k : Nat → Nat × Nat} {P : Nat} (t : TI h0 (a, b, c, k, P + 1) P 0) : TI h0 (qm_sr (w6 (a, b, c, k, P + 1) P) P 1 (some (P + 1))) P 1 := by
  obtain ⟨t1, t2, t3, t4, t5, t6, t7⟩ := t
  have n0 : P ≠ P + 1 := by omega
  have k3 : ∀ q, q ≠ P + 1 → (w6 (a, b, c, k, P + 1) P).1 q = (qm_si (a, b, c, k, P + 1) P 0 0).1 q := fun q hq => by
    rw [w6, si_ne _ _ _ hq, si_ne _ _ _ hq, si_ne _ _ _ hq, si_ne _ _ _ hq, si_ne _ _ _ hq, si_ne _ _ _ hq]
    exact up_n _ _ hq
  refine ⟨rfl, (up_n k _ n0).trans t2, fun q hq => ?_, fun j j1 j2 => ?_, ?_, fun _ j hj => ?_, fun i i1 i2 => by omega⟩
  · obtain ⟨x1, x2, x3, x4⟩ := t3 q hq
    refine ⟨?_, (up_n b _ (show q ≠ P + 1 by omega)).trans x2, (up_n _ _ (by omega)).trans ((up_n c _ (show q ≠ P + 1 by omega)).trans x3), (up_n k _ (show q ≠ P + 1 by omega)).trans x4⟩
    exact (k3 q (by omega)).trans ((si_ne _ _ _ (by omega)).trans x1)
  · obtain rfl : j = 1 := by omega
    exact ⟨(congrFun (up_s _ _ _) 1).trans (up_s _ _ _), up_s k _ _⟩
  · exact (congrFun (k3 P n0) 0).trans (si_s _ _ _ _)
  · show (w6 (a, b, c, k, P + 1) P).1 (P + 1) j = 1
    rcases (by omega : j = 0 ∨ j = 1 ∨ j = 2 ∨ j = 3 ∨ j = 4 ∨ j = 5) with e | e | e | e | e | e <;> subst e <;> rw [w6] <;> simp only [si_row, va_up] <;> rfl
theorem c_townInit {G : qm_G} (hG : G.2.2.2.2 = true) (d : Nat) (h : qm_H) {h0 : qm_H} {P : Nat} (h5 : 51 ≤ P) (hz : P + 8 < 1000000) (t0 : TI h0 h P 0) : qm_Ev G (d + 1) 7 100 qyX8_init [.ref P] h (fun r h' => r = none ∧ TI h0 h' P 7 ∧ h'.2.1 P 8 = -1) := by
  refine qm_Ev.by (M := mX8_init) okX8_init (Nat.le_of_ble_eq_true rfl) hG fun z hA => ?_
  have p57 : ∀ h', TI h0 h' P 7 → qm_PW G mX8_init z 57 7 100 [vr P] [] h' := by
    intro h' t
    refine qm_wp_ok hA [] 10 _ _ _ _ _ _ ⟨t.is h5, rfl, rfl, t.l, ?_⟩
    exact sl_s _ _ _ _
  have p53 : ∀ h', TI h0 h' P 6 → qm_PW G mX8_init z 53 6 36 [vr P] [] h' := by
    intro h' t
    have nx := t.nx (by decide)
    have ti := t.is h5
    obtain ⟨a, b, c, k, n⟩ := h'
    have e : n = P + 1 + 6 := t.1
    subst e
    exact qm_wp_ok hA [57] 20 _ _ _ _ _ _ ⟨by decide, by decide, (by omega : P + 1 + 6 < 1000000), by decide, by decide, (is_hi h5).mpr ⟨by show P < P + 1 + 6 + 1; omega, by show (va_up k (P + 1 + 6) (10, 64) P).1 = 6; rw [up_n _ _ (by omega)]; exact congrArg Prod.fst t.2.1⟩, wr_hi h5, p57 _ nx⟩
  have p49 : ∀ h', TI h0 h' P 5 → qm_PW G mX8_init z 49 5 30 [vr P] [] h' := by
    intro h' t
    have nx := t.nx (by decide)
    have ti := t.is h5
    obtain ⟨a, b, c, k, n⟩ := h'
    have e : n = P + 1 + 5 := t.1
    subst e
    exact qm_wp_ok hA [53] 20 _ _ _ _ _ _ ⟨by decide, by decide, (by omega : P + 1 + 5 < 1000000), by decide, by decide, (is_hi h5).mpr ⟨by show P < P + 1 + 5 + 1; omega, by show (va_up k (P + 1 + 5) (10, 6) P).1 = 6; rw [up_n _ _ (by omega)]; exact congrArg Prod.fst t.2.1⟩, wr_hi h5, p53 _ nx⟩
  have p45 : ∀ h', TI h0 h' P 4 → qm_PW G mX8_init z 45 4 24 [vr P] [] h' := by
    intro h' t
    have nx := t.nx (by decide)
    have ti := t.is h5
    obtain ⟨a, b, c, k, n⟩ := h'
    have e : n = P + 1 + 4 := t.1
    subst e
    exact qm_wp_ok hA [49] 20 _ _ _ _ _ _ ⟨by decide, by decide, (by omega : P + 1 + 4 < 1000000), by decide, by decide, (is_hi h5).mpr ⟨by show P < P + 1 + 4 + 1; omega, by show (va_up k (P + 1 + 4) (10, 6) P).1 = 6; rw [up_n _ _ (by omega)]; exact congrArg Prod.fst t.2.1⟩, wr_hi h5, p49 _ nx⟩
  have p41 : ∀ h', TI h0 h' P 3 → qm_PW G mX8_init z 41 3 18 [vr P] [] h' := by
    intro h' t
    have nx := t.nx (by decide)
    have ti := t.is h5
    obtain ⟨a, b, c, k, n⟩ := h'
    have e : n = P + 1 + 3 := t.1
    subst e
    exact qm_wp_ok hA [45] 20 _ _ _ _ _ _ ⟨by decide, by decide, (by omega : P + 1 + 3 < 1000000), by decide, by decide, (is_hi h5).mpr ⟨by show P < P + 1 + 3 + 1; omega, by show (va_up k (P + 1 + 3) (10, 6) P).1 = 6; rw [up_n _ _ (by omega)]; exact congrArg Prod.fst t.2.1⟩, wr_hi h5, p45 _ nx⟩
  have p37 : ∀ h', TI h0 h' P 2 → qm_PW G mX8_init z 37 2 12 [vr P] [] h' := by
    intro h' t
    have nx := t.nx (by decide)
    have ti := t.is h5
    obtain ⟨a, b, c, k, n⟩ := h'
    have e : n = P + 1 + 2 := t.1
    subst e
    exact qm_wp_ok hA [41] 20 _ _ _ _ _ _ ⟨by decide, by decide, (by omega : P + 1 + 2 < 1000000), by decide, by decide, (is_hi h5).mpr ⟨by show P < P + 1 + 2 + 1; omega, by show (va_up k (P + 1 + 2) (10, 6) P).1 = 6; rw [up_n _ _ (by omega)]; exact congrArg Prod.fst t.2.1⟩, wr_hi h5, p41 _ nx⟩
  have p33 : ∀ h', TI h0 h' P 1 → qm_PW G mX8_init z 33 1 6 [vr P] [] h' := by
    intro h' t
    have nx := t.nx (by decide)
    have ti := t.is h5
    obtain ⟨a, b, c, k, n⟩ := h'
    have e : n = P + 1 + 1 := t.1
    subst e
    exact qm_wp_ok hA [37] 20 _ _ _ _ _ _ ⟨by decide, by decide, (by omega : P + 1 + 1 < 1000000), by decide, by decide, (is_hi h5).mpr ⟨by show P < P + 1 + 1 + 1; omega, by show (va_up k (P + 1 + 1) (10, 6) P).1 = 6; rw [up_n _ _ (by omega)]; exact congrArg Prod.fst t.2.1⟩, wr_hi h5, p37 _ nx⟩
  have t00 := t0
  obtain ⟨a, b, c, k, n⟩ := h
  have e : n = P + 1 := t0.1
  subst e
  have ti := t0.is h5
  have i1 : ∀ x, qm_is true (x, va_up b (P + 1) (fun _ => 0), va_up c (P + 1) (fun _ => none), va_up k (P + 1) (10, 6), P + 1 + 1) (P + 1) 10 := fun x => (is_hi (by omega)).mpr ⟨by show P + 1 < P + 1 + 1; omega, congrArg Prod.fst (up_s k _ _)⟩
  have e1 : ∀ x, (qm_kn true (x, va_up b (P + 1) (fun _ => 0), va_up c (P + 1) (fun _ => none), va_up k (P + 1) (10, 6), P + 1 + 1) (P + 1)).2 = 6 := fun x => by rw [kn_hi (by omega)]; exact congrArg Prod.snd (up_s k _ _)
  have i2 : ∀ x (j : Int32), vp_in j 6 → vp_in j (qm_kn true (x, va_up b (P + 1) (fun _ => 0), va_up c (P + 1) (fun _ => none), va_up k (P + 1) (10, 6), P + 1 + 1) (P + 1)).2 := fun x j hj => by rw [e1]; exact hj
  have i3 : ∀ x, qm_is true (x, va_up b (P + 1) (fun _ => 0), va_up c (P + 1) (fun _ => none), va_up k (P + 1) (10, 6), P + 1 + 1) P 6 := fun x => (is_hi h5).mpr ⟨by show P < P + 1 + 1; omega, by show (va_up k (P + 1) (10, 6) P).1 = 6; rw [up_n _ _ (by omega)]; exact congrArg Prod.fst t0.2.1⟩
  exact qm_wp_ok hA [33] 60 _ _ _ _ _ _ ⟨ti, trivial, by decide, by decide, (by omega : P + 1 < 1000000), by decide, by decide, i1 _, i2 _ _ (vp_in_nI (by decide) (by decide) : vp_in (nI 0) 6), i1 _, i2 _ _ (vp_in_nI (by decide) (by decide) : vp_in (nI 1) 6), i1 _, i2 _ _ (vp_in_nI (by decide) (by decide) : vp_in (nI 2) 6), i1 _, i2 _ _ (vp_in_nI (by decide) (by decide) : vp_in (nI 3) 6), i1 _, i2 _ _ (vp_in_nI (by decide) (by decide) : vp_in (nI 4) 6), i1 _, i2 _ _ (vp_in_nI (by decide) (by decide) : vp_in (nI 5) 6), i3 _, wr_hi h5, p33 _ t00.w⟩
