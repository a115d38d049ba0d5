/-! the class: a town settles: sets with all that follows, before the town stands -/
theorem c_withAllK {G : qm_G} (hG : G.2.2.2.2 = true) (d : Nat) (h : qm_H) {P : Nat} {w : Nat → Int32} (t : TH h P) (hw : ∀ f, f < 6 → h.1 (P + 2) f = w (7 + f)) (x : Int32) : qm_Ev G (d + 1) 0 0 qyX8_withAll [.ref P, .int x] h (fun r h' => r = some (.int (s_closed w x 6)) ∧ h = h') := by
  obtain ⟨-, ti, t2⟩ := t
  obtain ⟨r2, a2, n2⟩ := t2 2 (by decide) (by decide)
  have ln : ∀ i, i < 6 → vp_in (nI i) (qm_kn true h (P + 2)).2 := fun i hi => by
    rw [n2, if_neg (by decide)]; exact vp_in_nI hi (by decide)
  refine qm_Ev.by (M := mX8_withAll) okX8_withAll (Nat.le_of_ble_eq_true rfl) hG fun z hA => ?_
  refine qm_wp_ok hA [4] 20 _ _ _ _ _ _ ?_
  refine qm_for (P := fun f => qm_PW G mX8_withAll z 4 0 0 [vr P, vi x, vi (s_closed w x f), vi (nI f)] [] (h)) (N := 6) ?_ ?_
  · exact qm_wp_ok hA [] 20 _ _ _ _ _ _ ⟨fun _ => ⟨trivial, rfl, rfl⟩, fun q => absurd (by decide) q⟩
  · intro f hf key
    rw [← nI_1, s_closed] at key
    have ev : h.1 (P + 2) (nI f).toNatClampNeg = w (7 + f) := by rw [nI_clamp (by omega)]; exact hw f hf
    refine qm_wp_ok hA [4] 40 _ _ _ _ _ _ ⟨fun q => absurd q (nI_ge hf (by decide)), fun _ => ⟨0, 0, _, c_isIn hG d h x (nI f), ⟨Nat.le_refl _, Nat.le_refl _⟩, ?_⟩⟩
    rintro _ _ ⟨rfl, rfl⟩
    refine b2_eq (fun hb => ⟨ti, _, r2, a2, ln f hf, ?_⟩) (fun hb => ?_)
    · rw [if_pos hb, ← ev] at key
      exact key
    · rw [if_neg (by rw [hb]; decide)] at key
      exact key
