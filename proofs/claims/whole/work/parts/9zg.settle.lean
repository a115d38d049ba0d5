/-! the class: a town settles: what follows -/
theorem st_a {G : qm_G} (hG : G.2.2.2.2 = true) {d : Nat} {h : qm_H} {P : Nat} {T : Nat → Int32} {z : qm_Z} {U : Option Value → qm_H → Prop} (hA : qm_At G true mX8_settle z (d + 1) 0 0 U) (hH : TH h P) (hK : TK h P T) (k34 : ∀ h', sb [P + 2] h h' → TK h' P (clB T 6) → qm_PW G mX8_settle z 34 0 0 [vr P, vu, vu] [] (h')) : qm_PW G mX8_settle z 2 0 0 [vr P, vi (nI 0), vu] [] (h) := by
  refine qm_for (P := fun b => ∀ h', sb [P + 2] h h' → TK h' P (clB T b) → qm_PW G mX8_settle z 2 0 0 [vr P, vi (nI b), vu] [] (h')) (N := 6) ?_ ?_ h sb.rf hK
  · intro h' c1 c2
    exact qm_wp_ok hA [34] 10 _ _ _ _ _ _ ⟨fun _ => qm_PW.mask [true, false, false] (k34 h' c1 c2), fun q => absurd (by decide) q⟩
  · intro b hb nx h' c1 c2
    refine qm_wp_ok hA [7] 10 _ _ _ _ _ _ ⟨fun q => absurd q (nI_ge hb (by decide)), fun _ => ?_⟩
    refine qm_for (P := fun f => ∀ h2, sb [P + 2] h h2 → TK h2 P (clF b (clB T b) f) → qm_PW G mX8_settle z 7 0 0 [vr P, vi (nI b), vi (nI f)] [] (h2)) (N := 6) ?_ ?_ h' c1 c2
    · intro h2 d1 d2
      have k := nx h2 d1 d2
      rw [← nI_1] at k
      exact qm_wp_ok hA [2] 10 _ _ _ _ _ _ ⟨fun _ => qm_PW.mask [true, true, false] k, fun q => absurd (by decide) q⟩
    · intro f hf nx2 h2 d1 d2
      have H2 := hH.sb d1
      have r2 := (H2.2.2 2 (by decide) (by decide)).1
      have a2 := (H2.2.2 2 (by decide) (by decide)).2.1
      have ln : ∀ i, i < 6 → vp_in (nI i) (qm_kn true h2 (P + 2)).2 := fun i hi => by
        rw [(H2.2.2 2 (by decide) (by decide)).2.2, if_neg (by decide)]; exact vp_in_nI hi (by decide)
      have ef : (nI f).toNatClampNeg = f := nI_clamp (by omega)
      have eb : (nI b).toNatClampNeg = b := nI_clamp (by omega)
      obtain ⟨T2, hT2⟩ : ∃ T2, T2 = clF b (clB T b) f := ⟨_, rfl⟩
      rw [← hT2] at d2
      have vf : h2.1 (P + 2) (nI f).toNatClampNeg = T2 (7 + f) := by rw [ef]; exact (d2.2 f hf).2.1
      have vb : h2.1 (P + 2) (nI b).toNatClampNeg = T2 (7 + b) := by rw [eb]; exact (d2.2 b hb).2.1
      have m28 : ∀ y, y = (if bit (T2 (7 + f)) (nI b) then T2 (7 + b) else 0) → qm_PW G mX8_settle z 28 0 0 [vr P, vi (nI b), vi (nI f)] [.int y, .int (h2.1 (P + 2) (nI f).toNatClampNeg), .int (nI f), .ref (P + 2)] (h2) := fun y hy => by
        have k := nx2 (qm_si h2 (P + 2) (nI f).toNatClampNeg (h2.1 (P + 2) (nI f).toNatClampNeg ||| y)) (d1.si (List.mem_singleton.mpr rfl)) (by
          have q := d2.put (k := 2) (i := f) (by decide) (by decide) hf (T2 (7 + f) ||| y)
          rw [vf, ef]
          rw [hy] at q ⊢
          rw [hT2] at q ⊢
          exact q)
        rw [← nI_1 f] at k
        exact qm_wp_ok hA [7] 10 _ _ _ _ _ _ ⟨a2, ln f hf, k⟩
      refine qm_wp_ok hA [28] 40 _ _ _ _ _ _ ⟨fun q => absurd q (nI_ge hf (by decide)), fun _ => ⟨H2.2.1, _, r2, a2, ln f hf, H2.2.1, _, r2, a2, ln f hf, 0, 0, _, c_isIn hG _ h2 _ _, ⟨Nat.le_refl _, Nat.le_refl _⟩, ?_⟩⟩
      rintro _ _ ⟨rfl, rfl⟩
      refine b2_eq (fun t => ⟨H2.2.1, _, r2, a2, ln b hb, m28 _ ?_⟩) (fun t => m28 _ ?_)
      · rw [vf] at t
        rw [if_pos t]; exact vb
      · rw [vf] at t
        rw [if_neg (by rw [t]; decide)]
