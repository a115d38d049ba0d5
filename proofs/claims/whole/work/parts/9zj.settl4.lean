/-! the class: a town settles: what sets are worth -/
theorem lo_ok : ∀ s, s < 64 → 0 < s → tz s < 6 ∧ s &&& (s - 1) < s ∧ nI s &&& (nI s - 1) = nI (s &&& (s - 1)) ∧ ∀ f, f < 6 → bit (nI s) (nI f) = (bit (nI (s &&& (s - 1))) (nI f) || decide (f = tz s)) ∧ (f = tz s → bit (nI (s &&& (s - 1))) (nI f) = false) := by decide +kernel
theorem worthN_lo {w : Nat → Int32} {s : Nat} (hs : s < 64) (h0 : 0 < s) : ∀ k, k ≤ 6 → worthN w (nI s) k = worthN w (nI (s &&& (s - 1))) k + (if tz s < k then wN w (tz s) else 0)
  | 0, _ => rfl
  | k + 1, hk => by
    obtain ⟨-, -, -, lo⟩ := lo_ok s hs h0
    obtain ⟨l1, l2⟩ := lo k (by omega)
    rw [worthN, worthN, worthN_lo hs h0 k (by omega), l1]
    by_cases e : k = tz s
    · rw [l2 e, decide_eq_true e, ← e, if_neg (Nat.lt_irrefl _), if_pos (Nat.lt_succ_self _)]
      simp
    · rw [decide_eq_false e, Bool.or_false]
      by_cases x : tz s < k
      · rw [if_pos x, if_pos (show tz s < k + 1 by omega)]; omega
      · rw [if_neg x, if_neg (show ¬ tz s < k + 1 by omega)]; omega
theorem worthN_0 {w : Nat → Int32} : ∀ k, k ≤ 6 → worthN w (nI 0) k = 0
  | 0, _ => rfl
  | k + 1, hk => by
    rw [worthN, worthN_0 k (by omega), if_neg (by rw [show nI 0 = (0 : Int32) from rfl, bit_0 (by omega)]; decide)]
theorem st_c {G : qm_G} (hG : G.2.2.2.2 = true) {d : Nat} {h : qm_H} {P : Nat} {T : Nat → Int32} {z : qm_Z} {U : Option Value → qm_H → Prop} (hA : qm_At G true mX8_settle z (d + 1) 0 0 U) (hH : TH h P) (hw : ∀ j, j < 6 → h.1 (P + 1) j = nI (wN T j)) (h7 : h.1 (P + 7) 0 = 0) (k111 : ∀ h', sb [P + 7] h h' → (∀ s, s < 64 → h'.1 (P + 7) s = nI (worthN T (nI s) 6)) → qm_PW G mX8_settle z 111 0 0 [vr P, vu, vu] [] (h')) : qm_PW G mX8_settle z 79 0 0 [vr P, vu, vu] [] (h) := by
  have go := qm_for (P := fun i => ∀ h', sb [P + 7] h h' → (∀ s, s < 1 + i → h'.1 (P + 7) s = nI (worthN T (nI s) 6)) → qm_PW G mX8_settle z 81 0 0 [vr P, vi (nI (1 + i)), vu] [] (h')) (N := 63) ?_ ?_
  · refine qm_wp_ok hA [81] 10 _ _ _ _ _ _ (go h sb.rf (fun s hs => ?_))
    obtain rfl : s = 0 := by omega
    rw [h7, worthN_0 6 (by decide)]; rfl
  · intro h' c1 c2
    exact qm_wp_ok hA [111] 10 _ _ _ _ _ _ ⟨fun _ => qm_PW.mask [true, false, false] (k111 h' c1 c2), fun q => absurd (by decide) q⟩
  · intro i hi nx h' c1 c2
    obtain ⟨s, hs⟩ : ∃ s, s = 1 + i := ⟨_, rfl⟩
    rw [← hs] at c2 ⊢
    obtain ⟨l1, l2, l3, -⟩ := lo_ok s (by omega) (by omega)
    have H1 := hH.sb c1
    obtain ⟨r7, a7, n7⟩ := H1.2.2 7 (by decide) (by decide)
    obtain ⟨r1, a1, n1⟩ := H1.2.2 1 (by decide) (by decide)
    have i7 : ∀ j, j < 64 → vp_in (nI j) (qm_kn true h' (P + 7)).2 := fun j hj => by rw [n7, if_pos rfl]; exact vp_in_nI hj (by decide)
    have i1 : ∀ j, j < 6 → vp_in (nI j) (qm_kn true h' (P + 1)).2 := fun j hj => by rw [n1, if_neg (by decide)]; exact vp_in_nI hj (by decide)
    have es : (nI s).toNatClampNeg = s := nI_clamp (by omega)
    have vl : h'.1 (P + 7) (nI s &&& (nI s - 1)).toNatClampNeg = nI (worthN T (nI (s &&& (s - 1))) 6) := by rw [l3, nI_clamp (by omega)]; exact c2 _ l2
    have vt : h'.1 (P + 1) (nI (tz s)).toNatClampNeg = nI (wN T (tz s)) := by rw [nI_clamp (by omega), c1.2 (P + 1) (fun z => by simp at z)]; exact hw _ l1
    have k := nx (qm_si h' (P + 7) (nI s).toNatClampNeg (h'.1 (P + 7) (nI s &&& (nI s - 1)).toNatClampNeg + h'.1 (P + 1) (nI (tz s)).toNatClampNeg)) (c1.si (by simp)) (fun q hq => by
      rw [es, vl, vt, nI_add]
      by_cases e : q = s
      · rw [e, si_s, worthN_lo (s := s) (by omega) (by omega) 6 (Nat.le_refl _), if_pos l1]
      · rw [si_o _ _ _ e]; exact c2 q (by omega))
    rw [show 1 + (i + 1) = s + 1 by omega, ← nI_1 s] at k
    refine qm_wp_ok hA [81] 60 _ _ _ _ _ _ ⟨fun q => absurd q (nI_ge (by omega : s < 64) (by decide)), fun _ => ⟨0, 0, _, c_tz hG _ h' (by omega : s < 64) (by omega), ⟨Nat.le_refl _, Nat.le_refl _⟩, ?_⟩⟩
    rintro _ _ ⟨rfl, rfl⟩
    exact ⟨H1.2.1, _, r7, H1.2.1, _, r7, a7, (by rw [l3]; exact i7 _ (by omega)), fun q => absurd q (nI_ge l1 (by decide)), fun _ => ⟨H1.2.1, _, r1, a1, i1 _ l1, a7, i7 s (by omega), qm_PW.mask [true, true, false] k⟩⟩
