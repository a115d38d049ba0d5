/-! the class: a code -/
theorem c_codeLength {G : qm_G} (hG : G.2.2.2.2 = true) (d : Nat) (h : qm_H) {P n : Nat} {w : Nat → Int32} (t : TO h P w n) (v : VT w n) (hz : h.2.2.2.2 < 1000000) : qm_Ev G (d + 1) 1 6 qyX8_codeLength [.ref P] h (fun r h' => r = some (.int (s_code w)) ∧ gr [] 1 h h') := by
  have h5 : 51 ≤ h.2.2.2.2 := by have := t.1; omega
  obtain ⟨Q, hQ⟩ : ∃ Q, Q = h.2.2.2.2 := ⟨_, rfl⟩
  obtain ⟨h1, hh1⟩ : ∃ h1, h1 = qm_cl h (P + 1) 6 := ⟨_, rfl⟩
  have c1 : qm_is true h1 Q 10 := by rw [hh1, hQ]; exact (is_cl h5).1
  have c2 : qm_kn true h1 Q = (10, 6) := by rw [hh1, hQ]; exact (is_cl h5).2
  have c3 : gr [] 1 h h1 := by rw [hh1]; exact cl_gr _ _ _ _
  have hv : ∀ f, f < 6 → (w (1 + f)).toNatClampNeg ≤ 20 ∧ w (1 + f) = nI (w (1 + f)).toNatClampNeg := fun f hf => by
    obtain ⟨x, x1, x2⟩ := v.2.2.1 f hf
    rw [x2, nI_clamp (by omega)]
    exact ⟨x1, rfl⟩
  have c4 : ∀ j, j < 6 → h1.1 Q j = nI (w (1 + j)).toNatClampNeg := fun j hj => by
    have e : h1.1 Q = h.1 (P + 1) := by rw [hh1, hQ]; exact up_s _ _ _
    rw [e, ← (hv j hj).2]
    exact (t.2.2.2.2.1 j hj).1
  refine qm_Ev.by (M := mX8_codeLength) okX8_codeLength (Nat.le_of_ble_eq_true rfl) hG fun z hA => ?_
  refine qm_wp_ok hA [2] 20 _ _ _ _ _ _ ⟨t.is, _, t.rd (k := 1) (by decide) (by decide), ?_⟩
  refine sp_clone hA rfl rfl rfl (k1 := 820) (by decide +kernel) (Nat.le_of_ble_eq_true rfl) (n := 6) (t.ar (k := 1) (by decide) (by decide)) (t.2.2.2.1 1 (by decide) (by decide)).2.2 hz (Nat.le_refl _) (Nat.le_refl _) ?_
  rw [← hQ, ← hh1]
  refine sp_cast hA rfl rfl rfl (k1 := 826) (by decide +kernel) c1 ?_
  have main : ∀ r, r ≤ 5 → ∀ (h' : qm_H) (S : Nat) (f : Nat → Nat) (l : List Nat), sb [Q] h1 h' → (∀ j, j < 6 → h'.1 Q j = nI (f j)) → srd l → List.Perm (pmap f (r + 1)) l → lsum l ≤ 120 → s_code w = nI (S + huff r l) → qm_PW G mX8_codeLength z 10 1 6 [vr P, vr Q, vi (nI S), vi (nI (r + 1))] [] h' := by
    intro r
    induction r with
    | zero =>
      intro _ h' S f l a b s p u e
      refine qm_wp_ok hA [] 20 _ _ _ _ _ _ ⟨fun _ => ⟨trivial, ?_, c3.new a (by omega)⟩, fun y => absurd (by decide) y⟩
      rw [e]
      have : huff 0 l = 0 := match l with
        | [] => rfl
        | [_] => rfl
        | _ :: _ :: _ => rfl
      rw [this]; rfl
    | succ r ih =>
      intro hr h' S f l a b s p u e
      have hlen : l.length = r + 2 := by rw [← p.length_eq, pmap, List.length_map, List.length_range]
      match l, s, p, u, e, hlen with
      | x :: y :: l, s, p, u, e, hlen =>
        obtain ⟨n1, n2, n3⟩ := nI_m (r := r) (by omega)
        have bd : ∀ j, j ≤ r + 1 → f j ≤ 120 := fun j hj => Nat.le_trans (lsum_mem (p.mem_iff.mp (pmap_mem (by omega)))) u
        have i1 := qm_is_sb a c1
        have k1 : (qm_kn true h' Q).2 = 6 := by rw [qm_kn_sb a, c2]
        have g1 := c_mlt hG d h' (k := r + 1) i1 k1 (by omega) b bd
        rw [← n1] at g1
        refine qm_wp_ok hA [10] 60 _ _ _ _ _ _ ⟨fun (y : nI (r + 2) ≤ 1) => absurd y (nI_ge (b := r + 2) (a := 1) (by omega) (by omega)), fun _ => ⟨0, 0, _, g1, ⟨Nat.le_refl _, Nat.le_refl _⟩, ?_⟩⟩
        rintro _ h2 ⟨rfl, a2, f1, b1, p1, m1, o1⟩
        have bd1 : ∀ j, j ≤ r → f1 j ≤ 120 := fun j hj => Nat.le_trans (lsum_mem ((p1.trans p).mem_iff.mp (pmap_mem (by omega)))) u
        have i2 := qm_is_sb a2 i1
        have k2 : (qm_kn true h2 Q).2 = 6 := by rw [qm_kn_sb a2, k1]
        have g2 := c_mlt hG d h2 (k := r) i2 k2 (by omega) b1 bd1
        rw [← n2] at g2
        refine ⟨0, 0, _, g2, ⟨Nat.le_refl _, Nat.le_refl _⟩, ?_⟩
        rintro _ h3 ⟨rfl, a3, f2, b2, p2, m2, o2⟩
        have i3 := qm_is_sb a3 i2
        have k3 : (qm_kn true h3 Q).2 = 6 := by rw [qm_kn_sb a3, k2]
        obtain ⟨s1, s2, s3⟩ := code_step s p p1 m1 p2 m2 o2
        have q1 : vp_in (nI (r + 2) - 1) (qm_kn true h3 Q).2 := by rw [n1, k3]; exact vp_in_nI (by omega) (by decide)
        have q2 : vp_in (nI (r + 2) - 2) (qm_kn true h3 Q).2 := by rw [n2, k3]; exact vp_in_nI (by omega) (by decide)
        refine ⟨i3, q2, i3, q1, i3, q2, i3, q2, ?_⟩
        have nx := ih (by omega) (qm_si h3 Q r (nI (x + y))) (S + (x + y)) (va_up f2 r (x + y)) (ins (x + y) l) (((a.tr a2).tr a3).si (List.mem_singleton.mpr rfl)) (fun j hj => by
          rw [si_row]
          by_cases c : j = r
          · rw [c, up_s, up_s]
          · rw [up_n _ _ c, up_n _ _ c]; exact b2 j hj) (ins_srd _ _ (List.pairwise_cons.mp (List.pairwise_cons.mp s).2).2) (by
          rw [pmap_1, up_s, pmap_co (f' := f2) (fun j hj => up_n _ _ (by omega))]
          exact ((List.perm_append_singleton _ _).trans (s3.cons _)).trans (ins_perm _ _).symm) (by
          rw [lsum_perm (ins_perm _ _)]
          simp only [lsum] at u ⊢
          omega) (by
          rw [e, huff, Nat.add_assoc S])
        have w1 : h3.1 Q (nI (r + 2) - 2).toNatClampNeg = nI y := by rw [n2, nI_clamp (by omega), b2 r (by omega), s2]
        have w2 : h3.1 Q (nI (r + 2) - 1).toNatClampNeg = nI x := by rw [n1, nI_clamp (by omega), b2 (r + 1) (by omega), s1]
        have w3 : nI y + nI x = nI (x + y) := by rw [nI_add, Nat.add_comm]
        rw [← n3, ← nI_add S] at nx
        rw [w1, w2, w3, n2, nI_clamp (by omega)]
        have w4 : (qm_si h3 Q r (nI (x + y))).1 Q r = nI (x + y) := by rw [si_row, up_s]
        rw [w4]
        exact nx
  have hl : List.Perm (pmap (fun j => (w (1 + j)).toNatClampNeg) 6) (srt (List.ofFn (n := 6) fun f => (w (1 + f.1)).toNatClampNeg)) := (List.Perm.refl _).trans (srt_perm _).symm
  have go := main 5 (Nat.le_refl _) h1 0 (fun j => (w (1 + j)).toNatClampNeg) _ sb.rf c4 (srt_srd _) hl (by
    rw [lsum_perm (srt_perm _)]
    have z0 := (hv 0 (by decide)).1
    have z1 := (hv 1 (by decide)).1
    have z2 := (hv 2 (by decide)).1
    have z3 := (hv 3 (by decide)).1
    have z4 := (hv 4 (by decide)).1
    have z5 := (hv 5 (by decide)).1
    show (w (1 + 0)).toNatClampNeg + ((w (1 + 1)).toNatClampNeg + ((w (1 + 2)).toNatClampNeg + ((w (1 + 3)).toNatClampNeg + ((w (1 + 4)).toNatClampNeg + ((w (1 + 5)).toNatClampNeg + 0))))) ≤ 120
    omega) (by rw [s_code, Nat.zero_add])
  refine qm_wp_ok hA [10] 20 _ _ _ _ _ _ ⟨c1, ?_⟩
  rw [c2]
  exact go
theorem b_code {G : qm_G} (hG : G.2.2.2.2 = true) (d : Nat) (h : qm_H) {mt : Nat} (hm : mt ≤ 2) (hT : TWN h 3 mt (tw h)) (hz : h.2.2.2.2 < 1000000) (a : Int32) : qm_Ev G (d + 2) 1 6 qyX9_code [.ref 0, .int a] h (fun r h' => r = some (.int (p_code h mt a)) ∧ ∃ n, n ≤ 1 ∧ gr XL n h h') := by
  refine qm_Ev.run (M := mX9_code) okX9_code rfl hG fun z => ?_
  refine ⟨rfl, _, rfl, rfl, 0, 0, _, c_townAt hG _ h hm hT a, ⟨Nat.zero_le _, Nat.zero_le _⟩, ?_⟩
  rintro _ _ ⟨⟨t, Q, t1, rfl, rfl, T, V⟩ | ⟨hno, rfl⟩, rfl⟩
  · refine ⟨T.is, 1, 6, _, c_codeLength hG d h T V hz, ⟨Nat.le_refl _, Nat.le_refl _⟩, ?_⟩
    rintro _ h1 ⟨rfl, g⟩
    refine ⟨trivial, congV ?_, 1, Nat.le_refl _, g.mono (fun q hq => absurd hq (by simp))⟩
    rw [p_code, (p_in t1 hm).1, (p_in t1 hm).2]; rfl
  · exact ⟨trivial, congV (by rw [p_code, hno]; rfl), 0, Nat.zero_le _, gr.of sb.rf⟩
