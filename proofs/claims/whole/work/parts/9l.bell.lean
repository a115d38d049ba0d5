/-! the class: the bell, its call -/
theorem SUP0 (w : Nat → Int32) (n : Nat) : SUP w n (mi0 w) := fun _ _ _ _ h => h
theorem hop_le {w : Nat → Int32} {n : Nat} (v : VT w n) : ∀ r p, hop w n r p ≤ 720 * r
  | 0, _ => Nat.le_refl _
  | r + 1, p => by
    rw [hop]
    have h1 := hop_le v r (p + 1)
    have h2 := (bg_N v.w (mi0 w) v.1 p).2
    omega
def RLs : List Nat := [17, 18, 19, 20, 21]
theorem RL51 : ∀ q, q ∈ RLs → q < 51 := by decide
theorem RLX : ∀ q, q ∈ RLs → q ∈ XL := by decide
theorem f4R {h h1 : qm_H} (a : f4 h h1) : sb RLs h h1 := ⟨a.1, fun q hq => a.2.1 q (fun e => hq (by revert e; simp only [List.mem_cons, List.not_mem_nil, or_false, RLs]; omega))⟩
theorem c_ring {G : qm_G} (hG : G.2.2.2.2 = true) (d : Nat) (h : qm_H) {P n : Nat} {w : Nat → Int32} (t : TO h P w n) (v : VT w n) : qm_Ev G (d + 9) 0 0 qyX4_ring [.ref 17, .ref P] h (fun r h' => r = none ∧ h'.1 17 0 = nI (bV w n n 0 (mi0 w)) ∧ (∀ j, j < n → h'.1 18 j = nI (bRow w n n 0 (mi0 w) j)) ∧ sb RLs h h') := by
  have hn := v.1
  have hP : P ≠ 17 ∧ P ≠ 21 := by have := t.1.1; omega
  have epp : h.1 P 0 = nI n := t.pp
  refine qm_Ev.by (M := mX4_ring) okX4_ring (Nat.le_of_ble_eq_true rfl) hG fun z hA => ?_
  obtain ⟨h0, e0⟩ : ∃ h0, h0 = qm_si (qm_si h 17 0 (-1)) 21 n 0 := ⟨_, rfl⟩
  have fr0 : sb RLs h h0 := by rw [e0]; exact (sb.rf.si (by decide)).si (by decide)
  have loop := qm_for (P := fun i => ∀ h', h'.1 17 0 = -1 → (∀ j, n - i ≤ j → j ≤ n → h'.1 21 j = nI (hop w n (n - j) j)) → sb RLs h h' → qm_PW G mX4_ring z 14 0 0 [vr 17, vr P, vi (nI (n - i) - 1)] [] (h')) (N := n) ?_ ?_
  · have st := loop h0 (by rw [e0, si_ne _ _ _ (by decide), si_s]) (fun j h1 h2 => by
      rw [show j = n by omega, e0, si_s, Nat.sub_self]; rfl) fr0
    rw [e0, Nat.sub_zero] at st
    have e1 : (qm_si h 17 0 (-1)).1 P 0 = nI n := by rw [si_ne _ _ _ hP.1]; exact epp
    have e2 : (qm_si (qm_si h 17 0 (-1)) 21 n 0).1 P 0 = nI n := by rw [si_ne _ _ _ hP.2, si_ne _ _ _ hP.1]; exact epp
    have hin : vp_in ((qm_si h 17 0 (-1)).1 P 0) 7 := by rw [e1]; exact vp_in_nI (by omega) (by decide)
    have ec : ((qm_si h 17 0 (-1)).1 P 0).toNatClampNeg = n := by rw [e1, nI_clamp (by omega)]
    have st' : qm_PW G mX4_ring z 14 0 0 [vr 17, vr P, vi ((qm_si (qm_si h 17 0 (-1)) 21 ((qm_si h 17 0 (-1)).1 P 0).toNatClampNeg 0).1 P 0 - 1)] [] (qm_si (qm_si h 17 0 (-1)) 21 ((qm_si h 17 0 (-1)).1 P 0).toNatClampNeg 0) := by
      rw [ec, e2]; exact st
    exact qm_wp_ok hA [14] 40 _ _ _ _ _ _ ⟨rfl, trivial, rfl, _, rfl, t.is, rfl, hin, t.is, st'⟩
  · intro h' m1 hp fr
    have t' := t.sb fr RL51
    rw [Nat.sub_self]
    refine qm_wp_ok hA [39] 40 _ _ _ _ _ _ ⟨fun _ => ⟨t'.is, _, t'.rd (k := 4) (by decide) (by decide), rfl, _, rfl, ?_⟩, fun z => absurd (by decide) z⟩
    refine sp_cpn hA rfl rfl rfl (k1 := 774) (by decide +kernel) (Nat.le_of_ble_eq_true rfl) (kd := 10) (a := 0) (a' := 0) (m := 6) (q := 20) (Or.inl rfl) (t'.ar (k := 4) (by decide) (by decide)) rfl rfl rfl rfl (by decide) (by decide) (by decide) (by rw [(t'.2.2.2.1 4 (by decide) (by decide)).2.2]; decide) (Nat.le_of_ble_eq_true rfl) (fun q => absurd q (by decide)) ?_
    intro h2 d2 k2 c2 _
    have fr2 : sb RLs h h2 := ⟨d2.trans fr.1, fun q hq => (k2 q (fun z => hq (by rw [z]; decide))).trans (fr.2 q hq)⟩
    have t2 := t.sb fr2 RL51
    have hl := hop_le v n 0
    have kr := c_ringFrom hG (d + (6 - n)) v n h2 0 0 (mi0 w) t2 (by omega) (by omega) (fun j hj => by rw [k2 21 (by decide)]; exact hp j (by omega) hj) (SUP0 w n) (fun q hq => by
      have := c2 q (by omega)
      rw [Nat.zero_add] at this ⊢
      exact this.trans (t'.2.2.2.2.1 q (by omega)).2.2.2.1)
    rw [show d + (6 - n) + n + 2 = d + 8 by omega] at kr
    refine qm_wp_ok hA [] 30 _ _ _ _ _ _ ⟨rfl, 0, 0, _, kr, ⟨Nat.le_refl _, Nat.le_refl _⟩, ?_⟩
    rintro _ h3 ⟨rfl, kb, -, -, f3⟩
    have hb := bV_le (w := w) n 0 (mi0 w) (SUP0 w n)
    rw [k2 17 (by decide), m1, Nat.zero_add] at kb
    obtain ⟨k1, k3⟩ := kb.2 (nI_m1 (by omega))
    refine ⟨rfl, rfl, k1, fun j hj => ?_, fr2.tr (f4R f3)⟩
    rw [k3 j hj, rr0, if_neg (Nat.not_lt_zero _)]
  · intro i hi key h' m1 hp fr
    have t' := t.sb fr RL51
    obtain ⟨p, hpp⟩ : ∃ p, n - i = p + 1 := ⟨n - i - 1, by omega⟩
    have h8 := hop_le v (n - (p + 1)) (p + 1)
    have hin : vp_in (nI p) 7 := vp_in_nI (by omega) (by decide)
    have hin1 : vp_in (nI p + 1) 7 := by rw [nI_1]; exact vp_in_nI (by omega) (by decide)
    have e1 : h'.1 21 (nI p + 1).toNatClampNeg = nI (hop w n (n - (p + 1)) (p + 1)) := by rw [nI_1, nI_clamp (by omega)]; exact hp (p + 1) (by omega) (by omega)
    rw [hpp, nI_pred]
    refine qm_wp_ok hA [14] 40 _ _ _ _ _ _ ⟨fun z => absurd z (nI_pos (by omega)), fun _ => ⟨rfl, _, rfl, rfl, _, rfl, rfl, hin1, t'.is, 0, 0, _, c_bestGain hG (d + 5) h' t' v (by omega : p < n), ⟨Nat.le_refl _, Nat.le_refl _⟩, ?_⟩⟩
    rintro _ _ ⟨rfl, rfl⟩
    refine ⟨rfl, hin, ?_⟩
    have k2 := key (qm_si h' 21 (nI p).toNatClampNeg (h'.1 21 (nI p + 1).toNatClampNeg + nI (bgN w (mi0 w) n p))) (by rw [si_ne _ _ _ (by decide)]; exact m1) (fun j h1 h2 => by
      rw [nI_clamp (by omega), si_row]
      by_cases e : j = p
      · rw [e, up_s, e1, nI_add]
        congr 1
        rw [show n - p = (n - (p + 1)) + 1 by omega, hop]
      · rw [up_n _ _ e]; exact hp j (by omega) h2) (fr.si (by decide))
    rw [show n - (i + 1) = p by omega, show nI p - 1 = nI p + (-1) from Int32.sub_eq_add_neg _ _] at k2
    exact k2
theorem b_bell {G : qm_G} (hG : G.2.2.2.2 = true) (d : Nat) (h : qm_H) {mt : Nat} (hm : mt ≤ 2) (hT : TWN h 3 mt (tw h)) (a k : Int32) : qm_Ev G (d + 10) 0 0 qyX9_bell [.ref 0, .int a, .int k] h (fun r h' => r = some (.int (p_bell h mt a k)) ∧ sb XL h h') := by
  refine qm_Ev.run (M := mX9_bell) okX9_bell rfl hG fun z => ?_
  refine ⟨rfl, _, rfl, rfl, 0, 0, _, c_townAt hG _ h hm hT a, ⟨Nat.le_refl _, Nat.le_refl _⟩, ?_⟩
  rintro _ _ ⟨⟨t, Q, t1, rfl, rfl, T, V⟩ | ⟨hno, rfl⟩, rfl⟩
  · have V1 := V.1
    have eP : p_bell h mt (nI t) k = s_bell (tw h t) (nn (tw h t)) k := by
      rw [p_bell, (p_in t1 hm).1, (p_in t1 hm).2]; rfl
    rw [eP, s_bell]
    refine ⟨0, 0, _, c_isRowIndex hG _ h T V.1 k, ⟨Nat.le_refl _, Nat.le_refl _⟩, ?_⟩
    rintro _ _ ⟨rfl, rfl⟩
    refine b2_ne (fun hb => ⟨rfl, _, rfl, rfl, 0, 0, _, c_ring hG d h T V, ⟨Nat.le_refl _, Nat.le_refl _⟩, ?_⟩) (fun hb => ⟨trivial, congV ?_, sb.rf⟩)
    · rintro _ h1 ⟨rfl, w1, w2, f1⟩
      refine ⟨rfl, _, rfl, rfl, 0, 0, _, c_found hG _ h1 k, ⟨Nat.le_refl _, Nat.le_refl _⟩, ?_⟩
      rintro _ _ ⟨rfl, rfl⟩
      refine ⟨trivial, congV ?_, f1.mono RLX⟩
      by_cases c : k = -1
      · rw [if_pos c, if_pos c]; exact w1
      · rw [if_neg c, if_neg c]
        rw [decide_eq_false c, Bool.false_or] at hb
        obtain ⟨j, j1, rfl⟩ := inb_e (by omega) hb
        rw [hb, inb_n (by decide) (by omega : j < 6), if_pos rfl, if_pos rfl, nI_clamp (by omega), w2 j j1, dg_row (tw h t) (nn (tw h t)) 0 _ j (by omega) (by omega) j1]
    · rw [Bool.or_eq_false_iff, decide_eq_false_iff_not] at hb
      rw [if_neg hb.1, hb.2]; rfl
  · refine ⟨trivial, congV ?_, sb.rf⟩
    rw [p_bell, hno]; rfl
