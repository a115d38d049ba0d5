/-! the class's own calls: roots -/
theorem co_N (w : Nat → Int32) : ∀ k, s_closedOnes w k = nI (cnB (fun s => decide (s_closed w (nI s) 6 = nI s)) k)
  | 0 => rfl
  | k + 1 => by
    rw [s_closedOnes, cnB, co_N w k, ← nI_add]
    by_cases c : s_closed w (nI k) 6 = nI k
    · rw [if_pos c, if_pos (decide_eq_true c)]; rfl
    · rw [if_neg c, if_neg (fun q => c (of_decide_eq_true q))]; rfl
theorem s_roots_d (w : Nat → Int32) (n : Nat) {what : Int32} (h : ¬ what < 10) : s_roots w n what = if 16 ≤ what then -1 else s_worth w (s_whole w (what - 10).toNatClampNeg) 6 := by rw [s_roots, if_neg h]
theorem b_roots {G : qm_G} (hG : G.2.2.2.2 = true) (d : Nat) (h : qm_H) {mt : Nat} (hm : mt ≤ 2) (hT : TWN h 3 mt (tw h)) (a what : Int32) : qm_Ev G (d + 3) 0 0 qyX9_roots [.ref 0, .int a, .int what] h (fun r h' => r = some (.int (p_roots h mt a what)) ∧ sb XL h h') := by
  refine qm_Ev.run (M := mX9_roots) okX9_roots rfl hG fun z => ?_
  refine ⟨rfl, _, rfl, rfl, 0, 0, _, c_townAt hG _ h hm hT a, ⟨Nat.le_refl _, Nat.le_refl _⟩, ?_⟩
  rintro _ _ ⟨⟨t, Q, t1, rfl, rfl, T, V⟩ | ⟨hno, rfl⟩, rfl⟩
  · have V1 := V.1
    have eP : p_roots h mt (nI t) what = s_roots (tw h t) (nn (tw h t)) what := by
      rw [p_roots, (p_in t1 hm).1, (p_in t1 hm).2]; rfl
    rw [eP]
    obtain ⟨rb, rb1, rb2⟩ : ∃ b, b < 64 ∧ s_root (tw h t) 64 = nI b := by
      rcases root_in (tw h t) 64 with e | ⟨j, j1, j2⟩
      · exact ⟨63, by decide, e⟩
      · exact ⟨j, j1, j2⟩
    refine ⟨⟨fun q => ⟨T.is, 0, 0, _, c_rootFacts hG d h T, ⟨Nat.le_refl _, Nat.le_refl _⟩, ?_⟩, fun q => ⟨T.is, 0, 0, _, c_rootFacts hG d h T, ⟨Nat.le_refl _, Nat.le_refl _⟩, ?_⟩, fun q => ⟨T.is, 0, 0, _, c_rings hG d h T, ⟨Nat.le_refl _, Nat.le_refl _⟩, ?_⟩, fun q => ⟨T.is, 0, 0, _, c_largestRing hG d h T, ⟨Nat.le_refl _, Nat.le_refl _⟩, ?_⟩, fun q => ⟨T.is, 0, 0, _, c_lbc hG _ h (h.2.1 Q 8), ⟨Nat.le_refl _, Nat.le_refl _⟩, ?_⟩, fun q => ⟨T.is, 0, 0, _, c_dearest hG d h T V, ⟨Nat.le_refl _, Nat.le_refl _⟩, ?_⟩, fun q => ⟨T.is, 0, 0, _, c_knownBy hG d h T V 1, ⟨Nat.le_refl _, Nat.le_refl _⟩, ?_⟩, fun q => ⟨T.is, 0, 0, _, c_knownBy hG d h T V 0, ⟨Nat.le_refl _, Nat.le_refl _⟩, ?_⟩, fun q => ?_, trivial⟩, fun q => ?_⟩
    · rintro _ _ ⟨rfl, rfl⟩
      refine ⟨0, 0, _, c_bcX hG _ h _ rb2 rb1, ⟨Nat.le_refl _, Nat.le_refl _⟩, ?_⟩
      rintro _ _ ⟨rfl, rfl⟩
      have q : what = 0 := q
      exact ⟨trivial, congV (by rw [s_roots, q, if_pos (show (0 : Int32) < 10 by decide), if_pos (show (0 : Int32) = 0 from rfl)]), sb.rf⟩
    · rintro _ _ ⟨rfl, rfl⟩
      have q : what = 1 := q
      exact ⟨trivial, congV (by rw [s_roots, q, if_pos (show (1 : Int32) < 10 by decide), if_neg (show ¬ (1 : Int32) = 0 by decide), if_pos (show (1 : Int32) = 1 from rfl)]), sb.rf⟩
    · rintro _ _ ⟨rfl, rfl⟩
      have q : what = 2 := q
      exact ⟨trivial, congV (by rw [s_roots, q, if_pos (show (2 : Int32) < 10 by decide), if_neg (show ¬ (2 : Int32) = 0 by decide), if_neg (show ¬ (2 : Int32) = 1 by decide), if_pos (show (2 : Int32) = 2 from rfl)]), sb.rf⟩
    · rintro _ _ ⟨rfl, rfl⟩
      have q : what = 3 := q
      exact ⟨trivial, congV (by rw [s_roots, q, if_pos (show (3 : Int32) < 10 by decide), if_neg (show ¬ (3 : Int32) = 0 by decide), if_neg (show ¬ (3 : Int32) = 1 by decide), if_neg (show ¬ (3 : Int32) = 2 by decide), if_pos (show (3 : Int32) = 3 from rfl)]), sb.rf⟩
    · rintro _ _ ⟨rfl, rfl⟩
      have q : what = 4 := q
      refine ⟨trivial, congV ?_, sb.rf⟩
      rw [s_roots, q, if_pos (show (4 : Int32) < 10 by decide), if_neg (show ¬ (4 : Int32) = 0 by decide), if_neg (show ¬ (4 : Int32) = 1 by decide), if_neg (show ¬ (4 : Int32) = 2 by decide), if_neg (show ¬ (4 : Int32) = 3 by decide), if_pos (show (4 : Int32) = 4 from rfl), co_N, pcN_c]
      congr 1
      exact cnB_co 64 (fun j hj => T.2.2.2.2.2.2 j hj)
    · rintro _ _ ⟨rfl, rfl⟩
      have q : what = 5 := q
      exact ⟨trivial, congV (by rw [s_roots, q, if_pos (show (5 : Int32) < 10 by decide), if_neg (show ¬ (5 : Int32) = 0 by decide), if_neg (show ¬ (5 : Int32) = 1 by decide), if_neg (show ¬ (5 : Int32) = 2 by decide), if_neg (show ¬ (5 : Int32) = 3 by decide), if_neg (show ¬ (5 : Int32) = 4 by decide), if_pos (show (5 : Int32) = 5 from rfl)]), sb.rf⟩
    · rintro _ _ ⟨rfl, rfl⟩
      have q : what = 6 := q
      exact ⟨trivial, congV (by rw [s_roots, q, if_pos (show (6 : Int32) < 10 by decide), if_neg (show ¬ (6 : Int32) = 0 by decide), if_neg (show ¬ (6 : Int32) = 1 by decide), if_neg (show ¬ (6 : Int32) = 2 by decide), if_neg (show ¬ (6 : Int32) = 3 by decide), if_neg (show ¬ (6 : Int32) = 4 by decide), if_neg (show ¬ (6 : Int32) = 5 by decide), if_pos (show (6 : Int32) = 6 from rfl)]), sb.rf⟩
    · rintro _ _ ⟨rfl, rfl⟩
      have q : what = 7 := q
      exact ⟨trivial, congV (by rw [s_roots, q, if_pos (show (7 : Int32) < 10 by decide), if_neg (show ¬ (7 : Int32) = 0 by decide), if_neg (show ¬ (7 : Int32) = 1 by decide), if_neg (show ¬ (7 : Int32) = 2 by decide), if_neg (show ¬ (7 : Int32) = 3 by decide), if_neg (show ¬ (7 : Int32) = 4 by decide), if_neg (show ¬ (7 : Int32) = 5 by decide), if_neg (show ¬ (7 : Int32) = 6 by decide), if_pos (show (7 : Int32) = 7 from rfl)]), sb.rf⟩
    · have q : what = 8 := q
      have e8 : s_roots (tw h t) (nn (tw h t)) what = (if nI (nn (tw h t)) = 0 then 0 else s_knownBy (mi0 (tw h t)) (nn (tw h t)) (nI (nn (tw h t))) 6) := by rw [s_roots, q, if_pos (show (8 : Int32) < 10 by decide), if_neg (show ¬ (8 : Int32) = 0 by decide), if_neg (show ¬ (8 : Int32) = 1 by decide), if_neg (show ¬ (8 : Int32) = 2 by decide), if_neg (show ¬ (8 : Int32) = 3 by decide), if_neg (show ¬ (8 : Int32) = 4 by decide), if_neg (show ¬ (8 : Int32) = 5 by decide), if_neg (show ¬ (8 : Int32) = 6 by decide), if_neg (show ¬ (8 : Int32) = 7 by decide), if_pos (show (8 : Int32) = 8 from rfl)]
      have kb := c_knownBy hG d h T V (nI (nn (tw h t)))
      rw [← T.pp] at kb e8
      refine ⟨T.is, fun (c : ¬ h.1 Q 0 = 0) => ⟨T.is, T.is, 0, 0, _, kb, ⟨Nat.le_refl _, Nat.le_refl _⟩, ?_⟩, fun (c : h.1 Q 0 = 0) => ⟨trivial, congV ?_, sb.rf⟩⟩
      · rintro _ _ ⟨rfl, rfl⟩
        refine ⟨trivial, congV ?_, sb.rf⟩
        rw [e8, if_neg c]
      · rw [e8, if_pos c]
    · have q : what.toInt < 0 ∨ (9 : Int) ≤ what.toInt := q
      refine ⟨fun (c : what < 10) => ⟨trivial, congV ?_, sb.rf⟩, fun (c : ¬ what < 10) => ⟨0, 0, _, c_isFact hG _ h (what - 10), ⟨Nat.le_refl _, Nat.le_refl _⟩, ?_⟩⟩
      · have ne : ∀ j : Nat, j < 9 → ¬ what = nI j := fun j hj e => by
          rw [e, nI_toInt (by omega)] at q
          omega
        rw [s_roots, if_pos c, if_neg (show ¬ what = 0 from ne 0 (by decide)), if_neg (show ¬ what = 1 from ne 1 (by decide)), if_neg (show ¬ what = 2 from ne 2 (by decide)), if_neg (show ¬ what = 3 from ne 3 (by decide)), if_neg (show ¬ what = 4 from ne 4 (by decide)), if_neg (show ¬ what = 5 from ne 5 (by decide)), if_neg (show ¬ what = 6 from ne 6 (by decide)), if_neg (show ¬ what = 7 from ne 7 (by decide)), if_neg (show ¬ what = 8 from ne 8 (by decide))]
      · rintro _ _ ⟨rfl, rfl⟩
        have h0 : ¬ what < 0 := fun z => c (Int32.lt_trans z (by decide))
        obtain ⟨k, k1, rfl⟩ := nI_of h0
        have k10 : 10 ≤ k := by
          rcases Nat.lt_or_ge k 10 with z | z
          · exact absurd (nI_lt (b := 10) z (by decide)) c
          · exact z
        have e10 : nI k - 10 = nI (k - 10) := pk_sub (b := 10) k10
        rw [s_roots_d _ _ c]
        refine b2_eq (fun hb => ?_) (fun hb => ⟨trivial, congV ?_, sb.rf⟩)
        · have hb2 := hb
          rw [e10] at hb2
          obtain ⟨g, g1, g2⟩ := inb_e (by decide) hb2
          have eg : k - 10 = g := (nI_eq (by omega) (by omega)).mp g2
          have kw := c_whole hG (d + 1) h T V g1
          rw [← eg, ← e10] at kw
          refine ⟨T.is, 0, 0, _, kw, ⟨Nat.le_refl _, Nat.le_refl _⟩, ?_⟩
          rintro _ _ ⟨rfl, rfl⟩
          refine ⟨trivial, congV ?_, sb.rf⟩
          rw [if_neg (fun z => by have := (nI_leI (a := 16) (by decide) k1).mp z; omega), e10, nI_clamp (by omega)]
        · rw [if_pos]
          rw [e10, inb_lt (by decide), decide_eq_true (nI_pos' (by omega)), Bool.true_and] at hb
          have : ¬ k - 10 < 6 := fun z => of_decide_eq_false hb (nI_lt z (by decide))
          exact nI_le (a := 16) (by omega) k1
  · refine ⟨trivial, congV ?_, sb.rf⟩
    rw [p_roots, hno]; rfl
theorem s_reachA_d (w : Nat → Int32) (n : Nat) {what : Int32} (h : ¬ what < 10) : s_reachA w n what = if inb (what - 10) n then s_reach w n (what - 10).toNatClampNeg 6 else -2 := by rw [s_reachA, if_neg h]
theorem b_reach {G : qm_G} (hG : G.2.2.2.2 = true) (d : Nat) (h : qm_H) {mt : Nat} (hm : mt ≤ 2) (hT : TWN h 3 mt (tw h)) (a what : Int32) : qm_Ev G (d + 3) 0 0 qyX9_reach [.ref 0, .int a, .int what] h (fun r h' => r = some (.int (p_reach h mt a what)) ∧ sb XL h h') := by
  refine qm_Ev.run (M := mX9_reach) okX9_reach rfl hG fun z => ?_
  refine ⟨rfl, _, rfl, rfl, 0, 0, _, c_townAt hG _ h hm hT a, ⟨Nat.le_refl _, Nat.le_refl _⟩, ?_⟩
  rintro _ _ ⟨⟨t, Q, t1, rfl, rfl, T, V⟩ | ⟨hno, rfl⟩, rfl⟩
  · have V1 := V.1
    obtain ⟨p1, p2⟩ := p64 V1
    have eP : p_reach h mt (nI t) what = s_reachA (tw h t) (nn (tw h t)) what := by
      rw [p_reach, (p_in t1 hm).1, (p_in t1 hm).2]; rfl
    rw [eP]
    obtain ⟨cb, cb1, cb2⟩ : ∃ b, b < 64 ∧ s_choir (tw h t) (nn (tw h t)) (2 ^ nn (tw h t)) = nI b := by
      rcases choir_in (tw h t) (nn (tw h t)) (2 ^ nn (tw h t)) with e | ⟨j, j1, j2⟩
      · exact ⟨0, by decide, e⟩
      · exact ⟨j, by omega, j2⟩
    obtain ⟨vb, vb1, vb2⟩ : ∃ b, b < 64 ∧ s_cover (mi0 (tw h t)) (nn (tw h t)) (nI (2 ^ nn (tw h t) - 1)) (2 ^ nn (tw h t)) = nI b := by
      rcases cov_in (mi0 (tw h t)) (nn (tw h t)) (nI (2 ^ nn (tw h t) - 1)) (2 ^ nn (tw h t)) with e | ⟨j, j1, j2⟩
      · exact ⟨_, by omega, e⟩
      · exact ⟨j, by omega, j2⟩
    refine ⟨⟨fun q => ⟨0, 0, _, c_loudest hG _ h T V, ⟨Nat.le_refl _, Nat.le_refl _⟩, ?_⟩, fun q => ⟨0, 0, _, c_deaf hG _ h T V, ⟨Nat.le_refl _, Nat.le_refl _⟩, ?_⟩, fun q => ⟨0, 0, _, c_choir hG d h T V, ⟨Nat.le_refl _, Nat.le_refl _⟩, ?_⟩, fun q => ⟨0, 0, _, c_choir hG d h T V, ⟨Nat.le_refl _, Nat.le_refl _⟩, ?_⟩, fun q => ⟨0, 0, _, c_twins hG _ h T V, ⟨Nat.le_refl _, Nat.le_refl _⟩, ?_⟩, fun q => ⟨0, 0, _, c_cover hG d h T V, ⟨Nat.le_refl _, Nat.le_refl _⟩, ?_⟩, fun q => ⟨0, 0, _, c_cover hG d h T V, ⟨Nat.le_refl _, Nat.le_refl _⟩, ?_⟩, trivial⟩, fun q => ?_⟩
    · rintro _ _ ⟨rfl, rfl⟩
      have q : what = 0 := q
      exact ⟨trivial, congV (by rw [s_reachA, q, if_pos (show (0 : Int32) < 10 by decide), if_pos (show (0 : Int32) = 0 from rfl)]), sb.rf⟩
    · rintro _ _ ⟨rfl, rfl⟩
      have q : what = 1 := q
      exact ⟨trivial, congV (by rw [s_reachA, q, if_pos (show (1 : Int32) < 10 by decide), if_neg (show ¬ (1 : Int32) = 0 by decide), if_pos (show (1 : Int32) = 1 from rfl)]), sb.rf⟩
    · rintro _ _ ⟨rfl, rfl⟩
      refine ⟨0, 0, _, c_bcX hG _ h _ cb2 cb1, ⟨Nat.le_refl _, Nat.le_refl _⟩, ?_⟩
      rintro _ _ ⟨rfl, rfl⟩
      have q : what = 2 := q
      exact ⟨trivial, congV (by rw [s_reachA, q, if_pos (show (2 : Int32) < 10 by decide), if_neg (show ¬ (2 : Int32) = 0 by decide), if_neg (show ¬ (2 : Int32) = 1 by decide), if_pos (show (2 : Int32) = 2 from rfl)]), sb.rf⟩
    · rintro _ _ ⟨rfl, rfl⟩
      have q : what = 3 := q
      exact ⟨trivial, congV (by rw [s_reachA, q, if_pos (show (3 : Int32) < 10 by decide), if_neg (show ¬ (3 : Int32) = 0 by decide), if_neg (show ¬ (3 : Int32) = 1 by decide), if_neg (show ¬ (3 : Int32) = 2 by decide), if_pos (show (3 : Int32) = 3 from rfl)]), sb.rf⟩
    · rintro _ _ ⟨rfl, rfl⟩
      have q : what = 4 := q
      exact ⟨trivial, congV (by rw [s_reachA, q, if_pos (show (4 : Int32) < 10 by decide), if_neg (show ¬ (4 : Int32) = 0 by decide), if_neg (show ¬ (4 : Int32) = 1 by decide), if_neg (show ¬ (4 : Int32) = 2 by decide), if_neg (show ¬ (4 : Int32) = 3 by decide), if_pos (show (4 : Int32) = 4 from rfl)]), sb.rf⟩
    · rintro _ _ ⟨rfl, rfl⟩
      refine ⟨0, 0, _, c_bcX hG _ h _ vb2 vb1, ⟨Nat.le_refl _, Nat.le_refl _⟩, ?_⟩
      rintro _ _ ⟨rfl, rfl⟩
      have q : what = 5 := q
      exact ⟨trivial, congV (by rw [s_reachA, q, if_pos (show (5 : Int32) < 10 by decide), if_neg (show ¬ (5 : Int32) = 0 by decide), if_neg (show ¬ (5 : Int32) = 1 by decide), if_neg (show ¬ (5 : Int32) = 2 by decide), if_neg (show ¬ (5 : Int32) = 3 by decide), if_neg (show ¬ (5 : Int32) = 4 by decide), if_pos (show (5 : Int32) = 5 from rfl)]), sb.rf⟩
    · rintro _ _ ⟨rfl, rfl⟩
      have q : what = 6 := q
      exact ⟨trivial, congV (by rw [s_reachA, q, if_pos (show (6 : Int32) < 10 by decide), if_neg (show ¬ (6 : Int32) = 0 by decide), if_neg (show ¬ (6 : Int32) = 1 by decide), if_neg (show ¬ (6 : Int32) = 2 by decide), if_neg (show ¬ (6 : Int32) = 3 by decide), if_neg (show ¬ (6 : Int32) = 4 by decide), if_neg (show ¬ (6 : Int32) = 5 by decide), if_pos (show (6 : Int32) = 6 from rfl)]), sb.rf⟩
    · have q : what.toInt < 0 ∨ (7 : Int) ≤ what.toInt := q
      refine ⟨fun (c : what < 10) => ⟨trivial, congV ?_, sb.rf⟩, fun (c : ¬ what < 10) => ⟨T.is, 0, 0, _, c_has hG _ h T V1 (what - 10), ⟨Nat.le_refl _, Nat.le_refl _⟩, ?_⟩⟩
      · have ne : ∀ j : Nat, j < 7 → ¬ what = nI j := fun j hj e => by
          rw [e, nI_toInt (by omega)] at q
          omega
        rw [s_reachA, if_pos c, if_neg (show ¬ what = 0 from ne 0 (by decide)), if_neg (show ¬ what = 1 from ne 1 (by decide)), if_neg (show ¬ what = 2 from ne 2 (by decide)), if_neg (show ¬ what = 3 from ne 3 (by decide)), if_neg (show ¬ what = 4 from ne 4 (by decide)), if_neg (show ¬ what = 5 from ne 5 (by decide)), if_neg (show ¬ what = 6 from ne 6 (by decide))]
      · rintro _ _ ⟨rfl, rfl⟩
        rw [s_reachA_d _ _ c]
        refine b2_eq (fun hb => ?_) (fun hb => ⟨trivial, congV (by rw [hb]; rfl), sb.rf⟩)
        obtain ⟨g, g1, g2⟩ := inb_e (by omega) hb
        have ka := c_audience hG d h T V g1
        rw [← g2] at ka
        refine ⟨0, 0, _, ka, ⟨Nat.le_refl _, Nat.le_refl _⟩, ?_⟩
        rintro _ _ ⟨rfl, rfl⟩
        refine ⟨trivial, congV ?_, sb.rf⟩
        rw [hb, g2, nI_clamp (by omega)]; rfl
  · refine ⟨trivial, congV ?_, sb.rf⟩
    rw [p_reach, hno]; rfl
theorem c_howMany {G : qm_G} (hG : G.2.2.2.2 = true) (d : Nat) (h : qm_H) (a : Int32) : qm_Ev G d 0 0 qyX7_howMany [.ref 1, .int a] h (fun r h' => r = some (.int (if inb a 3 then h.1 6 a.toNatClampNeg else -2)) ∧ h = h') := by
  have ia := inb_lt (a := a) (n := 3) (by decide)
  by_cases c : inb a 3 = true
  · obtain ⟨s, s1, rfl⟩ := inb_e (by decide) c
    rw [c]
    refine qm_Ev.run (M := mX7_howMany) okX7_howMany rfl hG fun z => ?_
    refine ⟨fun q => absurd q (nI_pos (by omega)), fun _ => ⟨fun _ => ⟨rfl, _, rfl, rfl, (vp_in_nI (by omega) (by decide) : vp_in (nI s) 3), trivial, rfl, rfl⟩, fun q => absurd (nI_lt (b := 3) s1 (by decide)) q⟩⟩
  · have c' : inb a 3 = false := by simpa using c
    rw [c']
    rw [ia, Bool.and_eq_true, decide_eq_true_eq, decide_eq_true_eq] at c
    refine qm_Ev.run (M := mX7_howMany) okX7_howMany rfl hG fun z => ?_
    refine ⟨fun _ => ⟨trivial, rfl, rfl⟩, fun (q : ¬ a < 0) => ⟨fun (q2 : a < 3) => absurd ⟨Int32.not_lt.mp q, q2⟩ c, fun _ => ⟨trivial, rfl, rfl⟩⟩⟩
theorem b_count {G : qm_G} (hG : G.2.2.2.2 = true) (d : Nat) (h : qm_H) (hc : ∀ s, s < 3 → h.1 6 s = h.1 31 s) (a : Int32) : qm_Ev G (d + 1) 0 0 qyX9_count [.ref 0, .int a] h (fun r h' => r = some (.int (p_count h a)) ∧ sb XL h h') := by
  refine qm_Ev.run (M := mX9_count) okX9_count rfl hG fun z => ?_
  refine ⟨rfl, _, rfl, rfl, 0, 0, _, c_howMany hG _ h a, ⟨Nat.le_refl _, Nat.le_refl _⟩, ?_⟩
  rintro _ _ ⟨rfl, rfl⟩
  refine ⟨trivial, congV ?_, sb.rf⟩
  rw [p_count]
  by_cases c : inb a 3 = true
  · obtain ⟨s, s1, rfl⟩ := inb_e (by decide) c
    rw [c, if_pos rfl, if_pos rfl, nI_clamp (by omega)]; exact hc s s1
  · rw [if_neg c, if_neg c]
theorem b_fault {G : qm_G} (hG : G.2.2.2.2 = true) (d : Nat) (h : qm_H) (h2 : h.1 1 2 = h.1 29 0) (h3 : h.1 1 3 = h.1 30 0) (a : Int32) : qm_Ev G d 0 0 qyX9_fault [.ref 0, .int a] h (fun r h' => r = some (.int (p_fault h a)) ∧ sb XL h h') := by
  refine qm_Ev.run (M := mX9_fault) okX9_fault rfl hG fun z => ?_
  refine ⟨fun (c0 : ¬ a = 0) => ⟨fun (c1 : ¬ a = 1) => ⟨trivial, congV ?_, sb.rf⟩, fun (c1 : a = 1) => ⟨rfl, _, rfl, rfl, trivial, congV ?_, sb.rf⟩⟩, fun (c0 : a = 0) => ⟨rfl, _, rfl, rfl, trivial, congV ?_, sb.rf⟩⟩
  · rw [p_fault, if_neg c0, if_neg c1]
  · rw [p_fault, if_neg c0, if_pos c1, ← h3]; rfl
  · rw [p_fault, if_pos c0, ← h2]; rfl
