/-! the class's own calls: facts, people, sets -/
theorem b_learnt {G : qm_G} (hG : G.2.2.2.2 = true) (d : Nat) (h : qm_H) {mt : Nat} (hm : mt ≤ 2) (hT : TWN h 3 mt (tw h)) (a p f : Int32) : qm_Ev G (d + 2) 0 0 qyX9_learnt [.ref 0, .int a, .int p, .int f] h (fun r h' => r = some (.int (p_learnt h mt a p f)) ∧ sb XL h h') := by
  refine qm_Ev.run (M := mX9_learnt) okX9_learnt rfl hG fun z => ?_
  refine ⟨rfl, _, rfl, rfl, 0, 0, _, c_townAt hG _ h hm hT a, ⟨Nat.le_refl _, Nat.le_refl _⟩, ?_⟩
  rintro _ _ ⟨⟨t, Q, t1, rfl, rfl, T, V⟩ | ⟨hno, rfl⟩, rfl⟩
  · refine ⟨T.is, 0, 0, _, c_has hG _ h T V.1 p, ⟨Nat.le_refl _, Nat.le_refl _⟩, ?_⟩
    rintro _ _ ⟨rfl, rfl⟩
    have eP : p_learnt h mt (nI t) p f = (if inb p (nn (tw h t)) && (inb f 6 && bit (mi0 (tw h t) p.toNatClampNeg) f) then s_learnt (tw h t) (mi0 (tw h t)) p.toNatClampNeg f.toNatClampNeg (nn (tw h t)) else -1) := by
      rw [p_learnt, (p_in t1 hm).1, (p_in t1 hm).2]; rfl
    rw [eP]
    refine b2_eq (fun hp => ⟨0, 0, _, c_isFact hG _ h f, ⟨Nat.le_refl _, Nat.le_refl _⟩, ?_⟩) (fun hp => ⟨trivial, congV (by rw [hp]; rfl), sb.rf⟩)
    rintro _ _ ⟨rfl, rfl⟩
    refine b2_eq (fun hf => ?_) (fun hf => ⟨trivial, congV (by rw [hf, Bool.false_and, Bool.and_false]; rfl), sb.rf⟩)
    obtain ⟨pp, pp1, rfl⟩ := inb_e (by have := V.1; omega) hp
    obtain ⟨ff', ff1, rfl⟩ := inb_e (by decide) hf
    have V1 := V.1
    refine ⟨T.is, 0, 0, _, c_knowsN hG _ h T V.1 pp1 (nI ff'), ⟨Nat.le_refl _, Nat.le_refl _⟩, ?_⟩
    rintro _ _ ⟨rfl, rfl⟩
    refine b2_ne (fun hk => ⟨T.is, 0, 0, _, c_gain hG _ h T V ff1, ⟨Nat.le_refl _, Nat.le_refl _⟩, ?_⟩) (fun hk => ⟨trivial, congV ?_, sb.rf⟩)
    · rintro _ _ ⟨rfl, rfl⟩
      refine ⟨trivial, congV ?_, sb.rf⟩
      rw [nI_clamp (by omega), nI_clamp (by omega), hp, hf, hk, (learnt_N V.w _ _ _ _).1]; rfl
    · rw [nI_clamp (by omega), hk, Bool.and_false, Bool.and_false]; rfl
  · refine ⟨trivial, congV ?_, sb.rf⟩
    rw [p_learnt, hno]; rfl
theorem b_best {G : qm_G} (hG : G.2.2.2.2 = true) (d : Nat) (h : qm_H) {mt : Nat} (hm : mt ≤ 2) (hT : TWN h 3 mt (tw h)) (a p : Int32) (u : Bool) : qm_Ev G (d + 4) 0 0 qyX9_best [.ref 0, .int a, .int p, .int (b2 u)] h (fun r h' => r = some (.int (p_best h mt a p u)) ∧ sb XL h h') := by
  refine qm_Ev.run (M := mX9_best) okX9_best rfl hG fun z => ?_
  refine ⟨rfl, _, rfl, rfl, 0, 0, _, c_townAt hG _ h hm hT a, ⟨Nat.le_refl _, Nat.le_refl _⟩, ?_⟩
  rintro _ _ ⟨⟨t, Q, t1, rfl, rfl, T, V⟩ | ⟨hno, rfl⟩, rfl⟩
  · refine ⟨T.is, 0, 0, _, c_has hG _ h T V.1 p, ⟨Nat.le_refl _, Nat.le_refl _⟩, ?_⟩
    rintro _ _ ⟨rfl, rfl⟩
    have V1 := V.1
    refine b2_ne (fun hp => ?_) (fun hp => ⟨trivial, congV (by rw [p_best, (p_in t1 hm).1, (p_in t1 hm).2, hp]; rfl), sb.rf⟩)
    obtain ⟨pp, pp1, rfl⟩ := inb_e (by omega) hp
    have eP : p_best h mt (nI t) (nI pp) u = (if u then mx 0 (s_best (tw h t) (mi0 (tw h t)) (nn (tw h t)) pp 6).2 else (s_best (tw h t) (mi0 (tw h t)) (nn (tw h t)) pp 6).1) := by
      rw [p_best, (p_in t1 hm).1, (p_in t1 hm).2, hp, nI_clamp (by omega)]; rfl
    rw [eP]
    refine b2_eq (fun hu => ⟨T.is, 0, 0, _, c_bestGain hG _ h T V pp1, ⟨Nat.le_refl _, Nat.le_refl _⟩, ?_⟩) (fun hu => ⟨T.is, 0, 0, _, c_bestFact hG _ h T V pp1, ⟨Nat.le_refl _, Nat.le_refl _⟩, ?_⟩)
    · rintro _ _ ⟨rfl, rfl⟩
      refine ⟨trivial, congV ?_, sb.rf⟩
      rw [hu, if_pos rfl, (bg_N V.w (mi0 (tw h t)) V1 pp).1]
    · rintro _ _ ⟨rfl, rfl⟩
      refine ⟨trivial, congV ?_, sb.rf⟩
      rw [hu]; rfl
  · refine ⟨trivial, congV ?_, sb.rf⟩
    rw [p_best, hno]; rfl
theorem b_luck {G : qm_G} (hG : G.2.2.2.2 = true) (d : Nat) (h : qm_H) {mt : Nat} (hm : mt ≤ 2) (hT : TWN h 3 mt (tw h)) (a p : Int32) (u : Bool) : qm_Ev G (d + 2) 0 0 qyX9_luck [.ref 0, .int a, .int p, .int (b2 u)] h (fun r h' => r = some (.long (p_luck h mt a p u)) ∧ sb XL h h') := by
  refine qm_Ev.run (M := mX9_luck) okX9_luck rfl hG fun z => ?_
  refine ⟨rfl, _, rfl, rfl, 0, 0, _, c_townAt hG _ h hm hT a, ⟨Nat.le_refl _, Nat.le_refl _⟩, ?_⟩
  rintro _ _ ⟨⟨t, Q, t1, rfl, rfl, T, V⟩ | ⟨hno, rfl⟩, rfl⟩
  · refine ⟨T.is, 0, 0, _, c_has hG _ h T V.1 p, ⟨Nat.le_refl _, Nat.le_refl _⟩, ?_⟩
    rintro _ _ ⟨rfl, rfl⟩
    have V1 := V.1
    refine b2_ne (fun hp => ?_) (fun hp => ⟨rfl, by rw [p_luck, (p_in t1 hm).1, (p_in t1 hm).2, hp]; rfl, sb.rf⟩)
    obtain ⟨pp, pp1, rfl⟩ := inb_e (by omega) hp
    refine ⟨T.is, 0, 0, _, c_luck60 hG _ h T V pp1, ⟨Nat.le_refl _, Nat.le_refl _⟩, ?_⟩
    rintro _ _ ⟨rfl, rfl⟩
    have hl := s_lucks_le (tw h t) (mi0 (tw h t)) pp (nn (tw h t))
    refine ⟨T.is, 0, 0, _, c_part hG _ h (a := s_lucks (tw h t) (mi0 (tw h t)) pp (nn (tw h t))) (b := 60 * nn (tw h t)) _ _ rfl (show (60 : Int64) * (h.1 Q 0).toInt64 = lN (60 * nn (tw h t)) by rw [T.pp, nI_l (by omega), show (60 : Int64) = lN 60 from rfl, lN_mul]) (by omega) (by omega) (by omega) u, ⟨Nat.le_refl _, Nat.le_refl _⟩, ?_⟩
    rintro _ _ ⟨rfl, rfl⟩
    refine ⟨rfl, ?_, sb.rf⟩
    rw [p_luck, (p_in t1 hm).1, (p_in t1 hm).2, hp, nI_clamp (by omega)]; rfl
  · refine ⟨rfl, ?_, sb.rf⟩
    rw [p_luck, hno]; rfl
theorem b_fewest {G : qm_G} (hG : G.2.2.2.2 = true) (d : Nat) (h : qm_H) {mt ml : Nat} (hm : mt ≤ 2) (hl : ml ≤ 2) (hT : TWN h 3 mt (tw h)) (hL : LGS h 5 ml (gw h)) (a b : Int32) (u : Bool) : qm_Ev G (d + 2) 0 0 qyX9_fewest [.ref 0, .int a, .int b, .int (b2 u)] h (fun r h' => r = some (.int (p_fewest h mt ml a b u)) ∧ sb XL h h') := by
  refine qm_Ev.run (M := mX9_fewest) okX9_fewest rfl hG fun z => ?_
  refine ⟨rfl, _, rfl, rfl, 0, 0, _, c_townAt hG _ h hm hT a, ⟨Nat.le_refl _, Nat.le_refl _⟩, ?_⟩
  rintro _ _ ⟨hr, rfl⟩
  rcases hr with ⟨t, Q, t1, rfl, rfl, T, V⟩ | ⟨hno, rfl⟩
  · refine ⟨rfl, _, rfl, rfl, 0, 0, _, c_logAt hG _ h hl hL b, ⟨Nat.le_refl _, Nat.le_refl _⟩, ?_⟩
    rintro _ _ ⟨⟨y, R, y1, rfl, rfl, U, W⟩ | ⟨hno, rfl⟩, rfl⟩
    · refine ⟨0, 0, _, c_fitting hG _ h T U W, ⟨Nat.le_refl _, Nat.le_refl _⟩, ?_⟩
      rintro _ _ ⟨x, rfl, hx, rfl⟩
      have eP : p_fewest h mt ml (nI t) (nI y) u = s_fewest (tw h t) (gw h y) (nn (gw h y)) u := by
        rw [p_fewest, (p_in t1 hm).1, (p_in t1 hm).2, (p_in y1 hl).1, (p_in y1 hl).2]; rfl
      rw [eP]
      refine b2_eq (fun hu => ⟨0, 0, _, c_largest hG _ h hx, ⟨Nat.le_refl _, Nat.le_refl _⟩, ?_⟩) (fun hu => ⟨0, 0, _, c_smallest hG _ h hx, ⟨Nat.le_refl _, Nat.le_refl _⟩, ?_⟩)
      · rintro _ _ ⟨rfl, rfl⟩
        exact ⟨trivial, congV (by rw [hu]), sb.rf⟩
      · rintro _ _ ⟨rfl, rfl⟩
        exact ⟨trivial, congV (by rw [hu]), sb.rf⟩
    · refine ⟨trivial, congV ?_, sb.rf⟩
      rw [p_fewest, hno, Bool.and_false]; rfl
  · refine ⟨rfl, _, rfl, rfl, 0, 0, _, c_logAt hG _ h hl hL b, ⟨Nat.le_refl _, Nat.le_refl _⟩, ?_⟩
    rintro _ _ ⟨⟨y, R, y1, rfl, rfl, U, W⟩ | ⟨hno2, rfl⟩, rfl⟩
    · exact ⟨trivial, congV (by rw [p_fewest, hno]; rfl), sb.rf⟩
    · exact ⟨trivial, congV (by rw [p_fewest, hno]; rfl), sb.rf⟩
theorem b_fits {G : qm_G} (hG : G.2.2.2.2 = true) (d : Nat) (h : qm_H) {mt ml : Nat} (hm : mt ≤ 2) (hl : ml ≤ 2) (hT : TWN h 3 mt (tw h)) (hL : LGS h 5 ml (gw h)) (a b what : Int32) : qm_Ev G (d + 2) 0 0 qyX9_fits [.ref 0, .int a, .int b, .int what] h (fun r h' => r = some (.int (p_fits h mt ml a b what)) ∧ sb XL h h') := by
  refine qm_Ev.run (M := mX9_fits) okX9_fits rfl hG fun z => ?_
  refine ⟨rfl, _, rfl, rfl, 0, 0, _, c_townAt hG _ h hm hT a, ⟨Nat.le_refl _, Nat.le_refl _⟩, ?_⟩
  rintro _ _ ⟨hr, rfl⟩
  rcases hr with ⟨t, Q, t1, rfl, rfl, T, V⟩ | ⟨hno, rfl⟩
  · refine ⟨rfl, _, rfl, rfl, 0, 0, _, c_logAt hG _ h hl hL b, ⟨Nat.le_refl _, Nat.le_refl _⟩, ?_⟩
    rintro _ _ ⟨⟨y, R, y1, rfl, rfl, U, W⟩ | ⟨hno, rfl⟩, rfl⟩
    · refine ⟨0, 0, _, c_fitting hG _ h T U W, ⟨Nat.le_refl _, Nat.le_refl _⟩, ?_⟩
      rintro _ _ ⟨x, rfl, hx, rfl⟩
      have eP : p_fits h mt ml (nI t) (nI y) what = s_fits (tw h t) (gw h y) (nn (tw h t)) (nn (gw h y)) what := by
        rw [p_fits, (p_in t1 hm).1, (p_in t1 hm).2, (p_in y1 hl).1, (p_in y1 hl).2]; rfl
      rw [eP]
      refine ⟨⟨fun q => ⟨0, 0, _, c_lbc hG _ h x, ⟨Nat.le_refl _, Nat.le_refl _⟩, ?_⟩, fun q => ⟨0, 0, _, c_inAll hG _ h hx, ⟨Nat.le_refl _, Nat.le_refl _⟩, ?_⟩, fun q => ⟨0, 0, _, c_halving hG _ h hx, ⟨Nat.le_refl _, Nat.le_refl _⟩, ?_⟩, fun q => ⟨0, 0, _, c_whose hG _ h T V hx, ⟨Nat.le_refl _, Nat.le_refl _⟩, ?_⟩, trivial⟩, fun q => ?_⟩
      · rintro _ _ ⟨rfl, rfl⟩
        have q : what = 0 := q
        exact ⟨trivial, congV (by rw [hx.c, s_fits, q, if_pos (show (0 : Int32) < 10 by decide), if_pos (show (0 : Int32) = 0 from rfl)]), sb.rf⟩
      · rintro _ _ ⟨rfl, rfl⟩
        have q : what = 1 := q
        exact ⟨trivial, congV (by rw [s_fits, q, if_pos (show (1 : Int32) < 10 by decide), if_neg (show ¬ (1 : Int32) = 0 by decide), if_pos (show (1 : Int32) = 1 from rfl)]), sb.rf⟩
      · rintro _ _ ⟨rfl, rfl⟩
        have q : what = 2 := q
        exact ⟨trivial, congV (by rw [s_fits, q, if_pos (show (2 : Int32) < 10 by decide), if_neg (show ¬ (2 : Int32) = 0 by decide), if_neg (show ¬ (2 : Int32) = 1 by decide), if_pos (show (2 : Int32) = 2 from rfl)]), sb.rf⟩
      · rintro _ _ ⟨rfl, rfl⟩
        have q : what = 3 := q
        exact ⟨trivial, congV (by rw [s_fits, q, if_pos (show (3 : Int32) < 10 by decide), if_neg (show ¬ (3 : Int32) = 0 by decide), if_neg (show ¬ (3 : Int32) = 1 by decide), if_neg (show ¬ (3 : Int32) = 2 by decide), if_pos (show (3 : Int32) = 3 from rfl)]), sb.rf⟩
      · have q : what.toInt < 0 ∨ (4 : Int) ≤ what.toInt := q
        refine ⟨fun (c : 10 ≤ what) => ?_, fun (c : ¬ 10 ≤ what) => ⟨trivial, congV ?_, sb.rf⟩⟩
        · have h0 : ¬ what < 0 := fun z => absurd (Int32.le_trans c (Int32.le_of_lt z)) (by decide)
          obtain ⟨k, k1, rfl⟩ := nI_of h0
          have k10 : 10 ≤ k := (nI_leI (a := 10) (by decide) k1).mp c
          have e10 : nI k - 10 = nI (k - 10) := pk_sub (b := 10) k10
          have kn := c_nth hG d h hx (j := k - 10) (by omega)
          rw [← e10] at kn
          refine ⟨0, 0, _, kn, ⟨Nat.le_refl _, Nat.le_refl _⟩, ?_⟩
          rintro _ _ ⟨rfl, rfl⟩
          refine ⟨trivial, congV ?_, sb.rf⟩
          rw [s_fits, if_neg (fun z => absurd c (Int32.not_le.mpr z)), e10, nI_clamp (by omega)]
        · rw [s_fits, if_pos (Int32.not_le.mp c)]
          have ne : ∀ j : Nat, j < 4 → ¬ what = nI j := fun j hj e => by
            rw [e, nI_toInt (by omega)] at q
            omega
          rw [if_neg (show ¬ what = 0 from ne 0 (by decide)), if_neg (show ¬ what = 1 from ne 1 (by decide)), if_neg (show ¬ what = 2 from ne 2 (by decide)), if_neg (show ¬ what = 3 from ne 3 (by decide))]
    · refine ⟨trivial, congV ?_, sb.rf⟩
      rw [p_fits, hno, Bool.and_false]; rfl
  · refine ⟨rfl, _, rfl, rfl, 0, 0, _, c_logAt hG _ h hl hL b, ⟨Nat.le_refl _, Nat.le_refl _⟩, ?_⟩
    rintro _ _ ⟨⟨y, R, y1, rfl, rfl, U, W⟩ | ⟨hno2, rfl⟩, rfl⟩
    · exact ⟨trivial, congV (by rw [p_fits, hno]; rfl), sb.rf⟩
    · exact ⟨trivial, congV (by rw [p_fits, hno]; rfl), sb.rf⟩
theorem b_share {G : qm_G} (hG : G.2.2.2.2 = true) (d : Nat) (h : qm_H) {mt ml : Nat} (hm : mt ≤ 2) (hl : ml ≤ 2) (hT : TWN h 3 mt (tw h)) (hL : LGS h 5 ml (gw h)) (a b f : Int32) (u : Bool) : qm_Ev G (d + 2) 0 0 qyX9_share [.ref 0, .int a, .int b, .int f, .int (b2 u)] h (fun r h' => r = some (.long (p_share h mt ml a b f u)) ∧ sb XL h h') := by
  refine qm_Ev.by (M := mX9_share) okX9_share (Nat.le_of_ble_eq_true rfl) hG fun z hA => ?_
  refine qm_wp_ok hA [30] 60 _ _ _ _ _ _ ?_
  refine ⟨rfl, _, rfl, rfl, 0, 0, _, c_townAt hG _ h hm hT a, ⟨Nat.le_refl _, Nat.le_refl _⟩, ?_⟩
  rintro _ _ ⟨hr, rfl⟩
  rcases hr with ⟨t, Q, t1, rfl, rfl, T, V⟩ | ⟨hno, rfl⟩
  · refine ⟨rfl, _, rfl, rfl, 0, 0, _, c_logAt hG _ h hl hL b, ⟨Nat.le_refl _, Nat.le_refl _⟩, ?_⟩
    rintro _ _ ⟨⟨y, R, y1, rfl, rfl, U, W⟩ | ⟨hno, rfl⟩, rfl⟩
    · refine ⟨0, 0, _, c_isFact hG _ h f, ⟨Nat.le_refl _, Nat.le_refl _⟩, ?_⟩
      rintro _ _ ⟨rfl, rfl⟩
      refine b2_ne (fun hf => ⟨0, 0, _, c_fitting hG _ h T U W, ⟨Nat.le_refl _, Nat.le_refl _⟩, ?_⟩) (fun hf => ⟨rfl, by rw [p_share, hf]; rfl, sb.rf⟩)
      rintro _ _ ⟨x, rfl, hx, rfl⟩
      obtain ⟨g, g1, rfl⟩ := inb_e (by decide) hf
      have eP : p_share h mt ml (nI t) (nI y) (nI g) u = s_share (tw h t) (gw h y) (nn (gw h y)) g u := by
        rw [p_share, hf, (p_in t1 hm).1, (p_in t1 hm).2, (p_in y1 hl).1, (p_in y1 hl).2, nI_clamp (by omega)]; rfl
      refine ⟨fun (c : ¬ lg_cmp x 0 = 0) => ?_, fun (c : lg_cmp x 0 = 0) => ⟨rfl, ?_, sb.rf⟩⟩
      · have c0 : ¬ (FL (tw h t) (gw h y) (nn (gw h y))).1 = 0 := fun z => c ((lcmp0 x).mpr (hx.z.mpr z))
        have hc := FL_le (tw h t) (gw h y) (nn (gw h y))
        have hc2 := manyN_le (FL (tw h t) (gw h y) (nn (gw h y))).2 (nI g) (FL (tw h t) (gw h y) (nn (gw h y))).1
        refine sp_gets hA rfl rfl rfl 0 rfl (k1 := 1051) (by decide +kernel) ?_
        refine qm_wp_ok hA [32] 20 _ _ _ _ _ _ ?_
        refine sp_tl hA rfl rfl rfl 0 rfl (vp_in_nI g1 (by decide)) (stl_f g1) ?_
        refine qm_wp_ok hA [] 30 _ _ _ _ _ _ ⟨0, 0, _, c_lbc hG _ h (x &&& qm_stl g), ⟨Nat.le_refl _, Nat.le_refl _⟩, ?_⟩
        rintro _ _ ⟨rfl, rfl⟩
        refine ⟨0, 0, _, c_lbc hG _ h x, ⟨Nat.le_refl _, Nat.le_refl _⟩, ?_⟩
        rintro _ _ ⟨rfl, rfl⟩
        refine ⟨0, 0, _, c_part hG _ h (a := manyN (FL (tw h t) (gw h y) (nn (gw h y))).2 (nI g) (FL (tw h t) (gw h y) (nn (gw h y))).1) (b := (FL (tw h t) (gw h y) (nn (gw h y))).1) _ _ (by rw [hx.m g1, nI_l (by omega)]) (by rw [hx.c, nI_l (by omega)]) (by omega) (by omega) (by omega) u, ⟨Nat.le_refl _, Nat.le_refl _⟩, ?_⟩
        rintro _ _ ⟨rfl, rfl⟩
        refine ⟨rfl, ?_, sb.rf⟩
        rw [eP, s_share, if_neg c0]
      · rw [eP, s_share, if_pos (hx.z.mp ((lcmp0 x).mp c))]
    · refine ⟨rfl, ?_, sb.rf⟩
      rw [p_share, hno, Bool.and_false, Bool.and_false]; rfl
  · refine ⟨rfl, _, rfl, rfl, 0, 0, _, c_logAt hG _ h hl hL b, ⟨Nat.le_refl _, Nat.le_refl _⟩, ?_⟩
    rintro _ _ ⟨⟨y, R, y1, rfl, rfl, U, W⟩ | ⟨hno2, rfl⟩, rfl⟩
    · exact ⟨rfl, by rw [p_share, hno, Bool.false_and, Bool.and_false]; rfl, sb.rf⟩
    · exact ⟨rfl, by rw [p_share, hno, Bool.false_and, Bool.and_false]; rfl, sb.rf⟩
