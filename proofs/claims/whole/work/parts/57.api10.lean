/-! the reference: shares, the fewest and the most facts -/
def manyN (a : Nat → Int32) (f : Int32) : Nat → Nat
  | 0 => 0
  | k + 1 => manyN a f k + (if bit (a k) f then 1 else 0)
theorem many_N (a : Nat → Int32) (f : Int32) : ∀ k, s_many a f k = nI (manyN a f k)
  | 0 => rfl
  | k + 1 => by
    rw [s_many, manyN, many_N a f k]
    cases bit (a k) f
    · rw [if_neg (by decide), Nat.add_zero, b2_f, show (0 : Int32) = nI 0 from rfl, nI_add, Nat.add_zero]
    · rw [if_pos rfl, b2_t, nI_1]
theorem manyN_le (a : Nat → Int32) (f : Int32) : ∀ k, manyN a f k ≤ k
  | 0 => Nat.le_refl _
  | k + 1 => by
    have := manyN_le a f k
    rw [manyN]
    split <;> omega
def s_share (w lg : Nat → Int32) (m f : Nat) (u : Bool) : Int64 := if (FL w lg m).1 = 0 then -1 else lN ((if u then (FL w lg m).1 else manyN (FL w lg m).2 (nI f) (FL w lg m).1) / Nat.gcd (FL w lg m).1 (manyN (FL w lg m).2 (nI f) (FL w lg m).1))
def p_share (h : qm_H) (mt ml : Nat) (a b f : Int32) (u : Bool) : Int64 := if inb f 6 && (inb a mt && inb b ml) then s_share (tw h a.toNatClampNeg) (gw h b.toNatClampNeg) (nn (gw h b.toNatClampNeg)) f.toNatClampNeg u else -1
theorem a_share {G : qm_G} (hG : G.2.2.2.2 = true) (d : Nat) (h : qm_H) {mt my ml : Nat} (hS : ST h mt my ml) (a b f : Int32) (u : Bool) : qm_Ev G (d + 4) 0 0 qyX10_share [.ref 26, .int a, .int b, .int f, .int (b2 u)] h (fun r h' => r = some (.long (p_share h mt ml a b f u)) ∧ pers h h') := by
  refine qm_Ev.run (M := mX10_share) okX10_share rfl hG fun z => ?_
  refine ⟨rfl, trivial, 0, 0, _, e_in hG (d + 3) (qm_si h 26 0 0) f 0 5, ⟨Nat.le_refl _, Nat.le_refl _⟩, ?_⟩
  rintro _ _ ⟨rfl, rfl⟩
  refine b2_eq (fun hf => ?_) (fun hf => ⟨rfl, by rw [p_share, show inb f 6 = false from hf]; rfl, pers.rf.s26⟩)
  have hf1 : inb f 6 = true := hf
  obtain ⟨ff, hff, rfl⟩ := inb_e (by omega) hf1
  refine ⟨rfl, 0, 0, _, e_layLogC hG d h hS (qm_si h 26 0 0) rfl rfl a b, ⟨Nat.le_refl _, Nat.le_refl _⟩, ?_⟩
  obtain ⟨s1, s2, -, -, s3, s4, hT, -, hL⟩ := hS
  rintro _ h2 (⟨t, l, ht, hl, rfl, rfl, rfl, c1, c2, c3, c4, c5, c6, c7⟩ | ⟨e0, rfl, e1⟩)
  · obtain ⟨i1, i2⟩ := p_in ht s2
    obtain ⟨i3, i4⟩ := p_in hl s4
    have fin : pers h h2 := pers.rf.s26.tr c7
    have etw : tw (qm_si h 26 0 0) t = tw h t := rfl
    have egw : gw (qm_si h 26 0 0) l = gw h l := rfl
    rw [etw, egw] at c4 c5
    have hle := FL_le (tw h t) (gw h l) (nn (gw h l))
    have eP : p_share h mt ml (nI t) (nI l) (nI ff) u = s_share (tw h t) (gw h l) (nn (gw h l)) ff u := by
      rw [p_share, hf1, i1, i3, i2, i4, nI_clamp (by omega)]; rfl
    rw [eP]
    refine ⟨fun q => absurd q (by decide), fun _ => ⟨rfl, fun (c : ¬ h2.1 26 43 = 0) => ?_, fun (c : h2.1 26 43 = 0) => ?_⟩⟩
    · rw [c4] at c
      have h0 : 0 < (FL (tw h t) (gw h l) (nn (gw h l))).1 := by
        rcases Nat.eq_zero_or_pos (FL (tw h t) (gw h l) (nn (gw h l))).1 with q | q
        · exact absurd (by rw [q]; rfl) c
        · exact q
      refine ⟨rfl, 0, 0, _, e_manyHave hG (d + 2) h2 c4 hle (nI ff), ⟨Nat.le_refl _, Nat.le_refl _⟩, ?_⟩
      rintro _ _ ⟨rfl, rfl⟩
      have em := s_many_ext c5 (nI ff) _ (Nat.le_refl _)
      have hml := manyN_le (FL (tw h t) (gw h l) (nn (gw h l))).2 (nI ff) (FL (tw h t) (gw h l) (nn (gw h l))).1
      have e1 : (s_many (h2.1 48) (nI ff) (FL (tw h t) (gw h l) (nn (gw h l))).1).toInt64 = lN (manyN (FL (tw h t) (gw h l) (nn (gw h l))).2 (nI ff) (FL (tw h t) (gw h l) (nn (gw h l))).1) := by
        rw [em, many_N, nI_l (by omega)]
      have e2 : (h2.1 26 43).toInt64 = lN (FL (tw h t) (gw h l) (nn (gw h l))).1 := by rw [c4, nI_l (by omega)]
      refine ⟨rfl, 0, 0, _, e_partX hG (d + 2) h2 _ _ e1 e2 (by omega) (by omega) h0 u, ⟨Nat.le_refl _, Nat.le_refl _⟩, ?_⟩
      rintro _ _ ⟨rfl, rfl⟩
      have eK : s_share (tw h t) (gw h l) (nn (gw h l)) ff u = lN ((if u then (FL (tw h t) (gw h l) (nn (gw h l))).1 else manyN (FL (tw h t) (gw h l) (nn (gw h l))).2 (nI ff) (FL (tw h t) (gw h l) (nn (gw h l))).1) / Nat.gcd (FL (tw h t) (gw h l) (nn (gw h l))).1 (manyN (FL (tw h t) (gw h l) (nn (gw h l))).2 (nI ff) (FL (tw h t) (gw h l) (nn (gw h l))).1)) := by
        rw [s_share]
        exact if_neg (by omega)
      exact ⟨rfl, by rw [eK], fin⟩
    · rw [c4] at c
      have h0 : (FL (tw h t) (gw h l) (nn (gw h l))).1 = 0 := (nI_eq (b := 0) (by omega) (by decide)).mp c
      exact ⟨rfl, by rw [s_share, if_pos h0], fin⟩
  · exact ⟨fun _ => ⟨rfl, by rw [p_share, e0, Bool.and_false]; rfl, pers.rf.s26.tr e1⟩, fun q => absurd rfl q⟩
def s_few (a : Nat → Int32) (u : Bool) : Nat → Int32
  | 0 => ones (a 0) 6
  | k + 1 => if u then mx (s_few a u k) (ones (a k) 6) else mn (s_few a u k) (ones (a k) 6)
theorem s_few_ext {a a' : Nat → Int32} {c : Nat} (hc : 0 < c) (h : ∀ j, j < c → a j = a' j) (u : Bool) : ∀ k, k ≤ c → s_few a u k = s_few a' u k
  | 0, _ => by rw [s_few, s_few, h 0 hc]
  | k + 1, hk => by rw [s_few, s_few, s_few_ext hc h u k (by omega), h k (by omega)]
def s_fewest (w lg : Nat → Int32) (m : Nat) (u : Bool) : Int32 := if (FL w lg m).1 = 0 then -1 else s_few (FL w lg m).2 u (FL w lg m).1
def p_fewest (h : qm_H) (mt ml : Nat) (a b : Int32) (u : Bool) : Int32 := if inb a mt && inb b ml then s_fewest (tw h a.toNatClampNeg) (gw h b.toNatClampNeg) (nn (gw h b.toNatClampNeg)) u else -1
theorem a_fewest {G : qm_G} (hG : G.2.2.2.2 = true) (d : Nat) (h : qm_H) {mt my ml : Nat} (hS : ST h mt my ml) (a b : Int32) (u : Bool) : qm_Ev G (d + 4) 0 0 qyX10_fewest [.ref 26, .int a, .int b, .int (b2 u)] h (fun r h' => r = some (.int (p_fewest h mt ml a b u)) ∧ pers h h') := by
  refine qm_Ev.by (M := mX10_fewest) okX10_fewest (Nat.le_of_ble_eq_true rfl) hG fun z hA => ?_
  refine qm_wp_ok hA [21] 40 _ _ _ _ _ _ ?_
  refine ⟨rfl, trivial, rfl, 0, 0, _, e_layLogC hG d h hS (qm_si h 26 0 0) rfl rfl a b, ⟨Nat.le_refl _, Nat.le_refl _⟩, ?_⟩
  obtain ⟨s1, s2, -, -, s3, s4, hT, -, hL⟩ := hS
  rintro _ h2 (⟨t, l, ht, hl, rfl, rfl, rfl, c1, c2, c3, c4, c5, c6, c7⟩ | ⟨e0, rfl, e1⟩)
  · obtain ⟨i1, i2⟩ := p_in ht s2
    obtain ⟨i3, i4⟩ := p_in hl s4
    have fin : pers h h2 := pers.rf.s26.tr c7
    have etw : tw (qm_si h 26 0 0) t = tw h t := rfl
    have egw : gw (qm_si h 26 0 0) l = gw h l := rfl
    rw [etw, egw] at c4 c5
    have hle := FL_le (tw h t) (gw h l) (nn (gw h l))
    have eP : p_fewest h mt ml (nI t) (nI l) u = s_fewest (tw h t) (gw h l) (nn (gw h l)) u := by
      rw [p_fewest, i1, i3, i2, i4]; rfl
    obtain ⟨F, hF⟩ : ∃ F, F = FL (tw h t) (gw h l) (nn (gw h l)) := ⟨_, rfl⟩
    rw [s_fewest, ← hF] at eP
    rw [← hF] at c4 c5 hle
    refine ⟨fun q => absurd q (by decide), fun _ => ⟨rfl, fun (c : ¬ h2.1 26 43 = 0) => ?_, fun (c : h2.1 26 43 = 0) => ?_⟩⟩
    · rw [c4] at c
      have h0 : 0 < F.1 := by
        rcases Nat.eq_zero_or_pos F.1 with q | q
        · exact absurd (by rw [q]; rfl) c
        · exact q
      rw [if_neg (by omega), ← s_few_ext h0 c5 u _ (Nat.le_refl _)] at eP
      refine ⟨rfl, _, rfl, rfl, (vp_in_nI (n := 0) (by decide) (by decide) : vp_in (nI 0) 64), ?_⟩
      refine ⟨0, 0, _, e_ones hG (d + 2) h2 (h2.1 48 0), ⟨Nat.le_refl _, Nat.le_refl _⟩, ?_⟩
      rintro _ _ ⟨rfl, rfl⟩
      refine qm_for (P := fun i => qm_PW G mX10_fewest z 21 0 0 [vr 26, vi (nI t), vi (nI l), vi (b2 u), vi (s_few (h2.1 48) u i), vi (nI i)] [] h2) (N := F.1) ?_ ?_
      · refine qm_wp_ok hA [] 30 _ _ _ _ _ _ ⟨rfl, fun _ => ⟨trivial, by rw [eP], fin⟩, fun (q : ¬ h2.1 26 43 ≤ nI F.1) => absurd (by rw [c4]; exact Int32.le_refl _) q⟩
      · intro i hi key
        rw [s_few, ← nI_1] at key
        have hin : vp_in (nI i) 64 := vp_in_nI (by omega) (by decide)
        refine qm_wp_ok hA [21] 40 _ _ _ _ _ _ ⟨rfl, fun (q : h2.1 26 43 ≤ nI i) => absurd q (by rw [c4]; exact nI_ge hi (by omega)), fun _ => ?_⟩
        refine b2_eq (fun hu => ?_) (fun hu => ?_)
        · refine ⟨rfl, _, rfl, rfl, hin, ?_⟩
          rw [nI_clamp (by omega)]
          refine ⟨0, 0, _, e_ones hG (d + 2) h2 (h2.1 48 i), ⟨Nat.le_refl _, Nat.le_refl _⟩, ?_⟩
          rintro _ _ ⟨rfl, rfl⟩
          refine ⟨0, 0, _, e_greater hG (d + 3) h2 _ _, ⟨Nat.le_refl _, Nat.le_refl _⟩, ?_⟩
          rintro _ _ ⟨rfl, rfl⟩
          rw [if_pos hu] at key
          exact key
        · refine ⟨rfl, _, rfl, rfl, hin, ?_⟩
          rw [nI_clamp (by omega)]
          refine ⟨0, 0, _, e_ones hG (d + 2) h2 (h2.1 48 i), ⟨Nat.le_refl _, Nat.le_refl _⟩, ?_⟩
          rintro _ _ ⟨rfl, rfl⟩
          refine ⟨0, 0, _, e_lesser hG (d + 3) h2 _ _, ⟨Nat.le_refl _, Nat.le_refl _⟩, ?_⟩
          rintro _ _ ⟨rfl, rfl⟩
          rw [if_neg (by rw [hu]; decide)] at key
          exact key
    · rw [c4] at c
      have h0 : F.1 = 0 := (nI_eq (b := 0) (by omega) (by decide)).mp c
      exact ⟨trivial, by rw [eP, if_pos h0], fin⟩
  · exact ⟨fun _ => ⟨trivial, by rw [p_fewest, e0]; rfl, pers.rf.s26.tr e1⟩, fun q => absurd rfl q⟩
