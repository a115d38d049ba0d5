/-! the reference: deeds, lines, years played, counts, faults; what is learnt, the best -/
def s_cell (w : Nat → Int32) (c m : Nat) (k what : Int32) : Int32 := if k = -1 then (if what = 0 then nI m else -2) else if inb k m && inb what c then w (1 + c * k.toNatClampNeg + what.toNatClampNeg) else -2
def p_deed (h : qm_H) (my : Nat) (a k what : Int32) : Int32 := if inb a my then s_cell (yw h a.toNatClampNeg) 4 (nn (yw h a.toNatClampNeg)) k what else -2
theorem a_deed {G : qm_G} (hG : G.2.2.2.2 = true) (d : Nat) (h : qm_H) {mt my ml : Nat} (hS : ST h mt my ml) (a k what : Int32) : qm_Ev G (d + 3) 0 0 qyX10_deed [.ref 26, .int a, .int k, .int what] h (fun r h' => r = some (.int (p_deed h my a k what)) ∧ pers h h') := by
  refine qm_Ev.run (M := mX10_deed) okX10_deed rfl hG fun z => ?_
  obtain ⟨-, -, hS3, hS4, -, -, -, hY, -⟩ := hS
  refine ⟨rfl, trivial, rfl, 0, 0, _, e_hasYear hG d (qm_si h 26 0 0) a, ⟨Nat.le_refl _, Nat.le_refl _⟩, ?_⟩
  rintro _ _ ⟨rfl, rfl⟩
  have e31 : (qm_si h 26 0 0).1 31 1 = nI my := hS3
  rw [e31]
  have fin : pers h (qm_si (qm_si h 26 0 0) 26 34 a) := pers.rf.s26.s26
  refine b2_ne (fun hb => ?_) (fun hb => ⟨trivial, by rw [p_deed, show inb a my = false from hb]; rfl, fin⟩)
  have hb1 : inb a my = true := hb
  obtain ⟨y, hy, rfl⟩ := inb_e (by omega) hb1
  obtain ⟨i1, i2⟩ := p_in hy hS4
  have hV := hY y hy
  obtain ⟨m, hm⟩ : ∃ m, m = nn (yw h y) := ⟨_, rfl⟩
  rw [← hm] at hV
  have eP : p_deed h my (nI y) k what = s_cell (yw h y) 4 m k what := by rw [p_deed, i1, i2, ← hm]; rfl
  rw [eP]
  have hm40 := hV.1
  have e34 : (qm_si (qm_si h 26 0 0) 26 34 (nI y)).1 26 34 = nI y := rfl
  have e0 : yw (qm_si (qm_si h 26 0 0) 26 34 (nI y)) y 0 = nI m := hV.2.1
  refine ⟨fun c => ?_, fun c => ⟨fun c2 => ?_, fun c2 => ?_⟩⟩
  · have c0 : ¬ k = -1 := c
    refine ⟨rfl, 0, 0, _, e_deeds hG (d + 2) _ e34 (by omega), ⟨Nat.le_refl _, Nat.le_refl _⟩, ?_⟩
    rintro _ _ ⟨rfl, rfl⟩
    rw [e0]
    refine ⟨0, 0, _, e_in hG (d + 2) _ k 0 (nI m - 1), ⟨Nat.le_refl _, Nat.le_refl _⟩, ?_⟩
    rintro _ _ ⟨rfl, rfl⟩
    refine b2_eq (fun hk => ?_) (fun hk => ⟨trivial, by rw [s_cell, if_neg c0, show inb k m = false from hk]; rfl, fin⟩)
    refine ⟨0, 0, _, e_in hG (d + 2) _ what 0 3, ⟨Nat.le_refl _, Nat.le_refl _⟩, ?_⟩
    rintro _ _ ⟨rfl, rfl⟩
    refine b2_eq (fun hw => ?_) (fun hw => ⟨trivial, by rw [s_cell, if_neg c0, show inb what 4 = false from hw, Bool.and_false]; rfl, fin⟩)
    have hk1 : inb k m = true := hk
    have hw1 : inb what 4 = true := hw
    obtain ⟨kk, hkk, rfl⟩ := inb_e (by omega) hk1
    obtain ⟨j, hj, rfl⟩ := inb_e (by omega) hw1
    refine ⟨rfl, 0, 0, _, e_deedOf hG (d + 2) _ (k := kk) (j := j) e34 (by omega) (by omega) hj, ⟨Nat.le_refl _, Nat.le_refl _⟩, ?_⟩
    rintro _ _ ⟨rfl, rfl⟩
    exact ⟨trivial, by rw [s_cell, if_neg c0, hk1, hw1, nI_clamp (by omega), nI_clamp (by omega)]; rfl, fin⟩
  · have c0 : k = -1 := c
    exact ⟨trivial, by rw [s_cell, if_pos c0, if_neg c2], fin⟩
  · have c0 : k = -1 := c
    refine ⟨rfl, 0, 0, _, e_deeds hG (d + 2) _ e34 (by omega), ⟨Nat.le_refl _, Nat.le_refl _⟩, ?_⟩
    rintro _ _ ⟨rfl, rfl⟩
    exact ⟨trivial, by rw [s_cell, if_pos c0, if_pos c2, e0], fin⟩
def p_fact (h : qm_H) (ml : Nat) (a k what : Int32) : Int32 := if inb a ml then s_cell (gw h a.toNatClampNeg) 2 (nn (gw h a.toNatClampNeg)) k what else -2
theorem a_fact {G : qm_G} (hG : G.2.2.2.2 = true) (d : Nat) (h : qm_H) {mt my ml : Nat} (hS : ST h mt my ml) (a k what : Int32) : qm_Ev G (d + 3) 0 0 qyX10_fact [.ref 26, .int a, .int k, .int what] h (fun r h' => r = some (.int (p_fact h ml a k what)) ∧ pers h h') := by
  refine qm_Ev.run (M := mX10_fact) okX10_fact rfl hG fun z => ?_
  obtain ⟨-, -, -, -, hS3, hS4, -, -, hY⟩ := hS
  refine ⟨rfl, trivial, rfl, 0, 0, _, e_hasLog hG d (qm_si h 26 0 0) a, ⟨Nat.le_refl _, Nat.le_refl _⟩, ?_⟩
  rintro _ _ ⟨rfl, rfl⟩
  have e31 : (qm_si h 26 0 0).1 31 2 = nI ml := hS3
  rw [e31]
  have fin : pers h (qm_si (qm_si h 26 0 0) 26 41 a) := pers.rf.s26.s26
  refine b2_ne (fun hb => ?_) (fun hb => ⟨trivial, by rw [p_fact, show inb a ml = false from hb]; rfl, fin⟩)
  have hb1 : inb a ml = true := hb
  obtain ⟨y, hy, rfl⟩ := inb_e (by omega) hb1
  obtain ⟨i1, i2⟩ := p_in hy hS4
  have hV := hY y hy
  obtain ⟨m, hm⟩ : ∃ m, m = nn (gw h y) := ⟨_, rfl⟩
  rw [← hm] at hV
  have eP : p_fact h ml (nI y) k what = s_cell (gw h y) 2 m k what := by rw [p_fact, i1, i2, ← hm]; rfl
  rw [eP]
  have hm40 := hV.1
  have e34 : (qm_si (qm_si h 26 0 0) 26 41 (nI y)).1 26 41 = nI y := rfl
  have e0 : gw (qm_si (qm_si h 26 0 0) 26 41 (nI y)) y 0 = nI m := hV.2.1
  refine ⟨fun c => ?_, fun c => ⟨fun c2 => ?_, fun c2 => ?_⟩⟩
  · have c0 : ¬ k = -1 := c
    refine ⟨rfl, 0, 0, _, e_linesOf hG (d + 2) _ e34 (by omega), ⟨Nat.le_refl _, Nat.le_refl _⟩, ?_⟩
    rintro _ _ ⟨rfl, rfl⟩
    rw [e0]
    refine ⟨0, 0, _, e_in hG (d + 2) _ k 0 (nI m - 1), ⟨Nat.le_refl _, Nat.le_refl _⟩, ?_⟩
    rintro _ _ ⟨rfl, rfl⟩
    refine b2_eq (fun hk => ?_) (fun hk => ⟨trivial, by rw [s_cell, if_neg c0, show inb k m = false from hk]; rfl, fin⟩)
    refine ⟨0, 0, _, e_in hG (d + 2) _ what 0 1, ⟨Nat.le_refl _, Nat.le_refl _⟩, ?_⟩
    rintro _ _ ⟨rfl, rfl⟩
    refine b2_eq (fun hw => ?_) (fun hw => ⟨trivial, by rw [s_cell, if_neg c0, show inb what 2 = false from hw, Bool.and_false]; rfl, fin⟩)
    have hk1 : inb k m = true := hk
    have hw1 : inb what 2 = true := hw
    obtain ⟨kk, hkk, rfl⟩ := inb_e (by omega) hk1
    obtain ⟨j, hj, rfl⟩ := inb_e (by omega) hw1
    refine ⟨rfl, 0, 0, _, e_lineOf hG (d + 2) _ (k := kk) (j := j) e34 (by omega) (by omega) hj, ⟨Nat.le_refl _, Nat.le_refl _⟩, ?_⟩
    rintro _ _ ⟨rfl, rfl⟩
    exact ⟨trivial, by rw [s_cell, if_neg c0, hk1, hw1, nI_clamp (by omega), nI_clamp (by omega)]; rfl, fin⟩
  · have c0 : k = -1 := c
    exact ⟨trivial, by rw [s_cell, if_pos c0, if_neg c2], fin⟩
  · have c0 : k = -1 := c
    refine ⟨rfl, 0, 0, _, e_linesOf hG (d + 2) _ e34 (by omega), ⟨Nat.le_refl _, Nat.le_refl _⟩, ?_⟩
    rintro _ _ ⟨rfl, rfl⟩
    exact ⟨trivial, by rw [s_cell, if_pos c0, if_pos c2, e0], fin⟩
def p_till (h : qm_H) (mt my : Nat) (a b : Int32) : Int32 := if inb a mt && inb b my then nI (s_play (tw h a.toNatClampNeg) (nn (tw h a.toNatClampNeg)) (yw h b.toNatClampNeg) (nn (yw h b.toNatClampNeg)) 0 (s_init (tw h a.toNatClampNeg))).1 else -1
theorem a_till {G : qm_G} (hG : G.2.2.2.2 = true) (d : Nat) (h : qm_H) {mt my ml : Nat} (hS : ST h mt my ml) (a b : Int32) : qm_Ev G (d + 6) 0 0 qyX10_till [.ref 26, .int a, .int b] h (fun r h' => r = some (.int (p_till h mt my a b)) ∧ pers h h') := by
  refine qm_Ev.run (M := mX10_till) okX10_till rfl hG fun z => ?_
  obtain ⟨s1, s2, s3, s4, -, -, hT, hY, -⟩ := hS
  refine ⟨rfl, trivial, rfl, 0, 0, _, e_layAllC hG (d + 2) (qm_si h 26 0 0) (mt := mt) (my := my) s1 s2 s3 s4 a b, ⟨Nat.le_refl _, Nat.le_refl _⟩, ?_⟩
  rintro _ h' (⟨t, y, ht, hy, rfl, rfl, rfl, rfl⟩ | ⟨e0, rfl, e1⟩)
  · obtain ⟨i1, i2⟩ := p_in ht s2
    obtain ⟨i3, i4⟩ := p_in hy s4
    have vT := hT t ht
    have vY := hY y hy
    refine ⟨fun q => absurd q (by decide), fun _ => ?_⟩
    have g1 : (hnd (qm_si (qm_si h 26 0 0) 26 34 (nI y)) t).1 26 34 = nI y := rfl
    refine ⟨rfl, 0, 0, _, e_deeds hG (d + 5) _ g1 (by omega), ⟨Nat.le_refl _, Nat.le_refl _⟩, ?_⟩
    rintro _ _ ⟨rfl, rfl⟩
    have g2 : yw (hnd (qm_si (qm_si h 26 0 0) 26 34 (nI y)) t) y 0 = nI (nn (yw h y)) := vY.2.1
    rw [g2]
    refine ⟨rfl, 0, 0, _, e_play hG d _ (t := t) (n := nn (tw h t)) (y := y) (m := nn (yw h y)) (lim := nn (yw h y)) rfl (by omega) vT.2.1 vT.1 g1 (by omega) vY (Nat.le_refl _), ⟨Nat.le_refl _, Nat.le_refl _⟩, ?_⟩
    rintro _ h2 ⟨rfl, f1, f2⟩
    exact ⟨trivial, by rw [p_till, i1, i3, i2, i4]; rfl, pers.rf.s26.s26.tr ((hnd.ps _ t).tr f2.ps)⟩
  · exact ⟨fun _ => ⟨trivial, by rw [p_till, e0]; rfl, pers.rf.s26.tr e1⟩, fun q => absurd rfl q⟩
def p_state (h : qm_H) (mt my : Nat) (a b k what : Int32) : Int32 := if inb a mt && inb b my then (if 0 ≤ k ∧ k ≤ nI (nn (yw h b.toNatClampNeg)) then (if nI (s_play (tw h a.toNatClampNeg) (nn (tw h a.toNatClampNeg)) (yw h b.toNatClampNeg) k.toNatClampNeg 0 (s_init (tw h a.toNatClampNeg))).1 = k then s_of (nn (tw h a.toNatClampNeg)) (s_play (tw h a.toNatClampNeg) (nn (tw h a.toNatClampNeg)) (yw h b.toNatClampNeg) k.toNatClampNeg 0 (s_init (tw h a.toNatClampNeg))).2 what else -1) else -1) else -1
theorem a_state {G : qm_G} (hG : G.2.2.2.2 = true) (d : Nat) (h : qm_H) {mt my ml : Nat} (hS : ST h mt my ml) (a b k what : Int32) : qm_Ev G (d + 6) 0 0 qyX10_state [.ref 26, .int a, .int b, .int k, .int what] h (fun r h' => r = some (.int (p_state h mt my a b k what)) ∧ pers h h') := by
  refine qm_Ev.run (M := mX10_state) okX10_state rfl hG fun z => ?_
  obtain ⟨s1, s2, s3, s4, -, -, hT, hY, -⟩ := hS
  refine ⟨rfl, trivial, rfl, 0, 0, _, e_layAllC hG (d + 2) (qm_si h 26 0 0) (mt := mt) (my := my) s1 s2 s3 s4 a b, ⟨Nat.le_refl _, Nat.le_refl _⟩, ?_⟩
  rintro _ h' (⟨t, y, ht, hy, rfl, rfl, rfl, rfl⟩ | ⟨e0, rfl, e1⟩)
  · obtain ⟨i1, i2⟩ := p_in ht s2
    obtain ⟨i3, i4⟩ := p_in hy s4
    have vT := hT t ht
    have vY := hY y hy
    refine ⟨fun q => absurd q (by decide), fun _ => ?_⟩
    have g1 : (hnd (qm_si (qm_si h 26 0 0) 26 34 (nI y)) t).1 26 34 = nI y := rfl
    have fin : pers h (hnd (qm_si (qm_si h 26 0 0) 26 34 (nI y)) t) := pers.rf.s26.s26.tr (hnd.ps _ t)
    refine ⟨rfl, 0, 0, _, e_deeds hG (d + 5) _ g1 (by omega), ⟨Nat.le_refl _, Nat.le_refl _⟩, ?_⟩
    rintro _ _ ⟨rfl, rfl⟩
    have g2 : yw (hnd (qm_si (qm_si h 26 0 0) 26 34 (nI y)) t) y 0 = nI (nn (yw h y)) := vY.2.1
    rw [g2]
    refine ⟨0, 0, _, e_in hG (d + 5) _ k 0 (nI (nn (yw h y))), ⟨Nat.le_refl _, Nat.le_refl _⟩, ?_⟩
    rintro _ _ ⟨rfl, rfl⟩
    have v40 := vY.1
    refine b2_eq (fun hb => ?_) (fun hb => ⟨trivial, by rw [p_state, i1, i3, i2, i4]; simp only [Bool.and_self, if_true]; rw [if_neg (of_decide_eq_false hb)], fin⟩)
    have hb1 := of_decide_eq_true hb
    obtain ⟨kk, hkk, rfl⟩ := nI_of2 (M := nI (nn (yw h y))) (n := nn (yw h y)) (nI_toInt (by omega)) (Int32.not_lt.mpr hb1.1) hb1.2
    refine ⟨rfl, 0, 0, _, e_play hG d _ (t := t) (n := nn (tw h t)) (y := y) (m := nn (yw h y)) (lim := kk) rfl (by omega) vT.2.1 vT.1 g1 (by omega) vY hkk, ⟨Nat.le_refl _, Nat.le_refl _⟩, ?_⟩
    rintro _ h2 ⟨rfl, f1, f2⟩
    have eP : p_state h mt my (nI t) (nI y) (nI kk) what = if nI (s_play (tw h t) (nn (tw h t)) (yw h y) kk 0 (s_init (tw h t))).1 = nI kk then s_of (nn (tw h t)) (s_play (tw h t) (nn (tw h t)) (yw h y) kk 0 (s_init (tw h t))).2 what else -1 := by
      rw [p_state, i1, i3, i2, i4, nI_clamp (by omega)]
      simp only [Bool.and_self, if_true]
      rw [if_pos hb1]
    rw [eP]
    have f1' : rps h2 = (s_play (tw h t) (nn (tw h t)) (yw h y) kk 0 (s_init (tw h t))).2 := f1
    refine ⟨fun (c : ¬ nI (s_play (tw h t) (nn (tw h t)) (yw h y) kk 0 (s_init (tw h t))).1 = nI kk) => ⟨trivial, by rw [if_neg c], fin.tr f2.ps⟩, fun (c : nI (s_play (tw h t) (nn (tw h t)) (yw h y) kk 0 (s_init (tw h t))).1 = nI kk) => ?_⟩
    refine ⟨rfl, 0, 0, _, e_ofState hG (d + 5) h2 (n := nn (tw h t)) (by rw [f2.2.2 23 (by decide)]; exact vT.2.1) vT.1 what, ⟨Nat.le_refl _, Nat.le_refl _⟩, ?_⟩
    rintro _ _ ⟨rfl, rfl⟩
    exact ⟨trivial, by rw [if_pos c, f1'], fin.tr f2.ps⟩
  · exact ⟨fun _ => ⟨trivial, by rw [p_state, e0]; rfl, pers.rf.s26.tr e1⟩, fun q => absurd rfl q⟩
def p_count (h : qm_H) (sort : Int32) : Int32 := if inb sort 3 then h.1 31 sort.toNatClampNeg else -2
theorem a_count {G : qm_G} (hG : G.2.2.2.2 = true) (d : Nat) (h : qm_H) (sort : Int32) : qm_Ev G (d + 1) 0 0 qyX10_count [.ref 26, .int sort] h (fun r h' => r = some (.int (p_count h sort)) ∧ pers h h') := by
  refine qm_Ev.run (M := mX10_count) okX10_count rfl hG fun z => ?_
  refine ⟨rfl, trivial, 0, 0, _, e_in hG d (qm_si h 26 0 0) sort 0 2, ⟨Nat.le_refl _, Nat.le_refl _⟩, ?_⟩
  rintro _ _ ⟨rfl, rfl⟩
  refine b2_eq (fun hb => ?_) (fun hb => ⟨trivial, by rw [p_count, show inb sort 3 = false from hb]; rfl, pers.rf.s26⟩)
  have hb1 : inb sort 3 = true := hb
  obtain ⟨s, hs, rfl⟩ := inb_e (by omega) hb1
  refine ⟨rfl, _, rfl, rfl, (vp_in_nI (by omega) (by decide) : vp_in (nI s) 12), trivial, ?_, pers.rf.s26⟩
  rw [p_count, hb1]
  rfl
def p_fault (h : qm_H) (what : Int32) : Int32 := if what = 0 then h.1 29 0 else if what = 1 then h.1 30 0 else -1
theorem a_fault {G : qm_G} (hG : G.2.2.2.2 = true) (d : Nat) (h : qm_H) (what : Int32) : qm_Ev G d 0 0 qyX10_fault [.ref 26, .int what] h (fun r h' => r = some (.int (p_fault h what)) ∧ pers h h') := by
  refine qm_Ev.run (M := mX10_fault) okX10_fault rfl hG fun z => ?_
  refine ⟨rfl, trivial, fun c => ⟨fun c2 => ?_, fun c2 => ?_⟩, fun c => ?_⟩
  · exact ⟨trivial, by rw [p_fault, if_neg c, if_neg c2], pers.rf.s26⟩
  · exact ⟨rfl, _, rfl, rfl, (vp_in_nI (n := 0) (by decide) (by decide) : vp_in (nI 0) 4), trivial, by rw [p_fault, if_neg c, if_pos c2]; rfl, pers.rf.s26⟩
  · exact ⟨rfl, _, rfl, rfl, (vp_in_nI (n := 0) (by decide) (by decide) : vp_in (nI 0) 4), trivial, by rw [p_fault, if_pos c]; rfl, pers.rf.s26⟩
/-- who knows what in a town -/
def mi0 (w : Nat → Int32) : Nat → Int32 := (s_init w).2.2.1
def p_learnt (h : qm_H) (mt : Nat) (a p f : Int32) : Int32 := if inb a mt then (if inb p (nn (tw h a.toNatClampNeg)) && (inb f 6 && bit (mi0 (tw h a.toNatClampNeg) p.toNatClampNeg) f) then s_learnt (tw h a.toNatClampNeg) (mi0 (tw h a.toNatClampNeg)) p.toNatClampNeg f.toNatClampNeg (nn (tw h a.toNatClampNeg)) else -1) else -1
theorem a_learnt {G : qm_G} (hG : G.2.2.2.2 = true) (d : Nat) (h : qm_H) {mt my ml : Nat} (hS : ST h mt my ml) (a p f : Int32) : qm_Ev G (d + 3) 0 0 qyX10_learnt [.ref 26, .int a, .int p, .int f] h (fun r h' => r = some (.int (p_learnt h mt a p f)) ∧ pers h h') := by
  refine qm_Ev.run (M := mX10_learnt) okX10_learnt rfl hG fun z => ?_
  obtain ⟨s1, s2, -, -, -, -, hT, -, -⟩ := hS
  refine ⟨rfl, trivial, rfl, 0, 0, _, e_handC hG d (qm_si h 26 0 0) (mt := mt) s1 s2 a, ⟨Nat.le_refl _, Nat.le_refl _⟩, ?_⟩
  rintro _ _ (⟨t, ht, rfl, rfl, rfl⟩ | ⟨e0, rfl, rfl⟩)
  · obtain ⟨i1, i2⟩ := p_in ht s2
    have vT := hT t ht
    have n6 := vT.1
    have fin : pers h (hnd (qm_si h 26 0 0) t) := pers.rf.s26.tr (hnd.ps _ t)
    have g23 : (hnd (qm_si h 26 0 0) t).1 26 23 = nI (nn (tw h t)) := vT.2.1
    have eP : p_learnt h mt (nI t) p f = if inb p (nn (tw h t)) && (inb f 6 && bit (mi0 (tw h t) p.toNatClampNeg) f) then s_learnt (tw h t) (mi0 (tw h t)) p.toNatClampNeg f.toNatClampNeg (nn (tw h t)) else -1 := by
      rw [p_learnt, i1, i2]; rfl
    rw [eP]
    refine ⟨fun q => absurd q (by decide), fun _ => ?_⟩
    refine ⟨rfl, 0, 0, _, e_isPerson hG (d + 1) (hnd (qm_si h 26 0 0) t) p, ⟨Nat.le_refl _, Nat.le_refl _⟩, ?_⟩
    rintro _ _ ⟨rfl, rfl⟩
    rw [g23]
    refine b2_eq (fun hb => ?_) (fun hb => ⟨trivial, by rw [show inb p (nn (tw h t)) = false from hb]; rfl, fin⟩)
    have hb1 : inb p (nn (tw h t)) = true := hb
    refine ⟨0, 0, _, e_in hG (d + 2) _ f 0 5, ⟨Nat.le_refl _, Nat.le_refl _⟩, ?_⟩
    rintro _ _ ⟨rfl, rfl⟩
    refine b2_eq (fun hf => ?_) (fun hf => ⟨trivial, by rw [show inb f 6 = false from hf, Bool.false_and, Bool.and_false]; rfl, fin⟩)
    have hf1 : inb f 6 = true := hf
    obtain ⟨pp, hpp, rfl⟩ := inb_e (by omega) hb1
    obtain ⟨ff, hff, rfl⟩ := inb_e (by omega) hf1
    rw [hb1, hf1, Bool.true_and, Bool.true_and, nI_clamp (by omega), nI_clamp (by omega)]
    refine ⟨rfl, _, rfl, rfl, (vp_in_nI (by omega) (by decide) : vp_in (nI pp) 6), ?_⟩
    rw [nI_clamp (by omega)]
    refine ⟨0, 0, _, e_has hG (d + 2) _ ((hnd (qm_si h 26 0 0) t).1 39 pp) (nI ff), ⟨Nat.le_refl _, Nat.le_refl _⟩, ?_⟩
    rintro _ _ ⟨rfl, rfl⟩
    refine b2_eq (fun hh => ?_) (fun hh => ⟨trivial, by rw [show bit (mi0 (tw h t) pp) (nI ff) = false from hh]; rfl, fin⟩)
    refine ⟨rfl, 0, 0, _, e_learntOf hG d (hnd (qm_si h 26 0 0) t) (t := t) (n := nn (tw h t)) (p := pp) (f := ff) rfl (by omega) g23 n6 hff, ⟨Nat.le_refl _, Nat.le_refl _⟩, ?_⟩
    rintro _ _ ⟨rfl, rfl⟩
    exact ⟨trivial, by rw [show bit (mi0 (tw h t) pp) (nI ff) = true from hh]; rfl, fin⟩
  · exact ⟨fun _ => ⟨trivial, by rw [p_learnt, e0]; rfl, pers.rf.s26⟩, fun q => absurd rfl q⟩
def p_best (h : qm_H) (mt : Nat) (a p : Int32) (b : Bool) : Int32 := if inb a mt then (if inb p (nn (tw h a.toNatClampNeg)) then (if b then mx 0 (s_best (tw h a.toNatClampNeg) (mi0 (tw h a.toNatClampNeg)) (nn (tw h a.toNatClampNeg)) p.toNatClampNeg 6).2 else (s_best (tw h a.toNatClampNeg) (mi0 (tw h a.toNatClampNeg)) (nn (tw h a.toNatClampNeg)) p.toNatClampNeg 6).1) else -2) else -2
theorem a_best {G : qm_G} (hG : G.2.2.2.2 = true) (d : Nat) (h : qm_H) {mt my ml : Nat} (hS : ST h mt my ml) (a p : Int32) (b : Bool) : qm_Ev G (d + 4) 0 0 qyX10_best [.ref 26, .int a, .int p, .int (b2 b)] h (fun r h' => r = some (.int (p_best h mt a p b)) ∧ pers h h') := by
  refine qm_Ev.run (M := mX10_best) okX10_best rfl hG fun z => ?_
  obtain ⟨s1, s2, -, -, -, -, hT, -, -⟩ := hS
  refine ⟨rfl, trivial, rfl, 0, 0, _, e_handC hG (d + 1) (qm_si h 26 0 0) (mt := mt) s1 s2 a, ⟨Nat.le_refl _, Nat.le_refl _⟩, ?_⟩
  rintro _ _ (⟨t, ht, rfl, rfl, rfl⟩ | ⟨e0, rfl, rfl⟩)
  · obtain ⟨i1, i2⟩ := p_in ht s2
    have vT := hT t ht
    have n6 := vT.1
    have fin : pers h (hnd (qm_si h 26 0 0) t) := pers.rf.s26.tr (hnd.ps _ t)
    have g23 : (hnd (qm_si h 26 0 0) t).1 26 23 = nI (nn (tw h t)) := vT.2.1
    have eP : p_best h mt (nI t) p b = if inb p (nn (tw h t)) then (if b then mx 0 (s_best (tw h t) (mi0 (tw h t)) (nn (tw h t)) p.toNatClampNeg 6).2 else (s_best (tw h t) (mi0 (tw h t)) (nn (tw h t)) p.toNatClampNeg 6).1) else -2 := by
      rw [p_best, i1, i2]; rfl
    rw [eP]
    refine ⟨fun q => absurd q (by decide), fun _ => ?_⟩
    refine ⟨rfl, 0, 0, _, e_isPerson hG (d + 2) (hnd (qm_si h 26 0 0) t) p, ⟨Nat.le_refl _, Nat.le_refl _⟩, ?_⟩
    rintro _ _ ⟨rfl, rfl⟩
    rw [g23]
    refine b2_eq (fun hb => ?_) (fun hb => ⟨trivial, by rw [show inb p (nn (tw h t)) = false from hb]; rfl, fin⟩)
    have hb1 : inb p (nn (tw h t)) = true := hb
    obtain ⟨pp, hpp, rfl⟩ := inb_e (by omega) hb1
    rw [hb1, nI_clamp (by omega)]
    refine ⟨rfl, 0, 0, _, e_bestOf hG d (hnd (qm_si h 26 0 0) t) (t := t) (n := nn (tw h t)) (p := pp) rfl (by omega) g23 n6 (by omega) b, ⟨Nat.le_refl _, Nat.le_refl _⟩, ?_⟩
    rintro _ _ ⟨rfl, rfl⟩
    exact ⟨trivial, rfl, fin⟩
  · exact ⟨fun _ => ⟨trivial, by rw [p_best, e0]; rfl, pers.rf.s26⟩, fun q => absurd rfl q⟩
