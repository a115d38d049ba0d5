/-! the class's own calls: towns, years -/
def XL : List Nat := [8, 9, 10, 11, 12, 13, 14, 15, 16, 17, 18, 19, 20, 21, 22, 23, 24, 25]
theorem XL51 : ∀ q, q ∈ XL → q < 51 := by decide
theorem PLX {h h' : qm_H} (a : sb PL h h') : sb XL h h' := a.mono (by decide)
def TWN (h : qm_H) (a m : Nat) (W : Nat → Nat → Int32) : Prop := ∀ t, t < 2 → (t < m → ∃ Q, qm_rd true h a t = some Q ∧ TO h Q (W t) (nn (W t)) ∧ VT (W t) (nn (W t))) ∧ (m ≤ t → qm_rd true h a t = none)
def YRS (h : qm_H) (a m : Nat) (W : Nat → Nat → Int32) : Prop := ∀ t, t < 2 → (t < m → ∃ Q, qm_rd true h a t = some Q ∧ RO h Q 4 (W t) (nn (W t)) ∧ VY (W t) (nn (W t)) ∧ VYc (W t) (nn (W t))) ∧ (m ≤ t → qm_rd true h a t = none)
def LGS (h : qm_H) (a m : Nat) (W : Nat → Nat → Int32) : Prop := ∀ t, t < 2 → (t < m → ∃ Q, qm_rd true h a t = some Q ∧ RO h Q 2 (W t) (nn (W t)) ∧ VL (W t) (nn (W t))) ∧ (m ≤ t → qm_rd true h a t = none)
theorem at2 {a : Int32} {m : Nat} (hm : m ≤ 2) : (∃ t, t < m ∧ a = nI t) ∨ (inb a m = false ∧ (a < 0 ∨ (¬ a < 2) ∨ ∃ t, t < 2 ∧ m ≤ t ∧ a = nI t)) := by
  by_cases c : inb a m = true
  · exact Or.inl (inb_e (by omega) c)
  · refine Or.inr ⟨by simpa using c, ?_⟩
    by_cases c2 : inb a 2 = true
    · obtain ⟨t, t1, t2⟩ := inb_e (by decide) c2
      refine Or.inr (Or.inr ⟨t, t1, ?_, t2⟩)
      rcases Nat.lt_or_ge t m with z | z
      · rw [t2] at c; exact absurd (inb_n (by omega) z) c
      · exact z
    · rw [inb_lt (by decide), Bool.and_eq_true, decide_eq_true_eq, decide_eq_true_eq] at c2
      by_cases z : a < 0
      · exact Or.inl z
      · exact Or.inr (Or.inl (fun q => c2 ⟨Int32.not_lt.mp z, q⟩))
theorem c_townAt {G : qm_G} (hG : G.2.2.2.2 = true) (d : Nat) (h : qm_H) {mt : Nat} {W : Nat → Nat → Int32} (hm : mt ≤ 2) (hT : TWN h 3 mt W) (a : Int32) : qm_Ev G d 0 0 qyX7_townAt [.ref 1, .int a] h (fun r h' => ((∃ t Q, t < mt ∧ a = nI t ∧ r = some (.ref Q) ∧ TO h Q (W t) (nn (W t)) ∧ VT (W t) (nn (W t))) ∨ (inb a mt = false ∧ r = some .null)) ∧ h = h') := by
  rcases at2 (a := a) hm with ⟨t, t1, rfl⟩ | ⟨hno, c | c | ⟨t, t1, t2, rfl⟩⟩
  · obtain ⟨Q, q1, q2, q3⟩ := (hT t (by omega)).1 t1
    have e : qm_rd true h 3 (nI t).toNatClampNeg = some Q := by rw [nI_clamp (by omega)]; exact q1
    refine qm_Ev.run (M := mX7_townAt) okX7_townAt rfl hG fun z => ?_
    refine ⟨fun q => absurd q (nI_pos (by omega)), fun _ => ⟨fun _ => ⟨rfl, _, rfl, rfl, (vp_in_nI (by omega) (by decide) : vp_in (nI t) 2), _, e, ⟨⟨_, rfl⟩, Or.inl ⟨t, Q, t1, rfl, rfl, q2, q3⟩, rfl⟩⟩, fun q => absurd (nI_lt (b := 2) (by omega) (by decide)) q⟩⟩
  · refine qm_Ev.run (M := mX7_townAt) okX7_townAt rfl hG fun z => ?_
    exact ⟨fun _ => ⟨⟨_, rfl⟩, Or.inr ⟨hno, rfl⟩, rfl⟩, fun q => absurd c q⟩
  · refine qm_Ev.run (M := mX7_townAt) okX7_townAt rfl hG fun z => ?_
    exact ⟨fun _ => ⟨⟨_, rfl⟩, Or.inr ⟨hno, rfl⟩, rfl⟩, fun _ => ⟨fun q => absurd q c, fun _ => ⟨⟨_, rfl⟩, Or.inr ⟨hno, rfl⟩, rfl⟩⟩⟩
  · have e : qm_rd true h 3 (nI t).toNatClampNeg = none := by rw [nI_clamp (by omega)]; exact (hT t t1).2 t2
    refine qm_Ev.run (M := mX7_townAt) okX7_townAt rfl hG fun z => ?_
    refine ⟨fun q => absurd q (nI_pos (by omega)), fun _ => ⟨fun _ => ⟨rfl, _, rfl, rfl, (vp_in_nI (by omega) (by decide) : vp_in (nI t) 2), _, e, ⟨⟨_, rfl⟩, Or.inr ⟨hno, rfl⟩, rfl⟩⟩, fun q => absurd (nI_lt (b := 2) (by omega) (by decide)) q⟩⟩
theorem c_yearAt {G : qm_G} (hG : G.2.2.2.2 = true) (d : Nat) (h : qm_H) {mt : Nat} {W : Nat → Nat → Int32} (hm : mt ≤ 2) (hT : YRS h 4 mt W) (a : Int32) : qm_Ev G d 0 0 qyX7_yearAt [.ref 1, .int a] h (fun r h' => ((∃ t Q, t < mt ∧ a = nI t ∧ r = some (.ref Q) ∧ RO h Q 4 (W t) (nn (W t)) ∧ VY (W t) (nn (W t)) ∧ VYc (W t) (nn (W t))) ∨ (inb a mt = false ∧ r = some .null)) ∧ h = h') := by
  rcases at2 (a := a) hm with ⟨t, t1, rfl⟩ | ⟨hno, c | c | ⟨t, t1, t2, rfl⟩⟩
  · obtain ⟨Q, q1, q2, q3, q4⟩ := (hT t (by omega)).1 t1
    have e : qm_rd true h 4 (nI t).toNatClampNeg = some Q := by rw [nI_clamp (by omega)]; exact q1
    refine qm_Ev.run (M := mX7_yearAt) okX7_yearAt rfl hG fun z => ?_
    refine ⟨fun q => absurd q (nI_pos (by omega)), fun _ => ⟨fun _ => ⟨rfl, _, rfl, rfl, (vp_in_nI (by omega) (by decide) : vp_in (nI t) 2), _, e, ⟨⟨_, rfl⟩, Or.inl ⟨t, Q, t1, rfl, rfl, q2, q3, q4⟩, rfl⟩⟩, fun q => absurd (nI_lt (b := 2) (by omega) (by decide)) q⟩⟩
  · refine qm_Ev.run (M := mX7_yearAt) okX7_yearAt rfl hG fun z => ?_
    exact ⟨fun _ => ⟨⟨_, rfl⟩, Or.inr ⟨hno, rfl⟩, rfl⟩, fun q => absurd c q⟩
  · refine qm_Ev.run (M := mX7_yearAt) okX7_yearAt rfl hG fun z => ?_
    exact ⟨fun _ => ⟨⟨_, rfl⟩, Or.inr ⟨hno, rfl⟩, rfl⟩, fun _ => ⟨fun q => absurd q c, fun _ => ⟨⟨_, rfl⟩, Or.inr ⟨hno, rfl⟩, rfl⟩⟩⟩
  · have e : qm_rd true h 4 (nI t).toNatClampNeg = none := by rw [nI_clamp (by omega)]; exact (hT t t1).2 t2
    refine qm_Ev.run (M := mX7_yearAt) okX7_yearAt rfl hG fun z => ?_
    refine ⟨fun q => absurd q (nI_pos (by omega)), fun _ => ⟨fun _ => ⟨rfl, _, rfl, rfl, (vp_in_nI (by omega) (by decide) : vp_in (nI t) 2), _, e, ⟨⟨_, rfl⟩, Or.inr ⟨hno, rfl⟩, rfl⟩⟩, fun q => absurd (nI_lt (b := 2) (by omega) (by decide)) q⟩⟩
theorem c_logAt {G : qm_G} (hG : G.2.2.2.2 = true) (d : Nat) (h : qm_H) {mt : Nat} {W : Nat → Nat → Int32} (hm : mt ≤ 2) (hT : LGS h 5 mt W) (a : Int32) : qm_Ev G d 0 0 qyX7_logAt [.ref 1, .int a] h (fun r h' => ((∃ t Q, t < mt ∧ a = nI t ∧ r = some (.ref Q) ∧ RO h Q 2 (W t) (nn (W t)) ∧ VL (W t) (nn (W t))) ∨ (inb a mt = false ∧ r = some .null)) ∧ h = h') := by
  rcases at2 (a := a) hm with ⟨t, t1, rfl⟩ | ⟨hno, c | c | ⟨t, t1, t2, rfl⟩⟩
  · obtain ⟨Q, q1, q2, q3⟩ := (hT t (by omega)).1 t1
    have e : qm_rd true h 5 (nI t).toNatClampNeg = some Q := by rw [nI_clamp (by omega)]; exact q1
    refine qm_Ev.run (M := mX7_logAt) okX7_logAt rfl hG fun z => ?_
    refine ⟨fun q => absurd q (nI_pos (by omega)), fun _ => ⟨fun _ => ⟨rfl, _, rfl, rfl, (vp_in_nI (by omega) (by decide) : vp_in (nI t) 2), _, e, ⟨⟨_, rfl⟩, Or.inl ⟨t, Q, t1, rfl, rfl, q2, q3⟩, rfl⟩⟩, fun q => absurd (nI_lt (b := 2) (by omega) (by decide)) q⟩⟩
  · refine qm_Ev.run (M := mX7_logAt) okX7_logAt rfl hG fun z => ?_
    exact ⟨fun _ => ⟨⟨_, rfl⟩, Or.inr ⟨hno, rfl⟩, rfl⟩, fun q => absurd c q⟩
  · refine qm_Ev.run (M := mX7_logAt) okX7_logAt rfl hG fun z => ?_
    exact ⟨fun _ => ⟨⟨_, rfl⟩, Or.inr ⟨hno, rfl⟩, rfl⟩, fun _ => ⟨fun q => absurd q c, fun _ => ⟨⟨_, rfl⟩, Or.inr ⟨hno, rfl⟩, rfl⟩⟩⟩
  · have e : qm_rd true h 5 (nI t).toNatClampNeg = none := by rw [nI_clamp (by omega)]; exact (hT t t1).2 t2
    refine qm_Ev.run (M := mX7_logAt) okX7_logAt rfl hG fun z => ?_
    refine ⟨fun q => absurd q (nI_pos (by omega)), fun _ => ⟨fun _ => ⟨rfl, _, rfl, rfl, (vp_in_nI (by omega) (by decide) : vp_in (nI t) 2), _, e, ⟨⟨_, rfl⟩, Or.inr ⟨hno, rfl⟩, rfl⟩⟩, fun q => absurd (nI_lt (b := 2) (by omega) (by decide)) q⟩⟩
theorem b_town {G : qm_G} (hG : G.2.2.2.2 = true) (d : Nat) (h : qm_H) {mt : Nat} (hm : mt ≤ 2) (hT : TWN h 3 mt (tw h)) (a what : Int32) : qm_Ev G (d + 1) 0 0 qyX9_town [.ref 0, .int a, .int what] h (fun r h' => r = some (.int (p_town h mt a what)) ∧ sb XL h h') := by
  refine qm_Ev.run (M := mX9_town) okX9_town rfl hG fun z => ?_
  refine ⟨rfl, _, rfl, rfl, 0, 0, _, c_townAt hG _ h hm hT a, ⟨Nat.le_refl _, Nat.le_refl _⟩, ?_⟩
  rintro _ _ ⟨⟨t, Q, t1, rfl, rfl, T, V⟩ | ⟨hno, rfl⟩, rfl⟩
  · refine ⟨T.is, 0, 0, _, c_answer hG _ h T V.1 what, ⟨Nat.le_refl _, Nat.le_refl _⟩, ?_⟩
    rintro _ _ ⟨rfl, rfl⟩
    refine ⟨trivial, congV ?_, sb.rf⟩
    rw [p_town, (p_in t1 hm).1, (p_in t1 hm).2]; rfl
  · refine ⟨trivial, congV ?_, sb.rf⟩
    rw [p_town, hno]; rfl
theorem b_deed {G : qm_G} (hG : G.2.2.2.2 = true) (d : Nat) (h : qm_H) {my : Nat} (hm : my ≤ 2) (hT : YRS h 4 my (yw h)) (a k what : Int32) : qm_Ev G (d + 2) 0 0 qyX9_deed [.ref 0, .int a, .int k, .int what] h (fun r h' => r = some (.int (p_deed h my a k what)) ∧ sb XL h h') := by
  refine qm_Ev.run (M := mX9_deed) okX9_deed rfl hG fun z => ?_
  refine ⟨rfl, _, rfl, rfl, 0, 0, _, c_yearAt hG _ h hm hT a, ⟨Nat.le_refl _, Nat.le_refl _⟩, ?_⟩
  rintro _ _ ⟨⟨t, Q, t1, rfl, rfl, T, V, -⟩ | ⟨hno, rfl⟩, rfl⟩
  · refine ⟨T.2.1, 0, 0, _, c_rowsAnswer hG _ h T V.1 (by decide) k what, ⟨Nat.le_refl _, Nat.le_refl _⟩, ?_⟩
    rintro _ _ ⟨rfl, rfl⟩
    refine ⟨trivial, congV ?_, sb.rf⟩
    rw [p_deed, (p_in t1 hm).1, (p_in t1 hm).2]; rfl
  · refine ⟨trivial, congV ?_, sb.rf⟩
    rw [p_deed, hno]; rfl
theorem b_fact {G : qm_G} (hG : G.2.2.2.2 = true) (d : Nat) (h : qm_H) {ml : Nat} (hm : ml ≤ 2) (hT : LGS h 5 ml (gw h)) (a k what : Int32) : qm_Ev G (d + 2) 0 0 qyX9_fact [.ref 0, .int a, .int k, .int what] h (fun r h' => r = some (.int (p_fact h ml a k what)) ∧ sb XL h h') := by
  refine qm_Ev.run (M := mX9_fact) okX9_fact rfl hG fun z => ?_
  refine ⟨rfl, _, rfl, rfl, 0, 0, _, c_logAt hG _ h hm hT a, ⟨Nat.le_refl _, Nat.le_refl _⟩, ?_⟩
  rintro _ _ ⟨⟨t, Q, t1, rfl, rfl, T, V⟩ | ⟨hno, rfl⟩, rfl⟩
  · refine ⟨T.2.1, 0, 0, _, c_rowsAnswer hG _ h T (by have := V.1; omega) (by decide) k what, ⟨Nat.le_refl _, Nat.le_refl _⟩, ?_⟩
    rintro _ _ ⟨rfl, rfl⟩
    refine ⟨trivial, congV ?_, sb.rf⟩
    rw [p_fact, (p_in t1 hm).1, (p_in t1 hm).2]; rfl
  · refine ⟨trivial, congV ?_, sb.rf⟩
    rw [p_fact, hno]; rfl
theorem b_till {G : qm_G} (hG : G.2.2.2.2 = true) (d : Nat) (h : qm_H) {mt my : Nat} (hm : mt ≤ 2) (hy : my ≤ 2) (hT : TWN h 3 mt (tw h)) (hY : YRS h 4 my (yw h)) (a b : Int32) : qm_Ev G (d + 7) 0 0 qyX9_till [.ref 0, .int a, .int b] h (fun r h' => r = some (.int (p_till h mt my a b)) ∧ sb XL h h') := by
  refine qm_Ev.run (M := mX9_till) okX9_till rfl hG fun z => ?_
  refine ⟨rfl, _, rfl, rfl, 0, 0, _, c_townAt hG _ h hm hT a, ⟨Nat.le_refl _, Nat.le_refl _⟩, ?_⟩
  rintro _ _ ⟨hr, rfl⟩
  rcases hr with ⟨t, Q, t1, rfl, rfl, T, V⟩ | ⟨hno, rfl⟩
  · refine ⟨rfl, _, rfl, rfl, 0, 0, _, c_yearAt hG _ h hy hY b, ⟨Nat.le_refl _, Nat.le_refl _⟩, ?_⟩
    rintro _ _ ⟨⟨y, R, y1, rfl, rfl, U, W, Wc⟩ | ⟨hno, rfl⟩, rfl⟩
    · refine ⟨rfl, _, rfl, rfl, 0, 0, _, c_playAll hG d h T V U W Wc, ⟨Nat.le_refl _, Nat.le_refl _⟩, ?_⟩
      rintro _ h1 ⟨rfl, e1, e2, e3, e4, e5, e6⟩
      refine ⟨rfl, _, rfl, rfl, trivial, congV ?_, PLX e6⟩
      rw [p_till, (p_in t1 hm).1, (p_in t1 hm).2, (p_in y1 hy).1, (p_in y1 hy).2]; exact e1
    · refine ⟨trivial, congV ?_, sb.rf⟩
      rw [p_till, hno, Bool.and_false]; rfl
  · refine ⟨rfl, _, rfl, rfl, 0, 0, _, c_yearAt hG _ h hy hY b, ⟨Nat.le_refl _, Nat.le_refl _⟩, ?_⟩
    rintro _ _ ⟨⟨y, R, y1, rfl, rfl, U, W, Wc⟩ | ⟨hno2, rfl⟩, rfl⟩
    · refine ⟨trivial, congV ?_, sb.rf⟩
      rw [p_till, hno]; rfl
    · refine ⟨trivial, congV ?_, sb.rf⟩
      rw [p_till, hno]; rfl
theorem b_state {G : qm_G} (hG : G.2.2.2.2 = true) (d : Nat) (h : qm_H) {mt my : Nat} (hm : mt ≤ 2) (hy : my ≤ 2) (hT : TWN h 3 mt (tw h)) (hY : YRS h 4 my (yw h)) (a b k what : Int32) : qm_Ev G (d + 7) 0 0 qyX9_state [.ref 0, .int a, .int b, .int k, .int what] h (fun r h' => r = some (.int (p_state h mt my a b k what)) ∧ sb XL h h') := by
  refine qm_Ev.run (M := mX9_state) okX9_state rfl hG fun z => ?_
  refine ⟨rfl, _, rfl, rfl, 0, 0, _, c_townAt hG _ h hm hT a, ⟨Nat.le_refl _, Nat.le_refl _⟩, ?_⟩
  rintro _ _ ⟨hr, rfl⟩
  rcases hr with ⟨t, Q, t1, rfl, rfl, T, V⟩ | ⟨hno, rfl⟩
  · refine ⟨rfl, _, rfl, rfl, 0, 0, _, c_yearAt hG _ h hy hY b, ⟨Nat.le_refl _, Nat.le_refl _⟩, ?_⟩
    rintro _ _ ⟨⟨y, R, y1, rfl, rfl, U, W, Wc⟩ | ⟨hno, rfl⟩, rfl⟩
    · have eP : p_state h mt my (nI t) (nI y) k what = (if 0 ≤ k ∧ k ≤ nI (nn (yw h y)) then (if nI (s_play (tw h t) (nn (tw h t)) (yw h y) k.toNatClampNeg 0 (s_init (tw h t))).1 = k then s_of (nn (tw h t)) (s_play (tw h t) (nn (tw h t)) (yw h y) k.toNatClampNeg 0 (s_init (tw h t))).2 what else -1) else -1) := by
        rw [p_state, (p_in t1 hm).1, (p_in t1 hm).2, (p_in y1 hy).1, (p_in y1 hy).2]; rfl
      rw [eP]
      have es : h.1 R 0 = nI (nn (yw h y)) := U.2.2.1
      have hmy := W.1
      refine ⟨fun (c : k < 0) => ⟨trivial, congV ?_, sb.rf⟩, fun (c : ¬ k < 0) => ⟨U.2.1, fun (c2 : k ≤ h.1 R 0) => ?_, fun (c2 : ¬ k ≤ h.1 R 0) => ⟨trivial, congV ?_, sb.rf⟩⟩⟩
      · rw [if_neg (fun q => absurd q.1 (Int32.not_le.mpr c))]
      · rw [es] at c2
        rw [if_pos ⟨Int32.not_lt.mp c, c2⟩]
        obtain ⟨kk, kk1, kk2⟩ := nI_of c
        have kk3 : kk ≤ nn (yw h y) := by rw [kk2] at c2; exact (nI_leI kk1 (by omega)).mp c2
        subst kk2
        rw [nI_clamp kk1]
        refine ⟨rfl, _, rfl, rfl, 0, 0, _, c_begin hG _ h T V, ⟨Nat.le_refl _, Nat.le_refl _⟩, ?_⟩
        rintro _ h1 ⟨rfl, e1, e2, e3, e4, s1⟩
        have T1 := T.sb s1 PL51
        have U1 := U.sb s1 PL51
        refine ⟨rfl, _, rfl, rfl, 0, 0, _, c_play hG _ h1 T1 V e4 U1 W Wc kk3 e2 (by rw [e1, e3]; exact init_PI V), ⟨Nat.le_refl _, Nat.le_refl _⟩, ?_⟩
        rintro _ h2 ⟨rfl, f1, f2, f3, f4, f5⟩
        rw [e1] at f1 f2
        have e62 : h2.1 10 6 = nI (nn (tw h t)) := by rw [f5.2.2 6 (by decide)]; exact e4
        refine ⟨rfl, _, rfl, rfl, fun (z : ¬ h2.1 10 0 = nI kk) => ⟨trivial, congV ?_, PLX (s1.tr (fqpl f5))⟩, fun (z : h2.1 10 0 = nI kk) => ⟨rfl, _, rfl, rfl, 0, 0, _, c_playAnswer hG _ h2 e62 V.1 what, ⟨Nat.le_refl _, Nat.le_refl _⟩, ?_⟩⟩
        · rw [f1] at z; rw [if_neg z]
        · rintro _ _ ⟨rfl, rfl⟩
          refine ⟨trivial, congV ?_, PLX (s1.tr (fqpl f5))⟩
          rw [f1] at z; rw [if_pos z, f2]
      · rw [es] at c2
        rw [if_neg (fun q => c2 q.2)]
    · refine ⟨trivial, congV ?_, sb.rf⟩
      rw [p_state, hno, Bool.and_false]; rfl
  · refine ⟨rfl, _, rfl, rfl, 0, 0, _, c_yearAt hG _ h hy hY b, ⟨Nat.le_refl _, Nat.le_refl _⟩, ?_⟩
    rintro _ _ ⟨⟨y, R, y1, rfl, rfl, U, W, Wc⟩ | ⟨hno2, rfl⟩, rfl⟩
    · refine ⟨trivial, congV ?_, sb.rf⟩
      rw [p_state, hno]; rfl
    · refine ⟨trivial, congV ?_, sb.rf⟩
      rw [p_state, hno]; rfl
theorem b_drawn {G : qm_G} (hG : G.2.2.2.2 = true) (d : Nat) (h : qm_H) {mt : Nat} (hm : mt ≤ 2) (hT : TWN h 3 mt (tw h)) (a sd k what : Int32) : qm_Ev G (d + 8) 0 0 qyX9_drawn [.ref 0, .int a, .int sd, .int k, .int what] h (fun r h' => r = some (.int (p_drawn h mt a sd k what)) ∧ sb XL h h') := by
  have ik := inb_lt (a := k) (n := 61) (by decide)
  have i61 : k < nI 61 ↔ k ≤ nI 60 := by
    rw [Int32.le_iff_toInt_le, Int32.lt_iff_toInt_lt, nI_toInt (by decide), nI_toInt (by decide)]; omega
  refine qm_Ev.run (M := mX9_drawn) okX9_drawn rfl hG fun z => ?_
  refine ⟨rfl, _, rfl, rfl, 0, 0, _, c_townAt hG _ h hm hT a, ⟨Nat.le_refl _, Nat.le_refl _⟩, ?_⟩
  rintro _ _ ⟨⟨t, Q, t1, rfl, rfl, T, V⟩ | ⟨hno, rfl⟩, rfl⟩
  · refine ⟨fun (c : k < 0) => ⟨trivial, congV ?_, sb.rf⟩, fun (c : ¬ k < 0) => ⟨fun (c2 : k ≤ nI 60) => ?_, fun (c2 : ¬ k ≤ nI 60) => ⟨trivial, congV ?_, sb.rf⟩⟩⟩
    · rw [p_drawn, ik, decide_eq_false (Int32.not_le.mpr c)]; rfl
    · have ht : inb k 61 = true := by rw [ik, decide_eq_true (Int32.not_lt.mp c), decide_eq_true (i61.mpr c2)]; rfl
      obtain ⟨kk, kk1, rfl⟩ := inb_e (by decide) ht
      refine ⟨rfl, _, rfl, rfl, 0, 0, _, c_begin hG _ h T V, ⟨Nat.le_refl _, Nat.le_refl _⟩, ?_⟩
      rintro _ h1 ⟨rfl, e1, e2, e3, e4, s1⟩
      have T1 := T.sb s1 PL51
      refine ⟨rfl, _, rfl, rfl, 0, 0, _, c_drawFrom hG d h1 T1 V ⟨e4, by rw [e1, e3]; exact init_PI V, 0, Nat.le_refl _, e2⟩ (by omega : kk ≤ 60) sd, ⟨Nat.le_refl _, Nat.le_refl _⟩, ?_⟩
      rintro _ h2 ⟨rfl, f1, f2, f3⟩
      refine ⟨rfl, _, rfl, rfl, 0, 0, _, c_playAnswer hG _ h2 f2 V.1 what, ⟨Nat.le_refl _, Nat.le_refl _⟩, ?_⟩
      rintro _ _ ⟨rfl, rfl⟩
      refine ⟨trivial, congV ?_, PLX (s1.tr f3)⟩
      rw [p_drawn, ht, (p_in t1 hm).1, (p_in t1 hm).2, nI_clamp (by omega), f1, e1]; rfl
    · rw [p_drawn, ik, decide_eq_false (fun q => c2 (i61.mp q)), Bool.and_false]; rfl
  · refine ⟨trivial, congV ?_, sb.rf⟩
    rw [p_drawn, hno, Bool.and_false]; rfl
theorem b_tellings {G : qm_G} (hG : G.2.2.2.2 = true) (d : Nat) (h : qm_H) {mt : Nat} (hm : mt ≤ 2) (hT : TWN h 3 mt (tw h)) (a f k : Int32) : qm_Ev G (d + 3) 0 0 qyX9_tellings [.ref 0, .int a, .int f, .int k] h (fun r h' => r = some (.int (p_tell h mt a f k)) ∧ sb XL h h') := by
  refine qm_Ev.run (M := mX9_tellings) okX9_tellings rfl hG fun z => ?_
  refine ⟨rfl, _, rfl, rfl, 0, 0, _, c_townAt hG _ h hm hT a, ⟨Nat.le_refl _, Nat.le_refl _⟩, ?_⟩
  rintro _ _ ⟨⟨t, Q, t1, rfl, rfl, T, V⟩ | ⟨hno, rfl⟩, rfl⟩
  · refine ⟨0, 0, _, c_isFact hG _ h f, ⟨Nat.le_refl _, Nat.le_refl _⟩, ?_⟩
    rintro _ _ ⟨rfl, rfl⟩
    refine b2_ne (fun hb => ?_) (fun hb => ⟨trivial, congV ?_, sb.rf⟩)
    · have hk := knN_lt (mi0 (tw h t)) f (n := nn (tw h t)) (nn (tw h t)) (Nat.le_refl _)
      have ek := kn_N (mi0 (tw h t)) f (nn (tw h t)) V.1
      have kt := c_tellers hG d h T V hk k
      rw [← ek] at kt
      refine ⟨rfl, _, rfl, T.is, 0, 0, _, c_whoKnow hG _ h T V.1 f, ⟨Nat.le_refl _, Nat.le_refl _⟩, ?_⟩
      rintro _ _ ⟨rfl, rfl⟩
      refine ⟨rfl, 0, 0, _, kt, ⟨Nat.le_refl _, Nat.le_refl _⟩, ?_⟩
      rintro _ h1 ⟨rfl, s1⟩
      refine ⟨trivial, congV ?_, s1.mono (by decide)⟩
      rw [p_tell, (p_in t1 hm).1, (p_in t1 hm).2, hb]; rfl
    · rw [p_tell, hb, Bool.and_false]; rfl
  · refine ⟨trivial, congV ?_, sb.rf⟩
    rw [p_tell, hno]; rfl
theorem b_message {G : qm_G} (hG : G.2.2.2.2 = true) (d : Nat) (h : qm_H) {mt : Nat} (hm : mt ≤ 2) (hT : TWN h 3 mt (tw h)) (a f p : Int32) : qm_Ev G (d + 3) 0 0 qyX9_message [.ref 0, .int a, .int f, .int p] h (fun r h' => r = some (.int (p_msg h mt a f p)) ∧ sb XL h h') := by
  refine qm_Ev.run (M := mX9_message) okX9_message rfl hG fun z => ?_
  refine ⟨rfl, _, rfl, rfl, 0, 0, _, c_townAt hG _ h hm hT a, ⟨Nat.le_refl _, Nat.le_refl _⟩, ?_⟩
  rintro _ _ ⟨⟨t, Q, t1, rfl, rfl, T, V⟩ | ⟨hno, rfl⟩, rfl⟩
  · refine ⟨0, 0, _, c_isFact hG _ h f, ⟨Nat.le_refl _, Nat.le_refl _⟩, ?_⟩
    rintro _ _ ⟨rfl, rfl⟩
    refine b2_eq (fun hb => ⟨T.is, 0, 0, _, c_has hG _ h T V.1 p, ⟨Nat.le_refl _, Nat.le_refl _⟩, ?_⟩) (fun hb => ⟨trivial, congV ?_, sb.rf⟩)
    · rintro _ _ ⟨rfl, rfl⟩
      refine b2_ne (fun hp => ?_) (fun hp => ⟨trivial, congV ?_, sb.rf⟩)
      · obtain ⟨pp, pp1, rfl⟩ := inb_e (by have := V.1; omega) hp
        have hk := knN_lt (mi0 (tw h t)) f (n := nn (tw h t)) (nn (tw h t)) (Nat.le_refl _)
        have ek := kn_N (mi0 (tw h t)) f (nn (tw h t)) V.1
        have kt := c_steps hG d h T V hk pp1
        rw [← ek] at kt
        refine ⟨T.is, 0, 0, _, c_whoKnow hG _ h T V.1 f, ⟨Nat.le_refl _, Nat.le_refl _⟩, ?_⟩
        rintro _ _ ⟨rfl, rfl⟩
        refine ⟨0, 0, _, kt, ⟨Nat.le_refl _, Nat.le_refl _⟩, ?_⟩
        rintro _ _ ⟨rfl, rfl⟩
        refine ⟨trivial, congV ?_, sb.rf⟩
        rw [p_msg, (p_in t1 hm).1, (p_in t1 hm).2, hb, hp, nI_clamp (by have := V.1; omega)]; rfl
      · rw [p_msg, (p_in t1 hm).1, (p_in t1 hm).2, hp, Bool.and_false, Bool.and_false]; rfl
    · rw [p_msg, hb, Bool.false_and, Bool.and_false]; rfl
  · refine ⟨trivial, congV ?_, sb.rf⟩
    rw [p_msg, hno]; rfl
