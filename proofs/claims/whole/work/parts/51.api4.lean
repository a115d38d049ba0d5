/-! the reference: roots and reach -/
def s_choir1 (w : Nat → Int32) (set : Int32) (i : Bool) : Nat → Bool
  | 0 => i
  | p + 1 => s_choir1 w set i p && (!bit set (nI p) || decide (w (25 + p) &&& set = 0))
theorem s_choir1_no {w : Nat → Int32} {set : Int32} {i : Bool} {k : Nat} (h : s_choir1 w set i k = false) : ∀ m, k ≤ m → s_choir1 w set i m = false := by
  intro m
  induction m with
  | zero => intro hk; rw [show k = 0 by omega] at h; exact h
  | succ m ih =>
    intro hk
    rcases Nat.lt_or_ge m k with q | q
    · rw [show k = m + 1 by omega] at h; exact h
    · rw [s_choir1, ih q]; rfl
def s_choir (w : Nat → Int32) (n : Nat) : Nat → Int32
  | 0 => 0
  | k + 1 => if s_choir1 w (nI k) (!decide (ones (nI k) 6 ≤ ones (s_choir w n k) 6)) n then nI k else s_choir w n k
theorem e_choir {G : qm_G} (hG : G.2.2.2.2 = true) (d : Nat) (h : qm_H) {t n : Nat} (ht : h.1 26 22 = nI t) (hk : t < 2) (hn : h.1 26 23 = nI n) (hn6 : n ≤ 6) : qm_Ev G (d + 2) 0 0 qyX10_choir [.ref 26] h (fun r h' => r = some (.int (s_choir (tw h t) n (2 ^ n))) ∧ h = h') := by
  refine qm_Ev.by (M := mX10_choir) okX10_choir (Nat.le_of_ble_eq_true rfl) hG fun z hA => ?_
  obtain ⟨-, p1⟩ := s_pow hn6
  obtain ⟨p2, p3⟩ := s_pow6 hn6
  have e0 : (1 : Int32) <<< (h.1 26 23 &&& 31) = nI (2 ^ n) := by rw [hn]; exact p1
  refine qm_wp_ok hA [4] 20 _ _ _ _ _ _ ?_
  refine qm_for (P := fun i => qm_PW G mX10_choir z 4 0 0 [vr 26, vi (s_choir (tw h t) n i), vi (nI i), vu, vu] [] h) (N := 2 ^ n) ?_ ?_
  · refine qm_wp_ok hA [] 20 _ _ _ _ _ _ ⟨rfl, fun _ => ⟨trivial, rfl, rfl⟩, fun (q : ¬ (1 : Int32) <<< (h.1 26 23 &&& 31) ≤ nI (2 ^ n)) => absurd (by rw [e0]; exact Int32.le_refl _) q⟩
  · intro i hi key
    rw [s_choir, ← nI_1] at key
    have key2 : ∀ L3 L4 : Option Value, qm_PW G mX10_choir z 4 0 0 [vr 26, vi (if s_choir1 (tw h t) (nI i) (!decide (ones (nI i) 6 ≤ ones (s_choir (tw h t) n i) 6)) n = true then nI i else s_choir (tw h t) n i), vi (nI i + 1), L3, L4] [] h := fun L3 L4 => qm_PW.mask [true, true, true, false, false] key
    have inner : ∀ b : Bool, b = (!decide (ones (nI i) 6 ≤ ones (s_choir (tw h t) n i) 6)) → qm_PW G mX10_choir z 21 0 0 [vr 26, vi (s_choir (tw h t) n i), vi (nI i), vi (b2 (s_choir1 (tw h t) (nI i) b 0)), vi (nI 0)] [] h := by
      intro b hb
      rw [← hb] at key2
      refine qm_for (P := fun j => qm_PW G mX10_choir z 21 0 0 [vr 26, vi (s_choir (tw h t) n i), vi (nI i), vi (b2 (s_choir1 (tw h t) (nI i) b j)), vi (nI j)] [] h) (N := n) ?_ ?_
      · refine qm_wp_ok hA [4] 30 _ _ _ _ _ _ ⟨rfl, fun _ => ?_, fun (q : ¬ h.1 26 23 ≤ nI n) => absurd (by rw [hn]; exact Int32.le_refl _) q⟩
        refine b2_eq (fun hx => ?_) (fun hx => ?_)
        · have k := key2 (vi (b2 (s_choir1 (tw h t) (nI i) b n))) (vi (nI n))
          rw [if_pos hx] at k
          exact k
        · have k := key2 (vi (b2 (s_choir1 (tw h t) (nI i) b n))) (vi (nI n))
          rw [if_neg (by rw [hx]; decide)] at k
          exact k
      · intro j hj kj
        rw [s_choir1, ← nI_1] at kj
        have e : (25 : Int32) + nI j = nI (25 + j) := nI_add 25 j
        refine qm_wp_ok hA [4, 21] 60 _ _ _ _ _ _ ⟨rfl, fun (q : h.1 26 23 ≤ nI j) => absurd q (by rw [hn]; exact nI_ge hj (by omega)), fun _ => ?_⟩
        cases hx : s_choir1 (tw h t) (nI i) b j with
        | false =>
          refine ⟨fun _ => ⟨fun _ => ?_, fun q => absurd rfl q⟩, fun q => absurd rfl q⟩
          have k := key2 (vi (b2 (s_choir1 (tw h t) (nI i) b j))) (vi (nI j))
          rw [if_neg (by rw [s_choir1_no hx n (by omega)]; decide), hx] at k
          exact k
        | true =>
          rw [hx, Bool.true_and] at kj
          refine ⟨fun q => absurd q (by decide), fun _ => ?_⟩
          refine ⟨0, 0, _, e_has hG (d + 1) h (nI i) (nI j), ⟨Nat.le_refl _, Nat.le_refl _⟩, ?_⟩
          rintro _ _ ⟨rfl, rfl⟩
          refine b2_eq (fun hb2 => ?_) (fun hb2 => by rw [hb2] at kj; exact kj)
          rw [hb2, Bool.not_true, Bool.false_or] at kj
          refine ⟨rfl, 0, 0, _, (by rw [e]; exact e_of hG (d + 1) h ht hk (by omega)), ⟨Nat.le_refl _, Nat.le_refl _⟩, ?_⟩
          rintro _ _ ⟨rfl, rfl⟩
          exact ⟨fun c => by rw [decide_eq_false c] at kj; exact kj, fun c => by rw [decide_eq_true c] at kj; exact kj⟩
    refine qm_wp_ok hA [21] 30 _ _ _ _ _ _ ⟨rfl, fun (q : (1 : Int32) <<< (h.1 26 23 &&& 31) ≤ nI i) => absurd q (by rw [e0]; exact nI_ge hi (by omega)), fun _ => ?_⟩
    refine ⟨0, 0, _, e_ones hG d h (nI i), ⟨Nat.le_refl _, Nat.le_refl _⟩, ?_⟩
    rintro _ _ ⟨rfl, rfl⟩
    refine ⟨0, 0, _, e_ones hG d h (s_choir (tw h t) n i), ⟨Nat.le_refl _, Nat.le_refl _⟩, ?_⟩
    rintro _ _ ⟨rfl, rfl⟩
    exact ⟨fun c => inner false (by rw [decide_eq_true c]; rfl), fun c => inner true (by rw [decide_eq_false c]; rfl)⟩
def s_roots (w : Nat → Int32) (n : Nat) (what : Int32) : Int32 :=
  if what < 10 then (if what = 0 then ones (s_root w 64) 6 else if what = 1 then s_root w 64 else if what = 2 then (s_rings w 6).1 else if what = 3 then (s_rings w 6).2 else if what = 4 then s_closedOnes w 64 else if what = 5 then nI (s_dearest w 5) else if what = 6 then s_knownBy (mi0 w) n 1 6 else if what = 7 then s_knownBy (mi0 w) n 0 6 else if what = 8 then (if nI n = 0 then 0 else s_knownBy (mi0 w) n (nI n) 6) else -1)
  else if 16 ≤ what then -1 else s_worth w (s_whole w (what - 10).toNatClampNeg) 6
def p_roots (h : qm_H) (mt : Nat) (a what : Int32) : Int32 := if inb a mt then s_roots (tw h a.toNatClampNeg) (nn (tw h a.toNatClampNeg)) what else -1
theorem a_roots {G : qm_G} (hG : G.2.2.2.2 = true) (d : Nat) (h : qm_H) {mt my ml : Nat} (hS : ST h mt my ml) (a what : Int32) : qm_Ev G (d + 3) 0 0 qyX10_roots [.ref 26, .int a, .int what] h (fun r h' => r = some (.int (p_roots h mt a what)) ∧ pers h h') := by
  refine qm_Ev.run (M := mX10_roots) okX10_roots rfl hG fun z => ?_
  obtain ⟨s1, s2, -, -, -, -, hT, -, -⟩ := hS
  refine ⟨rfl, trivial, rfl, 0, 0, _, e_handC hG d (qm_si h 26 0 0) (mt := mt) s1 s2 a, ⟨Nat.le_refl _, Nat.le_refl _⟩, ?_⟩
  rintro _ _ (⟨t, ht, rfl, rfl, rfl⟩ | ⟨e0, rfl, rfl⟩)
  · obtain ⟨i1, i2⟩ := p_in ht s2
    have vT := hT t ht
    have n6 := vT.1
    have fin : pers h (hnd (qm_si h 26 0 0) t) := pers.rf.s26.tr (hnd.ps _ t)
    have g23 : (hnd (qm_si h 26 0 0) t).1 26 23 = nI (nn (tw h t)) := vT.2.1
    have t2 : t < 2 := by omega
    have eP : p_roots h mt (nI t) what = s_roots (tw h t) (nn (tw h t)) what := by
      rw [p_roots, i1, i2]; rfl
    rw [eP]
    refine ⟨fun _ => ⟨fun c => ⟨⟨fun q => ?_, fun q => ?_, fun q => ⟨fun c => ?_, fun c => ?_⟩, fun q => ⟨fun c => ?_, fun c => ?_⟩, fun q => ?_, fun q => ?_, fun q => ?_, fun q => ?_, fun q => ⟨rfl, fun (c8 : ¬ (hnd (qm_si h 26 0 0) t).1 26 23 = 0) => ?_, fun (c8 : (hnd (qm_si h 26 0 0) t).1 26 23 = 0) => ?_⟩, trivial⟩, fun q => ?_⟩, fun c => ⟨fun c2 => ?_, fun c2 => ?_⟩⟩, fun q => absurd q (by decide)⟩
    · obtain rfl : what = 0 := q
      refine ⟨rfl, 0, 0, _, e_rootSet hG d _ (t := t) rfl t2, ⟨Nat.le_refl _, Nat.le_refl _⟩, ?_⟩
      rintro _ _ ⟨rfl, rfl⟩
      refine ⟨0, 0, _, e_ones hG (d + 1) _ _, ⟨Nat.le_refl _, Nat.le_refl _⟩, ?_⟩
      rintro _ _ ⟨rfl, rfl⟩
      refine ⟨trivial, ?_, fin⟩
      rw [s_roots, if_pos (by decide), if_pos rfl]
      rfl
    · obtain rfl : what = 1 := q
      refine ⟨rfl, 0, 0, _, e_rootSet hG d _ (t := t) rfl t2, ⟨Nat.le_refl _, Nat.le_refl _⟩, ?_⟩
      rintro _ _ ⟨rfl, rfl⟩
      refine ⟨trivial, ?_, fin⟩
      rw [s_roots, if_pos (by decide), if_neg (by decide), if_pos rfl]
      rfl
    · obtain rfl : what = 2 := q
      refine ⟨rfl, 0, 0, _, e_rings hG d _ (t := t) rfl t2 false, ⟨Nat.le_refl _, Nat.le_refl _⟩, ?_⟩
      rintro _ _ ⟨rfl, rfl⟩
      refine ⟨trivial, ?_, fin⟩
      have eK : s_roots (tw h t) (nn (tw h t)) 2 = (s_rings (tw h t) 6).1 := by rw [s_roots, if_pos (by decide), if_neg (by decide), if_neg (by decide), if_pos rfl]
      rw [eK]
      rfl
    · obtain rfl : what = 2 := q
      exact absurd c (by decide)
    · obtain rfl : what = 3 := q
      exact absurd rfl c
    · obtain rfl : what = 3 := q
      refine ⟨rfl, 0, 0, _, e_rings hG d _ (t := t) rfl t2 true, ⟨Nat.le_refl _, Nat.le_refl _⟩, ?_⟩
      rintro _ _ ⟨rfl, rfl⟩
      refine ⟨trivial, ?_, fin⟩
      have eK : s_roots (tw h t) (nn (tw h t)) 3 = (s_rings (tw h t) 6).2 := by rw [s_roots, if_pos (by decide), if_neg (by decide), if_neg (by decide), if_neg (by decide), if_pos rfl]
      rw [eK]
      rfl
    · obtain rfl : what = 4 := q
      refine ⟨rfl, 0, 0, _, e_closedOnes hG d _ (t := t) rfl t2, ⟨Nat.le_refl _, Nat.le_refl _⟩, ?_⟩
      rintro _ _ ⟨rfl, rfl⟩
      refine ⟨trivial, ?_, fin⟩
      rw [s_roots, if_pos (by decide), if_neg (by decide), if_neg (by decide), if_neg (by decide), if_neg (by decide), if_pos rfl]
      rfl
    · obtain rfl : what = 5 := q
      refine ⟨rfl, 0, 0, _, e_dearest hG d _ (t := t) rfl t2, ⟨Nat.le_refl _, Nat.le_refl _⟩, ?_⟩
      rintro _ _ ⟨rfl, rfl⟩
      refine ⟨trivial, ?_, fin⟩
      rw [s_roots, if_pos (by decide), if_neg (by decide), if_neg (by decide), if_neg (by decide), if_neg (by decide), if_neg (by decide), if_pos rfl]
      rfl
    · obtain rfl : what = 6 := q
      refine ⟨rfl, 0, 0, _, e_knownBy hG d _ g23 n6 1, ⟨Nat.le_refl _, Nat.le_refl _⟩, ?_⟩
      rintro _ _ ⟨rfl, rfl⟩
      refine ⟨trivial, ?_, fin⟩
      rw [s_roots, if_pos (by decide), if_neg (by decide), if_neg (by decide), if_neg (by decide), if_neg (by decide), if_neg (by decide), if_neg (by decide), if_pos rfl]
      rfl
    · obtain rfl : what = 7 := q
      refine ⟨rfl, 0, 0, _, e_knownBy hG d _ g23 n6 0, ⟨Nat.le_refl _, Nat.le_refl _⟩, ?_⟩
      rintro _ _ ⟨rfl, rfl⟩
      refine ⟨trivial, ?_, fin⟩
      rw [s_roots, if_pos (by decide), if_neg (by decide), if_neg (by decide), if_neg (by decide), if_neg (by decide), if_neg (by decide), if_neg (by decide), if_neg (by decide), if_pos rfl]
      rfl
    · obtain rfl : what = 8 := q
      refine ⟨rfl, rfl, 0, 0, _, e_knownBy hG d _ g23 n6 ((hnd (qm_si h 26 0 0) t).1 26 23), ⟨Nat.le_refl _, Nat.le_refl _⟩, ?_⟩
      rintro _ _ ⟨rfl, rfl⟩
      rw [g23] at c8 ⊢
      refine ⟨trivial, ?_, fin⟩
      have e1 : s_roots (tw h t) (nn (tw h t)) 8 = if nI (nn (tw h t)) = 0 then 0 else s_knownBy (mi0 (tw h t)) (nn (tw h t)) (nI (nn (tw h t))) 6 := by rw [s_roots, if_pos (by decide), if_neg (by decide), if_neg (by decide), if_neg (by decide), if_neg (by decide), if_neg (by decide), if_neg (by decide), if_neg (by decide), if_neg (by decide), if_pos rfl]
      rw [e1, if_neg c8]
      rfl
    · obtain rfl : what = 8 := q
      rw [g23] at c8
      refine ⟨trivial, ?_, fin⟩
      have e1 : s_roots (tw h t) (nn (tw h t)) 8 = if nI (nn (tw h t)) = 0 then 0 else s_knownBy (mi0 (tw h t)) (nn (tw h t)) (nI (nn (tw h t))) 6 := by rw [s_roots, if_pos (by decide), if_neg (by decide), if_neg (by decide), if_neg (by decide), if_neg (by decide), if_neg (by decide), if_neg (by decide), if_neg (by decide), if_neg (by decide), if_pos rfl]
      rw [e1, if_pos c8]
    · have q' : ∀ j : Nat, j < 9 → what ≠ nI j := by
        intro j hj e
        rw [e, nI_toInt (by omega)] at q
        simp only [List.length_cons, List.length_nil, List.drop] at q
        omega
      refine ⟨trivial, ?_, fin⟩
      have z0 : ¬ what = 0 := q' 0 (by decide)
      have z1 : ¬ what = 1 := q' 1 (by decide)
      have z2 : ¬ what = 2 := q' 2 (by decide)
      have z3 : ¬ what = 3 := q' 3 (by decide)
      have z4 : ¬ what = 4 := q' 4 (by decide)
      have z5 : ¬ what = 5 := q' 5 (by decide)
      have z6 : ¬ what = 6 := q' 6 (by decide)
      have z7 : ¬ what = 7 := q' 7 (by decide)
      have z8 : ¬ what = 8 := q' 8 (by decide)
      rw [s_roots, if_pos c, if_neg z0, if_neg z1, if_neg z2, if_neg z3, if_neg z4, if_neg z5, if_neg z6, if_neg z7, if_neg z8]
    · exact ⟨trivial, by rw [s_roots, if_neg c, if_pos c2], fin⟩
    · have hpos : ¬ what < 0 := fun q => c (Int32.lt_of_lt_of_le q (by decide))
      obtain ⟨x, hx, rfl⟩ := nI_of hpos
      have x1 : 10 ≤ x := by
        rcases Nat.lt_or_ge x 10 with q | q
        · exact absurd (nI_lt (b := 10) q (by decide)) c
        · exact q
      have x2 : x < 16 := by
        rcases Nat.lt_or_ge x 16 with q | q
        · exact q
        · exact absurd (nI_le (a := 16) q (by omega)) c2
      have x3 : nI x - 10 = nI (x - 10) := pk_sub x1
      have eR : s_roots (tw h t) (nn (tw h t)) (nI x) = s_worth (tw h t) (s_whole (tw h t) (x - 10)) 6 := by
        rw [s_roots, if_neg c, if_neg c2, x3, nI_clamp (by omega)]
      rw [eR]
      refine ⟨rfl, 0, 0, _, (by rw [x3]; exact e_whole hG (d + 1) (hnd (qm_si h 26 0 0) t) (t := t) (f := x - 10) rfl t2 (by omega)), ⟨Nat.le_refl _, Nat.le_refl _⟩, ?_⟩
      rintro _ _ ⟨rfl, rfl⟩
      refine ⟨rfl, 0, 0, _, e_worthOf hG (d + 1) _ (t := t) rfl t2 _, ⟨Nat.le_refl _, Nat.le_refl _⟩, ?_⟩
      rintro _ _ ⟨rfl, rfl⟩
      exact ⟨trivial, rfl, fin⟩
  · exact ⟨fun q => absurd rfl q, fun _ => ⟨trivial, by rw [p_roots, e0]; rfl, pers.rf.s26⟩⟩
def s_reachA (w : Nat → Int32) (n : Nat) (what : Int32) : Int32 :=
  if what < 10 then (if what = 0 then s_oi (s_loud w n n) else if what = 1 then s_deaf w n else if what = 2 then ones (s_choir w n (2 ^ n)) 6 else if what = 3 then s_choir w n (2 ^ n) else if what = 4 then s_twins (mi0 w) n else if what = 5 then ones (s_cover (mi0 w) n (nI (2 ^ n - 1)) (2 ^ n)) 6 else if what = 6 then s_cover (mi0 w) n (nI (2 ^ n - 1)) (2 ^ n) else -2)
  else if inb (what - 10) n then s_reach w n (what - 10).toNatClampNeg 6 else -2
def p_reach (h : qm_H) (mt : Nat) (a what : Int32) : Int32 := if inb a mt then s_reachA (tw h a.toNatClampNeg) (nn (tw h a.toNatClampNeg)) what else -2
theorem a_reach {G : qm_G} (hG : G.2.2.2.2 = true) (d : Nat) (h : qm_H) {mt my ml : Nat} (hS : ST h mt my ml) (a what : Int32) : qm_Ev G (d + 4) 0 0 qyX10_reach [.ref 26, .int a, .int what] h (fun r h' => r = some (.int (p_reach h mt a what)) ∧ pers h h') := by
  refine qm_Ev.run (M := mX10_reach) okX10_reach rfl hG fun z => ?_
  obtain ⟨s1, s2, -, -, -, -, hT, -, -⟩ := hS
  refine ⟨rfl, trivial, rfl, 0, 0, _, e_handC hG (d + 1) (qm_si h 26 0 0) (mt := mt) s1 s2 a, ⟨Nat.le_refl _, Nat.le_refl _⟩, ?_⟩
  rintro _ _ (⟨t, ht, rfl, rfl, rfl⟩ | ⟨e0, rfl, rfl⟩)
  · obtain ⟨i1, i2⟩ := p_in ht s2
    have vT := hT t ht
    have n6 := vT.1
    have fin : pers h (hnd (qm_si h 26 0 0) t) := pers.rf.s26.tr (hnd.ps _ t)
    have g23 : (hnd (qm_si h 26 0 0) t).1 26 23 = nI (nn (tw h t)) := vT.2.1
    have t2 : t < 2 := by omega
    have eP : p_reach h mt (nI t) what = s_reachA (tw h t) (nn (tw h t)) what := by
      rw [p_reach, i1, i2]; rfl
    rw [eP]
    refine ⟨fun _ => ⟨fun c => ⟨⟨fun q => ?_, fun q => ?_, fun q => ?_, fun q => ?_, fun q => ?_, fun q => ?_, fun q => ?_, trivial⟩, fun q => ?_⟩, fun c => ?_⟩, fun q => absurd q (by decide)⟩
    · obtain rfl : what = 0 := q
      refine ⟨rfl, 0, 0, _, e_loudest hG d _ (t := t) rfl t2 g23 n6, ⟨Nat.le_refl _, Nat.le_refl _⟩, ?_⟩
      rintro _ _ ⟨rfl, rfl⟩
      refine ⟨trivial, ?_, fin⟩
      rw [s_reachA, if_pos (by decide), if_pos rfl]
      rfl
    · obtain rfl : what = 1 := q
      refine ⟨rfl, 0, 0, _, e_deaf hG (d + 2) _ (t := t) rfl t2 g23 n6, ⟨Nat.le_refl _, Nat.le_refl _⟩, ?_⟩
      rintro _ _ ⟨rfl, rfl⟩
      refine ⟨trivial, ?_, fin⟩
      rw [s_reachA, if_pos (by decide), if_neg (by decide), if_pos rfl]
      rfl
    · obtain rfl : what = 2 := q
      refine ⟨rfl, 0, 0, _, e_choir hG (d + 1) _ (t := t) rfl t2 g23 n6, ⟨Nat.le_refl _, Nat.le_refl _⟩, ?_⟩
      rintro _ _ ⟨rfl, rfl⟩
      refine ⟨0, 0, _, e_ones hG (d + 2) _ _, ⟨Nat.le_refl _, Nat.le_refl _⟩, ?_⟩
      rintro _ _ ⟨rfl, rfl⟩
      refine ⟨trivial, ?_, fin⟩
      rw [s_reachA, if_pos (by decide), if_neg (by decide), if_neg (by decide), if_pos rfl]
      rfl
    · obtain rfl : what = 3 := q
      refine ⟨rfl, 0, 0, _, e_choir hG (d + 1) _ (t := t) rfl t2 g23 n6, ⟨Nat.le_refl _, Nat.le_refl _⟩, ?_⟩
      rintro _ _ ⟨rfl, rfl⟩
      refine ⟨trivial, ?_, fin⟩
      rw [s_reachA, if_pos (by decide), if_neg (by decide), if_neg (by decide), if_neg (by decide), if_pos rfl]
      rfl
    · obtain rfl : what = 4 := q
      refine ⟨rfl, 0, 0, _, e_twins hG (d + 3) _ g23 n6, ⟨Nat.le_refl _, Nat.le_refl _⟩, ?_⟩
      rintro _ _ ⟨rfl, rfl⟩
      refine ⟨trivial, ?_, fin⟩
      rw [s_reachA, if_pos (by decide), if_neg (by decide), if_neg (by decide), if_neg (by decide), if_neg (by decide), if_pos rfl]
      rfl
    · obtain rfl : what = 5 := q
      refine ⟨rfl, 0, 0, _, e_cover hG (d + 1) _ g23 n6, ⟨Nat.le_refl _, Nat.le_refl _⟩, ?_⟩
      rintro _ _ ⟨rfl, rfl⟩
      refine ⟨0, 0, _, e_ones hG (d + 2) _ _, ⟨Nat.le_refl _, Nat.le_refl _⟩, ?_⟩
      rintro _ _ ⟨rfl, rfl⟩
      refine ⟨trivial, ?_, fin⟩
      rw [s_reachA, if_pos (by decide), if_neg (by decide), if_neg (by decide), if_neg (by decide), if_neg (by decide), if_neg (by decide), if_pos rfl]
      rfl
    · obtain rfl : what = 6 := q
      refine ⟨rfl, 0, 0, _, e_cover hG (d + 1) _ g23 n6, ⟨Nat.le_refl _, Nat.le_refl _⟩, ?_⟩
      rintro _ _ ⟨rfl, rfl⟩
      refine ⟨trivial, ?_, fin⟩
      rw [s_reachA, if_pos (by decide), if_neg (by decide), if_neg (by decide), if_neg (by decide), if_neg (by decide), if_neg (by decide), if_neg (by decide), if_pos rfl]
      rfl
    · have q' : ∀ j : Nat, j < 7 → what ≠ nI j := by
        intro j hj e
        rw [e, nI_toInt (by omega)] at q
        simp only [List.length_cons, List.length_nil, List.drop] at q
        omega
      refine ⟨trivial, ?_, fin⟩
      have z0 : ¬ what = 0 := q' 0 (by decide)
      have z1 : ¬ what = 1 := q' 1 (by decide)
      have z2 : ¬ what = 2 := q' 2 (by decide)
      have z3 : ¬ what = 3 := q' 3 (by decide)
      have z4 : ¬ what = 4 := q' 4 (by decide)
      have z5 : ¬ what = 5 := q' 5 (by decide)
      have z6 : ¬ what = 6 := q' 6 (by decide)
      rw [s_reachA, if_pos c, if_neg z0, if_neg z1, if_neg z2, if_neg z3, if_neg z4, if_neg z5, if_neg z6]
    · have eR : s_reachA (tw h t) (nn (tw h t)) what = if inb (what - 10) (nn (tw h t)) then s_reach (tw h t) (nn (tw h t)) (what - 10).toNatClampNeg 6 else -2 := by
        rw [s_reachA, if_neg c]
      rw [eR]
      refine ⟨rfl, 0, 0, _, e_isPerson hG (d + 2) (hnd (qm_si h 26 0 0) t) (what - 10), ⟨Nat.le_refl _, Nat.le_refl _⟩, ?_⟩
      rintro _ _ ⟨rfl, rfl⟩
      rw [g23]
      refine b2_eq (fun hb => ?_) (fun hb => ⟨trivial, by rw [show inb (what - 10) (nn (tw h t)) = false from hb]; rfl, fin⟩)
      have hb1 : inb (what - 10) (nn (tw h t)) = true := hb
      obtain ⟨pp, hpp, ep⟩ := inb_e (by omega) hb1
      rw [hb1]
      refine ⟨rfl, 0, 0, _, (by rw [show what - (10 : Int32) = nI pp from ep]; exact e_reachOf hG (d + 2) (hnd (qm_si h 26 0 0) t) (t := t) (n := nn (tw h t)) (p := pp) rfl t2 g23 n6), ⟨Nat.le_refl _, Nat.le_refl _⟩, ?_⟩
      rintro _ _ ⟨rfl, rfl⟩
      exact ⟨trivial, by rw [ep, nI_clamp (by omega)]; rfl, fin⟩
  · exact ⟨fun q => absurd rfl q, fun _ => ⟨trivial, by rw [p_reach, e0]; rfl, pers.rf.s26⟩⟩
