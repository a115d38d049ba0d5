/-! the reference: a town in hand, a year played -/
def s_hand1 (w : Nat → Int32) (i : Nat) (ps : PSt) : PSt := (va_up ps.1 i 1, va_up ps.2.1 i (w (13 + i)), va_up ps.2.2.1 i (w (19 + i)), va_up ps.2.2.2.1 i 0, va_up ps.2.2.2.2.1 i 0, va_up ps.2.2.2.2.2.1 i 0, ps.2.2.2.2.2.2)
def s_handOn (w : Nat → Int32) (ps : PSt) : Nat → PSt
  | 0 => ps
  | i + 1 => s_hand1 w i (s_handOn w ps i)
def s_zero (ps : PSt) : PSt := (ps.1, ps.2.1, ps.2.2.1, ps.2.2.2.1, ps.2.2.2.2.1, ps.2.2.2.2.2.1, 0, 0, 0, 0)
def s_hand (w : Nat → Int32) (ps : PSt) : PSt := s_handOn w (s_zero ps) 6
/-- a town is in hand -/
def HD (h h' : qm_H) (t : Nat) : Prop := rps h' = s_hand (tw h t) (rps h) ∧ h'.1 26 22 = nI t ∧ h'.1 26 23 = tw h t 0 ∧ h'.2 = h.2 ∧ (∀ q, q ∉ [26, 37, 38, 39, 40, 41, 42] → h'.1 q = h.1 q) ∧ ∀ k, k ∉ [22, 23, 24, 25, 26, 27] → h'.1 26 k = h.1 26 k
section Ref4
theorem e_hand {G : qm_G} (hG : G.2.2.2.2 = true) (d : Nat) (h : qm_H) {mt : Nat} (hm : h.1 31 0 = nI mt) (hm2 : mt ≤ 2) (k : Int32) : qm_Ev G (d + 2) 0 0 qyX10_hand [.ref 26, .int k] h (fun r h' => (∃ t, t < mt ∧ k = nI t ∧ r = some (.int 1) ∧ HD h h' t) ∨ (¬ (0 ≤ k ∧ k ≤ nI mt - 1) ∧ r = some (.int 0) ∧ h = h')) := by
  refine qm_Ev.by (M := mX10_hand) okX10_hand (Nat.le_of_ble_eq_true rfl) hG fun z hA => ?_
  refine qm_wp_ok hA [29] 60 _ _ _ _ _ _ ?_
  refine ⟨rfl, ?_⟩
  refine ⟨0, 0, _, e_is hG d h (s := 0) (by decide) k, ⟨Nat.le_refl _, Nat.le_refl _⟩, ?_⟩
  rintro _ _ ⟨rfl, rfl⟩
  rw [hm]
  refine b2_ne (fun hb => ?_) (fun hb => ?_)
  · have hb1 := of_decide_eq_true hb
    obtain ⟨t, ht, rfl⟩ := in_of hb1.1 hb1.2 (by omega)
    refine ⟨rfl, trivial, rfl, ?_⟩
    refine ⟨0, 0, _, e_of hG (d + 1) (qm_si h 26 22 (nI t)) (t := t) (j := 0) rfl (by omega) (by decide), ⟨Nat.le_refl _, Nat.le_refl _⟩, ?_⟩
    rintro _ _ ⟨rfl, rfl⟩
    refine ⟨rfl, trivial, rfl, trivial, rfl, trivial, rfl, trivial, rfl, trivial, ?_⟩
    obtain ⟨h1, hh1⟩ : ∃ x, x = qm_si (qm_si (qm_si (qm_si (qm_si (qm_si h 26 22 (nI t)) 26 23 (tw (qm_si h 26 22 (nI t)) t 0)) 26 24 0) 26 25 0) 26 26 0) 26 27 0 := ⟨_, rfl⟩
    have a1 : rps h1 = s_zero (rps h) := by rw [hh1]; rfl
    have a2 : h1.1 26 22 = nI t := by rw [hh1]; rfl
    have a3 : h1.1 26 23 = tw h t 0 := by rw [hh1]; rfl
    have a4 : h1.1 32 = h.1 32 := by rw [hh1]; rfl
    have a5 : h1.2 = h.2 := by rw [hh1]; rfl
    have a6 : ∀ q, q ≠ 26 → h1.1 q = h.1 q := by
      intro q hq
      rw [hh1]
      simp only [si_ne _ _ _ hq]
    have a7 : ∀ k, k ∉ [22, 23, 24, 25, 26, 27] → h1.1 26 k = h.1 26 k := by
      intro k hk
      simp only [List.mem_cons, List.not_mem_nil, or_false, not_or] at hk
      obtain ⟨k1, k2, k3, k4, k5, k6⟩ := hk
      rw [hh1]
      simp only [si_row, up_n _ _ k1, up_n _ _ k2, up_n _ _ k3, up_n _ _ k4, up_n _ _ k5, up_n _ _ k6]
    have loop : ∀ m i : Nat, i + m = 6 → ∀ h' : qm_H, rps h' = s_handOn (tw h t) (s_zero (rps h)) i → fr h1 h' → qm_PW G mX10_hand z 29 0 0 [vr 26, vi (nI t), vi (nI i)] [] h' := by
      intro m
      induction m with
      | zero =>
        intro i hi h' e1 e2
        obtain rfl : i = 6 := hi
        refine qm_wp_ok hA [] 20 _ _ _ _ _ _ ?_
        refine ⟨fun _ => ⟨rfl, Or.inl ⟨t, ht, rfl, rfl, e1, (e2.2.2 22 (by decide)).trans a2, (e2.2.2 23 (by decide)).trans a3, e2.1.trans a5, fun q hq => ?_, fun k hk => ?_⟩⟩, fun q => absurd (by decide) q⟩
        · rw [e2.2.1 q hq]
          exact a6 q (fun e => hq (by rw [e]; decide))
        · rw [e2.2.2 k (fun e => hk (by revert e; simp only [List.mem_cons, List.not_mem_nil, or_false]; omega))]
          exact a7 k hk
      | succ m ih =>
        intro i hi h' e1 e2
        have hin : vp_in (nI i) 6 := vp_in_nI (by omega) (by decide)
        have ei : (nI i).toNatClampNeg = i := nI_clamp (by omega)
        have e13 : (13 : Int32) + nI i = nI (13 + i) := nI_add 13 i
        have e19 : (19 : Int32) + nI i = nI (19 + i) := nI_add 19 i
        have hw : ∀ x y v1 v2, tw (qm_si (qm_si h' 37 x v1) 38 y v2) t = tw h t := by
          intro x y v1 v2
          have : (qm_si (qm_si h' 37 x v1) 38 y v2).1 32 = h.1 32 := (e2.2.1 32 (by decide)).trans a4
          unfold tw
          rw [this]
        have hw1 : ∀ x v1, tw (qm_si h' 37 x v1) t = tw h t := by
          intro x v1
          have : (qm_si h' 37 x v1).1 32 = h.1 32 := (e2.2.1 32 (by decide)).trans a4
          unfold tw
          rw [this]
        have b2' : h'.1 26 22 = nI t := (e2.2.2 22 (by decide)).trans a2
        refine qm_wp_ok hA [29] 80 _ _ _ _ _ _ ?_
        refine ⟨fun q => absurd q (nI_ge (by omega : i < 6) (by decide)), fun _ => ?_⟩
        refine ⟨rfl, _, rfl, rfl, hin, rfl, _, rfl, rfl, ?_⟩
        rw [ei]
        refine ⟨0, 0, _, (by rw [e13]; exact e_of hG (d + 1) _ (t := t) b2' (by omega) (by omega)), ⟨Nat.le_refl _, Nat.le_refl _⟩, ?_⟩
        rintro _ _ ⟨rfl, rfl⟩
        refine ⟨rfl, hin, rfl, _, rfl, rfl, ?_⟩
        rw [ei]
        refine ⟨0, 0, _, (by rw [e19]; exact e_of hG (d + 1) _ (t := t) b2' (by omega) (by omega)), ⟨Nat.le_refl _, Nat.le_refl _⟩, ?_⟩
        rintro _ _ ⟨rfl, rfl⟩
        refine ⟨rfl, hin, rfl, _, rfl, rfl, hin, rfl, _, rfl, rfl, hin, rfl, _, rfl, rfl, hin, ?_⟩
        rw [ei, hw, hw1]
        have := ih (i + 1) (by omega) (qm_si (qm_si (qm_si (qm_si (qm_si (qm_si h' 37 i 1) 38 i (tw h t (13 + i))) 39 i (tw h t (19 + i))) 40 i 0) 41 i 0) 42 i 0) (by rw [s_handOn, ← e1]; rfl) ((((((e2.si (by decide)).si (by decide)).si (by decide)).si (by decide)).si (by decide)).si (by decide))
        rw [← nI_1] at this
        exact this
    have k := loop 6 0 rfl h1 a1 fr.rf
    rw [hh1] at k
    exact k
  · exact ⟨rfl, Or.inr ⟨of_decide_eq_false hb, rfl, rfl⟩⟩
/-- the row of a year -/
def yw (h : qm_H) (y : Nat) : Nat → Int32 := fun j => h.1 33 (161 * y + j)
theorem e_deeds {G : qm_G} (hG : G.2.2.2.2 = true) (d : Nat) (h : qm_H) {y : Nat} (hy : h.1 26 34 = nI y) (hk : y < 2) : qm_Ev G d 0 0 qyX10_deeds [.ref 26] h (fun r h' => r = some (.int (yw h y 0)) ∧ h = h') := by
  refine qm_Ev.run (M := mX10_deeds) okX10_deeds rfl hG fun z => ?_
  have e : (161 : Int32) * h.1 26 34 = nI (161 * y) := by rw [hy, ← pk_mul]; rfl
  refine ⟨rfl, _, rfl, rfl, rfl, ?_, trivial, ?_, rfl⟩
  · show vp_in ((161 : Int32) * h.1 26 34) 1288
    rw [e]; exact vp_in_nI (by omega) (by decide)
  · show some (Value.int (h.1 33 ((161 : Int32) * h.1 26 34).toNatClampNeg)) = _
    rw [e, nI_clamp (by omega)]
    rfl
theorem e_deedOf {G : qm_G} (hG : G.2.2.2.2 = true) (d : Nat) (h : qm_H) {y k j : Nat} (hy : h.1 26 34 = nI y) (hk : y < 2) (hkk : k < 40) (hj : j < 4) : qm_Ev G d 0 0 qyX10_deedOf [.ref 26, .int (nI k), .int (nI j)] h (fun r h' => r = some (.int (yw h y (1 + 4 * k + j))) ∧ h = h') := by
  refine qm_Ev.run (M := mX10_deedOf) okX10_deedOf rfl hG fun z => ?_
  have e : (161 : Int32) * h.1 26 34 + 1 + 4 * nI k + nI j = nI (161 * y + (1 + 4 * k + j)) := by
    rw [hy, show (161 : Int32) = nI 161 from rfl, show (4 : Int32) = nI 4 from rfl, show (1 : Int32) = nI 1 from rfl, pk_mul, pk_mul, nI_add, nI_add, nI_add]
    congr 1
    omega
  refine ⟨rfl, _, rfl, rfl, rfl, ?_, trivial, ?_, rfl⟩
  · show vp_in ((161 : Int32) * h.1 26 34 + 1 + 4 * nI k + nI j) 1288
    rw [e]; exact vp_in_nI (by omega) (by decide)
  · show some (Value.int (h.1 33 ((161 : Int32) * h.1 26 34 + 1 + 4 * nI k + nI j).toNatClampNeg)) = _
    rw [e, nI_clamp (by omega)]
    rfl
theorem e_hasYear {G : qm_G} (hG : G.2.2.2.2 = true) (d : Nat) (h : qm_H) (k : Int32) : qm_Ev G (d + 2) 0 0 qyX10_hasYear [.ref 26, .int k] h (fun r h' => r = some (.int (b2 (decide (0 ≤ k ∧ k ≤ h.1 31 1 - 1)))) ∧ h' = qm_si h 26 34 k) := by
  refine qm_Ev.run (M := mX10_hasYear) okX10_hasYear rfl hG fun z => ?_
  refine ⟨rfl, trivial, rfl, ?_⟩
  refine ⟨0, 0, _, e_is hG d (qm_si h 26 34 k) (s := 1) (by decide) k, ⟨Nat.le_refl _, Nat.le_refl _⟩, ?_⟩
  rintro _ _ ⟨rfl, rfl⟩
  exact ⟨b2_and _, rfl, rfl⟩
/-- a deed -/
def s_does (w : Nat → Int32) (n : Nat) (wh : Nat) (a b c : Int32) (ps : PSt) : Bool × PSt :=
  if wh = 4 then (true, s_eve n ps) else if 0 ≤ a ∧ a ≤ nI n - 1 then
    (if wh = 0 then s_tells w n a.toNatClampNeg b.toNatClampNeg ps else if wh = 1 then (true, s_asks w a.toNatClampNeg b.toNatClampNeg ps n) else if wh = 2 then (true, s_learns ps a.toNatClampNeg (s_whole w b.toNatClampNeg)) else s_sells n a.toNatClampNeg b c ps) else (false, ps)
theorem e_does {G : qm_G} (hG : G.2.2.2.2 = true) (d : Nat) (h : qm_H) {t n wh : Nat} (ht : h.1 26 22 = nI t) (hk : t < 2) (hn : h.1 26 23 = nI n) (hn6 : n ≤ 6) (hw : wh < 5) (a b c : Int32) (hb : wh < 3 → ∃ f, f < 6 ∧ b = nI f) : qm_Ev G (d + 3) 0 0 qyX10_does [.ref 26, .int (nI wh), .int a, .int b, .int c] h (fun r h' => r = some (.int (b2 (s_does (tw h t) n wh a b c (rps h)).1)) ∧ rps h' = (s_does (tw h t) n wh a b c (rps h)).2 ∧ fr h h') := by
  refine qm_Ev.run (M := mX10_does) okX10_does rfl hG fun z => ?_
  by_cases h4 : wh = 4
  · subst h4
    have e0 : s_does (tw h t) n 4 a b c (rps h) = (true, s_eve n (rps h)) := if_pos rfl
    rw [e0]
    refine ⟨fun q => absurd rfl q, fun _ => ?_⟩
    refine ⟨rfl, ?_⟩
    refine ⟨0, 0, _, e_eve hG _ h hn hn6, ⟨Nat.le_refl _, Nat.le_refl _⟩, ?_⟩
    rintro _ h2 ⟨rfl, e1, e2⟩
    exact ⟨rfl, rfl, e1, e2⟩
  · have hne : ¬ nI wh = 4 := fun q => h4 ((nI_eq (by omega) (by decide)).mp (q : nI wh = nI 4))
    refine ⟨fun _ => ?_, fun q => absurd q hne⟩
    refine ⟨rfl, ?_⟩
    refine ⟨0, 0, _, e_isPerson hG _ h a, ⟨Nat.le_refl _, Nat.le_refl _⟩, ?_⟩
    rintro _ _ ⟨rfl, rfl⟩
    rw [hn]
    refine b2_ne (fun hp => ?_) (fun hp => ?_)
    · have hp1 := of_decide_eq_true hp
      obtain ⟨p, hpn, rfl⟩ := in_of hp1.1 hp1.2 (by omega)
      have ep : (nI p).toNatClampNeg = p := nI_clamp (by omega)
      have e00 : ∀ X, s_does (tw h t) n wh (nI p) b c (rps h) = X ↔ (if wh = 0 then s_tells (tw h t) n p b.toNatClampNeg (rps h) else if wh = 1 then (true, s_asks (tw h t) p b.toNatClampNeg (rps h) n) else if wh = 2 then (true, s_learns (rps h) p (s_whole (tw h t) b.toNatClampNeg)) else s_sells n p b c (rps h)) = X := by
        intro X
        rw [s_does, if_neg h4, if_pos hp1, ep]
      refine ⟨⟨fun q => ?_, fun q => ?_, fun q => ?_, trivial⟩, fun q => ?_⟩
      · have h0 : wh = 0 := (nI_eq (by omega) (by decide)).mp (q : nI wh = nI 0)
        obtain ⟨f, hf, rfl⟩ := hb (by omega)
        rw [(e00 _).mpr (if_pos h0), nI_clamp (by omega)]
        refine ⟨rfl, ?_⟩
        refine ⟨0, 0, _, e_tells hG d h ht hk hn hn6 (by omega) hf, ⟨Nat.le_refl _, Nat.le_refl _⟩, ?_⟩
        rintro _ h2 ⟨rfl, e1, e2⟩
        exact ⟨b2_and _, rfl, e1, e2⟩
      · have h0 : wh = 1 := (nI_eq (by omega) (by decide)).mp (q : nI wh = nI 1)
        obtain ⟨f, hf, rfl⟩ := hb (by omega)
        rw [(e00 _).mpr ((if_neg (by omega)).trans (if_pos h0)), nI_clamp (by omega)]
        refine ⟨rfl, ?_⟩
        refine ⟨0, 0, _, e_asks hG d h ht hk hn hn6 hf, ⟨Nat.le_refl _, Nat.le_refl _⟩, ?_⟩
        rintro _ h2 ⟨rfl, e1, e2⟩
        exact ⟨rfl, rfl, e1, e2⟩
      · have h0 : wh = 2 := (nI_eq (by omega) (by decide)).mp (q : nI wh = nI 2)
        obtain ⟨f, hf, rfl⟩ := hb (by omega)
        rw [(e00 _).mpr ((if_neg (by omega)).trans ((if_neg (by omega)).trans (if_pos h0))), nI_clamp (by omega)]
        refine ⟨rfl, ?_⟩
        refine ⟨0, 0, _, e_whole hG (d + 1) h ht hk hf, ⟨Nat.le_refl _, Nat.le_refl _⟩, ?_⟩
        rintro _ _ ⟨rfl, rfl⟩
        refine ⟨rfl, ?_⟩
        refine ⟨0, 0, _, e_learns hG (d + 2) h (p := p) (by omega) _, ⟨Nat.le_refl _, Nat.le_refl _⟩, ?_⟩
        rintro _ h2 ⟨rfl, e1, e2⟩
        exact ⟨rfl, rfl, e1, e2⟩
      · have h3 : wh = 3 := by
          have e1 : (nI wh).toInt = wh := nI_toInt (by omega)
          rw [e1] at q
          simp only [List.length_cons, List.length_nil, List.drop] at q
          omega
        rw [(e00 _).mpr ((if_neg (by omega)).trans ((if_neg (by omega)).trans (if_neg (by omega))))]
        refine ⟨rfl, ?_⟩
        refine ⟨0, 0, _, e_sells hG d h hn hn6 (by omega) b c, ⟨Nat.le_refl _, Nat.le_refl _⟩, ?_⟩
        rintro _ h2 ⟨rfl, e1, e2⟩
        exact ⟨b2_and _, rfl, e1, e2⟩
    · have e0 : s_does (tw h t) n wh a b c (rps h) = (false, rps h) := (if_neg h4).trans (if_neg (of_decide_eq_false hp))
      rw [e0]
      exact ⟨rfl, rfl, rfl, fr.rf⟩
end Ref4
