/-! the reference: the sets that fit, laid; the best to tell; the loudest; how many tellings are left -/
/-- a town in hand, a log laid -/
def LG (h h' : qm_H) (t l m : Nat) : Prop := ∃ h1, HD (qm_si h 26 41 (nI l)) h1 t ∧ h'.1 26 43 = nI (s_lay (tw h t) (gw h l) m (h.1 48) 64).1 ∧ h'.1 48 = (s_lay (tw h t) (gw h l) m (h.1 48) 64).2 ∧ sb [26, 48] h1 h' ∧ ∀ k, k ≠ 43 → h'.1 26 k = h1.1 26 k
theorem e_layLog {G : qm_G} (hG : G.2.2.2.2 = true) (d : Nat) (h : qm_H) {mt ml : Nat} (hm : h.1 31 0 = nI mt) (hm2 : mt ≤ 2) (hl : h.1 31 2 = nI ml) (hl2 : ml ≤ 2) (lm : Nat → Nat) (hV : ∀ l, l < ml → VL (gw h l) (lm l)) (a b : Int32) : qm_Ev G (d + 3) 0 0 qyX10_layLog [.ref 26, .int a, .int b] h (fun r h' => (∃ t l, t < mt ∧ l < ml ∧ a = nI t ∧ b = nI l ∧ r = some (.int 1) ∧ LG h h' t l (lm l)) ∨ (¬ (inR b ml ∧ inR a mt) ∧ r = some (.int 0) ∧ pers h h')) := by
  refine qm_Ev.by (M := mX10_layLog) okX10_layLog (Nat.le_of_ble_eq_true rfl) hG fun z hA => ?_
  refine qm_wp_ok hA [15] 30 _ _ _ _ _ _ ⟨rfl, 0, 0, _, e_hasLog hG d h b, ⟨Nat.le_refl _, Nat.le_refl _⟩, ?_⟩
  rintro _ _ ⟨rfl, rfl⟩
  rw [hl]
  refine b2_eq (fun hb => ?_) (fun hb => ⟨rfl, Or.inr ⟨fun q => of_decide_eq_false hb q.1, rfl, pers.rf.s26⟩⟩)
  have hb1 := of_decide_eq_true hb
  obtain ⟨l, hll, rfl⟩ := in_of hb1.1 hb1.2 (by omega)
  refine ⟨rfl, 0, 0, _, e_hand hG d (qm_si h 26 41 (nI l)) (mt := mt) hm hm2 a, ⟨Nat.le_refl _, Nat.le_refl _⟩, ?_⟩
  rintro _ h1 (⟨t, ht, rfl, rfl, e1⟩ | ⟨e0, rfl, rfl⟩)
  · refine ⟨fun _ => ⟨rfl, trivial, ?_⟩, fun q => absurd q (by decide)⟩
    have c1 : h1.1 26 41 = nI l := (e1.2.2.2.2.2 41 (by decide)).trans rfl
    have c2 : h1.1 32 = h.1 32 := e1.2.2.2.2.1 32 (by decide)
    have c3 : h1.1 34 = h.1 34 := e1.2.2.2.2.1 34 (by decide)
    have c4 : h1.1 48 = h.1 48 := e1.2.2.2.2.1 48 (by decide)
    have loop : ∀ r i : Nat, i + r = 64 → ∀ h' : qm_H, h'.1 26 43 = nI (s_lay (tw h t) (gw h l) (lm l) (h.1 48) i).1 → h'.1 48 = (s_lay (tw h t) (gw h l) (lm l) (h.1 48) i).2 → sb [26, 48] h1 h' → (∀ k, k ≠ 43 → h'.1 26 k = h1.1 26 k) → qm_PW G mX10_layLog z 15 0 0 [vr 26, vi (nI t), vi (nI l), vi (nI i)] [] h' := by
      intro r
      induction r with
      | zero =>
        intro i hi h' f1 f2 f3 f4
        obtain rfl : i = 64 := hi
        exact qm_wp_ok hA [] 20 _ _ _ _ _ _ ⟨fun _ => ⟨rfl, Or.inl ⟨t, l, ht, hll, rfl, rfl, rfl, h1, e1, f1, f2, f3, f4⟩⟩, fun q => absurd (by decide) q⟩
      | succ r ih =>
        intro i hi h' f1 f2 f3 f4
        have g1 : tw h' t = tw h t := by
          unfold tw
          rw [f3.2 32 (by decide), c2]
        have g2 : gw h' l = gw h l := by
          unfold gw
          rw [f3.2 34 (by decide), c3]
        have hle := s_lay_le (tw h t) (gw h l) (lm l) (h.1 48) i
        refine qm_wp_ok hA [15] 60 _ _ _ _ _ _ ⟨fun q => absurd q (nI_ge (by omega : i < 64) (by decide)), fun _ => ⟨rfl, 0, 0, _, e_isFit hG d h' (t := t) (l := l) (m := lm l) (by rw [f4 22 (by decide)]; exact e1.2.1) (by omega) (by rw [f4 41 (by decide)]; exact c1) (by omega) (by rw [g2]; exact hV l hll) (nI i), ⟨Nat.le_refl _, Nat.le_refl _⟩, ?_⟩⟩
        rintro _ _ ⟨rfl, rfl⟩
        rw [g1, g2]
        refine b2_eq (fun hb2 => ?_) (fun hb2 => ?_)
        · have hin : vp_in (h'.1 26 43) 64 := by rw [f1]; exact vp_in_nI (by omega) (by decide)
          refine ⟨rfl, _, rfl, rfl, rfl, hin, rfl, rfl, trivial, ?_⟩
          have e3 : (h'.1 26 43).toNatClampNeg = (s_lay (tw h t) (gw h l) (lm l) (h.1 48) i).1 := by rw [f1]; exact nI_clamp (by omega)
          have k := ih (i + 1) (by omega) (qm_si (qm_si h' 48 (h'.1 26 43).toNatClampNeg (nI i)) 26 43 (h'.1 26 43 + 1)) (by
              rw [s_lay, if_pos hb2, si_row, up_s, f1]
              exact nI_1 _) (by
              rw [s_lay, if_pos hb2, si_ne _ _ _ (by decide), si_row, e3, f2]) ((f3.si (by decide)).si (by decide)) (fun k hk => by
              rw [si_row, up_n _ _ hk, si_ne _ _ _ (by decide)]
              exact f4 k hk)
          rw [← nI_1] at k
          exact k
        · have k := ih (i + 1) (by omega) h' (by rw [s_lay, if_neg (by rw [hb2]; decide)]; exact f1) (by rw [s_lay, if_neg (by rw [hb2]; decide)]; exact f2) f3 f4
          rw [← nI_1] at k
          exact k
    exact loop 64 0 rfl (qm_si h1 26 43 0) rfl c4 (sb.rf.si (by decide)) (fun k hk => by rw [si_row, up_n _ _ hk])
  · exact ⟨fun q => absurd rfl q, fun _ => ⟨rfl, Or.inr ⟨fun q => e0 q.2, rfl, pers.rf.s26⟩⟩⟩
def s_next (a : Nat → Int32) (c : Nat) : Nat → Int32 × Int32
  | 0 => (-1, 1000000)
  | f + 1 => (if (s_next a c f).2 ≤ mx (s_many a (nI f) c) (nI c - s_many a (nI f) c) then (s_next a c f).1 else nI f, mn (s_next a c f).2 (mx (s_many a (nI f) c) (nI c - s_many a (nI f) c)))
theorem e_next {G : qm_G} (hG : G.2.2.2.2 = true) (d : Nat) (h : qm_H) {c : Nat} (hc : h.1 26 43 = nI c) (hc64 : c ≤ 64) : qm_Ev G (d + 2) 0 0 qyX10_next [.ref 26] h (fun r h' => r = some (.int (if c = 0 then -1 else (s_next (h.1 48) c 6).1)) ∧ h = h') := by
  refine qm_Ev.by (M := mX10_next) okX10_next (Nat.le_of_ble_eq_true rfl) hG fun z hA => ?_
  refine qm_wp_ok hA [6] 20 _ _ _ _ _ _ ?_
  by_cases c0 : c = 0
  · refine qm_wp_ok hA [] 20 _ _ _ _ _ _ ⟨fun q => absurd q (by decide), fun _ => ⟨rfl, fun _ => ⟨trivial, by rw [if_pos c0], rfl⟩, fun (q : ¬ h.1 26 43 ≤ 0) => absurd (by rw [hc, c0]; decide) q⟩⟩
  · refine qm_for (P := fun i => qm_PW G mX10_next z 6 0 0 [vr 26, vi (s_next (h.1 48) c i).1, vi (s_next (h.1 48) c i).2, vi (nI i), vu] [] h) (N := 6) ?_ ?_
    · exact qm_wp_ok hA [] 20 _ _ _ _ _ _ ⟨fun _ => ⟨trivial, by rw [if_neg c0], rfl⟩, fun q => absurd (by decide) q⟩
    · intro i hi key
      rw [s_next, ← nI_1] at key
      refine qm_wp_ok hA [6] 60 _ _ _ _ _ _ ⟨fun q => absurd q (nI_ge hi (by decide)), fun _ => ⟨rfl, fun (q : h.1 26 43 ≤ 0) => absurd q (by rw [hc]; exact nI_nle (by omega) (by omega)), fun _ => ⟨rfl, 0, 0, _, e_manyHave hG d h hc hc64 (nI i), ⟨Nat.le_refl _, Nat.le_refl _⟩, ?_⟩⟩⟩
      rintro _ _ ⟨rfl, rfl⟩
      refine ⟨rfl, rfl, 0, 0, _, e_manyHave hG d h hc hc64 (nI i), ⟨Nat.le_refl _, Nat.le_refl _⟩, ?_⟩
      rintro _ _ ⟨rfl, rfl⟩
      refine ⟨0, 0, _, e_greater hG (d + 1) h (s_many (h.1 48) (nI i) c) (h.1 26 43 - s_many (h.1 48) (nI i) c), ⟨Nat.le_refl _, Nat.le_refl _⟩, ?_⟩
      rintro _ _ ⟨rfl, rfl⟩
      rw [hc]
      refine ⟨fun q => ?_, fun q => ?_⟩
      · refine ⟨0, 0, _, e_lesser hG (d + 1) h _ _, ⟨Nat.le_refl _, Nat.le_refl _⟩, ?_⟩
        rintro _ _ ⟨rfl, rfl⟩
        rw [if_pos q] at key
        exact qm_PW.mask [true, true, true, true, false] key
      · refine ⟨0, 0, _, e_lesser hG (d + 1) h _ _, ⟨Nat.le_refl _, Nat.le_refl _⟩, ?_⟩
        rintro _ _ ⟨rfl, rfl⟩
        rw [if_neg q] at key
        exact qm_PW.mask [true, true, true, true, false] key
/-- what is learnt by a fact, NONE if he doesn't know it -/
def s_by (w mi : Nat → Int32) (n p f : Nat) : Int32 := if bit (mi p) (nI f) then s_learnt w mi p f n else -1
def s_best (w mi : Nat → Int32) (n p : Nat) : Nat → Int32 × Int32
  | 0 => (-1, -1)
  | f + 1 => (if s_by w mi n p f ≤ (s_best w mi n p f).2 then (s_best w mi n p f).1 else nI f, mx (s_best w mi n p f).2 (s_by w mi n p f))
