/-! the reference: what is kept is well made; the face's small calls -/
def nn (w : Nat → Int32) : Nat := (w 0).toNatClampNeg
/-- a town's row, as texts make it -/
def VT (w : Nat → Int32) (n : Nat) : Prop := n ≤ 6 ∧ w 0 = nI n ∧ (∀ f, f < 6 → ∃ v, v ≤ 20 ∧ w (1 + f) = nI v) ∧ (∀ f, f < 6 → ∃ s, s < 64 ∧ w (7 + f) = nI s) ∧ (∀ p, p < 6 → ∃ v, v ≤ 30 ∧ w (13 + p) = nI v) ∧ (∀ p, p < 6 → ∃ s, s < 64 ∧ w (19 + p) = nI s ∧ (n ≤ p → s = 0)) ∧ (∀ p, p < 6 → ∃ s, s < 2 ^ n ∧ w (25 + p) = nI s ∧ (n ≤ p → s = 0)) ∧ (∀ f g k, f < 6 → g < 6 → k < 6 → bit (w (7 + f)) (nI g) = true → bit (w (7 + g)) (nI k) = true → bit (w (7 + f)) (nI k) = true) ∧ (∀ p g k, p < 6 → g < 6 → k < 6 → bit (w (19 + p)) (nI g) = true → bit (w (7 + g)) (nI k) = true → bit (w (19 + p)) (nI k) = true)
def ST (h : qm_H) (mt my ml : Nat) : Prop := h.1 31 0 = nI mt ∧ mt ≤ 2 ∧ h.1 31 1 = nI my ∧ my ≤ 2 ∧ h.1 31 2 = nI ml ∧ ml ≤ 2 ∧ (∀ t, t < mt → VT (tw h t) (nn (tw h t))) ∧ (∀ y, y < my → VY (yw h y) (nn (yw h y))) ∧ (∀ l, l < ml → VL (gw h l) (nn (gw h l)))
theorem p_in {t m : Nat} (ht : t < m) (hm : m ≤ 2) : inb (nI t) m = true ∧ (nI t).toNatClampNeg = t := ⟨inb_n (by omega) ht, nI_clamp (by omega)⟩
def s_town (w : Nat → Int32) (n : Nat) (what : Int32) : Int32 :=
  if what / 10 = 0 then (if what = 0 then nI n else -1)
  else if what / 10 = 1 ∨ what / 10 = 2 then (if what - what / 10 * 10 < 6 then w (6 * (what / 10).toNatClampNeg - 5 + (what - what / 10 * 10).toNatClampNeg) else -1)
  else if what / 10 = 3 ∨ what / 10 = 4 ∨ what / 10 = 5 then (if what - what / 10 * 10 < nI n then w (6 * (what / 10).toNatClampNeg - 5 + (what - what / 10 * 10).toNatClampNeg) else -1)
  else -1
def p_town (h : qm_H) (mt : Nat) (a what : Int32) : Int32 := if inb a mt then s_town (tw h a.toNatClampNeg) (nn (tw h a.toNatClampNeg)) what else -1
theorem a_town {G : qm_G} (hG : G.2.2.2.2 = true) (d : Nat) (h : qm_H) {mt my ml : Nat} (hS : ST h mt my ml) (a what : Int32) : qm_Ev G (d + 3) 0 0 qyX10_town [.ref 26, .int a, .int what] h (fun r h' => r = some (.int (p_town h mt a what)) ∧ pers h h') := by
  refine qm_Ev.run (M := mX10_town) okX10_town rfl hG fun z => ?_
  refine ⟨rfl, trivial, rfl, 0, 0, _, e_handC hG d (qm_si h 26 0 0) (mt := mt) hS.1 hS.2.1 a, ⟨Nat.le_refl _, Nat.le_refl _⟩, ?_⟩
  rintro _ _ (⟨t, ht, rfl, rfl, rfl⟩ | ⟨e0, rfl, rfl⟩)
  · obtain ⟨i1, i2⟩ := p_in ht hS.2.1
    have hT := hS.2.2.2.2.2.2.1 t ht
    have ht2 : t < 2 := by have := hS.2.1; omega
    obtain ⟨n, hn⟩ : ∃ n, n = nn (tw h t) := ⟨_, rfl⟩
    rw [← hn] at hT
    have e23 : (hnd (qm_si h 26 0 0) t).1 26 23 = nI n := hT.2.1
    have hn6 := hT.1
    have fin : pers h (hnd (qm_si h 26 0 0) t) := pers.rf.s26.tr (hnd.ps _ t)
    have eP : p_town h mt (nI t) what = s_town (tw h t) n what := by rw [p_town, i1, i2, ← hn]; rfl
    rw [eP]
    have g12 : ∀ g k : Nat, g = 1 ∨ g = 2 → k < 10 → what = nI (10 * g + k) → s_town (tw h t) n what = if k < 6 then tw h t (6 * g - 5 + k) else -1 := by
      intro g k hg hk e
      obtain ⟨f1, f2⟩ := dv10' (g := g) (k := k) hk (by omega)
      rw [e, s_town, f2, f1, if_neg (fun q => by have := (nI_eq (b := 0) (by omega) (by decide)).mp q; omega), if_pos (by rcases hg with rfl | rfl <;> decide), nI_clamp (by omega), nI_clamp (by omega)]
      by_cases c : k < 6
      · have c2 : nI k < 6 := nI_lt (b := 6) c (by decide)
        rw [if_pos c, if_pos c2]
      · have c2 : ¬ nI k < 6 := nI_nlt (a := k) (b := 6) (by omega) (by omega)
        rw [if_neg c, if_neg c2]
    have g345 : ∀ g k : Nat, g = 3 ∨ g = 4 ∨ g = 5 → k < 10 → what = nI (10 * g + k) → s_town (tw h t) n what = if k < n then tw h t (6 * g - 5 + k) else -1 := by
      intro g k hg hk e
      obtain ⟨f1, f2⟩ := dv10' (g := g) (k := k) hk (by omega)
      rw [e, s_town, f2, f1, if_neg (fun q => by have := (nI_eq (b := 0) (by omega) (by decide)).mp q; omega), if_neg (by rcases hg with rfl | rfl | rfl <;> decide), if_pos (by rcases hg with rfl | rfl | rfl <;> decide), nI_clamp (by omega), nI_clamp (by omega)]
      by_cases c : k < n
      · rw [if_pos c, if_pos (nI_lt c (by omega))]
      · rw [if_neg c, if_neg (nI_nlt (by omega) (by omega))]
    have ofl : ∀ (g k : Nat), g < 6 → 1 ≤ g → k < 6 → ∀ x : Int32, x = nI (6 * g - 5 + k) → qm_Ev G (d + 2) 0 0 qyX10_of [.ref 26, .int x] (hnd (qm_si h 26 0 0) t) (fun r h' => r = some (.int (tw h t (6 * g - 5 + k))) ∧ hnd (qm_si h 26 0 0) t = h') := by
      intro g k hg hg1 hk x hx
      rw [hx]
      exact e_of hG (d + 2) (hnd (qm_si h 26 0 0) t) (t := t) rfl ht2 (by omega)
    refine ⟨fun _ => ⟨by decide, by decide, ⟨fun q => ⟨fun c => ?_, fun c => ?_⟩, fun q => ?_, fun q => ?_, fun q => ?_, fun q => ?_, fun q => ?_, trivial⟩, fun q => ?_⟩, fun q => absurd q (by decide)⟩
    · have q0 : what / 10 = 0 := q
      exact ⟨trivial, by rw [s_town, if_pos q0, if_neg c], fin⟩
    · have q0 : what / 10 = 0 := q
      exact ⟨rfl, trivial, by rw [s_town, if_pos q0, if_pos c]; exact congrArg (fun x => some (Value.int x)) e23, fin⟩
    · obtain ⟨k, hk, e, e2⟩ := dv10 (x := what) (g := 1) (by decide) (by decide) q
      rw [g12 1 k (Or.inl rfl) hk e]
      refine ⟨fun (c : 6 ≤ what - what / 10 * 10) => ?_, fun (c : ¬ 6 ≤ what - what / 10 * 10) => ⟨fun (c2 : 20 ≤ what) => ?_, fun c2 => ?_⟩⟩
      · rw [e2] at c
        exact ⟨trivial, by rw [if_neg (fun q => absurd c (nI_ge (b := 6) q (by decide)))], fin⟩
      · rw [e] at c2
        exact absurd c2 (nI_ge (b := 20) (by omega) (by decide))
      · have ck : k < 6 := by
          rcases Nat.lt_or_ge k 6 with q | q
          · exact q
          · exact absurd (by rw [e2]; exact nI_le (a := 6) q (by omega)) c
        refine ⟨rfl, 0, 0, _, ofl 1 k (by decide) (by decide) ck _ (by rw [e2]; exact nI_add 1 k), ⟨Nat.le_refl _, Nat.le_refl _⟩, ?_⟩
        rintro _ _ ⟨rfl, rfl⟩
        exact ⟨trivial, by rw [if_pos ck], fin⟩
    · obtain ⟨k, hk, e, e2⟩ := dv10 (x := what) (g := 2) (by decide) (by decide) q
      rw [g12 2 k (Or.inr rfl) hk e]
      refine ⟨fun (c : 6 ≤ what - what / 10 * 10) => ?_, fun (c : ¬ 6 ≤ what - what / 10 * 10) => ⟨fun (c2 : 20 ≤ what) => ?_, fun (c2 : ¬ 20 ≤ what) => ?_⟩⟩
      · rw [e2] at c
        exact ⟨trivial, by rw [if_neg (fun q => absurd c (nI_ge (b := 6) q (by decide)))], fin⟩
      · have ck : k < 6 := by
          rcases Nat.lt_or_ge k 6 with q | q
          · exact q
          · exact absurd (by rw [e2]; exact nI_le (a := 6) q (by omega)) c
        refine ⟨rfl, 0, 0, _, ofl 2 k (by decide) (by decide) ck _ (by rw [e2]; exact nI_add 7 k), ⟨Nat.le_refl _, Nat.le_refl _⟩, ?_⟩
        rintro _ _ ⟨rfl, rfl⟩
        exact ⟨trivial, by rw [if_pos ck], fin⟩
      · rw [e] at c2
        exact absurd (nI_le (a := 20) (by omega) (by omega)) c2
    · obtain ⟨k, hk, e, e2⟩ := dv10 (x := what) (g := 3) (by decide) (by decide) q
      rw [g345 3 k (Or.inl rfl) hk e]
      refine ⟨rfl, fun (c : (hnd (qm_si h 26 0 0) t).1 26 23 ≤ what - what / 10 * 10) => ?_, fun (c : ¬ (hnd (qm_si h 26 0 0) t).1 26 23 ≤ what - what / 10 * 10) => ⟨by decide, rfl, ?_⟩⟩
      · rw [e2, e23] at c
        exact ⟨trivial, by rw [if_neg (fun q => absurd c (nI_ge q (by omega)))], fin⟩
      · have ck : k < n := by
          rcases Nat.lt_or_ge k n with q | q
          · exact q
          · exact absurd (by rw [e2, e23]; exact nI_le q (by omega)) c
        refine ⟨0, 0, _, ofl 3 k (by decide) (by decide) (by omega) _ (by rw [e2, q]; exact nI_add 13 k), ⟨Nat.le_refl _, Nat.le_refl _⟩, ?_⟩
        rintro _ _ ⟨rfl, rfl⟩
        exact ⟨trivial, by rw [if_pos ck], fin⟩
    · obtain ⟨k, hk, e, e2⟩ := dv10 (x := what) (g := 4) (by decide) (by decide) q
      rw [g345 4 k (Or.inr (Or.inl rfl)) hk e]
      refine ⟨rfl, fun (c : (hnd (qm_si h 26 0 0) t).1 26 23 ≤ what - what / 10 * 10) => ?_, fun (c : ¬ (hnd (qm_si h 26 0 0) t).1 26 23 ≤ what - what / 10 * 10) => ⟨by decide, rfl, ?_⟩⟩
      · rw [e2, e23] at c
        exact ⟨trivial, by rw [if_neg (fun q => absurd c (nI_ge q (by omega)))], fin⟩
      · have ck : k < n := by
          rcases Nat.lt_or_ge k n with q | q
          · exact q
          · exact absurd (by rw [e2, e23]; exact nI_le q (by omega)) c
        refine ⟨0, 0, _, ofl 4 k (by decide) (by decide) (by omega) _ (by rw [e2, q]; exact nI_add 19 k), ⟨Nat.le_refl _, Nat.le_refl _⟩, ?_⟩
        rintro _ _ ⟨rfl, rfl⟩
        exact ⟨trivial, by rw [if_pos ck], fin⟩
    · obtain ⟨k, hk, e, e2⟩ := dv10 (x := what) (g := 5) (by decide) (by decide) q
      rw [g345 5 k (Or.inr (Or.inr rfl)) hk e]
      refine ⟨rfl, fun (c : (hnd (qm_si h 26 0 0) t).1 26 23 ≤ what - what / 10 * 10) => ?_, fun (c : ¬ (hnd (qm_si h 26 0 0) t).1 26 23 ≤ what - what / 10 * 10) => ⟨by decide, rfl, ?_⟩⟩
      · rw [e2, e23] at c
        exact ⟨trivial, by rw [if_neg (fun q => absurd c (nI_ge q (by omega)))], fin⟩
      · have ck : k < n := by
          rcases Nat.lt_or_ge k n with q | q
          · exact q
          · exact absurd (by rw [e2, e23]; exact nI_le q (by omega)) c
        refine ⟨0, 0, _, ofl 5 k (by decide) (by decide) (by omega) _ (by rw [e2, q]; exact nI_add 25 k), ⟨Nat.le_refl _, Nat.le_refl _⟩, ?_⟩
        rintro _ _ ⟨rfl, rfl⟩
        exact ⟨trivial, by rw [if_pos ck], fin⟩
    · have q' : ∀ j : Nat, j < 6 → what / 10 ≠ nI j := by
        intro j hj e
        rw [e, nI_toInt (by omega)] at q
        simp only [List.length_cons, List.length_nil, List.drop] at q
        omega
      refine ⟨trivial, ?_, fin⟩
      have q0 : ¬ what / 10 = 0 := q' 0 (by decide)
      have q1 : ¬ (what / 10 = 1 ∨ what / 10 = 2) := fun e => e.elim (q' 1 (by decide)) (q' 2 (by decide))
      have q2 : ¬ (what / 10 = 3 ∨ what / 10 = 4 ∨ what / 10 = 5) := fun e => e.elim (q' 3 (by decide)) (fun e => e.elim (q' 4 (by decide)) (q' 5 (by decide)))
      rw [s_town, if_neg q0, if_neg q1, if_neg q2]
  · exact ⟨fun q => absurd rfl q, fun _ => ⟨trivial, by rw [p_town, e0]; rfl, pers.rf.s26⟩⟩
