/-! the reference: after a year; years by a seed -/
def s_mv (w : Nat → Int32) (ps : PSt) (wh p : Nat) : Int32 := if wh = 0 then ps.2.2.2.2.1 p else if wh = 1 then ps.2.1 p else if wh = 2 then s_worth w (ps.2.2.1 p) 6 else ps.2.2.2.2.2.1 p
def s_most (v : Nat → Int32) (any : Bool) : Nat → Option Nat
  | 0 => none
  | p + 1 => match s_most v any p with
    | none => if any = false ∧ v p ≤ 0 then none else some p
    | some b => if v p ≤ v b then some b else some p
theorem s_most_lt (v : Nat → Int32) (any : Bool) : ∀ p b, s_most v any p = some b → b < p
  | 0, b, h => by cases h
  | p + 1, b, h => by
    have ih := s_most_lt v any p
    rw [s_most] at h
    split at h
    · split at h
      · cases h
      · cases h; omega
    · rename_i b' e
      have := ih b' e
      split at h
      · cases h; omega
      · cases h; omega
theorem e_most {G : qm_G} (hG : G.2.2.2.2 = true) (d : Nat) (h : qm_H) {t n wh : Nat} (ht : h.1 26 22 = nI t) (hk : t < 2) (hn : h.1 26 23 = nI n) (hn6 : n ≤ 6) (hw : wh < 4) : qm_Ev G (d + 2) 0 0 qyX10_most [.ref 26, .int (nI wh)] h (fun r h' => r = some (.int (s_oi (s_most (s_mv (tw h t) (rps h) wh) (decide (wh = 1 ∨ wh = 2)) (if wh = 3 then 6 else n)))) ∧ h = h') := by
  obtain ⟨v, hv⟩ : ∃ v, v = s_mv (tw h t) (rps h) wh := ⟨_, rfl⟩
  obtain ⟨any, hany⟩ : ∃ any, any = decide (wh = 1 ∨ wh = 2) := ⟨_, rfl⟩
  obtain ⟨N, hN⟩ : ∃ N, N = if wh = 3 then 6 else n := ⟨_, rfl⟩
  rw [← hv, ← hany, ← hN]
  refine qm_Ev.by (M := mX10_most) okX10_most (Nat.le_of_ble_eq_true rfl) hG fun z hA => ?_
  have hN6 : N ≤ 6 := by rw [hN]; split <;> omega
  have w0 : ∀ {j : Nat}, j < 4 → ∀ x : Int32, x = nI j → (nI wh = x ↔ wh = j) := fun {j} hj x hx => by rw [hx]; exact nI_eq (by omega) (by omega)
  refine qm_wp_ok hA [4] 20 _ _ _ _ _ _ ?_
  refine qm_for (P := fun i => qm_PW G mX10_most z 4 0 0 [vr 26, vi (nI wh), vi (s_oi (s_most v any i)), vi (nI i), vu, vu, vu] [] h) (N := N) ?_ ?_
  · refine qm_wp_ok hA [12] 20 _ _ _ _ _ _ ⟨fun (c : ¬ nI wh = 3) => ⟨rfl, ?_⟩, fun (c : nI wh = 3) => ?_⟩
    · have c' : ¬ wh = 3 := fun e => c ((w0 (by decide) 3 rfl).mpr e)
      have eN : N = n := by rw [hN, if_neg c']
      rw [eN]
      exact qm_wp_ok hA [] 20 _ _ _ _ _ _ ⟨fun _ => ⟨trivial, by rw [eN], rfl⟩, fun (q : ¬ h.1 26 23 ≤ nI n) => absurd (by rw [hn]; exact Int32.le_refl _) q⟩
    · have c' : wh = 3 := (w0 (by decide) 3 rfl).mp c
      have eN : N = 6 := by rw [hN, if_pos c']
      rw [eN]
      exact qm_wp_ok hA [] 20 _ _ _ _ _ _ ⟨fun _ => ⟨trivial, by rw [eN], rfl⟩, fun q => absurd (by decide) q⟩
  · intro i hi key
    rw [← nI_1] at key
    have key2 : ∀ L4 L5 L6 : Option Value, qm_PW G mX10_most z 4 0 0 [vr 26, vi (nI wh), vi (s_oi (s_most v any (i + 1))), vi (nI i + 1), L4, L5, L6] [] h := fun L4 L5 L6 => qm_PW.mask [true, true, true, true, false, false, false] key
    have hin : vp_in (nI i) 6 := vp_in_nI (by omega) (by decide)
    have ei : (nI i).toNatClampNeg = i := nI_clamp (by omega)
    have m90 : ∀ had : Int32, (s_most v any i = none → had = 0) → (∀ b, s_most v any i = some b → had = v b) → qm_PW G mX10_most z 90 0 0 [vr 26, vi (nI wh), vi (s_oi (s_most v any i)), vi (nI i), vi (v i), vi had, vu] [.int (b2 (decide (s_most v any i = none) && any))] h := by
      intro had h0 h1
      refine qm_wp_ok hA [4] 20 _ _ _ _ _ _ ?_
      rw [s_most] at key2
      cases hx : s_most v any i with
      | none =>
        rw [hx] at key2
        have e := h0 hx
        subst e
        cases any with
        | true => exact ⟨fun _ => key2 _ _ _, fun q => absurd q (by decide)⟩
        | false =>
          refine ⟨fun q => absurd rfl q, fun _ => ⟨fun c => ?_, fun c => ?_⟩⟩
          · have k := key2 (vi (v i)) (vi 0) (vi 0)
            simp only [true_and, if_pos c] at k
            exact k
          · have k := key2 (vi (v i)) (vi 0) (vi 0)
            simp only [true_and, if_neg c] at k
            exact k
      | some b =>
        rw [hx] at key2
        have e := h1 b hx
        subst e
        refine ⟨fun q => absurd rfl q, fun _ => ⟨fun c => ?_, fun c => ?_⟩⟩
        · have k := key2 (vi (v i)) (vi (v b)) (vi 0)
          simp only [if_pos c] at k
          exact k
        · have k := key2 (vi (v i)) (vi (v b)) (vi 0)
          simp only [if_neg c] at k
          exact k
    have m77 : ∀ had : Int32, (s_most v any i = none → had = 0) → (∀ b, s_most v any i = some b → had = v b) → qm_PW G mX10_most z 77 0 0 [vr 26, vi (nI wh), vi (s_oi (s_most v any i)), vi (nI i), vi (v i), vu, vu] [.int had] h := by
      intro had h0 h1
      have k := m90 had h0 h1
      cases hx : s_most v any i with
      | none =>
        rw [hx] at k
        refine qm_wp_ok hA [90] 20 _ _ _ _ _ _ ⟨fun q => absurd rfl q, fun _ => ⟨fun (c : nI wh = 1) => ?_, fun (c : ¬ nI wh = 1) => ⟨fun (c2 : ¬ nI wh = 2) => ?_, fun (c2 : nI wh = 2) => ?_⟩⟩⟩
        · rw [show any = true by rw [hany]; exact decide_eq_true (Or.inl ((w0 (by decide) 1 rfl).mp c))] at k
          exact k
        · rw [show any = false by rw [hany]; exact decide_eq_false (fun q => q.elim (fun q => c ((w0 (by decide) 1 rfl).mpr q)) (fun q => c2 ((w0 (by decide) 2 rfl).mpr q)))] at k
          exact k
        · rw [show any = true by rw [hany]; exact decide_eq_true (Or.inr ((w0 (by decide) 2 rfl).mp c2))] at k
          exact k
      | some b =>
        have hb := s_most_lt v any i b hx
        rw [hx] at k
        refine qm_wp_ok hA [90] 20 _ _ _ _ _ _ ⟨fun _ => k, fun (q : nI b = -1) => absurd (by rw [q]; decide : nI b < 0) (nI_pos (by omega))⟩
    have m42 : qm_PW G mX10_most z 42 0 0 [vr 26, vi (nI wh), vi (s_oi (s_most v any i)), vi (nI i), vu, vu, vu] [.int (v i)] h := by
      cases hx : s_most v any i with
      | none =>
        have k := m77 0 (fun _ => rfl) (fun b hb => by rw [hx] at hb; cases hb)
        rw [hx] at k
        exact qm_wp_ok hA [77] 20 _ _ _ _ _ _ ⟨fun q => absurd rfl q, fun _ => k⟩
      | some b =>
        have hb := s_most_lt v any i b hx
        have k := m77 (v b) (fun q => by rw [hx] at q; cases q) (fun b' hb' => by rw [hx] at hb'; cases hb'; rfl)
        rw [hx] at k
        have hib : vp_in (nI b) 6 := vp_in_nI (by omega) (by decide)
        have eb : (s_oi (some b)).toNatClampNeg = b := nI_clamp (n := b) (by omega)
        refine qm_wp_ok hA [77] 40 _ _ _ _ _ _ ⟨fun _ => ?_, fun (q : nI b = -1) => absurd (by rw [q]; decide : nI b < 0) (nI_pos (by omega))⟩
        refine ⟨fun (c : ¬ nI wh = 0) => ⟨fun (c1 : ¬ nI wh = 1) => ⟨fun (c2 : ¬ nI wh = 2) => ?_, fun (c2 : nI wh = 2) => ?_⟩, fun (c1 : nI wh = 1) => ?_⟩, fun (c : nI wh = 0) => ?_⟩
        · refine ⟨rfl, _, rfl, rfl, hib, ?_⟩
          rw [show v b = h.1 42 b by rw [hv, s_mv, if_neg (fun e => c ((w0 (by decide) 0 rfl).mpr e)), if_neg (fun e => c1 ((w0 (by decide) 1 rfl).mpr e)), if_neg (fun e => c2 ((w0 (by decide) 2 rfl).mpr e))]; rfl] at k
          rw [eb]
          exact k
        · refine ⟨rfl, _, rfl, rfl, hib, rfl, ?_⟩
          rw [show v b = s_worth (tw h t) (h.1 39 b) 6 by rw [hv, s_mv, if_neg (fun e => c ((w0 (by decide) 0 rfl).mpr e)), if_neg (fun e => c1 ((w0 (by decide) 1 rfl).mpr e)), if_pos ((w0 (by decide) 2 rfl).mp c2)]; rfl] at k
          rw [eb]
          refine ⟨0, 0, _, e_worthOf hG d h ht hk (h.1 39 b), ⟨Nat.le_refl _, Nat.le_refl _⟩, ?_⟩
          rintro _ _ ⟨rfl, rfl⟩
          exact k
        · refine ⟨rfl, _, rfl, rfl, hib, ?_⟩
          rw [show v b = h.1 38 b by rw [hv, s_mv, if_neg (fun e => c ((w0 (by decide) 0 rfl).mpr e)), if_pos ((w0 (by decide) 1 rfl).mp c1)]; rfl] at k
          rw [eb]
          exact k
        · refine ⟨rfl, _, rfl, rfl, hib, ?_⟩
          rw [show v b = h.1 41 b by rw [hv, s_mv, if_pos ((w0 (by decide) 0 rfl).mp c)]; rfl] at k
          rw [eb]
          exact k
    have m14 : ∀ M : Int32, ¬ M ≤ nI i → qm_PW G mX10_most z 12 0 0 [vr 26, vi (nI wh), vi (s_oi (s_most v any i)), vi (nI i), vu, vu, vu] [.int M, .int (nI i)] h := by
      intro M hM
      have k := m42
      refine qm_wp_ok hA [42] 40 _ _ _ _ _ _ ⟨fun q => absurd q hM, fun _ => ?_⟩
      refine ⟨fun (c : ¬ nI wh = 0) => ⟨fun (c1 : ¬ nI wh = 1) => ⟨fun (c2 : ¬ nI wh = 2) => ?_, fun (c2 : nI wh = 2) => ?_⟩, fun (c1 : nI wh = 1) => ?_⟩, fun (c : nI wh = 0) => ?_⟩
      · refine ⟨rfl, _, rfl, rfl, hin, ?_⟩
        rw [show v i = h.1 42 i by rw [hv, s_mv, if_neg (fun e => c ((w0 (by decide) 0 rfl).mpr e)), if_neg (fun e => c1 ((w0 (by decide) 1 rfl).mpr e)), if_neg (fun e => c2 ((w0 (by decide) 2 rfl).mpr e))]; rfl] at k
        rw [ei]
        exact k
      · refine ⟨rfl, _, rfl, rfl, hin, rfl, ?_⟩
        rw [show v i = s_worth (tw h t) (h.1 39 i) 6 by rw [hv, s_mv, if_neg (fun e => c ((w0 (by decide) 0 rfl).mpr e)), if_neg (fun e => c1 ((w0 (by decide) 1 rfl).mpr e)), if_pos ((w0 (by decide) 2 rfl).mp c2)]; rfl] at k
        rw [ei]
        refine ⟨0, 0, _, e_worthOf hG d h ht hk (h.1 39 i), ⟨Nat.le_refl _, Nat.le_refl _⟩, ?_⟩
        rintro _ _ ⟨rfl, rfl⟩
        exact k
      · refine ⟨rfl, _, rfl, rfl, hin, ?_⟩
        rw [show v i = h.1 38 i by rw [hv, s_mv, if_neg (fun e => c ((w0 (by decide) 0 rfl).mpr e)), if_pos ((w0 (by decide) 1 rfl).mp c1)]; rfl] at k
        rw [ei]
        exact k
      · refine ⟨rfl, _, rfl, rfl, hin, ?_⟩
        rw [show v i = h.1 41 i by rw [hv, s_mv, if_pos ((w0 (by decide) 0 rfl).mp c)]; rfl] at k
        rw [ei]
        exact k
    refine qm_wp_ok hA [12] 20 _ _ _ _ _ _ ⟨fun (c : ¬ nI wh = 3) => ⟨rfl, ?_⟩, fun (c : nI wh = 3) => ?_⟩
    · have c' : ¬ wh = 3 := fun e => c ((w0 (by decide) 3 rfl).mpr e)
      have eN : N = n := by rw [hN, if_neg c']
      exact m14 _ (by show ¬ h.1 26 23 ≤ nI i; rw [hn]; exact nI_ge (by omega) (by omega))
    · have c' : wh = 3 := (w0 (by decide) 3 rfl).mp c
      have eN : N = 6 := by rw [hN, if_pos c']
      exact m14 6 (nI_ge (b := 6) (by omega) (by omega))
