/-! the reference: the best to tell, the loudest -/
theorem e_bestOf {G : qm_G} (hG : G.2.2.2.2 = true) (d : Nat) (h : qm_H) {t n p : Nat} (ht : h.1 26 22 = nI t) (hk : t < 2) (hn : h.1 26 23 = nI n) (hn6 : n ≤ 6) (hp : p < 6) (b : Bool) : qm_Ev G (d + 3) 0 0 qyX10_bestOf [.ref 26, .int (nI p), .int (b2 b)] h (fun r h' => r = some (.int (if b then mx 0 (s_best (tw h t) (h.1 39) n p 6).2 else (s_best (tw h t) (h.1 39) n p 6).1)) ∧ h = h') := by
  refine qm_Ev.by (M := mX10_bestOf) okX10_bestOf (Nat.le_of_ble_eq_true rfl) hG fun z hA => ?_
  refine qm_wp_ok hA [6] 20 _ _ _ _ _ _ ?_
  refine qm_for (P := fun i => qm_PW G mX10_bestOf z 6 0 0 [vr 26, vi (nI p), vi (b2 b), vi (s_best (tw h t) (h.1 39) n p i).1, vi (s_best (tw h t) (h.1 39) n p i).2, vi (nI i), vu] [] h) (N := 6) ?_ ?_
  · refine qm_wp_ok hA [] 20 _ _ _ _ _ _ ⟨fun _ => ?_, fun q => absurd (by decide) q⟩
    refine b2_eq (fun hb => ?_) (fun hb => ⟨trivial, by rw [if_neg (by rw [hb]; decide)], rfl⟩)
    refine ⟨0, 0, _, e_greater hG _ h 0 _, ⟨Nat.le_refl _, Nat.le_refl _⟩, ?_⟩
    rintro _ _ ⟨rfl, rfl⟩
    exact ⟨trivial, by rw [if_pos hb], rfl⟩
  · intro i hi key
    rw [s_best, ← nI_1] at key
    have hin : vp_in (nI p) 6 := vp_in_nI hp (by decide)
    have m22 : qm_PW G mX10_bestOf z 22 0 0 [vr 26, vi (nI p), vi (b2 b), vi (s_best (tw h t) (h.1 39) n p i).1, vi (s_best (tw h t) (h.1 39) n p i).2, vi (nI i), vu] [.int (s_by (tw h t) (h.1 39) n p i)] h := by
      refine qm_wp_ok hA [6] 40 _ _ _ _ _ _ ⟨fun c => ?_, fun c => ?_⟩
      · refine ⟨0, 0, _, e_greater hG _ h _ _, ⟨Nat.le_refl _, Nat.le_refl _⟩, ?_⟩
        rintro _ _ ⟨rfl, rfl⟩
        rw [if_pos c] at key
        exact qm_PW.mask [true, true, true, true, true, true, false] key
      · refine ⟨0, 0, _, e_greater hG _ h _ _, ⟨Nat.le_refl _, Nat.le_refl _⟩, ?_⟩
        rintro _ _ ⟨rfl, rfl⟩
        rw [if_neg c] at key
        exact qm_PW.mask [true, true, true, true, true, true, false] key
    refine qm_wp_ok hA [22] 40 _ _ _ _ _ _ ⟨fun q => absurd q (nI_ge hi (by decide)), fun _ => ⟨rfl, _, rfl, rfl, hin, ?_⟩⟩
    rw [nI_clamp (by omega)]
    refine ⟨0, 0, _, e_has hG _ h (h.1 39 p) (nI i), ⟨Nat.le_refl _, Nat.le_refl _⟩, ?_⟩
    rintro _ _ ⟨rfl, rfl⟩
    unfold s_by at m22
    refine b2_eq (fun hb => ⟨rfl, ?_⟩) (fun hb => by rw [if_neg (by rw [hb]; decide)] at m22; exact m22)
    refine ⟨0, 0, _, e_learntOf hG d h ht hk hn hn6 hi, ⟨Nat.le_refl _, Nat.le_refl _⟩, ?_⟩
    rintro _ _ ⟨rfl, rfl⟩
    rw [if_pos hb] at m22
    exact m22
/-- the loudest of the first ones: none, or a number below -/
def s_loud (w : Nat → Int32) (n : Nat) : Nat → Option Nat
  | 0 => none
  | p + 1 => match s_loud w n p with
    | none => some p
    | some b => if s_hearers w p n ≤ s_hearers w b n then some b else some p
def s_oi (o : Option Nat) : Int32 := match o with
  | none => -1
  | some p => nI p
theorem s_loud_lt (w : Nat → Int32) (n : Nat) : ∀ p b, s_loud w n p = some b → b < p
  | 0, b, h => by cases h
  | p + 1, b, h => by
    have ih := s_loud_lt w n p
    rw [s_loud] at h
    split at h
    · cases h; omega
    · rename_i b' e
      have := ih b' e
      split at h
      · cases h; omega
      · cases h; omega
theorem e_loudest {G : qm_G} (hG : G.2.2.2.2 = true) (d : Nat) (h : qm_H) {t n : Nat} (ht : h.1 26 22 = nI t) (hk : t < 2) (hn : h.1 26 23 = nI n) (hn6 : n ≤ 6) : qm_Ev G (d + 3) 0 0 qyX10_loudest [.ref 26] h (fun r h' => r = some (.int (s_oi (s_loud (tw h t) n n))) ∧ h = h') := by
  refine qm_Ev.by (M := mX10_loudest) okX10_loudest (Nat.le_of_ble_eq_true rfl) hG fun z hA => ?_
  refine qm_wp_ok hA [4] 20 _ _ _ _ _ _ ?_
  refine qm_for (P := fun i => qm_PW G mX10_loudest z 4 0 0 [vr 26, vi (s_oi (s_loud (tw h t) n i)), vi (nI i)] [] h) (N := n) ?_ ?_
  · exact qm_wp_ok hA [] 20 _ _ _ _ _ _ ⟨rfl, fun _ => ⟨trivial, rfl, rfl⟩, fun (q : ¬ h.1 26 23 ≤ nI n) => absurd (by rw [hn]; exact Int32.le_refl _) q⟩
  · intro i hi key
    rw [← nI_1] at key
    have hlt := s_loud_lt (tw h t) n i
    refine qm_wp_ok hA [4] 40 _ _ _ _ _ _ ⟨rfl, fun (q : h.1 26 23 ≤ nI i) => absurd q (by rw [hn]; exact nI_ge hi (by omega)), fun _ => ?_⟩
    rw [s_loud] at key
    cases hx : s_loud (tw h t) n i with
    | none =>
      rw [hx] at key
      exact ⟨fun _ => key, fun q => absurd rfl q⟩
    | some b =>
      have hb := hlt b hx
      rw [hx] at key
      refine ⟨fun (q : nI b = -1) => absurd (by rw [q]; decide : nI b < 0) (nI_pos (by omega)), fun _ => ⟨rfl, ?_⟩⟩
      refine ⟨0, 0, _, e_hearers hG d h (p := i) ht hk hn hn6, ⟨Nat.le_refl _, Nat.le_refl _⟩, ?_⟩
      rintro _ _ ⟨rfl, rfl⟩
      refine ⟨rfl, 0, 0, _, e_hearers hG d h (p := b) ht hk hn hn6, ⟨Nat.le_refl _, Nat.le_refl _⟩, ?_⟩
      rintro _ _ ⟨rfl, rfl⟩
      exact ⟨fun c => by simp only [if_pos c] at key; exact key, fun c => by simp only [if_neg c] at key; exact key⟩
