/-! the reference: a year's deeds, and the calls till, state, deed -/
/-- a loop that counts up to N -/
theorem qm_for {P : Nat → Prop} {N : Nat} (hz : P N) (hs : ∀ i, i < N → P (i + 1) → P i) : P 0 := by
  have : ∀ m i, i + m = N → P i := by
    intro m
    induction m with
    | zero => intro i hi; rw [show i = N from hi]; exact hz
    | succ m ih => intro i hi; exact hs i (by omega) (ih (i + 1) (by omega))
  exact this N 0 (Nat.zero_add N)
/-- rows of years and logs as texts make them -/
def VY (w : Nat → Int32) (m : Nat) : Prop := m ≤ 40 ∧ w 0 = nI m ∧ ∀ k, k < m → ∃ wh, wh < 5 ∧ w (1 + 4 * k) = nI wh ∧ (wh < 3 → ∃ f, f < 6 ∧ w (1 + 4 * k + 2) = nI f)
/-- one deed of a year -/
def s_deed (w : Nat → Int32) (n : Nat) (yr : Nat → Int32) (k : Nat) (ps : PSt) : Bool × PSt := s_does w n (yr (1 + 4 * k)).toNatClampNeg (yr (1 + 4 * k + 1)) (yr (1 + 4 * k + 2)) (yr (1 + 4 * k + 3)) ps
def s_play (w : Nat → Int32) (n : Nat) (yr : Nat → Int32) : Nat → Nat → PSt → Nat × PSt
  | 0, k, ps => (k, ps)
  | r + 1, k, ps => if (s_deed w n yr k ps).1 then s_play w n yr r (k + 1) (s_deed w n yr k ps).2 else (k, (s_deed w n yr k ps).2)
theorem fr.yr {h h' : qm_H} (a : fr h h') (y : Nat) : yw h' y = yw h y := by
  unfold yw
  rw [a.2.1 33 (by decide)]
section Ref5
theorem e_doesDeed {G : qm_G} (hG : G.2.2.2.2 = true) (d : Nat) (h : qm_H) {t n y m k : Nat} (ht : h.1 26 22 = nI t) (hk : t < 2) (hn : h.1 26 23 = nI n) (hn6 : n ≤ 6) (hy : h.1 26 34 = nI y) (hy2 : y < 2) (hV : VY (yw h y) m) (hkm : k < m) : qm_Ev G (d + 4) 0 0 qyX10_doesDeed [.ref 26, .int (nI k)] h (fun r h' => r = some (.int (b2 (s_deed (tw h t) n (yw h y) k (rps h)).1)) ∧ rps h' = (s_deed (tw h t) n (yw h y) k (rps h)).2 ∧ fr h h') := by
  refine qm_Ev.run (M := mX10_doesDeed) okX10_doesDeed rfl hG fun z => ?_
  have hk40 : k < 40 := by have := hV.1; omega
  obtain ⟨wh, hw5, hwe, hwf⟩ := hV.2.2 k hkm
  refine ⟨rfl, ?_⟩
  refine ⟨0, 0, _, e_deedOf hG _ h (j := 0) hy hy2 hk40 (by decide), ⟨Nat.le_refl _, Nat.le_refl _⟩, ?_⟩
  rintro _ _ ⟨rfl, rfl⟩
  refine ⟨rfl, ?_⟩
  refine ⟨0, 0, _, e_deedOf hG _ h (j := 1) hy hy2 hk40 (by decide), ⟨Nat.le_refl _, Nat.le_refl _⟩, ?_⟩
  rintro _ _ ⟨rfl, rfl⟩
  refine ⟨rfl, ?_⟩
  refine ⟨0, 0, _, e_deedOf hG _ h (j := 2) hy hy2 hk40 (by decide), ⟨Nat.le_refl _, Nat.le_refl _⟩, ?_⟩
  rintro _ _ ⟨rfl, rfl⟩
  refine ⟨rfl, ?_⟩
  refine ⟨0, 0, _, e_deedOf hG _ h (j := 3) hy hy2 hk40 (by decide), ⟨Nat.le_refl _, Nat.le_refl _⟩, ?_⟩
  rintro _ _ ⟨rfl, rfl⟩
  refine ⟨rfl, ?_⟩
  have e0 : yw h y (1 + 4 * k + 0) = nI wh := hwe
  rw [e0]
  refine ⟨0, 0, _, e_does hG d h ht hk hn hn6 hw5 (yw h y (1 + 4 * k + 1)) (yw h y (1 + 4 * k + 2)) (yw h y (1 + 4 * k + 3)) hwf, ⟨Nat.le_refl _, Nat.le_refl _⟩, ?_⟩
  rintro _ h2 ⟨rfl, e1, e2⟩
  have e3 : s_deed (tw h t) n (yw h y) k (rps h) = s_does (tw h t) n wh (yw h y (1 + 4 * k + 1)) (yw h y (1 + 4 * k + 2)) (yw h y (1 + 4 * k + 3)) (rps h) := by
    unfold s_deed
    rw [hwe, nI_clamp (by omega)]
  rw [e3]
  exact ⟨b2_and _, rfl, e1, e2⟩
theorem e_play {G : qm_G} (hG : G.2.2.2.2 = true) (d : Nat) (h : qm_H) {t n y m lim : Nat} (ht : h.1 26 22 = nI t) (hk : t < 2) (hn : h.1 26 23 = nI n) (hn6 : n ≤ 6) (hy : h.1 26 34 = nI y) (hy2 : y < 2) (hV : VY (yw h y) m) (hl : lim ≤ m) : qm_Ev G (d + 5) 0 0 qyX10_play [.ref 26, .int (nI lim)] h (fun r h' => r = some (.int (nI (s_play (tw h t) n (yw h y) lim 0 (rps h)).1)) ∧ rps h' = (s_play (tw h t) n (yw h y) lim 0 (rps h)).2 ∧ fr h h') := by
  refine qm_Ev.by (M := mX10_play) okX10_play (Nat.le_of_ble_eq_true rfl) hG fun z hA => ?_
  have h40 := hV.1
  have loop : ∀ r k : Nat, k + r = lim → ∀ h' : qm_H, s_play (tw h t) n (yw h y) lim 0 (rps h) = s_play (tw h t) n (yw h y) r k (rps h') → fr h h' → qm_PW G mX10_play z 2 0 0 [vr 26, vi (nI lim), vi (nI k)] [] h' := by
    intro r
    induction r with
    | zero =>
      intro k hkr h' e1 e2
      obtain rfl : k = lim := hkr
      refine qm_wp_ok hA [] 20 _ _ _ _ _ _ ?_
      exact ⟨fun _ => ⟨trivial, by rw [e1]; rfl, by rw [e1]; rfl, e2⟩, fun q => absurd (Int32.le_refl _) q⟩
    | succ r ih =>
      intro k hkr h' e1 e2
      have c1 := e2.row t
      have c2 := e2.yr y
      refine qm_wp_ok hA [2] 30 _ _ _ _ _ _ ?_
      refine ⟨fun q => absurd q (nI_ge (by omega) (by omega)), fun _ => ?_⟩
      refine ⟨rfl, ?_⟩
      refine ⟨0, 0, _, e_doesDeed hG d h' (t := t) (n := n) (y := y) (m := m) (k := k) (by rw [e2.2.2 22 (by decide), ht]) hk (by rw [e2.2.2 23 (by decide), hn]) hn6 (by rw [e2.2.2 34 (by decide), hy]) hy2 (by rw [c2]; exact hV) (by omega), ⟨Nat.le_refl _, Nat.le_refl _⟩, ?_⟩
      rintro _ h2 ⟨rfl, e3, e4⟩
      rw [c1, c2] at e3 ⊢
      refine b2_eq (fun hb => ?_) (fun hb => ?_)
      · have := ih (k + 1) (by omega) h2 (by rw [e1, s_play, if_pos hb, e3]) (e2.tr e4)
        rw [← nI_1] at this
        exact this
      · refine ⟨trivial, ?_, ?_, e2.tr e4⟩
        · rw [e1, s_play, if_neg (by rw [hb]; decide)]
        · rw [e1, s_play, if_neg (by rw [hb]; decide), e3]
  refine qm_wp_ok hA [2] 20 _ _ _ _ _ _ ?_
  exact loop lim 0 (Nat.zero_add lim) h rfl fr.rf
/-- of a play's state, what is asked -/
def s_of (n : Nat) (ps : PSt) (what : Int32) : Int32 :=
  if what < 10 then (if what = 0 then ps.2.2.2.2.2.2.1 else if what = 1 then ps.2.2.2.2.2.2.2.1 else if what = 2 then ps.2.2.2.2.2.2.2.2.1 else -1)
  else if what - what / 10 * 10 < nI n then (if what / 10 = 1 then ps.1 (what - what / 10 * 10).toNatClampNeg else if what / 10 = 2 then ps.2.1 (what - what / 10 * 10).toNatClampNeg else if what / 10 = 3 then ps.2.2.1 (what - what / 10 * 10).toNatClampNeg else if what / 10 = 4 then ps.2.2.2.1 (what - what / 10 * 10).toNatClampNeg else -1) else -1
end Ref5
