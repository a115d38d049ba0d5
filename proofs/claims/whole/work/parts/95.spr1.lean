/-! the class: who hears whom, small ones -/
theorem hbN_b (w : Nat → Int32) (p o : Nat) : ∀ n, (hbN w p n).testBit o = (decide (o < n) && s_hears w o p)
  | 0 => by rw [hbN, Nat.zero_testBit, decide_eq_false (by omega)]; rfl
  | n + 1 => by
    rw [hbN, Nat.testBit_or, hbN_b w p o n]
    by_cases e : o = n
    · subst e
      rw [decide_eq_false (by omega), Bool.false_and, Bool.false_or, decide_eq_true (by omega : o < o + 1), Bool.true_and]
      cases q : s_hears w o p
      · rw [if_neg (by decide), Nat.zero_testBit]
      · rw [if_pos rfl, Nat.testBit_two_pow, decide_eq_true rfl]
    · have : (if s_hears w n p then 2 ^ n else 0).testBit o = false := by
        split
        · rw [Nat.testBit_two_pow, decide_eq_false (fun z => e z.symm)]
        · exact Nat.zero_testBit _
      rw [this, Bool.or_false]
      congr 1
      by_cases z : o < n
      · rw [decide_eq_true z, decide_eq_true (by omega)]
      · rw [decide_eq_false z, decide_eq_false (by omega)]
theorem hb64 (w : Nat → Int32) (p : Nat) {n : Nat} (hn : n ≤ 6) : hbN w p n < 2 ^ n ∧ hbN w p n < 64 := by
  have h1 := hbN_lt w p (n := n) n (Nat.le_refl _)
  have h2 : 2 ^ n ≤ 2 ^ 6 := Nat.pow_le_pow_right (by decide) hn
  exact ⟨h1, by omega⟩
theorem hb_ones (w : Nat → Int32) (p : Nat) {n : Nat} (hn : n ≤ 6) : ∀ k, k ≤ 6 → ones (nI (hbN w p n)) k = s_hearers w p (min k n)
  | 0, _ => by rw [Nat.zero_min]; rfl
  | k + 1, hk => by
    rw [ones, hb_ones w p hn k (by omega), bit_n _ (by omega), hbN_b]
    by_cases c : k < n
    · rw [decide_eq_true c, Bool.true_and, Nat.min_eq_left (by omega), Nat.min_eq_left (by omega), s_hearers]
    · rw [decide_eq_false c, Bool.false_and, Nat.min_eq_right (by omega), Nat.min_eq_right (by omega)]
      show _ + (0 : Int32) = _
      rw [Int32.add_zero]
theorem TO.hb {h : qm_H} {P n : Nat} {w : Nat → Int32} (t : TO h P w n) {p : Nat} (hp : p < n) (hn : n ≤ 6) : h.1 (P + 6) (nI p).toNatClampNeg = nI (hbN w p n) := by
  rw [(t.at (by omega : p < 6)).2.2.2.2.2, if_pos hp]
theorem c_deaf {G : qm_G} (hG : G.2.2.2.2 = true) (d : Nat) (h : qm_H) {P n : Nat} {w : Nat → Int32} (t : TO h P w n) (v : VT w n) : qm_Ev G (d + 1) 0 0 qyX6_deaf [.ref P] h (fun r h' => r = some (.int (s_deaf w n)) ∧ h = h') := by
  have hn := v.1
  refine qm_Ev.by (M := mX6_deaf) okX6_deaf (Nat.le_of_ble_eq_true rfl) hG fun z hA => ?_
  refine qm_wp_ok hA [4] 20 _ _ _ _ _ _ ?_
  refine qm_for (P := fun p => qm_PW G mX6_deaf z 4 0 0 [vr P, vi (s_deaf w p), vi (nI p)] [] h) (N := n) ?_ ?_
  · exact qm_wp_ok hA [] 20 _ _ _ _ _ _ ⟨t.is, fun _ => ⟨trivial, rfl, rfl⟩, fun (q : ¬ h.1 P 0 ≤ nI n) => absurd (by rw [t.pp]; exact Int32.le_refl _) q⟩
  · intro p hp key
    rw [← nI_1, s_deaf] at key
    have e5 : h.1 (P + 5) (nI p).toNatClampNeg = w (25 + p) := (t.at (by omega : p < 6)).2.2.2.2.1
    refine qm_wp_ok hA [4] 40 _ _ _ _ _ _ ⟨t.is, fun (z0 : h.1 P 0 ≤ nI p) => absurd z0 (by rw [t.pp]; exact nI_ge (by omega) (by omega)), fun _ => ⟨t.is, _, t.rd (k := 5) (by decide) (by decide), t.ar (k := 5) (by decide) (by decide), t.ln (k := 5) (by decide) (by decide) (by omega), fun (c : ¬ h.1 (P + 5) (nI p).toNatClampNeg = 0) => ?_, fun (c : h.1 (P + 5) (nI p).toNatClampNeg = 0) => ?_⟩⟩
    · rw [e5] at c
      rw [if_neg c] at key
      exact key
    · rw [e5] at c
      rw [if_pos c] at key
      exact key
def ld2 (w : Nat → Int32) (n : Nat) (o : Option Nat) : Int32 := match o with
  | none => -1
  | some b => s_hearers w b n
theorem c_loudest {G : qm_G} (hG : G.2.2.2.2 = true) (d : Nat) (h : qm_H) {P n : Nat} {w : Nat → Int32} (t : TO h P w n) (v : VT w n) : qm_Ev G (d + 1) 0 0 qyX6_loudest [.ref P] h (fun r h' => r = some (.int (s_oi (s_loud w n n))) ∧ h = h') := by
  have hn := v.1
  refine qm_Ev.by (M := mX6_loudest) okX6_loudest (Nat.le_of_ble_eq_true rfl) hG fun z hA => ?_
  refine qm_wp_ok hA [6] 20 _ _ _ _ _ _ ?_
  refine qm_for (P := fun p => qm_PW G mX6_loudest z 6 0 0 [vr P, vi (s_oi (s_loud w n p)), vi (ld2 w n (s_loud w n p)), vi (nI p)] [] h) (N := n) ?_ ?_
  · exact qm_wp_ok hA [] 20 _ _ _ _ _ _ ⟨t.is, fun _ => ⟨trivial, rfl, rfl⟩, fun (q : ¬ h.1 P 0 ≤ nI n) => absurd (by rw [t.pp]; exact Int32.le_refl _) q⟩
  · intro p hp key
    have e6 := t.hb hp hn
    have eo : ones (nI (hbN w p n)) 6 = s_hearers w p n := by rw [hb_ones w p hn 6 (Nat.le_refl _), Nat.min_eq_right hn]
    have hne : ¬ s_hearers w p n ≤ -1 := by rw [← eo]; exact ones_1 _
    rw [← nI_1] at key
    refine qm_wp_ok hA [6] 60 _ _ _ _ _ _ ⟨t.is, fun (z0 : h.1 P 0 ≤ nI p) => absurd z0 (by rw [t.pp]; exact nI_ge (by omega) (by omega)), fun _ => ⟨t.is, _, t.rd (k := 6) (by decide) (by decide), t.ar (k := 6) (by decide) (by decide), t.ln (k := 6) (by decide) (by decide) (by omega), 0, 0, _, c_bcX hG _ h _ e6 (hb64 w p hn).2, ⟨Nat.le_refl _, Nat.le_refl _⟩, ?_⟩⟩
    rintro _ _ ⟨rfl, rfl⟩
    rw [e6, eo]
    have kk : s_loud w n (p + 1) = match s_loud w n p with
      | none => some p
      | some b => if s_hearers w p n ≤ s_hearers w b n then some b else some p := rfl
    refine ⟨fun (c : s_hearers w p n ≤ ld2 w n (s_loud w n p)) => ?_, fun (c : ¬ s_hearers w p n ≤ ld2 w n (s_loud w n p)) => ⟨t.is, _, t.rd (k := 6) (by decide) (by decide), t.ar (k := 6) (by decide) (by decide), t.ln (k := 6) (by decide) (by decide) (by omega), 0, 0, _, c_bcX hG _ h _ e6 (hb64 w p hn).2, ⟨Nat.le_refl _, Nat.le_refl _⟩, ?_⟩⟩
    · cases q : s_loud w n p with
      | none => rw [q] at c; exact absurd c hne
      | some b =>
        rw [q] at c kk
        have kk : s_loud w n (p + 1) = some b := kk.trans (if_pos c)
        rw [kk] at key
        exact key
    · rintro _ _ ⟨rfl, rfl⟩
      rw [e6, eo]
      have kk : s_loud w n (p + 1) = some p := by
        rw [kk]
        cases q : s_loud w n p with
        | none => rfl
        | some b => rw [q] at c; exact if_neg c
      rw [kk] at key
      exact key
theorem c_twins {G : qm_G} (hG : G.2.2.2.2 = true) (d : Nat) (h : qm_H) {P n : Nat} {w : Nat → Int32} (t : TO h P w n) (v : VT w n) : qm_Ev G (d + 1) 0 0 qyX6_twins [.ref P] h (fun r h' => r = some (.int (s_twins (mi0 w) n)) ∧ h = h') := by
  have hn := v.1
  refine qm_Ev.by (M := mX6_twins) okX6_twins (Nat.le_of_ble_eq_true rfl) hG fun z hA => ?_
  refine qm_wp_ok hA [4] 20 _ _ _ _ _ _ ?_
  refine qm_for (P := fun p => qm_PW G mX6_twins z 4 0 0 [vr P, vi (s_twins (mi0 w) p), vi (nI p), vu] [] h) (N := n) ?_ ?_
  · exact qm_wp_ok hA [] 20 _ _ _ _ _ _ ⟨t.is, fun _ => ⟨trivial, rfl, rfl⟩, fun (q : ¬ h.1 P 0 ≤ nI n) => absurd (by rw [t.pp]; exact Int32.le_refl _) q⟩
  · intro p hp key
    rw [← nI_1, s_twins] at key
    have e4 : ∀ q, q < 6 → h.1 (P + 4) (nI q).toNatClampNeg = mi0 w q := fun q hq => (t.at hq).2.2.2.1
    refine qm_wp_ok hA [10] 40 _ _ _ _ _ _ ⟨t.is, fun (z0 : h.1 P 0 ≤ nI p) => absurd z0 (by rw [t.pp]; exact nI_ge (by omega) (by omega)), fun _ => ?_⟩
    refine qm_for (P := fun q => qm_PW G mX6_twins z 10 0 0 [vr P, vi (s_twins1 (mi0 w) p (s_twins (mi0 w) p) q), vi (nI p), vi (nI q)] [] h) (N := p) ?_ ?_
    · exact qm_wp_ok hA [4] 20 _ _ _ _ _ _ ⟨fun _ => key.mask [true, true, true, false], fun z => absurd (Int32.le_refl _) z⟩
    · intro q hq k2
      rw [← nI_1, s_twins1] at k2
      refine qm_wp_ok hA [10] 40 _ _ _ _ _ _ ⟨fun z => absurd z (nI_ge hq (by omega)), fun _ => ⟨t.is, _, t.rd (k := 4) (by decide) (by decide), t.ar (k := 4) (by decide) (by decide), t.ln (k := 4) (by decide) (by decide) (by omega), t.is, _, t.rd (k := 4) (by decide) (by decide), t.ar (k := 4) (by decide) (by decide), t.ln (k := 4) (by decide) (by decide) (by omega), fun (c : ¬ h.1 (P + 4) (nI p).toNatClampNeg = h.1 (P + 4) (nI q).toNatClampNeg) => ?_, fun (c : h.1 (P + 4) (nI p).toNatClampNeg = h.1 (P + 4) (nI q).toNatClampNeg) => ?_⟩⟩
      · rw [e4 p (by omega), e4 q (by omega)] at c
        rw [if_neg c] at k2
        exact k2
      · rw [e4 p (by omega), e4 q (by omega)] at c
        rw [if_pos c] at k2
        exact k2
theorem c_knownTogether {G : qm_G} (hG : G.2.2.2.2 = true) (d : Nat) (h : qm_H) {P n : Nat} {w : Nat → Int32} (t : TO h P w n) (v : VT w n) (x : Int32) : qm_Ev G (d + 1) 0 0 qyX6_knownTogether [.ref P, .int x] h (fun r h' => r = some (.int (s_knownOf (mi0 w) x n)) ∧ h = h') := by
  have hn := v.1
  refine qm_Ev.by (M := mX6_knownTogether) okX6_knownTogether (Nat.le_of_ble_eq_true rfl) hG fun z hA => ?_
  refine qm_wp_ok hA [4] 20 _ _ _ _ _ _ ?_
  refine qm_for (P := fun p => qm_PW G mX6_knownTogether z 4 0 0 [vr P, vi x, vi (s_knownOf (mi0 w) x p), vi (nI p)] [] h) (N := n) ?_ ?_
  · exact qm_wp_ok hA [] 20 _ _ _ _ _ _ ⟨t.is, fun _ => ⟨trivial, rfl, rfl⟩, fun (q : ¬ h.1 P 0 ≤ nI n) => absurd (by rw [t.pp]; exact Int32.le_refl _) q⟩
  · intro p hp key
    rw [← nI_1, s_knownOf] at key
    refine qm_wp_ok hA [4] 40 _ _ _ _ _ _ ⟨t.is, fun (z0 : h.1 P 0 ≤ nI p) => absurd z0 (by rw [t.pp]; exact nI_ge (by omega) (by omega)), fun _ => ⟨0, 0, _, c_isIn hG d h x (nI p), ⟨Nat.le_refl _, Nat.le_refl _⟩, ?_⟩⟩
    rintro _ _ ⟨rfl, rfl⟩
    refine b2_eq (fun hb => ⟨t.is, _, t.rd (k := 4) (by decide) (by decide), t.ar (k := 4) (by decide) (by decide), t.ln (k := 4) (by decide) (by decide) (by omega), ?_⟩) (fun hb => ?_)
    · rw [if_pos hb, ← (show h.1 (P + 4) (nI p).toNatClampNeg = mi0 w p from (t.at (by omega : p < 6)).2.2.2.1)] at key
      exact key
    · rw [if_neg (by rw [hb]; decide)] at key
      exact key
theorem cov_in (mi : Nat → Int32) (n : Nat) (all : Int32) : ∀ k, s_cover mi n all k = all ∨ ∃ j, j < k ∧ s_cover mi n all k = nI j
  | 0 => Or.inl rfl
  | k + 1 => by
    rw [s_cover]
    split
    · exact Or.inr ⟨k, by omega, rfl⟩
    · rcases cov_in mi n all k with e | ⟨j, j1, j2⟩
      · exact Or.inl e
      · exact Or.inr ⟨j, by omega, j2⟩
theorem cov_d : ∀ n, n < 7 → ∀ k, k < 64 → k < 2 ^ n → ones (nI k) 6 = ones (nI (2 ^ n - 1)) 6 → ¬ nI k < nI (2 ^ n - 1) := by decide +kernel
theorem fewer_cov {n k : Nat} {b : Int32} (hn : n ≤ 6) (hk : k < 2 ^ n) (hk6 : k < 64) (h : b = nI (2 ^ n - 1) ∨ ∃ j, j < k ∧ b = nI j) : s_fewer (nI k) b = decide (ones (nI k) 6 < ones b 6) := by
  rw [s_fewer, Bool.eq_iff_iff, decide_eq_true_eq, decide_eq_true_eq]
  refine ⟨fun q => q.elim id (fun ⟨q1, q2⟩ => ?_), Or.inl⟩
  rcases h with e | ⟨j, j1, j2⟩
  · rw [e] at q1 q2; exact absurd q2 (cov_d n (by omega) k hk6 hk q1)
  · rw [j2] at q2; exact absurd q2 (nI_nlt (by omega) (by omega))
theorem p64 {n : Nat} (hn : n ≤ 6) : 2 ^ n ≤ 64 ∧ 0 < 2 ^ n := ⟨Nat.pow_le_pow_right (n := 2) (by decide) hn, Nat.two_pow_pos n⟩
theorem c_cover {G : qm_G} (hG : G.2.2.2.2 = true) (d : Nat) (h : qm_H) {P n : Nat} {w : Nat → Int32} (t : TO h P w n) (v : VT w n) : qm_Ev G (d + 2) 0 0 qyX6_cover [.ref P] h (fun r h' => r = some (.int (s_cover (mi0 w) n (nI (2 ^ n - 1)) (2 ^ n))) ∧ h = h') := by
  have hn := v.1
  obtain ⟨p1, p2⟩ := p64 hn
  refine qm_Ev.by (M := mX6_cover) okX6_cover (Nat.le_of_ble_eq_true rfl) hG fun z hA => ?_
  refine qm_wp_ok hA [9] 20 _ _ _ _ _ _ ?_
  refine ⟨t.is, 0, 0, _, c_everyone hG _ h t hn, ⟨Nat.le_refl _, Nat.le_refl _⟩, ?_⟩
  rintro _ _ ⟨rfl, rfl⟩
  refine ⟨0, 0, _, c_knownTogether hG d h t v (nI (2 ^ n - 1)), ⟨Nat.le_refl _, Nat.le_refl _⟩, ?_⟩
  rintro _ _ ⟨rfl, rfl⟩
  refine qm_for (P := fun k => qm_PW G mX6_cover z 9 0 0 [vr P, vi (s_cover (mi0 w) n (nI (2 ^ n - 1)) k), vi (s_knownOf (mi0 w) (nI (2 ^ n - 1)) n), vi (nI k)] [] h) (N := 2 ^ n) ?_ ?_
  · refine qm_wp_ok hA [] 20 _ _ _ _ _ _ ⟨t.is, 0, 0, _, c_everyone hG _ h t hn, ⟨Nat.le_refl _, Nat.le_refl _⟩, ?_⟩
    rintro _ _ ⟨rfl, rfl⟩
    exact ⟨fun _ => ⟨trivial, rfl, rfl⟩, fun q => absurd (nI_lt (by omega) (by omega)) q⟩
  · intro k hk key
    rw [← nI_1, s_cover, fewer_cov hn hk (by omega) (cov_in _ _ _ k)] at key
    obtain ⟨b, b1, b2'⟩ : ∃ b, b < 64 ∧ s_cover (mi0 w) n (nI (2 ^ n - 1)) k = nI b := by
      rcases cov_in (mi0 w) n (nI (2 ^ n - 1)) k with e | ⟨j, j1, j2⟩
      · exact ⟨_, by omega, e⟩
      · exact ⟨j, by omega, j2⟩
    refine qm_wp_ok hA [9] 60 _ _ _ _ _ _ ⟨t.is, 0, 0, _, c_everyone hG _ h t hn, ⟨Nat.le_refl _, Nat.le_refl _⟩, ?_⟩
    rintro _ _ ⟨rfl, rfl⟩
    refine ⟨fun q => absurd q (nI_nlt (by omega) (by omega)), fun _ => ⟨0, 0, _, c_bc hG _ h (by omega : k < 64), ⟨Nat.le_refl _, Nat.le_refl _⟩, ?_⟩⟩
    rintro _ _ ⟨rfl, rfl⟩
    refine ⟨0, 0, _, c_bcX hG _ h _ b2' b1, ⟨Nat.le_refl _, Nat.le_refl _⟩, ?_⟩
    rintro _ _ ⟨rfl, rfl⟩
    refine ⟨fun c => ?_, fun c => ⟨0, 0, _, c_knownTogether hG d h t v (nI k), ⟨Nat.le_refl _, Nat.le_refl _⟩, ?_⟩⟩
    · rw [if_neg (fun q => absurd (of_decide_eq_true q.1) (Int32.not_lt.mpr c))] at key
      exact key
    · rintro _ _ ⟨rfl, rfl⟩
      refine ⟨fun c2 => ?_, fun c2 => ?_⟩
      · rw [if_neg (fun q => c2 q.2)] at key
        exact key
      · rw [if_pos ⟨decide_eq_true (Int32.not_le.mp c), c2⟩] at key
        exact key
theorem c_noneHears {G : qm_G} (hG : G.2.2.2.2 = true) (d : Nat) (h : qm_H) {P n : Nat} {w : Nat → Int32} (t : TO h P w n) (v : VT w n) (x : Int32) : qm_Ev G (d + 1) 0 0 qyX6_noneHears [.ref P, .int x] h (fun r h' => r = some (.int (b2 (s_choir1 w x true n))) ∧ h = h') := by
  have hn := v.1
  refine qm_Ev.by (M := mX6_noneHears) okX6_noneHears (Nat.le_of_ble_eq_true rfl) hG fun z hA => ?_
  refine qm_wp_ok hA [2] 20 _ _ _ _ _ _ ?_
  refine (qm_for (P := fun p => s_choir1 w x true p = true → qm_PW G mX6_noneHears z 2 0 0 [vr P, vi x, vi (nI p)] [] h) (N := n) ?_ ?_) rfl
  · intro e
    exact qm_wp_ok hA [] 20 _ _ _ _ _ _ ⟨t.is, fun _ => ⟨rfl, congV (by rw [e]; rfl), rfl⟩, fun (q : ¬ h.1 P 0 ≤ nI n) => absurd (by rw [t.pp]; exact Int32.le_refl _) q⟩
  · intro p hp key e
    have e5 : h.1 (P + 5) (nI p).toNatClampNeg = w (25 + p) := (t.at (by omega : p < 6)).2.2.2.2.1
    have sx : s_choir1 w x true (p + 1) = (!bit x (nI p) || decide (w (25 + p) &&& x = 0)) := by rw [s_choir1, e, Bool.true_and]
    rw [← nI_1, sx] at key
    refine qm_wp_ok hA [2] 40 _ _ _ _ _ _ ⟨t.is, fun (z0 : h.1 P 0 ≤ nI p) => absurd z0 (by rw [t.pp]; exact nI_ge (by omega) (by omega)), fun _ => ⟨0, 0, _, c_isIn hG d h x (nI p), ⟨Nat.le_refl _, Nat.le_refl _⟩, ?_⟩⟩
    rintro _ _ ⟨rfl, rfl⟩
    refine b2_eq (fun hb => ⟨t.is, _, t.rd (k := 5) (by decide) (by decide), t.ar (k := 5) (by decide) (by decide), t.ln (k := 5) (by decide) (by decide) (by omega), fun (c : h.1 (P + 5) (nI p).toNatClampNeg &&& x = 0) => ?_, fun (c : ¬ h.1 (P + 5) (nI p).toNatClampNeg &&& x = 0) => ⟨rfl, congV ?_, rfl⟩⟩) (fun hb => ?_)
    · rw [e5] at c
      exact key (by rw [decide_eq_true c, Bool.or_true])
    · rw [e5] at c
      rw [s_choir1_no (k := p + 1) (by rw [sx, hb, decide_eq_false c]; rfl) n (by omega)]
      rfl
    · exact key (by rw [hb]; rfl)
theorem choir_in (w : Nat → Int32) (n : Nat) : ∀ k, s_choir w n k = nI 0 ∨ ∃ j, j < k ∧ s_choir w n k = nI j
  | 0 => Or.inl rfl
  | k + 1 => by
    rw [s_choir]
    split
    · exact Or.inr ⟨k, by omega, rfl⟩
    · rcases choir_in w n k with e | ⟨j, j1, j2⟩
      · exact Or.inl e
      · exact Or.inr ⟨j, by omega, j2⟩
theorem choir_f {w : Nat → Int32} {set : Int32} {n : Nat} : s_choir1 w set false n = false := s_choir1_no (k := 0) rfl n (Nat.zero_le _)
theorem c_choir {G : qm_G} (hG : G.2.2.2.2 = true) (d : Nat) (h : qm_H) {P n : Nat} {w : Nat → Int32} (t : TO h P w n) (v : VT w n) : qm_Ev G (d + 2) 0 0 qyX6_choir [.ref P] h (fun r h' => r = some (.int (s_choir w n (2 ^ n))) ∧ h = h') := by
  have hn := v.1
  obtain ⟨p1, p2⟩ := p64 hn
  have c0 : s_choir w n (0 + 1) = 0 := by
    rw [s_choir, s_choir]
    show (if s_choir1 w (nI 0) (!decide (ones (nI 0) 6 ≤ ones 0 6)) n then nI 0 else 0) = 0
    split <;> rfl
  refine qm_Ev.by (M := mX6_choir) okX6_choir (Nat.le_of_ble_eq_true rfl) hG fun z hA => ?_
  refine qm_wp_ok hA [4] 20 _ _ _ _ _ _ ?_
  have start := qm_for (P := fun k => qm_PW G mX6_choir z 4 0 0 [vr P, vi (s_choir w n (k + 1)), vi (nI (k + 1))] [] h) (N := 2 ^ n - 1) ?_ ?_
  · rw [c0] at start
    exact start
  · have e : 2 ^ n - 1 + 1 = 2 ^ n := by omega
    show qm_PW G mX6_choir z 4 0 0 [vr P, vi (s_choir w n (2 ^ n - 1 + 1)), vi (nI (2 ^ n - 1 + 1))] [] h
    rw [e]
    refine qm_wp_ok hA [] 20 _ _ _ _ _ _ ⟨t.is, 0, 0, _, c_everyone hG _ h t hn, ⟨Nat.le_refl _, Nat.le_refl _⟩, ?_⟩
    rintro _ _ ⟨rfl, rfl⟩
    exact ⟨fun _ => ⟨trivial, rfl, rfl⟩, fun q => absurd (nI_lt (by omega) (by omega)) q⟩
  · intro k hk key
    rw [← nI_1 (k + 1), s_choir] at key
    obtain ⟨b, b1, b2'⟩ : ∃ b, b < 64 ∧ s_choir w n (k + 1) = nI b := by
      rcases choir_in w n (k + 1) with e | ⟨j, j1, j2⟩
      · exact ⟨0, by decide, e⟩
      · exact ⟨j, by omega, j2⟩
    refine qm_wp_ok hA [4] 60 _ _ _ _ _ _ ⟨t.is, 0, 0, _, c_everyone hG _ h t hn, ⟨Nat.le_refl _, Nat.le_refl _⟩, ?_⟩
    rintro _ _ ⟨rfl, rfl⟩
    refine ⟨fun q => absurd q (nI_nlt (by omega) (by omega)), fun _ => ⟨0, 0, _, c_bc hG _ h (by omega : k + 1 < 64), ⟨Nat.le_refl _, Nat.le_refl _⟩, ?_⟩⟩
    rintro _ _ ⟨rfl, rfl⟩
    refine ⟨0, 0, _, c_bcX hG _ h _ b2' b1, ⟨Nat.le_refl _, Nat.le_refl _⟩, ?_⟩
    rintro _ _ ⟨rfl, rfl⟩
    refine ⟨fun c => ?_, fun c => ⟨0, 0, _, c_noneHears hG d h t v (nI (k + 1)), ⟨Nat.le_refl _, Nat.le_refl _⟩, ?_⟩⟩
    · rw [decide_eq_true c, show (!true) = false from rfl, choir_f, if_neg (by decide)] at key
      exact key
    · rintro _ _ ⟨rfl, rfl⟩
      rw [decide_eq_false c, show (!false) = true from rfl] at key
      refine b2_eq (fun hb => ?_) (fun hb => ?_)
      · rw [if_pos hb] at key
        exact key
      · rw [if_neg (by rw [hb]; decide)] at key
        exact key
