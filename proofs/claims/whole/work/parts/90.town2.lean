/-! the class: roots, rings, answers, luck -/
theorem root_63 : ∀ m, m < 64 → ones (nI m) 6 = ones 63 6 → ¬ nI m < 63 := by decide +kernel
theorem root_in (w : Nat → Int32) : ∀ m, s_root w m = nI 63 ∨ ∃ j, j < m ∧ s_root w m = nI j
  | 0 => Or.inl rfl
  | m + 1 => by
    rw [s_root]
    split
    · exact Or.inr ⟨m, by omega, rfl⟩
    · rcases root_in w m with e | ⟨j, j1, j2⟩
      · exact Or.inl e
      · exact Or.inr ⟨j, by omega, j2⟩
theorem fewer_lt {m : Nat} {b : Int32} (hm : m < 64) (h : b = nI 63 ∨ ∃ j, j < m ∧ b = nI j) : s_fewer (nI m) b = decide (ones (nI m) 6 < ones b 6) := by
  rw [s_fewer, Bool.eq_iff_iff, decide_eq_true_eq, decide_eq_true_eq]
  refine ⟨fun q => q.elim id (fun ⟨q1, q2⟩ => ?_), Or.inl⟩
  rcases h with e | ⟨j, j1, j2⟩
  · rw [e] at q1 q2; exact absurd q2 (root_63 m hm q1)
  · rw [j2] at q2; exact absurd q2 (nI_nlt (by omega) (by omega))
theorem c_rootFacts {G : qm_G} (hG : G.2.2.2.2 = true) (d : Nat) (h : qm_H) {P n : Nat} {w : Nat → Int32} (t : TO h P w n) : qm_Ev G (d + 2) 0 0 qyX8_rootFacts [.ref P] h (fun r h' => r = some (.int (s_root w 64)) ∧ h = h') := by
  refine qm_Ev.by (M := mX8_rootFacts) okX8_rootFacts (Nat.le_of_ble_eq_true rfl) hG fun z hA => ?_
  refine qm_wp_ok hA [4] 20 _ _ _ _ _ _ ?_
  refine qm_for (P := fun m => qm_PW G mX8_rootFacts z 4 0 0 [vr P, vi (s_root w m), vi (nI m)] [] h) (N := 64) ?_ ?_
  · exact qm_wp_ok hA [] 20 _ _ _ _ _ _ ⟨fun _ => ⟨trivial, rfl, rfl⟩, fun q => absurd (by decide) q⟩
  · intro m hm key
    rw [← nI_1, s_root, fewer_lt hm (root_in w m)] at key
    obtain ⟨b, b1, b2'⟩ : ∃ b, b < 64 ∧ s_root w m = nI b := by
      rcases root_in w m with e | ⟨j, j1, j2⟩
      · exact ⟨63, by decide, e⟩
      · exact ⟨j, by omega, j2⟩
    refine qm_wp_ok hA [4] 60 _ _ _ _ _ _ ⟨fun q => absurd q (nI_ge hm (by decide)), fun _ => ⟨0, 0, _, c_bc hG _ h hm, ⟨Nat.le_refl _, Nat.le_refl _⟩, ?_⟩⟩
    rintro _ _ ⟨rfl, rfl⟩
    refine ⟨0, 0, _, c_bcX hG _ h _ b2' b1, ⟨Nat.le_refl _, Nat.le_refl _⟩, ?_⟩
    rintro _ _ ⟨rfl, rfl⟩
    refine ⟨fun c => ?_, fun c => ⟨t.is, 0, 0, _, c_withAll hG d h t (nI m), ⟨Nat.le_refl _, Nat.le_refl _⟩, ?_⟩⟩
    · rw [if_neg (fun q => absurd (of_decide_eq_true q.1) (Int32.not_lt.mpr c))] at key
      exact key
    · rintro _ _ ⟨rfl, rfl⟩
      refine ⟨fun c2 => ?_, fun c2 => ?_⟩
      · rw [if_neg (fun q => c2 q.2)] at key
        exact key
      · rw [if_pos ⟨decide_eq_true (Int32.not_le.mp c), c2⟩] at key
        exact key
theorem c_ringOf {G : qm_G} (hG : G.2.2.2.2 = true) (d : Nat) (h : qm_H) {P n : Nat} {w : Nat → Int32} (t : TO h P w n) {f : Nat} (hf : f < 6) : qm_Ev G (d + 1) 0 0 qyX8_ringOf [.ref P, .int (nI f)] h (fun r h' => r = some (.int (s_ringOf w f 6)) ∧ h = h') := by
  refine qm_Ev.by (M := mX8_ringOf) okX8_ringOf (Nat.le_of_ble_eq_true rfl) hG fun z hA => ?_
  refine qm_wp_ok hA [6] 20 _ _ _ _ _ _ ?_
  refine qm_for (P := fun o => qm_PW G mX8_ringOf z 6 0 0 [vr P, vi (nI f), vi (s_ringOf w f o), vi (nI o)] [] h) (N := 6) ?_ ?_
  · exact qm_wp_ok hA [] 20 _ _ _ _ _ _ ⟨fun _ => ⟨trivial, rfl, rfl⟩, fun q => absurd (by decide) q⟩
  · intro o ho key
    rw [← nI_1, s_ringOf] at key
    refine qm_wp_ok hA [6] 60 _ _ _ _ _ _ ⟨fun q => absurd q (nI_ge ho (by decide)), fun _ => ⟨t.is, _, t.rd (k := 2) (by decide) (by decide), t.ar (k := 2) (by decide) (by decide), t.ln (k := 2) (by decide) (by decide) hf, 0, 0, _, c_isIn hG d h _ (nI o), ⟨Nat.le_refl _, Nat.le_refl _⟩, ?_⟩⟩
    rintro _ _ ⟨rfl, rfl⟩
    rw [(t.at hf).2.1]
    refine b2_eq (fun hb => ⟨t.is, _, t.rd (k := 2) (by decide) (by decide), t.ar (k := 2) (by decide) (by decide), t.ln (k := 2) (by decide) (by decide) ho, 0, 0, _, c_isIn hG d h _ (nI f), ⟨Nat.le_refl _, Nat.le_refl _⟩, ?_⟩) (fun hb => ?_)
    · rintro _ _ ⟨rfl, rfl⟩
      rw [(t.at ho).2.1]
      refine b2_eq (fun hb2 => ?_) (fun hb2 => ?_)
      · rw [if_pos ⟨hb, hb2⟩] at key
        exact key
      · rw [if_neg (fun q => by rw [hb2] at q; exact absurd q.2 (by decide))] at key
        exact key
    · rw [if_neg (fun q => by rw [hb] at q; exact absurd q.1 (by decide))] at key
      exact key
theorem ring_N (w : Nat → Int32) {f : Nat} (hf : f < 6) : ∀ k, k ≤ 6 → ∃ s, s < 64 ∧ s_ringOf w f k = nI s ∧ s.testBit f = true
  | 0, _ => ⟨2 ^ f, Nat.pow_lt_pow_right (n := 6) (by decide) hf, (s_pow (by omega : f ≤ 6)).2, by rw [Nat.testBit_two_pow]; exact decide_eq_true rfl⟩
  | k + 1, hk => by
    obtain ⟨s, s1, s2, s3⟩ := ring_N w hf k (by omega)
    rw [s_ringOf, s2]
    split
    · obtain ⟨o1, o2⟩ := s_or1 s1 (by omega : k < 6)
      exact ⟨_, o2, o1, by rw [Nat.testBit_or, s3]; rfl⟩
    · exact ⟨s, s1, by rw [show (0 : Int32) = nI 0 from rfl, fa_or, Nat.or_zero], s3⟩
theorem tz_ring : ∀ s, s < 64 → ∀ f, f < 6 → s.testBit f = true → (nI (tz s) = nI f ↔ nI s &&& ((1 <<< (nI f &&& 31)) - 1) = 0) := by decide +kernel
theorem c_rings {G : qm_G} (hG : G.2.2.2.2 = true) (d : Nat) (h : qm_H) {P n : Nat} {w : Nat → Int32} (t : TO h P w n) : qm_Ev G (d + 2) 0 0 qyX8_rings [.ref P] h (fun r h' => r = some (.int (s_rings w 6).1) ∧ h = h') := by
  refine qm_Ev.by (M := mX8_rings) okX8_rings (Nat.le_of_ble_eq_true rfl) hG fun z hA => ?_
  refine qm_wp_ok hA [4] 20 _ _ _ _ _ _ ?_
  refine qm_for (P := fun f => qm_PW G mX8_rings z 4 0 0 [vr P, vi (s_rings w f).1, vi (nI f)] [] h) (N := 6) ?_ ?_
  · exact qm_wp_ok hA [] 20 _ _ _ _ _ _ ⟨fun _ => ⟨trivial, rfl, rfl⟩, fun q => absurd (by decide) q⟩
  · intro f hf key
    rw [← nI_1, s_rings] at key
    obtain ⟨s, s1, s2, s3⟩ := ring_N w hf 6 (Nat.le_refl _)
    have h0 : 0 < s := by
      rcases Nat.eq_zero_or_pos s with q | q
      · rw [q] at s3; exact absurd s3 (by simp)
      · exact q
    have hz := tz_ring s s1 f hf s3
    rw [s2] at key
    refine qm_wp_ok hA [4] 60 _ _ _ _ _ _ ⟨fun q => absurd q (nI_ge hf (by decide)), fun _ => ⟨t.is, 0, 0, _, c_ringOf hG d h t hf, ⟨Nat.le_refl _, Nat.le_refl _⟩, ?_⟩⟩
    rintro _ _ ⟨rfl, rfl⟩
    refine ⟨0, 0, _, (by rw [s2]; exact c_tz hG _ h s1 h0), ⟨Nat.le_refl _, Nat.le_refl _⟩, ?_⟩
    rintro _ _ ⟨rfl, rfl⟩
    refine ⟨fun c => ?_, fun c => ?_⟩
    · have key : qm_PW G mX8_rings z 4 0 0 [vr P, vi ((s_rings w f).1 + (if nI s &&& ((1 <<< (nI f &&& 31)) - 1) = 0 then 1 else 0)), vi (nI f + 1)] [] h := key
      rw [if_neg (fun q => c (hz.mpr q))] at key
      exact key
    · have key : qm_PW G mX8_rings z 4 0 0 [vr P, vi ((s_rings w f).1 + (if nI s &&& ((1 <<< (nI f &&& 31)) - 1) = 0 then 1 else 0)), vi (nI f + 1)] [] h := key
      rw [if_pos (hz.mp c)] at key
      exact key
theorem mmax_mx (x y : Int32) : (if x < y then y else x) = mx x y := by
  rw [mx]
  by_cases c : x < y
  · rw [if_pos c, if_pos (Int32.le_of_lt c)]
  · rw [if_neg c]
    split
    · exact Int32.le_antisymm (by assumption) (Int32.not_lt.mp c)
    · rfl
theorem mmin_mn (x y : Int32) : (if y < x then y else x) = mn x y := by
  rw [mn]
  by_cases c : y < x
  · rw [if_pos c, if_neg (Int32.not_lt.mpr (Int32.le_of_lt c))]
  · rw [if_neg c]
    split
    · rfl
    · exact Int32.le_antisymm (Int32.not_lt.mp c) (Int32.not_lt.mp (by assumption))
theorem c_largestRing {G : qm_G} (hG : G.2.2.2.2 = true) (d : Nat) (h : qm_H) {P n : Nat} {w : Nat → Int32} (t : TO h P w n) : qm_Ev G (d + 2) 0 0 qyX8_largestRing [.ref P] h (fun r h' => r = some (.int (s_rings w 6).2) ∧ h = h') := by
  refine qm_Ev.by (M := mX8_largestRing) okX8_largestRing (Nat.le_of_ble_eq_true rfl) hG fun z hA => ?_
  refine qm_wp_ok hA [4] 20 _ _ _ _ _ _ ?_
  refine qm_for (P := fun f => qm_PW G mX8_largestRing z 4 0 0 [vr P, vi (s_rings w f).2, vi (nI f)] [] h) (N := 6) ?_ ?_
  · exact qm_wp_ok hA [] 20 _ _ _ _ _ _ ⟨fun _ => ⟨trivial, rfl, rfl⟩, fun q => absurd (by decide) q⟩
  · intro f hf key
    obtain ⟨s, s1, s2, s3⟩ := ring_N w hf 6 (Nat.le_refl _)
    have key : qm_PW G mX8_largestRing z 4 0 0 [vr P, vi (mx (s_rings w f).2 (ones (s_ringOf w f 6) 6)), vi (nI (f + 1))] [] h := key
    rw [← nI_1, ← mmax_mx] at key
    refine qm_wp_ok hA [4, 12] 60 _ _ _ _ _ _ ⟨fun q => absurd q (nI_ge hf (by decide)), fun _ => ⟨t.is, 0, 0, _, c_ringOf hG d h t hf, ⟨Nat.le_refl _, Nat.le_refl _⟩, ?_⟩⟩
    rintro _ _ ⟨rfl, rfl⟩
    refine ⟨0, 0, _, c_bcX hG _ h _ s2 s1, ⟨Nat.le_refl _, Nat.le_refl _⟩, ?_⟩
    rintro _ _ ⟨rfl, rfl⟩
    refine sp_mmax hA rfl rfl rfl (k1 := 951) (by decide +kernel) (by decide) ?_
    exact qm_wp_ok hA [4] 20 _ _ _ _ _ _ key
theorem c_answer {G : qm_G} (hG : G.2.2.2.2 = true) (d : Nat) (h : qm_H) {P n : Nat} {w : Nat → Int32} (t : TO h P w n) (hn : n ≤ 6) (a : Int32) : qm_Ev G d 0 0 qyX8_answer [.ref P, .int a] h (fun r h' => r = some (.int (s_town w n a)) ∧ h = h') := by
  have sw0 : a < 10 → ∀ g, 1 ≤ g → g < 100 → ¬ a / 10 = nI g := fun c g g1 g2 e => by
    obtain ⟨k, k1, k2, -⟩ := dv10 g1 g2 e
    rw [k2] at c
    exact absurd c (Int32.not_lt.mpr (nI_le (a := 10) (by omega) (by omega)))
  have big : ¬ a < 10 → ∃ g k, 1 ≤ g ∧ k < 10 ∧ g < 2 ^ 29 ∧ a / 10 = nI g ∧ a - a / 10 * 10 = nI k ∧ a = nI (10 * g + k) := fun c => by
    obtain ⟨x, x1, x2⟩ := nI_of (fun q => c (Int32.lt_trans q (by decide)) : ¬ a < 0)
    have h10 : 10 ≤ x := by
      rcases Nat.lt_or_ge x 10 with q | q
      · rw [x2] at c; exact absurd (nI_lt (b := 10) q (by decide)) c
      · exact q
    refine ⟨x / 10, x % 10, by omega, Nat.mod_lt _ (by decide), by omega, ?_, ?_, by rw [x2]; congr 1; omega⟩
    · rw [x2]; exact pk_div x1 (by decide) (by decide)
    · rw [x2]; exact pk_rem x1 (by decide) (by decide)
  have neg : a < 10 → ¬ a = 0 → s_town w n a = -1 := fun c c0 => by
    rw [s_town]
    split
    · rfl
    · rw [if_neg (fun q => q.elim (sw0 c 1 (by decide) (by decide)) (sw0 c 2 (by decide) (by decide))), if_neg (fun q => q.elim (sw0 c 3 (by decide) (by decide)) (fun q => q.elim (sw0 c 4 (by decide) (by decide)) (sw0 c 5 (by decide) (by decide))))]
  refine qm_Ev.run (M := mX8_answer) okX8_answer rfl hG fun z => ?_
  refine ⟨fun c0 => ?_, fun (c0 : a = 0) => ⟨t.is, trivial, congV ?_, rfl⟩⟩
  · refine ⟨by decide, by decide, fun c => ⟨trivial, congV (neg c c0).symm, rfl⟩, fun c => ?_⟩
    obtain ⟨g, k, g1, k1, g2, e1, e2, -⟩ := big c
    have ge : ∀ q, q < 2 ^ 29 → (a / 10 = nI q ↔ g = q) := fun q hq => by rw [e1, nI_eq (by omega) (by omega)]
    have kl : ∀ q, q < 2 ^ 29 → (a - a / 10 * 10 < nI q ↔ k < q) := fun q hq => by rw [e2, nI_ltI (by omega) (by omega)]
    have iv : k < 6 → ∀ j, 1 ≤ j → j ≤ 6 → vp_in (a - a / 10 * 10) (qm_kn true h (P + j)).2 := fun hk j j1 j2 => by rw [e2]; exact t.ln j1 j2 hk
    have val : k < 6 → ∀ j, 1 ≤ j → j ≤ 5 → h.1 (P + j) (a - a / 10 * 10).toNatClampNeg = w (6 * j - 5 + k) := fun hk j j1 j2 => by
      rw [e2]
      obtain ⟨v1, v2, v3, v4, v5, -⟩ := t.at hk
      rcases (by omega : j = 1 ∨ j = 2 ∨ j = 3 ∨ j = 4 ∨ j = 5) with e | e | e | e | e <;> subst e <;> assumption
    have res : s_town w n a = if g = 1 ∨ g = 2 then (if k < 6 then w (6 * g - 5 + k) else -1) else if g = 3 ∨ g = 4 ∨ g = 5 then (if k < n then w (6 * g - 5 + k) else -1) else -1 := by
      rw [s_town, if_neg (fun q => by have := (ge 0 (by decide)).mp q; omega)]
      have i1 : (a / 10 = 1 ∨ a / 10 = 2) ↔ (g = 1 ∨ g = 2) := or_congr (ge 1 (by decide)) (ge 2 (by decide))
      have i2 : (a / 10 = 3 ∨ a / 10 = 4 ∨ a / 10 = 5) ↔ (g = 3 ∨ g = 4 ∨ g = 5) := or_congr (ge 3 (by decide)) (or_congr (ge 4 (by decide)) (ge 5 (by decide)))
      have i3 : (a - a / 10 * 10 < 6) ↔ k < 6 := kl 6 (by decide)
      have i4 : (a - a / 10 * 10 < nI n) ↔ k < n := kl n (by omega)
      have e3 : (a / 10).toNatClampNeg = g := by rw [e1, nI_clamp (by omega)]
      have e4 : (a - a / 10 * 10).toNatClampNeg = k := by rw [e2, nI_clamp (by omega)]
      rw [e3, e4]
      by_cases q1 : g = 1 ∨ g = 2
      · rw [if_pos (i1.mpr q1), if_pos q1]
        by_cases q3 : k < 6
        · rw [if_pos (i3.mpr q3), if_pos q3]
        · rw [if_neg (fun q => q3 (i3.mp q)), if_neg q3]
      · rw [if_neg (fun q => q1 (i1.mp q)), if_neg q1]
        by_cases q2 : g = 3 ∨ g = 4 ∨ g = 5
        · rw [if_pos (i2.mpr q2), if_pos q2]
          by_cases q3 : k < n
          · rw [if_pos (i4.mpr q3), if_pos q3]
          · rw [if_neg (fun q => q3 (i4.mp q)), if_neg q3]
        · rw [if_neg (fun q => q2 (i2.mp q)), if_neg q2]
    rw [res]
    refine ⟨fun c3 => ⟨t.is, fun (c4 : a - a / 10 * 10 < h.1 P 0) => ?_, fun (c4 : ¬ a - a / 10 * 10 < h.1 P 0) => ⟨trivial, congV ?_, rfl⟩⟩, fun c3 => ⟨fun c4 => ?_, fun c4 => ⟨trivial, congV ?_, rfl⟩⟩⟩
    · have c3 : nI 3 ≤ a / 10 := c3
      rw [e1, nI_leI (by decide) (by omega)] at c3
      rw [t.pp, kl n (by omega)] at c4
      refine ⟨⟨fun q => absurd ((ge 1 (by decide)).mp q) (by omega), fun q => absurd ((ge 2 (by decide)).mp q) (by omega), fun q => ?_, fun q => ?_, fun q => ?_, trivial⟩, fun q => ⟨trivial, congV ?_, rfl⟩⟩
      · have := (ge 3 (by decide)).mp q; subst this
        refine ⟨t.is, _, t.rd (k := 3) (by decide) (by decide), t.ar (k := 3) (by decide) (by decide), iv (by omega) 3 (by decide) (by decide), trivial, congV ?_, rfl⟩
        rw [if_neg (by omega), if_pos (by omega), if_pos c4]; exact val (by omega) 3 (by decide) (by decide)
      · have := (ge 4 (by decide)).mp q; subst this
        refine ⟨t.is, _, t.rd (k := 4) (by decide) (by decide), t.ar (k := 4) (by decide) (by decide), iv (by omega) 4 (by decide) (by decide), trivial, congV ?_, rfl⟩
        rw [if_neg (by omega), if_pos (by omega), if_pos c4]; exact val (by omega) 4 (by decide) (by decide)
      · have := (ge 5 (by decide)).mp q; subst this
        refine ⟨t.is, _, t.rd (k := 5) (by decide) (by decide), t.ar (k := 5) (by decide) (by decide), iv (by omega) 5 (by decide) (by decide), trivial, congV ?_, rfl⟩
        rw [if_neg (by omega), if_pos (by omega), if_pos c4]; exact val (by omega) 5 (by decide) (by decide)
      · have q : (a / 10).toInt < 1 ∨ (6 : Int) ≤ (a / 10).toInt := q
        rw [e1, nI_toInt (by omega)] at q
        rw [if_neg (by omega), if_neg (by omega)]
    · have c3 : nI 3 ≤ a / 10 := c3
      rw [e1, nI_leI (by decide) (by omega)] at c3
      rw [t.pp, kl n (by omega)] at c4
      rw [if_neg (by omega), if_neg c4]
      split <;> rfl
    · have c3 : ¬ nI 3 ≤ a / 10 := c3
      rw [e1, nI_leI (by decide) (by omega)] at c3
      have c4 : a - a / 10 * 10 < nI 6 := c4
      rw [kl 6 (by decide)] at c4
      refine ⟨⟨fun q => ?_, fun q => ?_, fun q => absurd ((ge 3 (by decide)).mp q) (by omega), fun q => absurd ((ge 4 (by decide)).mp q) (by omega), fun q => absurd ((ge 5 (by decide)).mp q) (by omega), trivial⟩, fun q => ⟨trivial, congV ?_, rfl⟩⟩
      · have := (ge 1 (by decide)).mp q; subst this
        refine ⟨t.is, _, t.rd (k := 1) (by decide) (by decide), t.ar (k := 1) (by decide) (by decide), iv c4 1 (by decide) (by decide), trivial, congV ?_, rfl⟩
        rw [if_pos (by omega), if_pos c4]; exact val c4 1 (by decide) (by decide)
      · have := (ge 2 (by decide)).mp q; subst this
        refine ⟨t.is, _, t.rd (k := 2) (by decide) (by decide), t.ar (k := 2) (by decide) (by decide), iv c4 2 (by decide) (by decide), trivial, congV ?_, rfl⟩
        rw [if_pos (by omega), if_pos c4]; exact val c4 2 (by decide) (by decide)
      · have q : (a / 10).toInt < 1 ∨ (6 : Int) ≤ (a / 10).toInt := q
        rw [e1, nI_toInt (by omega)] at q
        omega
    · have c3 : ¬ nI 3 ≤ a / 10 := c3
      rw [e1, nI_leI (by decide) (by omega)] at c3
      have c4 : ¬ a - a / 10 * 10 < nI 6 := c4
      rw [kl 6 (by decide)] at c4
      rw [if_pos (by omega), if_neg c4]
  · rw [c0, s_town]
    show h.1 P 0 = _
    rw [t.pp]; rfl
