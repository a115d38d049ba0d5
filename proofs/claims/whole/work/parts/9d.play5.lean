/-! the class: draws, what a play answers -/
theorem c_below {G : qm_G} (hG : G.2.2.2.2 = true) (d : Nat) (h : qm_H) {k : Nat} (hk : 0 < k) (hk2 : k < 2 ^ 31) (x : Int32) (hx : x = nI k) {s : Int32} (hs : h.1 10 10 = s) : qm_Ev G d 0 0 qyX1_below [.ref 10, .int x] h (fun r h' => r = some (.int (s_draw s (nI k))) ∧ h' = qm_si h 10 10 (s_seed s)) := by
  subst hx
  have e : h.1 10 10 * 1103515245 + 12345 = s_seed s := by rw [hs]; rfl
  refine qm_Ev.run (M := mX1_below) okX1_below rfl hG fun z => ?_
  refine ⟨rfl, rfl, trivial, fun q => absurd q (nI_nle hk hk2), fun _ => ⟨rfl, nI_ne0 hk hk2, trivial, congV ?_, ?_⟩⟩
  · show ((qm_si h 10 10 (h.1 10 10 * 1103515245 + 12345)).1 10 10).toUInt32 >>> ((16 : Int32).toUInt32 &&& Int32.toUInt32 31) |>.toInt32 |> (fun y => y - y / nI k * nI k) |> (· = s_draw s (nI k))
    rw [si_row, up_s, e]; rfl
  · show qm_si h 10 10 (h.1 10 10 * 1103515245 + 12345) = _
    rw [e]
/-- what a drawn deed may change -/
def KD : List Nat := [0, 1, 2, 7, 8, 9, 10]
def DI (h : qm_H) (n k : Nat) : Prop := h.1 10 6 = nI n ∧ PI (cps h) k (h.1 10 1) ∧ ∃ j, j ≤ k ∧ h.1 10 0 = nI j
theorem DI.sd {h : qm_H} {n k : Nat} (a : DI h n k) (v : Int32) : DI (qm_si h 10 10 v) n k := a
theorem DI.go {h h2 : qm_H} {w : Nat → Int32} {n k wh : Nat} {a b c : Int32} (D : DI h n k) (hk : k ≤ 100) (hn : n ≤ 6) (hw : wh < 5) (hc : wh = 3 → ∃ v, v ≤ 30 ∧ c = nI v) (e1 : cps h2 = (s_does w n wh a b c (cps h)).2) (e2 : h2.1 10 0 = h.1 10 0 + b2 (s_does w n wh a b c (cps h)).1) (e3 : h2.1 10 1 = fir wh (s_does w n wh a b c (cps h)).1 (h.1 10 1) (h.1 10 0)) (e4 : fq KP h h2) : DI h2 n (k + 1) := by
  obtain ⟨d1, d2, j, j1, j2⟩ := D
  have p := does_PI (w := w) (a := a) (b := b) (j := j) d2 hk (by omega) hn hw hc
  refine ⟨by rw [e4.2.2 6 (by decide)]; exact d1, ?_, ?_⟩
  · rw [e1, e3, j2]; exact p
  · rw [e2, j2]
    cases (s_does w n wh a b c (cps h)).1
    · exact ⟨j, by omega, Int32.add_zero _⟩
    · exact ⟨j + 1, by omega, nI_1 j⟩
theorem DI.nn {h : qm_H} {n k : Nat} (D : DI h n k) (hk : k ≤ 100) : ∀ p, p < 6 → nn0 (h.1 14 p) := fun p hp => by
  obtain ⟨x, x1, x2⟩ := D.2.1.1 p hp
  exact ⟨x, by omega, x2⟩
theorem DI.up {h : qm_H} {n k : Nat} (D : DI h n k) : DI h n (k + 1) := by
  obtain ⟨d1, d2, j, j1, j2⟩ := D
  exact ⟨d1, d2.up rfl rfl rfl, j, by omega, j2⟩
theorem si_s (h : qm_H) (p k : Nat) (v : Int32) : (qm_si h p k v).1 p k = v := by rw [si_row, up_s]
/-- a drawn number alone -/
def SD (h h1 : qm_H) (s : Int32) : Prop := h1.1 10 10 = s ∧ cps h1 = cps h ∧ (∀ k, k ≠ 10 → h1.1 10 k = h.1 10 k) ∧ h1.1 14 = h.1 14 ∧ fq KD h h1
theorem SD.of {h h1 : qm_H} {s : Int32} (e : h1 = qm_si h 10 10 s) : SD h h1 s := by
  subst e
  exact ⟨si_s _ _ _ _, rfl, fun k hk => by rw [si_row, up_n _ _ hk], rfl, fq.rf.s10 (by decide)⟩
theorem SD.tr {h h1 h2 : qm_H} {s s' : Int32} (a : SD h h1 s) (b : SD h1 h2 s') : SD h h2 s' := ⟨b.1, b.2.1.trans a.2.1, fun k hk => (b.2.2.1 k hk).trans (a.2.2.1 k hk), b.2.2.2.1.trans a.2.2.2.1, a.2.2.2.2.tr b.2.2.2.2⟩
theorem SD.di {h h1 : qm_H} {s : Int32} (a : SD h h1 s) {n k : Nat} (D : DI h n k) : DI h1 n k := by
  obtain ⟨d1, d2, j, j1, j2⟩ := D
  exact ⟨by rw [a.2.2.1 6 (by decide)]; exact d1, by rw [a.2.1, a.2.2.1 1 (by decide)]; exact d2, j, j1, by rw [a.2.2.1 0 (by decide)]; exact j2⟩
theorem c_belowS {G : qm_G} (hG : G.2.2.2.2 = true) (d : Nat) (h : qm_H) {k : Nat} (hk : 0 < k) (hk2 : k < 2 ^ 31) (x : Int32) (hx : x = nI k) {s : Int32} (hs : h.1 10 10 = s) : qm_Ev G d 0 0 qyX1_below [.ref 10, .int x] h (fun r h' => r = some (.int (s_draw s (nI k))) ∧ SD h h' (s_seed s)) := (c_below hG d h hk hk2 x hx hs).mono (fun _ _ q => ⟨q.1, SD.of q.2⟩)
theorem c_drawSale {G : qm_G} (hG : G.2.2.2.2 = true) (d : Nat) (h : qm_H) {P n : Nat} {w : Nat → Int32} (t : TO h P w n) (v : VT w n) {k : Nat} (D : DI h n k) (hk : k ≤ 100) {s : Int32} (hs : h.1 10 10 = s) : qm_Ev G (d + 5) 0 0 qyX1_drawSale [.ref 10, .ref P] h (fun r h' => r = none ∧ h'.1 10 10 = (if nI n ≤ 1 then s else s_seed (s_seed (s_seed s))) ∧ cps h' = (if nI n ≤ 1 then cps h else (s_does w n 3 (s_draw s (nI n)) ((s_draw (s_seed s) (nI n - 1) + 1 + s_draw s (nI n)) - (s_draw (s_seed s) (nI n - 1) + 1 + s_draw s (nI n)) / nI n * nI n) (s_draw (s_seed (s_seed s)) (nI 6)) (cps h)).2) ∧ DI h' n (k + 1) ∧ fq KD h h') := by
  have hn := v.1
  have e6 := D.1
  by_cases c : n ≤ 1
  · have c1 : nI n ≤ 1 := nI_le (b := 1) c (by decide)
    rw [if_pos c1, if_pos c1]
    refine qm_Ev.run (M := mX1_drawSale) okX1_drawSale rfl hG fun z => ?_
    refine ⟨rfl, fun (z : nI 2 ≤ h.1 10 6) => absurd z (by rw [e6]; exact nI_ge (by omega) (by decide)), fun _ => ⟨rfl, rfl, hs, rfl, D.up, fq.rf⟩⟩
  · have c1 : ¬ nI n ≤ 1 := nI_ge (a := 1) (by omega) (by omega)
    rw [if_neg c1, if_neg c1]
    have e1 : nI n - 1 = nI (n - 1) := pk_sub (b := 1) (by omega)
    refine qm_Ev.run (M := mX1_drawSale) okX1_drawSale rfl hG fun z => ?_
    refine ⟨rfl, fun _ => ?_, fun (z : ¬ nI 2 ≤ h.1 10 6) => absurd (by rw [e6]; exact nI_le (by omega) (by omega)) z⟩
    refine ⟨rfl, rfl, 0, 0, _, c_belowS hG _ h (by omega : 0 < n) (by omega) _ e6 hs, ⟨Nat.le_refl _, Nat.le_refl _⟩, ?_⟩
    rintro _ h1 ⟨rfl, S1⟩
    have e61 : h1.1 10 6 = nI n := by rw [S1.2.2.1 6 (by decide)]; exact e6
    refine ⟨rfl, rfl, 0, 0, _, c_belowS hG _ h1 (by omega : 0 < n - 1) (by omega) _ (show h1.1 10 6 - 1 = nI (n - 1) by rw [e61, e1]) S1.1, ⟨Nat.le_refl _, Nat.le_refl _⟩, ?_⟩
    rintro _ h2 ⟨rfl, S2⟩
    have e62 : h2.1 10 6 = nI n := by rw [S2.2.2.1 6 (by decide)]; exact e61
    have hne : ¬ h2.1 10 6 = 0 := by rw [e62]; exact nI_ne0 (by omega) (by omega)
    refine ⟨rfl, hne, rfl, 0, 0, _, c_belowS hG _ h2 (by decide : 0 < 6) (by decide) _ rfl S2.1, ⟨Nat.le_refl _, Nat.le_refl _⟩, ?_⟩
    rintro _ h3 ⟨rfl, S3⟩
    have S := (S1.tr S2).tr S3
    have D3 := S.di D
    have t3 := S.2.2.2.2.to t
    obtain ⟨u, u1, u2⟩ := s_draw_nat (s_seed (s_seed s)) (by decide : 0 < 6) (by decide)
    have kk := c_goes hG d h3 t3 v D3.1 (wh := 3) (by decide) (D3.nn hk) (s_draw s (nI n)) ((s_draw (s_seed s) (nI (n - 1)) + 1 + s_draw s (nI n)) - (s_draw (s_seed s) (nI (n - 1)) + 1 + s_draw s (nI n)) / h2.1 10 6 * h2.1 10 6) (s_draw (s_seed (s_seed s)) (nI 6)) (fun z => absurd z (by decide))
    refine ⟨rfl, 0, 0, _, kk, ⟨Nat.le_refl _, Nat.le_refl _⟩, ?_⟩
    rintro _ h4 ⟨rfl, g1, g2, g3, g4⟩
    rw [e62, ← e1] at g1 g2 g3
    refine ⟨rfl, rfl, ?_, ?_, D3.go hk hn (by decide) (fun _ => ⟨u, by omega, u2⟩) g1 g2 g3 g4, S.2.2.2.2.tr (g4.mono (by decide))⟩
    · rw [g4.2.2 10 (by decide)]; exact S3.1
    · rw [g1, S.2.1]
theorem c_drawDeed {G : qm_G} (hG : G.2.2.2.2 = true) (d : Nat) (h : qm_H) {P n : Nat} {w : Nat → Int32} (t : TO h P w n) (v : VT w n) {k : Nat} (D : DI h n k) (hk : k ≤ 100) {s : Int32} (hs : h.1 10 10 = s) : qm_Ev G (d + 6) 0 0 qyX1_drawDeed [.ref 10, .ref P] h (fun r h' => r = none ∧ h'.1 10 10 = (s_dd w n s (cps h)).1 ∧ cps h' = (s_dd w n s (cps h)).2 ∧ DI h' n (k + 1) ∧ fq KD h h') := by
  have hn := v.1
  have e6 := D.1
  obtain ⟨u, u1, u2⟩ := s_draw_nat s (by decide : 0 < 8) (by decide)
  have u2' : s_draw s 8 = nI u := u2
  have n6 : (6 : Int32) = nI 6 := rfl
  generalize ed0 : s_dd w n s (cps h) = DD
  rw [s_dd, u2', n6] at ed0
  obtain ⟨y1, y2⟩ := DD
  refine qm_Ev.run (M := mX1_drawDeed) okX1_drawDeed rfl hG fun z => ?_
  refine ⟨rfl, 0, 0, _, c_belowS hG _ h (by decide : 0 < 8) (by decide) _ rfl hs, ⟨Nat.le_refl _, Nat.le_refl _⟩, ?_⟩
  rintro _ h1 ⟨rfl, S1⟩
  rw [u2]
  have D1 := S1.di D
  have t1 := S1.2.2.2.2.to t
  have e61 : h1.1 10 6 = nI n := D1.1
  refine ⟨fun (z : nI u < nI 6) => ?_, fun (z : ¬ nI u < nI 6) => ?_⟩
  · have hu6 : u < 6 := (nI_ltI (by omega) (by decide)).mp z
    have le5 : nI u ≤ 5 := nI_le (b := 5) (by omega) (by decide)
    rw [if_pos le5] at ed0
    refine ⟨fun (z5 : ¬ nI u = nI 5) => ?_, fun (z5 : nI u = nI 5) => ?_⟩
    · have hu5 : u < 5 := by
        rcases Nat.lt_or_ge u 5 with q | q
        · exact q
        · exact absurd (show nI u = nI 5 by rw [show u = 5 by omega]) z5
      have n5 : ¬ 5 ≤ nI u := nI_ge (b := 5) hu5 (by decide)
      by_cases c0 : n = 0
      · rw [if_neg (fun q => q.1 (by rw [c0]; decide)), if_pos (by rw [c0]; decide)] at ed0
        injection ed0 with i1 i2
        exact ⟨rfl, fun _ => ⟨rfl, rfl, S1.1.trans i1, S1.2.1.trans i2, D1.up, S1.2.2.2.2⟩, fun (q : ¬ h1.1 10 6 ≤ 0) => absurd (by rw [e61, c0]; decide) q⟩
      · have gt0 : ¬ nI n ≤ 0 := nI_nle (by omega) (by omega)
        have ek : (if 2 ≤ nI u then (if 4 ≤ nI u then 2 else 1) else 0 : Nat) = u / 2 := by
          have i2 : (2 : Int32) ≤ nI u ↔ 2 ≤ u := nI_leI (a := 2) (by decide) (by omega)
          have i4 : (4 : Int32) ≤ nI u ↔ 4 ≤ u := nI_leI (a := 4) (by decide) (by omega)
          by_cases q : 2 ≤ u
          · rw [if_pos (i2.mpr q)]
            by_cases q4 : 4 ≤ u
            · rw [if_pos (i4.mpr q4)]; omega
            · rw [if_neg (fun z => q4 (i4.mp z))]; omega
          · rw [if_neg (fun z => q (i2.mp z))]; omega
        rw [if_pos ⟨gt0, n5⟩, ek] at ed0
        injection ed0 with i1 i2
        refine ⟨rfl, fun (q : h1.1 10 6 ≤ 0) => absurd q (by rw [e61]; exact gt0), fun _ => ⟨rfl, rfl, 0, 0, _, c_belowS hG _ h1 (by omega : 0 < n) (by omega) _ e61 S1.1, ⟨Nat.le_refl _, Nat.le_refl _⟩, ?_⟩⟩
        rintro _ h2 ⟨rfl, S2⟩
        refine ⟨by decide, rfl, 0, 0, _, c_belowS hG _ h2 (by decide : 0 < 6) (by decide) _ rfl S2.1, ⟨Nat.le_refl _, Nat.le_refl _⟩, ?_⟩
        rintro _ h3 ⟨rfl, S3⟩
        have S := (S1.tr S2).tr S3
        have D3 := S.di D
        have t3 := S.2.2.2.2.to t
        obtain ⟨x, x1, x2⟩ := s_draw_nat (s_seed (s_seed s)) (by decide : 0 < 6) (by decide)
        have ediv : nI u / 2 = nI (u / 2) := pk_div (d := 2) (by omega) (by decide) (by decide)
        have kk := c_goes hG (d + 1) h3 t3 v D3.1 (wh := u / 2) (by omega) (D3.nn hk) (s_draw (s_seed s) (nI n)) (s_draw (s_seed (s_seed s)) (nI 6)) (-1) (fun _ => ⟨x, x1, x2⟩)
        rw [← ediv] at kk
        refine ⟨rfl, 0, 0, _, kk, ⟨Nat.le_refl _, Nat.le_refl _⟩, ?_⟩
        rintro _ h4 ⟨rfl, g1, g2, g3, g4⟩
        refine ⟨rfl, rfl, ?_, ?_, D3.go hk hn (by omega) (fun q => by omega) g1 g2 g3 g4, S.2.2.2.2.tr (g4.mono (by decide))⟩
        · show h4.1 10 10 = y1
          rw [g4.2.2 10 (by decide), S3.1]; exact i1
        · show cps h4 = y2
          rw [g1, S.2.1]; exact i2
    · have hu5 : u = 5 := (nI_eq (by omega) (by decide)).mp z5
      have g5 : 5 ≤ nI u := by rw [hu5]; decide
      rw [if_neg (fun q => q.2 g5)] at ed0
      have kk := c_drawSale hG d h1 t1 v D1 hk S1.1
      refine ⟨rfl, 0, 0, _, kk, ⟨Nat.le_refl _, Nat.le_refl _⟩, ?_⟩
      rintro _ h2 ⟨rfl, g1, g2, g3, g4⟩
      rw [S1.2.1] at g2
      by_cases q : nI n ≤ 1
      · rw [if_pos q] at g1 g2 ed0
        injection ed0 with i1 i2
        exact ⟨rfl, rfl, g1.trans i1, g2.trans i2, g3, S1.2.2.2.2.tr g4⟩
      · rw [if_neg q] at g1 g2 ed0
        injection ed0 with i1 i2
        exact ⟨rfl, rfl, g1.trans i1, g2.trans i2, g3, S1.2.2.2.2.tr g4⟩
  · have gt5 : ¬ nI u ≤ 5 := by
      intro q
      have := (nI_leI (b := 5) (by omega) (by decide)).mp q
      exact z (nI_lt (by omega) (by decide))
    rw [if_neg gt5] at ed0
    injection ed0 with i1 i2
    have kk := c_goes hG (d + 1) h1 t1 v D1.1 (wh := 4) (by decide) (D1.nn hk) (-1) (-1) (-1) (fun q => absurd q (by decide))
    refine ⟨rfl, 0, 0, _, kk, ⟨Nat.le_refl _, Nat.le_refl _⟩, ?_⟩
    rintro _ h2 ⟨rfl, g1, g2, g3, g4⟩
    have e4 : s_does w n 4 (-1) (-1) (-1) (cps h1) = (true, s_eve n (cps h1)) := if_pos rfl
    refine ⟨rfl, rfl, ?_, ?_, D1.go hk hn (by decide) (fun q => absurd q (by decide)) g1 g2 g3 g4, S1.2.2.2.2.tr (g4.mono (by decide))⟩
    · show h2.1 10 10 = y1
      rw [g4.2.2 10 (by decide), S1.1]; exact i1
    · show cps h2 = y2
      rw [g1, e4, S1.2.1]; exact i2
theorem c_drawFrom {G : qm_G} (hG : G.2.2.2.2 = true) (d : Nat) (h : qm_H) {P n : Nat} {w : Nat → Int32} (t : TO h P w n) (v : VT w n) (D : DI h n 0) {N : Nat} (hN : N ≤ 60) (s : Int32) : qm_Ev G (d + 7) 0 0 qyX1_drawFrom [.ref 10, .ref P, .int s, .int (nI N)] h (fun r h' => r = none ∧ cps h' = (s_draws w n s (cps h) N).2 ∧ h'.1 10 6 = nI n ∧ sb PL h h') := by
  refine qm_Ev.by (M := mX1_drawFrom) okX1_drawFrom (Nat.le_of_ble_eq_true rfl) hG fun z hA => ?_
  refine qm_wp_ok hA [5] 20 _ _ _ _ _ _ ?_
  refine ⟨rfl, trivial, ?_⟩
  have start := qm_for (P := fun k => ∀ h', DI h' n k → h'.1 10 10 = (s_draws w n s (cps h) k).1 → cps h' = (s_draws w n s (cps h) k).2 → fq KD h h' → qm_PW G mX1_drawFrom z 5 0 0 [vr 10, vr P, vi s, vi (nI N), vi (nI k)] [] (h')) (N := N) ?_ ?_
  · exact start _ (D.sd s) rfl rfl (fq.rf.s10 (by decide))
  · intro h' D' q1 q2 a
    exact qm_wp_ok hA [] 20 _ _ _ _ _ _ ⟨fun _ => ⟨rfl, rfl, q2, D'.1, fqpl a⟩, fun z => absurd (Int32.le_refl _) z⟩
  · intro k hk key h' D' q1 q2 a
    have t' := a.to t
    refine qm_wp_ok hA [5] 40 _ _ _ _ _ _ ⟨fun z => absurd z (nI_ge hk (by omega)), fun _ => ⟨fun z => absurd z (nI_ge (by omega : k < 60) (by decide)), fun _ => ⟨rfl, 0, 0, _, c_drawDeed hG d h' t' v D' (by omega) q1, ⟨Nat.le_refl _, Nat.le_refl _⟩, ?_⟩⟩⟩
    rintro _ h2 ⟨rfl, g1, g2, g3, g4⟩
    rw [q2] at g1 g2
    have k2 := key h2 g3 g1 g2 (a.tr g4)
    rw [← nI_1] at k2
    exact k2
theorem c_playAnswer {G : qm_G} (hG : G.2.2.2.2 = true) (d : Nat) (h : qm_H) {n : Nat} (hpp : h.1 10 6 = nI n) (hn : n ≤ 6) (a : Int32) : qm_Ev G d 0 0 qyX1_answer [.ref 10, .int a] h (fun r h' => r = some (.int (s_of n (cps h) a)) ∧ h = h') := by
  by_cases c : a < 10
  · have e : s_of n (cps h) a = (if a = 0 then h.1 10 7 else if a = 1 then h.1 10 8 else if a = 2 then h.1 10 9 else -1) := by rw [s_of, if_pos c]; rfl
    rw [e]
    refine qm_Ev.run (M := mX1_answer) okX1_answer rfl hG fun z => ?_
    refine ⟨fun (q0 : ¬ a = 0) => ⟨fun (q1 : ¬ a = 1) => ⟨fun (q2 : ¬ a = 2) => ⟨by decide, fun _ => ⟨trivial, congV ?_, rfl⟩, fun z => absurd c z⟩, fun (q2 : a = 2) => ⟨rfl, trivial, congV ?_, rfl⟩⟩, fun (q1 : a = 1) => ⟨rfl, trivial, congV ?_, rfl⟩⟩, fun (q0 : a = 0) => ⟨rfl, trivial, congV ?_, rfl⟩⟩
    · rw [if_neg q0, if_neg q1, if_neg q2]
    · rw [if_neg q0, if_neg q1, if_pos q2]; rfl
    · rw [if_neg q0, if_pos q1]; rfl
    · rw [if_pos q0]; rfl
  · have nz : ∀ q, q < 10 → ¬ a = nI q := fun q hq e => c (by rw [e]; exact nI_lt (b := 10) hq (by decide))
    obtain ⟨g, k, g1, k1, g2, e1, e2⟩ : ∃ g k, 1 ≤ g ∧ k < 10 ∧ g < 2 ^ 29 ∧ a / 10 = nI g ∧ a - a / 10 * 10 = nI k := by
      obtain ⟨x, x1, x2⟩ := nI_of (fun q => c (Int32.lt_trans q (by decide)) : ¬ a < 0)
      have h10 : 10 ≤ x := by
        rcases Nat.lt_or_ge x 10 with q | q
        · rw [x2] at c; exact absurd (nI_lt (b := 10) q (by decide)) c
        · exact q
      refine ⟨x / 10, x % 10, by omega, Nat.mod_lt _ (by decide), by omega, ?_, ?_⟩
      · rw [x2]; exact pk_div x1 (by decide) (by decide)
      · rw [x2]; exact pk_rem x1 (by decide) (by decide)
    have ge : ∀ q, q < 2 ^ 29 → (a / 10 = nI q ↔ g = q) := fun q hq => by rw [e1, nI_eq (by omega) (by omega)]
    have e3 : (a - a / 10 * 10).toNatClampNeg = k := by rw [e2, nI_clamp (by omega)]
    have e : s_of n (cps h) a = (if k < n then (if g = 1 then h.1 14 k else if g = 2 then h.1 11 k else if g = 3 then h.1 15 k else if g = 4 then h.1 16 k else -1) else -1) := by
      rw [s_of, if_neg c, e3]
      have i0 : a - a / 10 * 10 < nI n ↔ k < n := by rw [e2, nI_ltI (by omega) (by omega)]
      have i1 : a / 10 = 1 ↔ g = 1 := ge 1 (by decide)
      have i2 : a / 10 = 2 ↔ g = 2 := ge 2 (by decide)
      have i3 : a / 10 = 3 ↔ g = 3 := ge 3 (by decide)
      have i4 : a / 10 = 4 ↔ g = 4 := ge 4 (by decide)
      simp only [i0, i1, i2, i3, i4]
      rfl
    rw [e]
    refine qm_Ev.run (M := mX1_answer) okX1_answer rfl hG fun z => ?_
    refine ⟨fun _ => ⟨fun _ => ⟨fun _ => ⟨by decide, fun z => absurd z c, fun _ => ⟨rfl, fun (z : a - a / 10 * 10 < h.1 10 6) => ?_, fun (z : ¬ a - a / 10 * 10 < h.1 10 6) => ⟨trivial, congV ?_, rfl⟩⟩⟩, fun z => absurd z (nz 2 (by decide))⟩, fun z => absurd z (nz 1 (by decide))⟩, fun z => absurd z (nz 0 (by decide))⟩
    · rw [hpp, e2, nI_ltI (by omega) (by omega)] at z
      have hin : vp_in (a - a / 10 * 10) 6 := by rw [e2]; exact vp_in_nI (by omega) (by decide)
      refine ⟨by decide, ⟨fun q => ?_, fun q => ?_, fun q => ?_, fun q => ?_, trivial⟩, fun q => ⟨trivial, congV ?_, rfl⟩⟩
      · have := (ge 1 (by decide)).mp q; subst this
        refine ⟨rfl, _, rfl, rfl, hin, trivial, congV ?_, rfl⟩
        show h.1 14 (a - a / 10 * 10).toNatClampNeg = _
        rw [e3, if_pos z, if_pos rfl]
      · have := (ge 2 (by decide)).mp q; subst this
        refine ⟨rfl, _, rfl, rfl, hin, trivial, congV ?_, rfl⟩
        show h.1 11 (a - a / 10 * 10).toNatClampNeg = _
        rw [e3, if_pos z, if_neg (by decide), if_pos rfl]
      · have := (ge 3 (by decide)).mp q; subst this
        refine ⟨rfl, _, rfl, rfl, hin, trivial, congV ?_, rfl⟩
        show h.1 15 (a - a / 10 * 10).toNatClampNeg = _
        rw [e3, if_pos z, if_neg (by decide), if_neg (by decide), if_pos rfl]
      · have := (ge 4 (by decide)).mp q; subst this
        refine ⟨rfl, _, rfl, rfl, hin, trivial, congV ?_, rfl⟩
        show h.1 16 (a - a / 10 * 10).toNatClampNeg = _
        rw [e3, if_pos z, if_neg (by decide), if_neg (by decide), if_neg (by decide), if_pos rfl]
      · have q : (a / 10).toInt < 1 ∨ (5 : Int) ≤ (a / 10).toInt := q
        rw [e1, nI_toInt (by omega)] at q
        rw [if_pos z, if_neg (by omega), if_neg (by omega), if_neg (by omega), if_neg (by omega)]
    · rw [hpp, e2, nI_ltI (by omega) (by omega)] at z
      rw [if_neg z]
