/-! the class: after a year; feeding, ending the tape -/
theorem play_cows {w yr : Nat → Int32} {n m : Nat} (hn : n ≤ 6) (hV : VY yr m) (hVc : VYc yr m) : ∀ r k ps f, k + r ≤ m → PI ps k f → ∀ p, p < 6 → ∃ x, x ≤ 99 ∧ (s_play w n yr r k ps).2.2.1 p = nI x
  | 0, k, ps, f, _, h => h.2.2
  | r + 1, k, ps, f, hk, h => by
    have hV0 := hV
    obtain ⟨hm, -, hY⟩ := hV
    obtain ⟨wh, wh1, wh2, wh3⟩ := hY k (by omega)
    have hc : wh = 3 → ∃ v, v ≤ 30 ∧ yr (1 + 4 * k + 3) = nI v := fun z => hVc k (by omega) (by rw [wh2, z])
    have eB : s_deed w n yr k ps = s_does w n wh (yr (1 + 4 * k + 1)) (yr (1 + 4 * k + 2)) (yr (1 + 4 * k + 3)) ps := by rw [s_deed, wh2, nI_clamp (by omega)]
    have pN := does_PI (w := w) (a := yr (1 + 4 * k + 1)) (b := yr (1 + 4 * k + 2)) (j := k) h (by omega) (by omega) hn wh1 hc
    rw [s_play, eB]
    split
    · exact play_cows hn hV0 hVc r (k + 1) _ _ (by omega) pN
    · exact pN.2.2
theorem b_after {G : qm_G} (hG : G.2.2.2.2 = true) (d : Nat) (h : qm_H) {mt my : Nat} (hm : mt ≤ 2) (hy : my ≤ 2) (hT : TWN h 3 mt (tw h)) (hY : YRS h 4 my (yw h)) (a b what : Int32) : qm_Ev G (d + 7) 0 0 qyX9_after [.ref 0, .int a, .int b, .int what] h (fun r h' => r = some (.int (p_after h mt my a b what)) ∧ sb XL h h') := by
  refine qm_Ev.run (M := mX9_after) okX9_after rfl hG fun z => ?_
  refine ⟨rfl, _, rfl, rfl, 0, 0, _, c_townAt hG _ h hm hT a, ⟨Nat.le_refl _, Nat.le_refl _⟩, ?_⟩
  rintro _ _ ⟨hr, rfl⟩
  rcases hr with ⟨t, Q, t1, rfl, rfl, T, V⟩ | ⟨hno, rfl⟩
  · refine ⟨rfl, _, rfl, rfl, 0, 0, _, c_yearAt hG _ h hy hY b, ⟨Nat.le_refl _, Nat.le_refl _⟩, ?_⟩
    rintro _ _ ⟨⟨y, R, y1, rfl, rfl, U, W, Wc⟩ | ⟨hno, rfl⟩, rfl⟩
    · have V1 := V.1
      have eP : ∀ k, k < 6 → p_after h mt my (nI t) (nI y) (nI k) = s_afterA (tw h t) (nn (tw h t)) (s_aft (tw h t) (nn (tw h t)) (yw h y) (nn (yw h y)) 0 (s_init (tw h t)) (-1)) (nI k) := fun k hk => by
        rw [p_after, (p_in t1 hm).1, (p_in t1 hm).2, (p_in y1 hy).1, (p_in y1 hy).2, inb_n (by decide) hk]; rfl
      refine ⟨rfl, _, rfl, rfl, 0, 0, _, c_playAll hG d h T V U W Wc, ⟨Nat.le_refl _, Nat.le_refl _⟩, ?_⟩
      rintro _ h1 ⟨rfl, e1, e2, e3, e4, e5, e6⟩
      have T1 := T.sb e6 PL51
      have epp : h1.1 Q 0 = nI (nn (tw h t)) := T1.pp
      have cw := play_cows (w := tw h t) V1 W Wc (nn (yw h y)) 0 (s_init (tw h t)) (-1) (by omega) (init_PI V)
      rw [← e2] at cw
      have g1 := c_greatest hG (d + 6) h1 (q := 12) (N := nn (tw h t)) rfl rfl V1 (any := false) (fl := 0) (fun z => absurd z (by decide)) (fun _ => rfl)
      have g2 := c_greatest hG (d + 6) h1 (q := 11) (N := nn (tw h t)) rfl rfl V1 (any := true) (fl := -1) (fun _ => ⟨rfl, fun p hp => by
        obtain ⟨x, x1, x2⟩ := cw p (by omega)
        rw [show h1.1 11 p = nI x from x2]; exact nI_m1 (by omega)⟩) (fun z => absurd z (by decide))
      have g4 := c_greatest hG (d + 6) h1 (q := 13) (N := 6) rfl rfl (by decide) (any := false) (fl := 0) (fun z => absurd z (by decide)) (fun _ => rfl)
      rw [← epp] at g1 g2
      refine ⟨⟨fun q => ⟨rfl, _, rfl, rfl, trivial, congV ?_, PLX e6⟩, fun q => ⟨rfl, _, rfl, rfl, _, rfl, T1.is, 0, 0, _, g1, ⟨Nat.le_refl _, Nat.le_refl _⟩, ?_⟩, fun q => ⟨rfl, _, rfl, rfl, _, rfl, T1.is, 0, 0, _, g2, ⟨Nat.le_refl _, Nat.le_refl _⟩, ?_⟩, fun q => ⟨rfl, _, rfl, rfl, 0, 0, _, c_wisest hG _ h1 T1 V e5, ⟨Nat.le_refl _, Nat.le_refl _⟩, ?_⟩, fun q => ⟨rfl, _, rfl, rfl, _, rfl, 0, 0, _, g4, ⟨Nat.le_refl _, Nat.le_refl _⟩, ?_⟩, fun q => ⟨rfl, _, rfl, rfl, trivial, congV ?_, PLX e6⟩, trivial⟩, fun q => ⟨trivial, congV ?_, PLX e6⟩⟩
      · have q : what = nI 0 := q
        rw [q, eP 0 (by decide), s_afterA, if_pos (show nI 0 = (0:Int32) from rfl)]; exact e3
      · rintro _ _ ⟨rfl, rfl⟩
        have q : what = nI 1 := q
        refine ⟨trivial, congV ?_, PLX e6⟩
        rw [q, eP 1 (by decide), s_afterA, if_neg (by decide), if_neg (by decide), ← e4]; rfl
      · rintro _ _ ⟨rfl, rfl⟩
        have q : what = nI 2 := q
        refine ⟨trivial, congV ?_, PLX e6⟩
        rw [q, eP 2 (by decide), s_afterA, if_neg (by decide), if_neg (by decide), ← e4]; rfl
      · rintro _ _ ⟨rfl, rfl⟩
        have q : what = nI 3 := q
        refine ⟨trivial, congV ?_, PLX e6⟩
        rw [q, eP 3 (by decide), s_afterA, if_neg (by decide), if_neg (by decide), ← e4]; rfl
      · rintro _ _ ⟨rfl, rfl⟩
        have q : what = nI 4 := q
        refine ⟨trivial, congV ?_, PLX e6⟩
        rw [q, eP 4 (by decide), s_afterA, if_neg (by decide), if_neg (by decide), ← e4]; rfl
      · have q : what = nI 5 := q
        rw [q, eP 5 (by decide), s_afterA, if_neg (by decide), if_pos (show nI 5 = (5:Int32) from rfl), ← e4]; rfl
      · have q : what.toInt < 0 ∨ (6 : Int) ≤ what.toInt := q
        have hno : inb what 6 = false := by
          cases z : inb what 6 with
          | false => rfl
          | true =>
            obtain ⟨j, j1, e⟩ := inb_e (by decide) z
            rw [e, nI_toInt (by omega)] at q
            omega
        rw [p_after, hno, Bool.and_false]; rfl
    · refine ⟨trivial, congV ?_, sb.rf⟩
      rw [p_after, hno, Bool.and_false, Bool.false_and]; rfl
  · refine ⟨rfl, _, rfl, rfl, 0, 0, _, c_yearAt hG _ h hy hY b, ⟨Nat.le_refl _, Nat.le_refl _⟩, ?_⟩
    rintro _ _ ⟨⟨y, R, y1, rfl, rfl, U, W, Wc⟩ | ⟨hno2, rfl⟩, rfl⟩
    · exact ⟨trivial, congV (by rw [p_after, hno]; rfl), sb.rf⟩
    · exact ⟨trivial, congV (by rw [p_after, hno]; rfl), sb.rf⟩
/-- four bytes more on the class's tape -/
def A4 (h h' : qm_H) (L : Nat) (v : Int32) : Prop := h'.1 1 = va_up (h.1 1) 1 (nI (L + 4)) ∧ (∀ i, i < 4 → h'.1 2 (L + i) = byI (b4N v i)) ∧ (∀ j, j < L ∨ L + 4 ≤ j → h'.1 2 j = h.1 2 j) ∧ sb [1, 2] h h'
theorem up_up {α : Type} (f : Nat → α) (k : Nat) (a b : α) : va_up (va_up f k a) k b = va_up f k b := by
  funext j
  by_cases e : j = k
  · rw [e, up_s, up_s]
  · rw [up_n _ _ e, up_n _ _ e, up_n _ _ e]
theorem c_append {G : qm_G} (hG : G.2.2.2.2 = true) (d : Nat) (h : qm_H) {L : Nat} (hL : h.1 1 1 = nI L) (hL6 : L + 4 ≤ 600) (x : Int32) : qm_Ev G d 0 0 qyX7_append [.ref 1, .int x] h (fun r h' => r = none ∧ A4 h h' L x) := by
  refine qm_Ev.by (M := mX7_append) okX7_append (Nat.le_of_ble_eq_true rfl) hG fun z hA => ?_
  refine qm_wp_ok hA [2] 20 _ _ _ _ _ _ ?_
  have start := qm_for (P := fun i => ∀ h', h'.1 1 = va_up (h.1 1) 1 (nI (L + i)) → (∀ a, a < i → h'.1 2 (L + a) = byI (b4N x a)) → (∀ j, j < L ∨ L + i ≤ j → h'.1 2 j = h.1 2 j) → sb [1, 2] h h' → qm_PW G mX7_append z 2 0 0 [vr 1, vi x, vi (shI i)] [] (h')) (N := 4) ?_ ?_
  · refine start h ?_ (fun a ha => absurd ha (Nat.not_lt_zero _)) (fun _ _ => rfl) sb.rf
    rw [Nat.add_zero, ← hL]
    funext j
    by_cases e : j = 1
    · rw [e, up_s]
    · rw [up_n _ _ e]
  · intro h' a b c fr
    exact qm_wp_ok hA [] 20 _ _ _ _ _ _ ⟨fun _ => ⟨rfl, rfl, a, b, c, fr⟩, fun z => absurd (by decide) z⟩
  · intro i hi key h' a b c fr
    have e1 : h'.1 1 1 = nI (L + i) := by rw [a, up_s]
    have hin : vp_in (h'.1 1 1) 600 := by rw [e1]; exact vp_in_nI (by omega) (by decide)
    have ec : (h'.1 1 1).toNatClampNeg = L + i := by rw [e1, nI_clamp (by omega)]
    have es : shI i = nI (24 - 8 * i) := by rw [shI, if_pos hi]
    have es2 : shI (i + 1) = shI i + (-8) := by
      rcases (by omega : i = 0 ∨ i = 1 ∨ i = 2 ∨ i = 3) with e | e | e | e <;> rw [e] <;> decide
    have k2 := key (qm_si (qm_si h' 2 (h'.1 1 1).toNatClampNeg ((x >>> (shI i &&& 31)).toInt8.toInt32).toInt8.toInt32) 1 1 (h'.1 1 1 + 1)) (by
      rw [si_row, si_ne _ _ _ (by decide), e1, nI_1, a, up_up]; rfl) (fun q hq => by
      rw [si_ne _ _ _ (by decide), si_row, ec]
      by_cases e : q = i
      · rw [e, up_s, es, b4_s]
      · rw [up_n _ _ (by omega)]; exact b q (by omega)) (fun j hj => by
      rw [si_ne _ _ _ (by decide), si_row, ec, up_n _ _ (by omega)]; exact c j (by omega)) ((fr.si (by decide)).si (by decide))
    rw [es2] at k2
    refine qm_wp_ok hA [2] 40 _ _ _ _ _ _ ⟨fun z => absurd z (by rw [es]; exact nI_pos (by omega)), fun _ => ⟨rfl, fun (z : nI 600 ≤ h'.1 1 1) => absurd z (by rw [e1]; exact nI_ge (by omega) (by decide)), fun _ => ⟨rfl, _, rfl, rfl, rfl, hin, rfl, rfl, trivial, k2⟩⟩⟩
def A20 (h h' : qm_H) (L : Nat) (vs : Nat → Int32) : Prop := h'.1 1 = va_up (h.1 1) 1 (nI (L + 20)) ∧ (∀ i, i < 20 → h'.1 2 (L + i) = byI (b4N (vs (i / 4)) (i % 4))) ∧ (∀ j, j < L ∨ L + 20 ≤ j → h'.1 2 j = h.1 2 j) ∧ sb [1, 2] h h'
theorem b_feed {G : qm_G} (hG : G.2.2.2.2 = true) (d : Nat) (h : qm_H) {L : Nat} (hL : h.1 1 1 = nI L) (hL6 : L ≤ 600) (a b c e f : Int32) : qm_Ev G (d + 1) 0 0 qyX9_feed [.ref 0, .int a, .int b, .int c, .int e, .int f] h (fun r h' => (600 < L + 20 ∧ r = some (.int (-1)) ∧ h = h') ∨ (L + 20 ≤ 600 ∧ r = some (.int (nI (L + 20))) ∧ A20 h h' L (v5 a b c e f))) := by
  by_cases hl : 600 < L + 20
  · refine qm_Ev.run (M := mX9_feed) okX9_feed rfl hG fun z => ?_
    exact ⟨rfl, _, rfl, rfl, fun (z : h.1 1 1 ≤ nI 580) => absurd z (by rw [hL]; exact nI_ge (by omega) (by omega)), fun _ => ⟨trivial, Or.inl ⟨hl, rfl, rfl⟩⟩⟩
  · refine qm_Ev.run (M := mX9_feed) okX9_feed rfl hG fun z => ?_
    refine ⟨rfl, _, rfl, rfl, fun _ => ?_, fun (z : ¬ h.1 1 1 ≤ nI 580) => absurd (by rw [hL]; exact nI_le (by omega) (by decide)) z⟩
    refine ⟨rfl, _, rfl, rfl, 0, 0, _, c_append hG _ h hL (by omega) a, ⟨Nat.le_refl _, Nat.le_refl _⟩, ?_⟩
    rintro _ h1 ⟨rfl, p1, p2, p3, p4⟩
    refine ⟨rfl, _, rfl, rfl, 0, 0, _, c_append hG _ h1 (L := L + 4) (by rw [p1, up_s]) (by omega) b, ⟨Nat.le_refl _, Nat.le_refl _⟩, ?_⟩
    rintro _ h2 ⟨rfl, q1, q2, q3, q4⟩
    refine ⟨rfl, _, rfl, rfl, 0, 0, _, c_append hG _ h2 (L := L + 8) (by rw [q1, up_s]) (by omega) c, ⟨Nat.le_refl _, Nat.le_refl _⟩, ?_⟩
    rintro _ h3 ⟨rfl, r1, r2, r3, r4⟩
    refine ⟨rfl, _, rfl, rfl, 0, 0, _, c_append hG _ h3 (L := L + 12) (by rw [r1, up_s]) (by omega) e, ⟨Nat.le_refl _, Nat.le_refl _⟩, ?_⟩
    rintro _ h4 ⟨rfl, s1, s2, s3, s4⟩
    refine ⟨rfl, _, rfl, rfl, 0, 0, _, c_append hG _ h4 (L := L + 16) (by rw [s1, up_s]) (by omega) f, ⟨Nat.le_refl _, Nat.le_refl _⟩, ?_⟩
    rintro _ h5 ⟨rfl, t1, t2, t3, t4⟩
    have e5 : h5.1 1 = va_up (h.1 1) 1 (nI (L + 20)) := by rw [t1, s1, r1, q1, p1, up_up, up_up, up_up, up_up]
    refine ⟨rfl, _, rfl, rfl, trivial, Or.inr ⟨by omega, congV ?_, e5, fun i hi => ?_, fun j hj => ?_, (((p4.tr q4).tr r4).tr s4).tr t4⟩⟩
    · show h5.1 1 1 = _
      rw [e5, up_s]
    · rcases (by omega : i < 4 ∨ (4 ≤ i ∧ i < 8) ∨ (8 ≤ i ∧ i < 12) ∨ (12 ≤ i ∧ i < 16) ∨ (16 ≤ i ∧ i < 20)) with z | z | z | z | z
      · rw [t3 _ (by omega), s3 _ (by omega), r3 _ (by omega), q3 _ (by omega), p2 i z, show i / 4 = 0 by omega, show i % 4 = i by omega]; rfl
      · obtain ⟨k, rfl⟩ : ∃ k, i = 4 + k := ⟨i - 4, by omega⟩
        rw [t3 _ (by omega), s3 _ (by omega), r3 _ (by omega), ← Nat.add_assoc, q2 k (by omega), show (4 + k) / 4 = 1 by omega, show (4 + k) % 4 = k by omega]; rfl
      · obtain ⟨k, rfl⟩ : ∃ k, i = 8 + k := ⟨i - 8, by omega⟩
        rw [t3 _ (by omega), s3 _ (by omega), ← Nat.add_assoc, r2 k (by omega), show (8 + k) / 4 = 2 by omega, show (8 + k) % 4 = k by omega]; rfl
      · obtain ⟨k, rfl⟩ : ∃ k, i = 12 + k := ⟨i - 12, by omega⟩
        rw [t3 _ (by omega), ← Nat.add_assoc, s2 k (by omega), show (12 + k) / 4 = 3 by omega, show (12 + k) % 4 = k by omega]; rfl
      · obtain ⟨k, rfl⟩ : ∃ k, i = 16 + k := ⟨i - 16, by omega⟩
        rw [← Nat.add_assoc, t2 k (by omega), show (16 + k) / 4 = 4 by omega, show (16 + k) % 4 = k by omega]; rfl
    · rw [t3 j (by omega), s3 j (by omega), r3 j (by omega), q3 j (by omega), p3 j (by omega)]
theorem b_end {G : qm_G} (hG : G.2.2.2.2 = true) (d : Nat) (h : qm_H) {L : Nat} (hL : h.1 1 1 = nI L) (hL6 : L ≤ 600) (x : Int32) : qm_Ev G d 0 0 qyX9_end [.ref 0, .int x] h (fun r h' => (inb x (L + 1) = false ∧ r = some (.int (-1)) ∧ h = h') ∨ (∃ m, m ≤ L ∧ x = nI m ∧ r = some (.int x) ∧ h'.1 1 = va_up (h.1 1) 1 x ∧ sb [1] h h')) := by
  have ix := inb_lt (a := x) (n := L + 1) (by omega)
  by_cases c : inb x (L + 1) = true
  · obtain ⟨m, m1, rfl⟩ := inb_e (by omega) c
    refine qm_Ev.run (M := mX9_end) okX9_end rfl hG fun z => ?_
    refine ⟨fun z => absurd z (nI_pos (by omega)), fun _ => ⟨rfl, _, rfl, rfl, fun _ => ⟨rfl, _, rfl, rfl, trivial, trivial, Or.inr ⟨m, by omega, rfl, rfl, si_row _ _ _ _, sb.rf.si (by decide)⟩⟩, fun (z : ¬ nI m ≤ h.1 1 1) => absurd (by rw [hL]; exact nI_le (by omega) (by omega)) z⟩⟩
  · have c' : inb x (L + 1) = false := by simpa using c
    rw [ix, Bool.and_eq_true, decide_eq_true_eq, decide_eq_true_eq] at c
    refine qm_Ev.run (M := mX9_end) okX9_end rfl hG fun z => ?_
    refine ⟨fun _ => ⟨trivial, Or.inl ⟨c', rfl, rfl⟩⟩, fun (z : ¬ x < 0) => ⟨rfl, _, rfl, rfl, fun (z2 : x ≤ h.1 1 1) => absurd ⟨Int32.not_lt.mp z, by rw [hL] at z2; exact Int32.lt_of_le_of_lt z2 (nI_lt (by omega) (by omega))⟩ c, fun _ => ⟨trivial, Or.inl ⟨c', rfl, rfl⟩⟩⟩⟩
