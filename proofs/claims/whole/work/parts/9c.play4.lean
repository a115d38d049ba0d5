/-! the class: a year -/
def VYc (yr : Nat → Int32) (m : Nat) : Prop := ∀ k, k < m → yr (1 + 4 * k) = nI 3 → ∃ v, v ≤ 30 ∧ yr (1 + 4 * k + 3) = nI v
theorem fz_id {ps : PSt} {k j : Nat} {f : Int32} (h : PI ps k f) : s_fz f ps j = f := by
  obtain ⟨-, ⟨v, v1, v2, v3⟩, -⟩ := h
  rw [s_fz, if_neg]
  rintro ⟨q1, q2⟩
  have := v3.mpr q1
  rw [v2, this] at q2
  exact q2 (by decide)
theorem fz_fir {w : Nat → Int32} {n wh k : Nat} {a b c f : Int32} {ps : PSt} (h : PI ps k f) (hk : k ≤ 100) (hn : n ≤ 6) (hw : wh < 5) (hc : wh = 3 → ∃ v, v ≤ 30 ∧ c = nI v) : s_fz f (s_does w n wh a b c ps).2 k = fir wh (s_does w n wh a b c ps).1 f (nI k) := by
  obtain ⟨-, ⟨v, v1, v2, v3⟩, -⟩ := does_PI (w := w) (a := a) (b := b) (j := k) h hk (by omega) hn hw hc
  by_cases e : f = -1
  · by_cases q : fir wh (s_does w n wh a b c ps).1 f (nI k) = -1
    · have := v3.mpr q
      rw [q, s_fz, if_neg]
      · exact e
      · rintro ⟨-, q2⟩
        rw [v2, this] at q2
        exact q2 (by decide)
    · have : v ≠ 0 := fun z => q (v3.mp z)
      have e2 : fir wh (s_does w n wh a b c ps).1 f (nI k) = nI k := by
        rw [fir] at q ⊢
        split
        · rfl
        · rename_i z
          rw [if_neg z] at q; exact absurd e q
      rw [e2, s_fz, if_pos ⟨e, by rw [v2]; exact nI_nle (by omega) (by omega)⟩]
  · rw [s_fz, if_neg (fun q => e q.1), fir, if_neg (fun q => e q.2.2)]
theorem c_play {G : qm_G} (hG : G.2.2.2.2 = true) (d : Nat) (h : qm_H) {P n : Nat} {w : Nat → Int32} (t : TO h P w n) (v : VT w n) (hpp : h.1 10 6 = nI n) {Q m lim : Nat} {yr : Nat → Int32} (l : RO h Q 4 yr m) (hV : VY yr m) (hVc : VYc yr m) (hl : lim ≤ m) (h0 : h.1 10 0 = 0) (hI : PI (cps h) 0 (h.1 10 1)) : qm_Ev G (d + 5) 0 0 qyX1_play [.ref 10, .ref P, .ref Q, .int (nI lim)] h (fun r h' => r = none ∧ h'.1 10 0 = nI (s_play w n yr lim 0 (cps h)).1 ∧ cps h' = (s_play w n yr lim 0 (cps h)).2 ∧ h'.1 10 1 = (s_aft w n yr lim 0 (cps h) (h.1 10 1)).2 ∧ cps h' = (s_aft w n yr lim 0 (cps h) (h.1 10 1)).1 ∧ fq KP h h') := by
  have hn := v.1
  obtain ⟨hm, -, hY⟩ := hV
  refine qm_Ev.by (M := mX1_play) okX1_play (Nat.le_of_ble_eq_true rfl) hG fun z hA => ?_
  refine qm_wp_ok hA [4] 20 _ _ _ _ _ _ ?_
  generalize eP : s_play w n yr lim 0 (cps h) = RP at *
  generalize eA : s_aft w n yr lim 0 (cps h) (h.1 10 1) = RA at *
  have loop : ∀ r k h', k + r = lim → fq KP h h' → h'.1 10 0 = nI k → PI (cps h') k (h'.1 10 1) → s_play w n yr r k (cps h') = RP → s_aft w n yr r k (cps h') (h'.1 10 1) = RA → qm_PW G mX1_play z 4 0 0 [vr 10, vr P, vr Q, vi (nI lim), vi 1, vi (nI k)] [] (h') := by
    intro r
    induction r with
    | zero =>
      intro k h' hk a d0 pI q1 q2
      obtain rfl : k = lim := hk
      have q1 : (k, cps h') = RP := q1
      have q2 : (cps h', s_fz (h'.1 10 1) (cps h') k) = RA := q2
      exact qm_wp_ok hA [] 20 _ _ _ _ _ _ ⟨fun _ => ⟨rfl, rfl, by rw [← q1]; exact d0, by rw [← q1], by rw [← q2, fz_id pI], by rw [← q2], a⟩, fun z => absurd (Int32.le_refl _) z⟩
    | succ r ih =>
      intro k h' hk a d0 pI q1 q2
      have t' := a.to t
      have l' := l.sb a.sb (fun q hq => by simp only [List.mem_cons, List.not_mem_nil, or_false] at hq; omega)
      obtain ⟨wh, wh1, wh2, wh3⟩ := hY k (by omega)
      have hc : wh = 3 → ∃ v, v ≤ 30 ∧ yr (1 + 4 * k + 3) = nI v := fun z => hVc k (by omega) (by rw [wh2, z])
      have eB : s_deed w n yr k (cps h') = s_does w n wh (yr (1 + 4 * k + 1)) (yr (1 + 4 * k + 2)) (yr (1 + 4 * k + 3)) (cps h') := by rw [s_deed, wh2, nI_clamp (by omega)]
      rw [s_play, eB] at q1
      rw [s_aft, eB, fz_fir pI (by omega) hn wh1 hc] at q2
      have pN := does_PI (w := w) (a := yr (1 + 4 * k + 1)) (b := yr (1 + 4 * k + 2)) (j := k) pI (by omega) (by omega) hn wh1 hc
      have eh : h'.1 10 6 = nI n := by rw [a.2.2 6 (by decide), hpp]
      refine qm_wp_ok hA [4] 60 _ _ _ _ _ _ ⟨fun z => absurd z (nI_ge (by omega) (by omega)), fun _ => ⟨l'.2.1, fun (z : h'.1 Q 0 ≤ nI k) => absurd z (by rw [l'.2.2.1]; exact nI_ge (by omega) (by omega)), fun _ => ⟨fun z => absurd z (by decide), fun _ => ⟨l'.2.1, 0, 0, _, c_at hG _ h' l' (by omega) (by decide) (by omega : k < m) (by decide : 0 < 4), ⟨Nat.le_refl _, Nat.le_refl _⟩, ?_⟩⟩⟩⟩
      rintro _ _ ⟨rfl, rfl⟩
      rw [show yr (1 + 4 * k + 0) = nI wh from wh2]
      refine ⟨l'.2.1, 0, 0, _, c_at hG _ h' l' (by omega) (by decide) (by omega : k < m) (by decide : 1 < 4), ⟨Nat.le_refl _, Nat.le_refl _⟩, ?_⟩
      rintro _ _ ⟨rfl, rfl⟩
      refine ⟨l'.2.1, 0, 0, _, c_at hG _ h' l' (by omega) (by decide) (by omega : k < m) (by decide : 2 < 4), ⟨Nat.le_refl _, Nat.le_refl _⟩, ?_⟩
      rintro _ _ ⟨rfl, rfl⟩
      refine ⟨l'.2.1, 0, 0, _, c_at hG _ h' l' (by omega) (by decide) (by omega : k < m) (by decide : 3 < 4), ⟨Nat.le_refl _, Nat.le_refl _⟩, ?_⟩
      rintro _ _ ⟨rfl, rfl⟩
      refine ⟨rfl, 0, 0, _, c_goes hG d h' t' v eh wh1 (fun p hp => by
        obtain ⟨x, x1, x2⟩ := pI.1 p hp
        exact ⟨x, by omega, x2⟩) _ _ _ wh3, ⟨Nat.le_refl _, Nat.le_refl _⟩, ?_⟩
      rintro _ h2 ⟨rfl, e1, e2, e3, e4⟩
      generalize s_does w n wh (yr (1 + 4 * k + 1)) (yr (1 + 4 * k + 2)) (yr (1 + 4 * k + 3)) (cps h') = B at *
      rw [d0] at e3
      cases hb : B.1 with
      | true =>
        rw [hb] at e2 e3 q1 q2 pN
        rw [← e1, ← e3] at q2 pN
        rw [← e1] at q1
        have k2 := ih (k + 1) h2 (by omega) (a.tr e4) (by rw [e2, d0]; exact nI_1 k) pN q1 q2
        rw [← nI_1] at k2
        exact k2
      | false =>
        rw [hb] at e2 e3 q1 q2
        have q1 : (k, B.2) = RP := q1
        have q2 : (B.2, fir wh false (h'.1 10 1) (nI k)) = RA := q2
        have dd : h2.1 10 0 = nI k := by rw [e2, d0]; exact Int32.add_zero _
        have res : (none : Option Value) = none ∧ h2.1 10 0 = nI RP.1 ∧ cps h2 = RP.2 ∧ h2.1 10 1 = RA.2 ∧ cps h2 = RA.1 ∧ fq KP h h2 := ⟨rfl, by rw [← q1]; exact dd, by rw [← q1]; exact e1, by rw [← q2]; exact e3, by rw [← q2]; exact e1, a.tr e4⟩
        have l2 := l'.sb e4.sb (fun q hq => by simp only [List.mem_cons, List.not_mem_nil, or_false] at hq; omega)
        have fin : qm_PW G mX1_play z 4 0 0 [vr 10, vr P, vr Q, vi (nI lim), vi 0, vi (nI k + 1)] [] (h2) := by
          exact qm_wp_ok hA [] 20 _ _ _ _ _ _ ⟨fun _ => ⟨rfl, res⟩, fun _ => ⟨l2.2.1, fun _ => ⟨rfl, res⟩, fun _ => ⟨fun _ => ⟨rfl, res⟩, fun z => absurd rfl z⟩⟩⟩
        exact fin
  exact loop lim 0 h (by omega) fq.rf h0 hI eP eA
theorem init_PI {w : Nat → Int32} {n : Nat} (v : VT w n) : PI (s_init w) 0 (-1) := by
  refine ⟨fun p hp => ⟨1, by omega, rfl⟩, ⟨0, by omega, rfl, by simp⟩, fun p hp => ?_⟩
  obtain ⟨x, x1, x2⟩ := v.2.2.2.2.1 p hp
  exact ⟨x, by omega, x2⟩
theorem fqpl {K : List Nat} {h h1 : qm_H} (a : fq K h h1) : sb PL h h1 := a.sb
theorem c_playAll {G : qm_G} (hG : G.2.2.2.2 = true) (d : Nat) (h : qm_H) {P n : Nat} {w : Nat → Int32} (t : TO h P w n) (v : VT w n) {Q m : Nat} {yr : Nat → Int32} (l : RO h Q 4 yr m) (hV : VY yr m) (hVc : VYc yr m) : qm_Ev G (d + 6) 0 0 qyX1_playAll [.ref 10, .ref P, .ref Q] h (fun r h' => r = none ∧ h'.1 10 0 = nI (s_play w n yr m 0 (s_init w)).1 ∧ cps h' = (s_play w n yr m 0 (s_init w)).2 ∧ h'.1 10 1 = (s_aft w n yr m 0 (s_init w) (-1)).2 ∧ cps h' = (s_aft w n yr m 0 (s_init w) (-1)).1 ∧ h'.1 10 6 = nI n ∧ sb PL h h') := by
  refine qm_Ev.run (M := mX1_playAll) okX1_playAll rfl hG fun z => ?_
  refine ⟨rfl, 0, 0, _, c_begin hG _ h t v, ⟨Nat.le_refl _, Nat.le_refl _⟩, ?_⟩
  rintro _ h1 ⟨rfl, e1, e2, e3, e4, s1⟩
  have t1 := t.sb s1 PL51
  have l1 := l.sb s1 PL51
  have es : h1.1 Q 0 = nI m := l1.2.2.1
  have kp := c_play hG d h1 t1 v e4 l1 hV hVc (Nat.le_refl _) e2 (by rw [e1, e3]; exact init_PI v)
  rw [← es] at kp
  refine ⟨l1.2.1, rfl, 0, 0, _, kp, ⟨Nat.le_refl _, Nat.le_refl _⟩, ?_⟩
  rintro _ h2 ⟨rfl, f1, f2, f3, f4, f5⟩
  rw [e1] at f1 f2
  rw [e1, e3] at f3 f4
  exact ⟨rfl, rfl, f1, f2, f3, f4, by rw [f5.2.2 6 (by decide)]; exact e4, s1.tr (fqpl f5)⟩
/-! the greatest -/
def ms2 (v : Nat → Int32) (fl : Int32) (o : Option Nat) : Int32 := match o with
  | none => fl
  | some b => v b
theorem most_y {v : Nat → Int32} {any : Bool} {fl : Int32} {p : Nat} (h1 : any = true → fl = -1 ∧ ¬ v p ≤ -1) (h2 : any = false → fl = 0) (h : v p ≤ ms2 v fl (s_most v any p)) : s_most v any (p + 1) = s_most v any p := by
  cases q : s_most v any p with
  | none =>
    rw [q] at h
    have h : v p ≤ fl := h
    cases a : any with
    | true => rw [(h1 a).1] at h; exact absurd h (h1 a).2
    | false =>
      rw [h2 a] at h
      rw [a] at q
      rw [s_most, q]
      exact if_pos ⟨rfl, h⟩
  | some b =>
    rw [q] at h
    rw [s_most, q]
    exact if_pos h
theorem most_n {v : Nat → Int32} {any : Bool} {fl : Int32} {p : Nat} (h2 : any = false → fl = 0) (h : ¬ v p ≤ ms2 v fl (s_most v any p)) : s_most v any (p + 1) = some p := by
  cases q : s_most v any p with
  | none =>
    rw [q] at h
    have h : ¬ v p ≤ fl := h
    rw [s_most, q]
    exact if_neg (fun z => h (by rw [h2 z.1]; exact z.2))
  | some b =>
    rw [q] at h
    rw [s_most, q]
    exact if_neg h
theorem c_greatest {G : qm_G} (hG : G.2.2.2.2 = true) (d : Nat) (h : qm_H) {q N : Nat} (hq : qm_is true h q 10) (hl : (qm_kn true h q).2 = 6) (hN : N ≤ 6) {any : Bool} {fl : Int32} (h1 : any = true → fl = -1 ∧ ∀ p, p < N → ¬ h.1 q p ≤ -1) (h2 : any = false → fl = 0) : qm_Ev G d 0 0 qyX9_greatest [.ref q, .int (nI N), .int fl] h (fun r h' => r = some (.int (s_oi (s_most (h.1 q) any N))) ∧ h = h') := by
  refine qm_Ev.by (M := mX9_greatest) okX9_greatest (Nat.le_of_ble_eq_true rfl) hG fun z hA => ?_
  refine qm_wp_ok hA [6] 20 _ _ _ _ _ _ ?_
  have e : Int32.ofNat (qm_kn true h q).2 = nI 6 := by rw [hl]; rfl
  refine qm_for (P := fun p => qm_PW G mX9_greatest z 6 0 0 [vr q, vi (nI N), vi fl, vi (s_oi (s_most (h.1 q) any p)), vi (ms2 (h.1 q) fl (s_most (h.1 q) any p)), vi (nI p)] [] (h)) (N := N) ?_ ?_
  · exact qm_wp_ok hA [] 20 _ _ _ _ _ _ ⟨fun _ => ⟨trivial, rfl, rfl⟩, fun z => absurd (Int32.le_refl _) z⟩
  · intro p hp key
    have hin : vp_in (nI p) (qm_kn true h q).2 := by rw [hl]; exact vp_in_nI (by omega) (by decide)
    have ep : (nI p).toNatClampNeg = p := nI_clamp (by omega)
    rw [← nI_1] at key
    refine qm_wp_ok hA [6] 40 _ _ _ _ _ _ ⟨fun z => absurd z (nI_ge hp (by omega)), fun _ => ⟨hq, fun (z : Int32.ofNat (qm_kn true h q).2 ≤ nI p) => absurd z (by rw [e]; exact nI_ge (by omega) (by decide)), fun _ => ⟨hq, hin, fun (c : h.1 q (nI p).toNatClampNeg ≤ ms2 (h.1 q) fl (s_most (h.1 q) any p)) => ?_, fun (c : ¬ h.1 q (nI p).toNatClampNeg ≤ ms2 (h.1 q) fl (s_most (h.1 q) any p)) => ⟨hq, hin, ?_⟩⟩⟩⟩
    · rw [ep] at c
      rw [most_y (fun z => ⟨(h1 z).1, (h1 z).2 p hp⟩) h2 c] at key
      exact key
    · rw [ep] at c ⊢
      rw [most_n h2 c] at key
      exact key
theorem c_wisest {G : qm_G} (hG : G.2.2.2.2 = true) (d : Nat) (h : qm_H) {P n : Nat} {w : Nat → Int32} (t : TO h P w n) (v : VT w n) (hpp : h.1 10 6 = nI n) : qm_Ev G d 0 0 qyX1_wisest [.ref 10, .ref P] h (fun r h' => r = some (.int (s_oi (s_most (s_mv w (cps h) 2) true n))) ∧ h = h') := by
  have hn := v.1
  refine qm_Ev.by (M := mX1_wisest) okX1_wisest (Nat.le_of_ble_eq_true rfl) hG fun z hA => ?_
  refine qm_wp_ok hA [6] 20 _ _ _ _ _ _ ?_
  refine qm_for (P := fun p => qm_PW G mX1_wisest z 6 0 0 [vr 10, vr P, vi (s_oi (s_most (s_mv w (cps h) 2) true p)), vi (ms2 (s_mv w (cps h) 2) (-1) (s_most (s_mv w (cps h) 2) true p)), vi (nI p), vu] [] (h)) (N := n) ?_ ?_
  · exact qm_wp_ok hA [] 20 _ _ _ _ _ _ ⟨rfl, fun _ => ⟨trivial, rfl, rfl⟩, fun (z : ¬ h.1 10 6 ≤ nI n) => absurd (by rw [hpp]; exact Int32.le_refl _) z⟩
  · intro p hp key
    have hin : vp_in (nI p) 6 := vp_in_nI (by omega) (by decide)
    have ep : (nI p).toNatClampNeg = p := nI_clamp (by omega)
    have ex : h.1 15 p &&& 63 = nI ((h.1 15 p).toBitVec.toNat % 2 ^ 6) := pk_and _ 6 rfl
    have hlt : (h.1 15 p).toBitVec.toNat % 2 ^ 6 < 64 := Nat.mod_lt _ (by decide)
    have ev : h.1 (P + 7) (h.1 15 (nI p).toNatClampNeg &&& 63).toNatClampNeg = s_mv w (cps h) 2 p := by
      rw [ep, ex, t.wo hlt]
      show _ = s_worth w (h.1 15 p) 6
      rw [(worth_N v.w _ 6 (Nat.le_refl _)).1, ← ex]
      congr 1
      refine worth_co 6 (Nat.le_refl _) (fun f hf => ?_)
      rw [bit_and _ _ (by omega), show (63 : Int32) = nI (2 ^ 6 - 1) from rfl, bit_n _ (by omega), Nat.testBit_two_pow_sub_one, decide_eq_true hf, Bool.and_true]
    have hge : ¬ s_mv w (cps h) 2 p ≤ -1 := by
      show ¬ s_worth w (h.1 15 p) 6 ≤ -1
      obtain ⟨a, b⟩ := worth_N v.w (h.1 15 p) 6 (Nat.le_refl _)
      rw [a]; exact nI_m1 (by omega)
    rw [← nI_1] at key
    refine qm_wp_ok hA [6] 60 _ _ _ _ _ _ ⟨rfl, fun (z : h.1 10 6 ≤ nI p) => absurd z (by rw [hpp]; exact nI_ge hp (by omega)), fun _ => ⟨t.is, _, t.rd (k := 7) (by decide) (by decide), rfl, _, rfl, rfl, hin, t.ar (k := 7) (by decide) (by decide), (show vp_in (h.1 15 (nI p).toNatClampNeg &&& 63) (qm_kn true h (P + 7)).2 by rw [ep, ex]; exact t.l7 hlt), ?_⟩⟩
    rw [ev]
    refine ⟨fun (c : s_mv w (cps h) 2 p ≤ ms2 (s_mv w (cps h) 2) (-1) (s_most (s_mv w (cps h) 2) true p)) => ?_, fun (c : ¬ s_mv w (cps h) 2 p ≤ ms2 (s_mv w (cps h) 2) (-1) (s_most (s_mv w (cps h) 2) true p)) => ?_⟩
    · rw [most_y (fun _ => ⟨rfl, hge⟩) (fun z => absurd z (by decide)) c] at key
      exact key.mask [true, true, true, true, true, false]
    · rw [most_n (fun z => absurd z (by decide)) c] at key
      exact key.mask [true, true, true, true, true, false]
