/-! the reference: after a year; years by a seed -/
def s_fz (f : Int32) (ps : PSt) (k : Nat) : Int32 := if f = -1 ∧ ¬ ps.2.2.2.2.2.2.2.1 ≤ 0 then nI k else f
def s_aft (w : Nat → Int32) (n : Nat) (yr : Nat → Int32) : Nat → Nat → PSt → Int32 → PSt × Int32
  | 0, k, ps, f => (ps, s_fz f ps k)
  | r + 1, k, ps, f => if (s_deed w n yr k ps).1 then s_aft w n yr r (k + 1) (s_deed w n yr k ps).2 (s_fz f (s_deed w n yr k ps).2 k) else ((s_deed w n yr k ps).2, s_fz f (s_deed w n yr k ps).2 k)
def s_afterA (w : Nat → Int32) (n : Nat) (r : PSt × Int32) (what : Int32) : Int32 := if what = 0 then r.2 else if what = 5 then r.1.2.2.2.2.2.2.2.2.2 else s_oi (s_most (s_mv w r.1 ((what.toNatClampNeg) - 1)) (decide (what.toNatClampNeg - 1 = 1 ∨ what.toNatClampNeg - 1 = 2)) (if what.toNatClampNeg - 1 = 3 then 6 else n))
def p_after (h : qm_H) (mt my : Nat) (a b what : Int32) : Int32 := if inb a mt && inb b my && inb what 6 then s_afterA (tw h a.toNatClampNeg) (nn (tw h a.toNatClampNeg)) (s_aft (tw h a.toNatClampNeg) (nn (tw h a.toNatClampNeg)) (yw h b.toNatClampNeg) (nn (yw h b.toNatClampNeg)) 0 (s_init (tw h a.toNatClampNeg)) (-1)) what else -2
theorem a_after {G : qm_G} (hG : G.2.2.2.2 = true) (d : Nat) (h : qm_H) {mt my ml : Nat} (hS : ST h mt my ml) (a b what : Int32) : qm_Ev G (d + 6) 0 0 qyX10_after [.ref 26, .int a, .int b, .int what] h (fun r h' => r = some (.int (p_after h mt my a b what)) ∧ pers h h') := by
  refine qm_Ev.by (M := mX10_after) okX10_after (Nat.le_of_ble_eq_true rfl) hG fun z hA => ?_
  obtain ⟨s1, s2, s3, s4, -, -, hT, hY, -⟩ := hS
  refine qm_wp_ok hA [21] 30 _ _ _ _ _ _ ?_
  refine ⟨rfl, trivial, rfl, 0, 0, _, e_layAllC hG (d + 2) (qm_si h 26 0 0) (mt := mt) (my := my) s1 s2 s3 s4 a b, ⟨Nat.le_refl _, Nat.le_refl _⟩, ?_⟩
  rintro _ h' (⟨t, y, ht, hy, rfl, rfl, rfl, rfl⟩ | ⟨e0, rfl, e1⟩)
  · obtain ⟨i1, i2⟩ := p_in ht s2
    obtain ⟨i3, i4⟩ := p_in hy s4
    have vT := hT t ht
    have vY := hY y hy
    refine ⟨fun q => absurd q (by decide), fun _ => ?_⟩
    have fin : pers h (hnd (qm_si (qm_si h 26 0 0) 26 34 (nI y)) t) := pers.rf.s26.s26.tr (hnd.ps _ t)
    refine ⟨0, 0, _, e_in hG (d + 5) _ what 0 5, ⟨Nat.le_refl _, Nat.le_refl _⟩, ?_⟩
    rintro _ _ ⟨rfl, rfl⟩
    refine b2_ne (fun hb => ?_) (fun hb => ⟨trivial, by rw [p_after, show inb what 6 = false from hb, Bool.and_false]; rfl, fin⟩)
    have hb1 : inb what 6 = true := hb
    obtain ⟨wh, hwh, rfl⟩ := inb_e (by omega) hb1
    obtain ⟨w, hw⟩ : ∃ w, w = tw h t := ⟨_, rfl⟩
    obtain ⟨yr, hyr⟩ : ∃ yr, yr = yw h y := ⟨_, rfl⟩
    obtain ⟨n, hn⟩ : ∃ n, n = nn w := ⟨_, rfl⟩
    obtain ⟨m, hm⟩ : ∃ m, m = nn yr := ⟨_, rfl⟩
    obtain ⟨R, hR⟩ : ∃ R, R = s_aft w n yr m 0 (s_init w) (-1) := ⟨_, rfl⟩
    have eP : p_after h mt my (nI t) (nI y) (nI wh) = s_afterA w n R (nI wh) := by
      rw [p_after, i1, i3, hb1, i2, i4, ← hw, ← hyr, ← hn, ← hm, ← hR]; rfl
    rw [← hw, ← hn] at vT
    rw [← hyr, ← hm] at vY
    have m40 := vY.1
    have n6 := vT.1
    have done : ∀ (h2 : qm_H) (k : Nat), fr (hnd (qm_si (qm_si h 26 0 0) 26 34 (nI y)) t) h2 → rps h2 = R.1 → qm_PW G mX10_after z 21 0 0 [vr 26, vi (nI t), vi (nI y), vi (nI wh), vi R.2, vi 0, vi (nI k)] [] h2 := by
      intro h2 k f1 f2
      have tw2 : tw h2 t = w := (f1.row t).trans hw.symm
      have n2 : h2.1 26 23 = nI n := (f1.2.2 23 (by decide)).trans (by rw [hw] at vT; exact vT.2.1)
      have t2 : h2.1 26 22 = nI t := f1.2.2 22 (by decide)
      have most : ∀ j, j < 4 → wh = j + 1 → qm_Ev G (d + 5) 0 0 qyX10_most [.ref 26, .int (nI wh - 1)] h2 (fun r h' => r = some (.int (s_afterA w n R (nI wh))) ∧ h2 = h') := by
        intro j hj e
        have k := e_most hG (d + 3) h2 (t := t) (n := n) (wh := j) t2 (by omega) n2 n6 hj
        rw [tw2, f2] at k
        have e2 : nI wh - 1 = nI j := by rw [e]; exact nI_pred j
        have e3 : s_afterA w n R (nI wh) = s_oi (s_most (s_mv w R.1 j) (decide (j = 1 ∨ j = 2)) (if j = 3 then 6 else n)) := by
          have z0 : ¬ nI wh = 0 := fun q => by have := (nI_eq (a := wh) (b := 0) (by omega) (by decide)).mp q; omega
          have z5 : ¬ nI wh = 5 := fun q => by have := (nI_eq (a := wh) (b := 5) (by omega) (by decide)).mp q; omega
          rw [s_afterA, if_neg z0, if_neg z5, nI_clamp (by omega), show wh - 1 = j by omega]
        rw [e2, e3]
        exact k
      refine qm_wp_ok hA [] 30 _ _ _ _ _ _ ⟨fun _ => ⟨⟨fun q => ?_, fun q => ?_, fun q => ?_, fun q => ?_, fun q => ?_, trivial⟩, fun q => ?_⟩, fun q => absurd rfl q⟩
      · have q0 : wh = 0 := (nI_eq (a := wh) (b := 0) (by omega) (by decide)).mp q
        exact ⟨trivial, by rw [eP, s_afterA, if_pos (by rw [q0]; rfl)], fin.tr f1.ps⟩
      · have q0 : wh = 1 := (nI_eq (a := wh) (b := 1) (by omega) (by decide)).mp q
        refine ⟨rfl, 0, 0, _, most 0 (by decide) q0, ⟨Nat.le_refl _, Nat.le_refl _⟩, ?_⟩
        rintro _ _ ⟨rfl, rfl⟩
        exact ⟨trivial, by rw [eP], fin.tr f1.ps⟩
      · have q0 : wh = 2 := (nI_eq (a := wh) (b := 2) (by omega) (by decide)).mp q
        refine ⟨rfl, 0, 0, _, most 1 (by decide) q0, ⟨Nat.le_refl _, Nat.le_refl _⟩, ?_⟩
        rintro _ _ ⟨rfl, rfl⟩
        exact ⟨trivial, by rw [eP], fin.tr f1.ps⟩
      · have q0 : wh = 3 := (nI_eq (a := wh) (b := 3) (by omega) (by decide)).mp q
        refine ⟨rfl, 0, 0, _, most 2 (by decide) q0, ⟨Nat.le_refl _, Nat.le_refl _⟩, ?_⟩
        rintro _ _ ⟨rfl, rfl⟩
        exact ⟨trivial, by rw [eP], fin.tr f1.ps⟩
      · have q0 : wh = 4 := (nI_eq (a := wh) (b := 4) (by omega) (by decide)).mp q
        refine ⟨rfl, 0, 0, _, most 3 (by decide) q0, ⟨Nat.le_refl _, Nat.le_refl _⟩, ?_⟩
        rintro _ _ ⟨rfl, rfl⟩
        exact ⟨trivial, by rw [eP], fin.tr f1.ps⟩
      · have e5 : wh = 5 := by
          rw [nI_toInt (by omega)] at q
          simp only [List.length_cons, List.length_nil, List.drop] at q
          omega
        have g : h2.1 26 27 = R.1.2.2.2.2.2.2.2.2.2 := congrArg (fun x => x.2.2.2.2.2.2.2.2.2) f2
        refine ⟨rfl, trivial, ?_, fin.tr f1.ps⟩
        rw [eP, s_afterA, if_neg (by rw [e5]; decide), if_pos (by rw [e5]; rfl)]
        exact congrArg (fun x => some (Value.int x)) g
    have loop : ∀ r k : Nat, k + r = m → ∀ (h2 : qm_H) (f : Int32), R = s_aft w n yr r k (rps h2) f → fr (hnd (qm_si (qm_si h 26 0 0) 26 34 (nI y)) t) h2 → qm_PW G mX10_after z 21 0 0 [vr 26, vi (nI t), vi (nI y), vi (nI wh), vi f, vi 1, vi (nI k)] [] h2 := by
      intro r
      induction r with
      | zero =>
        intro k hkr h2 f e1 f1
        obtain rfl : k = m := hkr
        have e2 : R.1 = rps h2 := by rw [e1]; rfl
        have e3 : R.2 = s_fz f (rps h2) k := by rw [e1]; rfl
        have y0 : yw h2 y 0 = nI k := by rw [f1.yr y]; rw [hyr] at vY; exact vY.2.1
        have k2 := done h2 (k + 1) f1 e2.symm
        rw [← nI_1, e3] at k2
        refine qm_wp_ok hA [21] 40 _ _ _ _ _ _ ⟨fun q => absurd q (by decide), fun _ => ⟨rfl, 0, 0, _, e_deeds hG (d + 5) h2 (y := y) (f1.2.2 34 (by decide)) (by omega), ⟨Nat.le_refl _, Nat.le_refl _⟩, ?_⟩⟩
        rintro _ _ ⟨rfl, rfl⟩
        rw [y0]
        refine ⟨fun _ => ⟨fun c => ?_, fun c => ⟨rfl, fun (c2 : h2.1 26 25 ≤ 0) => ?_, fun (c2 : ¬ h2.1 26 25 ≤ 0) => ?_⟩⟩, fun q => absurd (Int32.le_refl _) q⟩
        · rw [s_fz, if_neg (fun q => c q.1)] at k2
          exact k2
        · rw [s_fz, if_neg (fun q => q.2 c2)] at k2
          exact k2
        · rw [s_fz, if_pos ⟨c, c2⟩] at k2
          exact k2
      | succ r ih =>
        intro k hkr h2 f e1 f1
        have y0 : yw h2 y 0 = nI m := by rw [f1.yr y]; rw [hyr] at vY; exact vY.2.1
        refine qm_wp_ok hA [21] 40 _ _ _ _ _ _ ⟨fun q => absurd q (by decide), fun _ => ⟨rfl, 0, 0, _, e_deeds hG (d + 5) h2 (y := y) (f1.2.2 34 (by decide)) (by omega), ⟨Nat.le_refl _, Nat.le_refl _⟩, ?_⟩⟩
        rintro _ _ ⟨rfl, rfl⟩
        rw [y0]
        refine ⟨fun q => absurd q (nI_ge (by omega) (by omega)), fun _ => ?_⟩
        refine ⟨rfl, 0, 0, _, e_doesDeed hG (d + 1) h2 (t := t) (n := n) (y := y) (m := m) (k := k) (f1.2.2 22 (by decide)) (by omega) ((f1.2.2 23 (by decide)).trans (by rw [hw] at vT; exact vT.2.1)) n6 (f1.2.2 34 (by decide)) (by omega) (by rw [f1.yr y]; rw [hyr] at vY; exact vY) (by omega), ⟨Nat.le_refl _, Nat.le_refl _⟩, ?_⟩
        rintro _ h3 ⟨rfl, e3, e4⟩
        have g1 : tw h2 t = w := (f1.row t).trans hw.symm
        have g2 : yw h2 y = yr := (f1.yr y).trans hyr.symm
        rw [g1, g2] at e3 ⊢
        refine b2_eq (fun hb => ?_) (fun hb => ?_)
        · have k2 := ih (k + 1) (by omega) h3 (s_fz f (rps h3) k) (by rw [e1, s_aft, if_pos hb, ← e3]) (f1.tr e4)
          rw [← nI_1] at k2
          refine ⟨fun c => ?_, fun c => ⟨rfl, fun (c2 : h3.1 26 25 ≤ 0) => ?_, fun (c2 : ¬ h3.1 26 25 ≤ 0) => ?_⟩⟩
          · rw [s_fz, if_neg (fun q => c q.1)] at k2
            exact k2
          · rw [s_fz, if_neg (fun q => q.2 c2)] at k2
            exact k2
          · rw [s_fz, if_pos ⟨c, c2⟩] at k2
            exact k2
        · rw [s_aft, if_neg (by rw [hb]; decide), ← e3] at e1
          have k2 := done h3 (k + 1) (f1.tr e4) (by rw [e1])
          rw [← nI_1, show R.2 = s_fz f (rps h3) k by rw [e1]] at k2
          refine ⟨fun c => ?_, fun c => ⟨rfl, fun (c2 : h3.1 26 25 ≤ 0) => ?_, fun (c2 : ¬ h3.1 26 25 ≤ 0) => ?_⟩⟩
          · rw [s_fz, if_neg (fun q => c q.1)] at k2
            exact k2
          · rw [s_fz, if_neg (fun q => q.2 c2)] at k2
            exact k2
          · rw [s_fz, if_pos ⟨c, c2⟩] at k2
            exact k2
    exact loop m 0 (Nat.zero_add m) _ (-1) (by rw [hR, hw]; rfl) fr.rf
  · exact ⟨fun _ => ⟨trivial, by rw [p_after, e0]; rfl, pers.rf.s26.tr e1⟩, fun q => absurd rfl q⟩
