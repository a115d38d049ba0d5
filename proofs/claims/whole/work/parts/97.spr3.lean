/-! the class: tellings -/
def TG (h : qm_H) (w : Nat → Int32) (n m : Nat) : Prop := ∀ s, 2 ^ n - m ≤ s → s < 2 ^ n → h.1 25 s = lI 1000 (lf w n (2 ^ n - 1) 64 s)
theorem and_all {n k : Nat} (hk : k < 2 ^ n) : k &&& (2 ^ n - 1) = k := by rw [Nat.and_two_pow_sub_one_eq_mod, Nat.mod_eq_of_lt hk]
def mev (w : Nat → Int32) (n k p : Nat) : Option Nat := if k = 2 ^ n - 1 then some 0 else lfm (lfo w n (lf w n (2 ^ n - 1) 64) k) p
theorem mev_n {w : Nat → Int32} {n k : Nat} (hn : n ≤ 6) (hk : k < 2 ^ n) : mev w n k n = lf w n (2 ^ n - 1) 64 k := by
  have h64 := (p64 hn).1
  rw [lf_64 hn (by omega), and_all hk, mev]
theorem lfo_le {w : Nat → Int32} {n wt k p u : Nat} (h : lfo w n (lf w n wt 64) k p = some u) : u ≤ 65 := by
  rw [lfo] at h
  split at h
  · cases z : lf w n wt 64 (k ||| hbN w p n) with
    | none => rw [z] at h; exact absurd h (by simp)
    | some y =>
      rw [z] at h
      have : y + 1 = u := Option.some.inj h
      have := lf_le 64 _ y z
      omega
  · exact absurd h (by simp)
theorem mev_le {w : Nat → Int32} {n k p u : Nat} (h : mev w n k p = some u) : u ≤ 65 := by
  rw [mev] at h
  split at h
  · rw [← Option.some.inj h]; omega
  · exact lfm_le h (fun q u _ hu => lfo_le hu)
theorem omn_0 (a : Option Nat) : omn a none = a := by cases a <;> rfl
theorem mev_s {w : Nat → Int32} {n k p : Nat} (h : k = 2 ^ n - 1 ∨ lfo w n (lf w n (2 ^ n - 1) 64) k p = none) : mev w n k (p + 1) = mev w n k p := by
  rw [mev, mev]
  split
  · rfl
  · rename_i c
    rw [lfm, h.resolve_left c, omn_0]
theorem sb25 {h h' : qm_H} (a : sb [25] h h') {P n : Nat} {w : Nat → Int32} (t : TO h P w n) : TO h' P w n := t.sb a (fun q hq => by rw [List.mem_singleton.mp hq]; decide)
theorem c_measure {G : qm_G} (hG : G.2.2.2.2 = true) (d : Nat) (h : qm_H) {P n : Nat} {w : Nat → Int32} (t : TO h P w n) (v : VT w n) : qm_Ev G (d + 1) 0 0 qyX6_measure [.ref 24, .ref P] h (fun r h' => r = none ∧ TG h' w n (2 ^ n) ∧ sb [25] h h') := by
  have hn := v.1
  obtain ⟨p1, p2⟩ := p64 hn
  refine qm_Ev.by (M := mX6_measure) okX6_measure (Nat.le_of_ble_eq_true rfl) hG fun z hA => ?_
  refine qm_wp_ok hA [5] 20 _ _ _ _ _ _ ?_
  refine ⟨t.is, 0, 0, _, c_everyone hG _ h t hn, ⟨Nat.le_refl _, Nat.le_refl _⟩, ?_⟩
  rintro _ _ ⟨rfl, rfl⟩
  have e0 : nI (2 ^ n - 1) = nI (2 ^ n - 0) + (-1) := by rw [← pk_m1 (2 ^ n - 1), show 2 ^ n - 1 + 1 = 2 ^ n - 0 by omega]
  have start := qm_for (P := fun m => ∀ h1, sb [25] h h1 → TG h1 w n m → qm_PW G mX6_measure z 5 0 0 [vr 24, vr P, vi (nI (2 ^ n - 1)), vi (nI (2 ^ n - m) + (-1)), vu, vu, vu] [] h1) (N := 2 ^ n) ?_ ?_
  · have st := start h sb.rf (fun s h1 h2 => by omega)
    rw [← e0] at st
    exact st
  · intro h1 a g
    rw [Nat.sub_self]
    exact qm_wp_ok hA [] 20 _ _ _ _ _ _ ⟨fun _ => ⟨rfl, rfl, g, a⟩, fun q => absurd (by decide) q⟩
  · intro m hm key h1 a g
    obtain ⟨k, hk⟩ : ∃ k, 2 ^ n - m = k + 1 := ⟨2 ^ n - m - 1, by omega⟩
    have hk2 : k < 2 ^ n := by omega
    have t := sb25 a t
    rw [hk, pk_m1]
    have gk : ∀ s, k < s → s < 2 ^ n → h1.1 25 s = lI 1000 (lf w n (2 ^ n - 1) 64 s) := fun s h1 h2 => g s (by omega) h2
    have inner : qm_PW G mX6_measure z 16 0 0 [vr 24, vr P, vi (nI (2 ^ n - 1)), vi (nI k), vi (lI 1000 (mev w n k 0)), vi (nI 0), vu] [] h1 := by
      refine qm_for (P := fun p => qm_PW G mX6_measure z 16 0 0 [vr 24, vr P, vi (nI (2 ^ n - 1)), vi (nI k), vi (lI 1000 (mev w n k p)), vi (nI p), vu] [] h1) (N := n) ?_ ?_
      · refine qm_wp_ok hA [5] 20 _ _ _ _ _ _ ⟨t.is, fun _ => ⟨rfl, _, rfl, rfl, (vp_in_nI (by omega) (by decide) : vp_in (nI k) 64), ?_⟩, fun (q : ¬ h1.1 P 0 ≤ nI n) => absurd (by rw [t.pp]; exact Int32.le_refl _) q⟩
        have k2 := key (qm_si h1 25 (nI k).toNatClampNeg (lI 1000 (mev w n k n))) (a.si (by decide)) (fun s s1 s2 => by
          rw [si_row, nI_clamp (by omega)]
          by_cases e : s = k
          · rw [e, up_s, mev_n hn hk2]
          · rw [up_n _ _ e]; exact gk s (by omega) s2)
        rw [show 2 ^ n - (m + 1) = k by omega] at k2
        exact k2.mask [true, true, true, true, false, false, false]
      · intro p hp k2
        rw [← nI_1] at k2
        have e6 := t.hb hp hn
        have ob := hb64 w p hn
        have bk := bit_n k (k := p) (by omega)
        refine qm_wp_ok hA [16, 41] 60 _ _ _ _ _ _ ⟨t.is, fun (z0 : h1.1 P 0 ≤ nI p) => absurd z0 (by rw [t.pp]; exact nI_ge hp (by omega)), fun _ => ⟨t.is, _, t.rd (k := 6) (by decide) (by decide), t.ar (k := 6) (by decide) (by decide), t.ln (k := 6) (by decide) (by decide) (by omega), 0, 0, _, c_isIn hG _ h1 (nI k) (nI p), ⟨Nat.le_refl _, Nat.le_refl _⟩, ?_⟩⟩
        rintro _ _ ⟨rfl, rfl⟩
        refine b2_eq (fun hb => ?_) (fun hb => ?_)
        · refine ⟨fun (c : nI k ||| h1.1 (P + 6) (nI p).toNatClampNeg = nI k) => ?_, fun (c : ¬ nI k ||| h1.1 (P + 6) (nI p).toNatClampNeg = nI k) => ?_⟩
          · rw [e6, fa_or] at c
            have ol : k ||| hbN w p n < 2 ^ n := Nat.or_lt_two_pow hk2 ob.1
            have c : k ||| hbN w p n = k := (nI_eq (by omega) (by omega)).mp c
            rw [mev_s (Or.inr (by rw [lfo, decide_eq_false (fun q => q c), Bool.and_false]; rfl))] at k2
            exact k2.mask [true, true, true, true, true, true, false]
          · have ol : k ||| hbN w p n < 2 ^ n := Nat.or_lt_two_pow hk2 ob.1
            have eT : nI k ||| h1.1 (P + 6) (nI p).toNatClampNeg = nI (k ||| hbN w p n) := by rw [e6, fa_or]
            rw [eT] at c
            have c : ¬ k ||| hbN w p n = k := fun q => c (by rw [q])
            have hgt := or_gt c
            refine ⟨rfl, _, rfl, rfl, (show vp_in (nI k ||| h1.1 (P + 6) (nI p).toNatClampNeg) 64 by rw [eT]; exact vp_in_nI (by omega) (by decide)), ?_⟩
            have ev : h1.1 25 (nI k ||| h1.1 (P + 6) (nI p).toNatClampNeg).toNatClampNeg = lI 1000 (lf w n (2 ^ n - 1) 64 (k ||| hbN w p n)) := by
              rw [eT, nI_clamp (by omega)]; exact gk _ hgt ol
            refine sp_mmin hA rfl rfl rfl (k1 := 725) (by decide +kernel) (by decide) ?_
            have hE : ¬ k = 2 ^ n - 1 := by omega
            have em : mev w n k (p + 1) = omn (mev w n k p) ((lf w n (2 ^ n - 1) 64 (k ||| hbN w p n)).map (· + 1)) := by
              rw [mev, mev, if_neg hE, if_neg hE, lfm]
              congr 1
              rw [lfo, hb, decide_eq_true c]; rfl
            rw [em, ← lI_mn2 (by decide) (by decide) (fun u hu => mev_le hu) (fun u hu => lf_le 64 _ u hu), ← ev, ← mmin_mn] at k2
            exact qm_wp_ok hA [16] 20 _ _ _ _ _ _ (k2.mask [true, true, true, true, true, true, false])
        · rw [mev_s (Or.inr (by rw [lfo, hb]; rfl))] at k2
          exact k2.mask [true, true, true, true, true, true, false]
    refine qm_wp_ok hA [16] 40 _ _ _ _ _ _ ⟨fun q => absurd q (nI_pos (by omega)), fun _ => ⟨fun (c : ¬ nI k = nI (2 ^ n - 1)) => ?_, fun (c : nI k = nI (2 ^ n - 1)) => ?_⟩⟩
    · have hE : ¬ k = 2 ^ n - 1 := fun q => c (by rw [q])
      rw [mev, if_neg hE] at inner
      exact inner
    · have hE : k = 2 ^ n - 1 := (nI_eq (by omega) (by omega)).mp c
      rw [mev, if_pos hE] at inner
      exact inner
theorem lI_eq {o : Option Nat} {u : Nat} (hu : u ≤ 64) (ho : ∀ v, o = some v → v ≤ 64) : lI 1000 o = nI u ↔ o = some u := by
  cases o with
  | none => exact ⟨fun q => by have := (nI_eq (a := 1000) (by decide) (by omega)).mp q; omega, fun q => absurd q (by simp)⟩
  | some v =>
    have := ho v rfl
    exact ⟨fun q => by have : v = u := (nI_eq (by omega) (by omega)).mp q; rw [this], fun q => by rw [Option.some.inj q]; rfl⟩
theorem c_firstTeller {G : qm_G} (hG : G.2.2.2.2 = true) (d : Nat) (h : qm_H) {P n : Nat} {w : Nat → Int32} (t : TO h P w n) (v : VT w n) (g : TG h w n (2 ^ n)) {S u : Nat} (hS : S < 2 ^ n) (hl : lf w n (2 ^ n - 1) 64 S = some (u + 1)) : qm_Ev G (d + 1) 0 0 qyX6_firstTeller [.ref 24, .ref P, .int (nI S)] h (fun r h' => r = some (.int (nI (tF w n (2 ^ n - 1) u S))) ∧ h = h') := by
  have hn := v.1
  obtain ⟨p1, p2⟩ := p64 hn
  obtain ⟨f1, f2, f3, f4⟩ := tF_spec hn (by omega) hl
  have hu := lf_le 64 _ _ hl
  refine qm_Ev.by (M := mX6_firstTeller) okX6_firstTeller (Nat.le_of_ble_eq_true rfl) hG fun z hA => ?_
  refine qm_wp_ok hA [2] 20 _ _ _ _ _ _ ?_
  refine (qm_for (P := fun p => p ≤ tF w n (2 ^ n - 1) u S → qm_PW G mX6_firstTeller z 2 0 0 [vr 24, vr P, vi (nI S), vi (nI p)] [] h) (N := n) ?_ ?_) (Nat.zero_le _)
  · intro hle; omega
  · intro p hp key hle
    have e6 := t.hb hp hn
    have ol : S ||| hbN w p n < 2 ^ n := Nat.or_lt_two_pow hS (hb64 w p hn).1
    have eT : nI S ||| h.1 (P + 6) (nI p).toNatClampNeg = nI (S ||| hbN w p n) := by rw [e6, fa_or]
    have e1 : h.1 25 (nI S ||| h.1 (P + 6) (nI p).toNatClampNeg).toNatClampNeg = lI 1000 (lf w n (2 ^ n - 1) 64 (S ||| hbN w p n)) := by rw [eT, nI_clamp (by omega)]; exact g _ (by omega) ol
    have e2 : h.1 25 (nI S).toNatClampNeg - 1 = nI u := by
      rw [nI_clamp (by omega), g S (by omega) hS, hl]
      exact nI_pred u
    have nxt : ¬ (bit (nI S) (nI p) = true ∧ lf w n (2 ^ n - 1) 64 (S ||| hbN w p n) = some u) → qm_PW G mX6_firstTeller z 2 0 0 [vr 24, vr P, vi (nI S), vi (nI p + 1)] [] h := fun hno => by
      rw [nI_1]
      refine key ?_
      rcases Nat.lt_or_ge p (tF w n (2 ^ n - 1) u S) with z | z
      · omega
      · exact absurd ⟨by rw [show p = tF w n (2 ^ n - 1) u S by omega]; exact f2, by rw [show p = tF w n (2 ^ n - 1) u S by omega]; exact f3⟩ hno
    refine qm_wp_ok hA [2] 60 _ _ _ _ _ _ ⟨t.is, fun (z0 : h.1 P 0 ≤ nI p) => absurd z0 (by rw [t.pp]; exact nI_ge (by omega) (by omega)), fun _ => ⟨0, 0, _, c_isIn hG _ h (nI S) (nI p), ⟨Nat.le_refl _, Nat.le_refl _⟩, ?_⟩⟩
    rintro _ _ ⟨rfl, rfl⟩
    refine b2_eq (fun hb => ⟨rfl, _, rfl, t.is, _, t.rd (k := 6) (by decide) (by decide), t.ar (k := 6) (by decide) (by decide), t.ln (k := 6) (by decide) (by decide) (by omega), rfl, (show vp_in (nI S ||| h.1 (P + 6) (nI p).toNatClampNeg) 64 by rw [eT]; exact vp_in_nI (by omega) (by decide)), rfl, _, rfl, rfl, (vp_in_nI (by omega) (by decide) : vp_in (nI S) 64), fun (c : ¬ h.1 25 (nI S ||| h.1 (P + 6) (nI p).toNatClampNeg).toNatClampNeg = h.1 25 (nI S).toNatClampNeg - 1) => ?_, fun (c : h.1 25 (nI S ||| h.1 (P + 6) (nI p).toNatClampNeg).toNatClampNeg = h.1 25 (nI S).toNatClampNeg - 1) => ⟨trivial, congV ?_, rfl⟩⟩) (fun hb => nxt (fun q => by rw [hb] at q; exact absurd q.1 (by decide)))
    · rw [e1, e2, lI_eq (by omega) (fun x hx => lf_le 64 _ x hx)] at c
      exact nxt (fun q => c q.2)
    · rw [e1, e2, lI_eq (by omega) (fun x hx => lf_le 64 _ x hx)] at c
      rcases Nat.lt_or_ge p (tF w n (2 ^ n - 1) u S) with z | z
      · exact absurd ⟨hb, c⟩ (f4 p z)
      · rw [show tF w n (2 ^ n - 1) u S = p by omega]
theorem c_tellers {G : qm_G} (hG : G.2.2.2.2 = true) (d : Nat) (h : qm_H) {P n : Nat} {w : Nat → Int32} (t : TO h P w n) (v : VT w n) {S : Nat} (hS : S < 2 ^ n) (k : Int32) : qm_Ev G (d + 2) 0 0 qyX6_tellers [.ref 24, .ref P, .int (nI S), .int k] h (fun r h' => r = some (.int (match lf w n (2 ^ n - 1) 64 S with
    | none => -1
    | some u => if k = -1 then nI u else if inb k u then nI ((tPath w n (2 ^ n - 1) u S).getD k.toNatClampNeg 0) else -1)) ∧ sb [25] h h') := by
  have hn := v.1
  obtain ⟨p1, p2⟩ := p64 hn
  have eS : nI S &&& nI (2 ^ n - 1) = nI S := by rw [fa_and, and_all hS]
  refine qm_Ev.by (M := mX6_tellers) okX6_tellers (Nat.le_of_ble_eq_true rfl) hG fun z hA => ?_
  refine qm_wp_ok hA [40] 60 _ _ _ _ _ _ ?_
  refine ⟨rfl, 0, 0, _, c_measure hG _ h t v, ⟨Nat.le_refl _, Nat.le_refl _⟩, ?_⟩
  rintro _ h1 ⟨rfl, g, a⟩
  have t := sb25 a t
  refine ⟨t.is, 0, 0, _, c_everyone hG _ h1 t hn, ⟨Nat.le_refl _, Nat.le_refl _⟩, ?_⟩
  rintro _ _ ⟨rfl, rfl⟩
  have eg : h1.1 25 (nI S).toNatClampNeg = lI 1000 (lf w n (2 ^ n - 1) 64 S) := by rw [nI_clamp (by omega)]; exact g S (by omega) hS
  refine ⟨rfl, _, rfl, rfl, (show vp_in (nI S &&& nI (2 ^ n - 1)) 64 by rw [eS]; exact vp_in_nI (by omega) (by decide)), ?_⟩
  rw [eS, eg]
  cases q : lf w n (2 ^ n - 1) 64 S with
  | none => exact ⟨fun (c : nI 1000 < nI 1000) => absurd c (by decide), fun _ => ⟨trivial, rfl, a⟩⟩
  | some u =>
    have hu := lf_le 64 _ u q
    have hup := lf_pop hn 64 S u hS q
    refine ⟨fun _ => ⟨fun (ck : ¬ k = -1) => ⟨fun (c0 : k < 0) => ⟨trivial, congV ?_, a⟩, fun (c0 : ¬ k < 0) => ⟨rfl, _, rfl, rfl, (vp_in_nI (by omega) (by decide) : vp_in (nI S) 64), fun (c : k < h1.1 25 (nI S).toNatClampNeg) => ?_, fun (c : ¬ k < h1.1 25 (nI S).toNatClampNeg) => ⟨trivial, congV ?_, a⟩⟩⟩, fun (ck : k = -1) => ⟨rfl, _, rfl, rfl, (vp_in_nI (by omega) (by decide) : vp_in (nI S) 64), trivial, congV ?_, a⟩⟩, fun (c : ¬ nI u < nI 1000) => absurd (nI_lt (by omega) (by decide)) c⟩
    · show (-1 : Int32) = if k = -1 then nI u else if inb k u then nI ((tPath w n (2 ^ n - 1) u S).getD k.toNatClampNeg 0) else -1
      rw [if_neg ck, inb_lt (by omega), decide_eq_false (Int32.not_le.mpr c0)]; rfl
    · have c : k < nI u := by rw [eg, q] at c; exact c
      obtain ⟨kk, kk1, kk2⟩ := inb_e (k := k) (m := u) (by omega) (by rw [inb_lt (by omega), decide_eq_true (Int32.not_lt.mp c0), decide_eq_true c]; rfl)
      have loop : ∀ r S' u' i x6, i + r = kk → S' < 2 ^ n → lf w n (2 ^ n - 1) 64 S' = some u' → r < u' → (tPath w n (2 ^ n - 1) u' S').getD r 0 = (tPath w n (2 ^ n - 1) u S).getD kk 0 → qm_PW G mX6_tellers z 40 0 0 [vr 24, vr P, vi (nI S), vi k, vi (nI S), vi (nI S'), vi x6, vi (nI i)] [] h1 := by
        intro r
        induction r with
        | zero =>
          intro S' u' i x6 hi hS' hl hr hx
          obtain ⟨y, rfl⟩ : ∃ y, u' = y + 1 := ⟨u' - 1, by omega⟩
          obtain ⟨f1, f2, f3, f4⟩ := tF_spec hn (by omega) hl
          have e6 := t.hb f1 hn
          refine qm_wp_ok hA [40] 60 _ _ _ _ _ _ ⟨fun (z : k < nI i) => absurd z (by rw [kk2]; exact nI_nlt (by omega) (by omega)), fun _ => ⟨fun (z : nI 6 ≤ nI i) => absurd z (nI_ge (by omega) (by decide)), fun _ => ⟨rfl, 0, 0, _, c_firstTeller hG _ h1 t v g hS' hl, ⟨Nat.le_refl _, Nat.le_refl _⟩, ?_⟩⟩⟩
          rintro _ _ ⟨rfl, rfl⟩
          refine ⟨t.is, 0, 0, _, c_has hG _ h1 t hn _, ⟨Nat.le_refl _, Nat.le_refl _⟩, ?_⟩
          rintro _ _ ⟨rfl, rfl⟩
          rw [inb_n (by omega) f1]
          refine ⟨fun z => absurd z (by decide), fun _ => ⟨t.is, _, t.rd (k := 6) (by decide) (by decide), t.ar (k := 6) (by decide) (by decide), t.ln (k := 6) (by decide) (by decide) (by omega), ?_⟩⟩
          refine qm_wp_ok hA [] 20 _ _ _ _ _ _ ⟨fun _ => ⟨trivial, congV ?_, a⟩, fun (z : ¬ k < nI i + 1) => absurd (by rw [nI_1, kk2]; exact nI_lt (by omega) (by omega)) z⟩
          have hx : tF w n (2 ^ n - 1) y S' = (tPath w n (2 ^ n - 1) u S).getD kk 0 := hx
          rw [hx, q]
          show _ = if k = -1 then nI u else if inb k u then nI ((tPath w n (2 ^ n - 1) u S).getD k.toNatClampNeg 0) else -1
          rw [if_neg ck, kk2, inb_n (by omega) kk1, nI_clamp (by omega)]; rfl
        | succ r ih =>
          intro S' u' i x6 hi hS' hl hr hx
          obtain ⟨y, rfl⟩ : ∃ y, u' = y + 1 := ⟨u' - 1, by omega⟩
          obtain ⟨f1, f2, f3, f4⟩ := tF_spec hn (by omega) hl
          have e6 := t.hb f1 hn
          have ol : S' ||| hbN w (tF w n (2 ^ n - 1) y S') n < 2 ^ n := Nat.or_lt_two_pow hS' (hb64 w _ hn).1
          have k2 := ih (S' ||| hbN w (tF w n (2 ^ n - 1) y S') n) y (i + 1) (nI (tF w n (2 ^ n - 1) y S')) (by omega) ol f3 (by omega) hx
          rw [← nI_1, ← fa_or, ← e6] at k2
          refine qm_wp_ok hA [40] 60 _ _ _ _ _ _ ⟨fun (z : k < nI i) => absurd z (by rw [kk2]; exact nI_nlt (by omega) (by omega)), fun _ => ⟨fun (z : nI 6 ≤ nI i) => absurd z (nI_ge (by omega) (by decide)), fun _ => ⟨rfl, 0, 0, _, c_firstTeller hG _ h1 t v g hS' hl, ⟨Nat.le_refl _, Nat.le_refl _⟩, ?_⟩⟩⟩
          rintro _ _ ⟨rfl, rfl⟩
          refine ⟨t.is, 0, 0, _, c_has hG _ h1 t hn _, ⟨Nat.le_refl _, Nat.le_refl _⟩, ?_⟩
          rintro _ _ ⟨rfl, rfl⟩
          rw [inb_n (by omega) f1]
          exact ⟨fun z => absurd z (by decide), fun _ => ⟨t.is, _, t.rd (k := 6) (by decide) (by decide), t.ar (k := 6) (by decide) (by decide), t.ln (k := 6) (by decide) (by decide) (by omega), k2⟩⟩
      exact loop kk S u 0 (-1) (by omega) hS q kk1 rfl
    · rw [eg, q] at c
      show (-1 : Int32) = if k = -1 then nI u else if inb k u then nI ((tPath w n (2 ^ n - 1) u S).getD k.toNatClampNeg 0) else -1
      rw [if_neg ck, inb_lt (by omega), decide_eq_false (show ¬ k < nI u from c), Bool.and_false]; rfl
    · show h1.1 25 (nI S).toNatClampNeg = if k = -1 then nI u else if inb k u then nI ((tPath w n (2 ^ n - 1) u S).getD k.toNatClampNeg 0) else -1
      rw [if_pos ck, eg, q]; rfl
