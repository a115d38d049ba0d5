/-! the class: what is asked of a town -/
theorem nI_self (y : Int32) : nI y.toBitVec.toNat = y := by
  apply Int32.toBitVec_inj.mp
  apply BitVec.eq_of_toNat_eq
  rw [pk_tn y.toBitVec.isLt]
theorem VT.fo {w : Nat → Int32} {n : Nat} (v : VT w n) {f : Nat} (hf : f < 6) : ∃ s, s < 64 ∧ w (7 + f) = nI s := v.2.2.2.1 f hf
theorem VT.kn {w : Nat → Int32} {n : Nat} (v : VT w n) {p : Nat} (hp : p < 6) : ∃ s, s < 64 ∧ mi0 w p = nI s := by
  obtain ⟨s, s1, s2, -⟩ := v.2.2.2.2.2.1 p hp
  exact ⟨s, s1, s2⟩
theorem VT.he {w : Nat → Int32} {n : Nat} (v : VT w n) {p : Nat} (hp : p < 6) : ∃ s, s < 2 ^ n ∧ s < 64 ∧ w (25 + p) = nI s := by
  obtain ⟨s, s1, s2, -⟩ := v.2.2.2.2.2.2.1 p hp
  have : 2 ^ n ≤ 2 ^ 6 := Nat.pow_le_pow_right (by decide) v.1
  exact ⟨s, s1, by omega, s2⟩
theorem VT.wh {w : Nat → Int32} {n : Nat} (v : VT w n) {f : Nat} (hf : f < 6) : ∃ s, s < 64 ∧ s_whole w f = nI s := by
  obtain ⟨s, s1, s2⟩ := v.fo hf
  obtain ⟨o1, o2⟩ := s_or1 s1 hf
  exact ⟨_, o2, by rw [s_whole, Int32.or_comm, s2, o1]⟩
theorem lt_and {x : Int32} {s : Nat} (hx : x = nI s) (hs : s < 64) (y : Int32) : ∃ u, u < 64 ∧ x &&& y = nI u := ⟨s &&& y.toBitVec.toNat, Nat.lt_of_le_of_lt Nat.and_le_left hs, by rw [hx, ← fa_and, nI_self]⟩
theorem lt_63 {x : Int32} {s : Nat} (hx : x = nI s) (hs : s < 64) : x &&& 63 = x := by
  have e : nI s &&& 63 = nI (s % 2 ^ 6) := pk_andN (by omega) 6 rfl
  rw [hx, e, Nat.mod_eq_of_lt hs]
theorem mx_le {a b : Int32} (h : b ≤ a) : mx a b = a := by
  rw [mx]
  split
  · exact Int32.le_antisymm h (by assumption)
  · rfl
theorem mx_nle {a b : Int32} (h : ¬ b ≤ a) : mx a b = b := by
  rw [mx, if_pos (Int32.le_of_lt (Int32.not_le.mp h))]
theorem c_whole {G : qm_G} (hG : G.2.2.2.2 = true) (d : Nat) (h : qm_H) {P n : Nat} {w : Nat → Int32} (t : TO h P w n) (v : VT w n) {f : Nat} (hf : f < 6) : qm_Ev G (d + 1) 0 0 qyX8_whole [.ref P, .int (nI f)] h (fun r h' => r = some (.int (s_worth w (s_whole w f) 6)) ∧ h = h') := by
  obtain ⟨s, s1, s2⟩ := v.wh hf
  refine qm_Ev.run (M := mX8_whole) okX8_whole rfl hG fun z => ?_
  refine ⟨t.is, _, t.rd (k := 7) (by decide) (by decide), t.is, 0, 0, _, c_wholeOf hG d h t hf, ⟨Nat.le_refl _, Nat.le_refl _⟩, ?_⟩
  rintro _ _ ⟨rfl, rfl⟩
  have e : s_whole w f &&& 63 = nI s := by rw [lt_63 s2 s1, s2]
  refine ⟨t.ar (k := 7) (by decide) (by decide), (show vp_in (s_whole w f &&& 63) (qm_kn true h (P + 7)).2 by rw [e]; exact t.l7 s1), trivial, congV ?_, rfl⟩
  show h.1 (P + 7) (s_whole w f &&& 63).toNatClampNeg = _
  rw [e, t.wo s1, (worth_N v.w _ 6 (Nat.le_refl _)).1, s2]
theorem c_gain {G : qm_G} (hG : G.2.2.2.2 = true) (d : Nat) (h : qm_H) {P n : Nat} {w : Nat → Int32} (t : TO h P w n) (v : VT w n) {p f : Nat} (hf : f < 6) : qm_Ev G (d + 1) 0 0 qyX8_gain [.ref P, .int (nI p), .int (nI f)] h (fun r h' => r = some (.int (nI (learntN w (mi0 w) p f n))) ∧ h = h') := by
  have hn := v.1
  obtain ⟨s, s1, s2⟩ := v.wh hf
  refine qm_Ev.by (M := mX8_gain) okX8_gain (Nat.le_of_ble_eq_true rfl) hG fun z hA => ?_
  refine qm_wp_ok hA [8] 20 _ _ _ _ _ _ ?_
  refine ⟨t.is, 0, 0, _, c_wholeOf hG d h t hf, ⟨Nat.le_refl _, Nat.le_refl _⟩, ?_⟩
  rintro _ _ ⟨rfl, rfl⟩
  refine qm_for (P := fun q => qm_PW G mX8_gain z 8 0 0 [vr P, vi (nI p), vi (nI f), vi (s_whole w f), vi (nI (learntN w (mi0 w) p f q)), vi (nI q)] [] h) (N := n) ?_ ?_
  · exact qm_wp_ok hA [] 20 _ _ _ _ _ _ ⟨t.is, fun _ => ⟨trivial, rfl, rfl⟩, fun (q : ¬ h.1 P 0 ≤ nI n) => absurd (by rw [t.pp]; exact Int32.le_refl _) q⟩
  · intro q hq key
    rw [← nI_1, learntN, ← nI_add] at key
    refine qm_wp_ok hA [8] 60 _ _ _ _ _ _ ⟨t.is, fun (z0 : h.1 P 0 ≤ nI q) => absurd z0 (by rw [t.pp]; exact nI_ge hq (by omega)), fun _ => ⟨t.is, _, t.rd (k := 5) (by decide) (by decide), t.ar (k := 5) (by decide) (by decide), t.ln (k := 5) (by decide) (by decide) (by omega), 0, 0, _, c_isIn hG d h _ (nI p), ⟨Nat.le_refl _, Nat.le_refl _⟩, ?_⟩⟩
    rintro _ _ ⟨rfl, rfl⟩
    rw [(t.at (by omega : q < 6)).2.2.2.2.1]
    refine b2_eq (fun hb => ?_) (fun hb => ?_)
    · rw [if_pos (show s_hears w q p = true from hb)] at key
      obtain ⟨u, u1, u2⟩ := lt_and s2 s1 (mi0 w q ^^^ -1)
      have e4 : h.1 (P + 4) (nI q).toNatClampNeg = mi0 w q := (t.at (by omega : q < 6)).2.2.2.1
      have e : (s_whole w f &&& (h.1 (P + 4) (nI q).toNatClampNeg ^^^ -1)) &&& 63 = nI u := by rw [e4, lt_63 u2 u1, u2]
      refine ⟨t.is, _, t.rd (k := 7) (by decide) (by decide), t.is, _, t.rd (k := 4) (by decide) (by decide), t.ar (k := 4) (by decide) (by decide), t.ln (k := 4) (by decide) (by decide) (by omega), t.ar (k := 7) (by decide) (by decide), (show vp_in ((s_whole w f &&& (h.1 (P + 4) (nI q).toNatClampNeg ^^^ -1)) &&& 63) (qm_kn true h (P + 7)).2 by rw [e]; exact t.l7 u1), ?_⟩
      have e7 : nI (worthN w (s_whole w f &&& (mi0 w q ^^^ -1)) 6) = h.1 (P + 7) ((s_whole w f &&& (h.1 (P + 4) (nI q).toNatClampNeg ^^^ -1)) &&& 63).toNatClampNeg := by rw [e, t.wo u1, u2]
      rw [e7] at key
      exact key
    · rw [if_neg (by rw [show s_hears w q p = false from hb]; decide)] at key
      exact key
theorem c_knowsN {G : qm_G} (hG : G.2.2.2.2 = true) (d : Nat) (h : qm_H) {P n : Nat} {w : Nat → Int32} (t : TO h P w n) (hn : n ≤ 6) {p : Nat} (hp : p < n) (f : Int32) : qm_Ev G (d + 1) 0 0 qyX8_knows [.ref P, .int (nI p), .int f] h (fun r h' => r = some (.int (b2 (bit (mi0 w p) f))) ∧ h = h') := by
  have k := c_knows hG d h t hn (nI p) f
  rw [inb_n (by omega) hp, nI_clamp (by omega), Bool.true_and] at k
  exact k
theorem c_bestFact {G : qm_G} (hG : G.2.2.2.2 = true) (d : Nat) (h : qm_H) {P n : Nat} {w : Nat → Int32} (t : TO h P w n) (v : VT w n) {p : Nat} (hp : p < n) : qm_Ev G (d + 2) 0 0 qyX8_bestFact [.ref P, .int (nI p)] h (fun r h' => r = some (.int (s_best w (mi0 w) n p 6).1) ∧ h = h') := by
  have hn := v.1
  refine qm_Ev.by (M := mX8_bestFact) okX8_bestFact (Nat.le_of_ble_eq_true rfl) hG fun z hA => ?_
  refine qm_wp_ok hA [6] 20 _ _ _ _ _ _ ?_
  refine qm_for (P := fun f => qm_PW G mX8_bestFact z 6 0 0 [vr P, vi (nI p), vi (s_best w (mi0 w) n p f).1, vi (s_best w (mi0 w) n p f).2, vi (nI f), vu] [] h) (N := 6) ?_ ?_
  · exact qm_wp_ok hA [] 20 _ _ _ _ _ _ ⟨fun _ => ⟨trivial, rfl, rfl⟩, fun q => absurd (by decide) q⟩
  · intro f hf key
    rw [← nI_1, s_best] at key
    refine qm_wp_ok hA [6] 60 _ _ _ _ _ _ ⟨fun q => absurd q (nI_ge hf (by decide)), fun _ => ⟨t.is, 0, 0, _, c_knowsN hG d h t hn hp (nI f), ⟨Nat.le_refl _, Nat.le_refl _⟩, ?_⟩⟩
    rintro _ _ ⟨rfl, rfl⟩
    refine b2_eq (fun hb => ⟨t.is, 0, 0, _, c_gain hG d h t v hf, ⟨Nat.le_refl _, Nat.le_refl _⟩, ?_⟩) (fun hb => ?_)
    · rintro _ _ ⟨rfl, rfl⟩
      rw [s_by, if_pos hb, (learnt_N v.w _ _ _ _).1] at key
      refine ⟨fun c => ?_, fun c => ?_⟩
      · rw [if_pos c, mx_le c] at key
        exact key.mask [true, true, true, true, true, false]
      · rw [if_neg c, mx_nle c] at key
        exact key.mask [true, true, true, true, true, false]
    · have eb : s_by w (mi0 w) n p f = -1 := by rw [s_by, if_neg (by rw [hb]; decide)]
      rw [eb] at key
      refine ⟨fun (c : (-1 : Int32) ≤ (s_best w (mi0 w) n p f).2) => ?_, fun (c : ¬ (-1 : Int32) ≤ (s_best w (mi0 w) n p f).2) => ?_⟩
      · rw [if_pos c, mx_le c] at key
        exact key.mask [true, true, true, true, true, false]
      · rw [if_neg c, mx_nle c] at key
        exact key.mask [true, true, true, true, true, false]
theorem best_v {w mi : Nat → Int32} {n p : Nat} : ∀ k b u, bestN w mi n p k = some (b, u) → u = learntN w mi p b n
  | 0, b, u, h => by rw [bestN] at h; exact absurd h (by simp)
  | k + 1, b, u, h => by
    have ih := fun b u => best_v (w := w) (mi := mi) (n := n) (p := p) k b u
    rw [bestN] at h
    split at h
    · cases q : bestN w mi n p k with
      | none => rw [q] at h; have := Option.some.inj h; injection this with h1 h2; rw [← h2, ← h1]
      | some x =>
        obtain ⟨b', u'⟩ := x
        rw [q] at h
        have h : (if u' < learntN w mi p k n then some (k, learntN w mi p k n) else some (b', u')) = some (b, u) := h
        split at h
        · have := Option.some.inj h; injection this with h1 h2; rw [← h2, ← h1]
        · exact ih b u (q.trans h)
    · exact ih b u h
theorem c_bestGain {G : qm_G} (hG : G.2.2.2.2 = true) (d : Nat) (h : qm_H) {P n : Nat} {w : Nat → Int32} (t : TO h P w n) (v : VT w n) {p : Nat} (hp : p < n) : qm_Ev G (d + 3) 0 0 qyX8_bestGain [.ref P, .int (nI p)] h (fun r h' => r = some (.int (nI (bgN w (mi0 w) n p))) ∧ h = h') := by
  have hn := v.1
  obtain ⟨B1, B2⟩ := best_N v.w (mi0 w) hn p 6 (Nat.le_refl _)
  refine qm_Ev.run (M := mX8_bestGain) okX8_bestGain rfl hG fun z => ?_
  refine ⟨t.is, 0, 0, _, c_bestFact hG d h t v hp, ⟨Nat.le_refl _, Nat.le_refl _⟩, ?_⟩
  rintro _ _ ⟨rfl, rfl⟩
  cases q : bestN w (mi0 w) n p 6 with
  | none =>
    have ex : (s_best w (mi0 w) n p 6).1 = -1 := by rw [B1, q]; rfl
    refine ⟨fun c => absurd ex c, fun _ => ⟨trivial, ?_, rfl⟩⟩
    rw [bgN, q]; rfl
  | some x =>
    obtain ⟨b, u⟩ := x
    obtain ⟨b6, u7⟩ := B2 b u q
    have ex : (s_best w (mi0 w) n p 6).1 = nI b := by rw [B1, q]; rfl
    refine ⟨fun _ => ⟨t.is, 0, 0, _, (by rw [ex]; exact c_gain hG (d + 1) h t v b6), ⟨Nat.le_refl _, Nat.le_refl _⟩, ?_⟩, fun c => absurd (ex.symm.trans c) (nI_ne1 (by omega))⟩
    rintro _ _ ⟨rfl, rfl⟩
    refine ⟨trivial, ?_, rfl⟩
    have : bgN w (mi0 w) n p = u := by rw [bgN, q]
    rw [this, best_v 6 b u q]
theorem c_knownBy {G : qm_G} (hG : G.2.2.2.2 = true) (d : Nat) (h : qm_H) {P n : Nat} {w : Nat → Int32} (t : TO h P w n) (v : VT w n) (a : Int32) : qm_Ev G (d + 2) 0 0 qyX8_knownBy [.ref P, .int a] h (fun r h' => r = some (.int (s_knownBy (mi0 w) n a 6)) ∧ h = h') := by
  have hn := v.1
  refine qm_Ev.by (M := mX8_knownBy) okX8_knownBy (Nat.le_of_ble_eq_true rfl) hG fun z hA => ?_
  refine qm_wp_ok hA [4] 20 _ _ _ _ _ _ ?_
  refine qm_for (P := fun f => qm_PW G mX8_knownBy z 4 0 0 [vr P, vi a, vi (s_knownBy (mi0 w) n a f), vi (nI f)] [] h) (N := 6) ?_ ?_
  · exact qm_wp_ok hA [] 20 _ _ _ _ _ _ ⟨fun _ => ⟨trivial, rfl, rfl⟩, fun q => absurd (by decide) q⟩
  · intro f hf key
    rw [← nI_1, s_knownBy] at key
    have hk : knN (mi0 w) (nI f) n < 64 := Nat.lt_of_lt_of_le (knN_lt (mi0 w) (nI f) n (Nat.le_refl _)) (Nat.pow_le_pow_right (by decide) hn)
    refine qm_wp_ok hA [4] 60 _ _ _ _ _ _ ⟨fun q => absurd q (nI_ge hf (by decide)), fun _ => ⟨t.is, 0, 0, _, c_whoKnow hG d h t hn (nI f), ⟨Nat.le_refl _, Nat.le_refl _⟩, ?_⟩⟩
    rintro _ _ ⟨rfl, rfl⟩
    refine ⟨0, 0, _, c_bcX hG _ h _ (kn_N (mi0 w) (nI f) n hn) hk, ⟨Nat.le_refl _, Nat.le_refl _⟩, ?_⟩
    rintro _ _ ⟨rfl, rfl⟩
    refine ⟨fun c => ?_, fun c => ?_⟩
    · rw [if_neg c] at key
      exact key
    · rw [if_pos c] at key
      exact key
theorem c_dearest {G : qm_G} (hG : G.2.2.2.2 = true) (d : Nat) (h : qm_H) {P n : Nat} {w : Nat → Int32} (t : TO h P w n) (v : VT w n) : qm_Ev G (d + 2) 0 0 qyX8_dearest [.ref P] h (fun r h' => r = some (.int (nI (s_dearest w 5))) ∧ h = h') := by
  refine qm_Ev.by (M := mX8_dearest) okX8_dearest (Nat.le_of_ble_eq_true rfl) hG fun z hA => ?_
  refine qm_wp_ok hA [4] 20 _ _ _ _ _ _ ?_
  refine qm_for (P := fun f => qm_PW G mX8_dearest z 4 0 0 [vr P, vi (nI (s_dearest w f)), vi (nI (f + 1))] [] h) (N := 5) ?_ ?_
  · exact qm_wp_ok hA [] 20 _ _ _ _ _ _ ⟨fun _ => ⟨trivial, rfl, rfl⟩, fun q => absurd (by decide) q⟩
  · intro f hf key
    rw [← nI_1 (f + 1), s_dearest] at key
    have := s_dearest_le w f
    refine qm_wp_ok hA [4] 60 _ _ _ _ _ _ ⟨fun q => absurd q (nI_ge (by omega : f + 1 < 6) (by decide)), fun _ => ⟨t.is, 0, 0, _, c_whole hG d h t v (by omega : f + 1 < 6), ⟨Nat.le_refl _, Nat.le_refl _⟩, ?_⟩⟩
    rintro _ _ ⟨rfl, rfl⟩
    refine ⟨t.is, 0, 0, _, c_whole hG d h t v (by omega : s_dearest w f < 6), ⟨Nat.le_refl _, Nat.le_refl _⟩, ?_⟩
    rintro _ _ ⟨rfl, rfl⟩
    refine ⟨fun c => ?_, fun c => ?_⟩
    · rw [if_pos c] at key
      exact key
    · rw [if_neg c] at key
      exact key
