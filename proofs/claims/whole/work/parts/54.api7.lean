/-! the reference: years by a seed -/
theorem s_draw_nat (s : Int32) {k : Nat} (hk : 0 < k) (hk2 : k < 2 ^ 31) : ∃ j, j < k ∧ s_draw s (nI k) = nI j := by
  have h1 := pk_ushr (s_seed s) 16 16 (by decide)
  unfold s_draw
  obtain ⟨x, hx⟩ : ∃ x, x = ((s_seed s).toUInt32 >>> ((16 : Int32).toUInt32 &&& Int32.toUInt32 31)).toInt32 := ⟨_, rfl⟩
  rw [← hx] at h1 ⊢
  have h2 : x.toBitVec.toNat < 65536 := by
    rw [h1]
    have := (s_seed s).toBitVec.isLt
    omega
  have h3 : x = nI x.toBitVec.toNat := by
    apply Int32.toBitVec_inj.1
    show x.toBitVec = BitVec.ofNat 32 x.toBitVec.toNat
    rw [BitVec.ofNat_toNat, BitVec.setWidth_eq]
  obtain ⟨q, hq⟩ : ∃ q, q = x.toBitVec.toNat := ⟨_, rfl⟩
  rw [← hq] at h2 h3
  refine ⟨q % k, Nat.mod_lt _ hk, ?_⟩
  rw [h3]
  exact pk_rem (by omega) hk hk2
/-- a deed that is drawn: the seed, the play -/
def s_dd (w : Nat → Int32) (n : Nat) (s : Int32) (ps : PSt) : Int32 × PSt :=
  if s_draw s 8 ≤ 5 then
    (if ¬ nI n ≤ 0 ∧ ¬ 5 ≤ s_draw s 8 then
      (s_seed (s_seed (s_seed s)), (s_does w n (if 2 ≤ s_draw s 8 then (if 4 ≤ s_draw s 8 then 2 else 1) else 0) (s_draw (s_seed s) (nI n)) (s_draw (s_seed (s_seed s)) 6) (-1) ps).2)
    else if nI n ≤ 1 then (s_seed s, ps)
    else (s_seed (s_seed (s_seed (s_seed s))), (s_does w n 3 (s_draw (s_seed s) (nI n)) ((s_draw (s_seed (s_seed s)) (nI n - 1) + 1 + s_draw (s_seed s) (nI n)) - (s_draw (s_seed (s_seed s)) (nI n - 1) + 1 + s_draw (s_seed s) (nI n)) / nI n * nI n) (s_draw (s_seed (s_seed (s_seed s))) 6) ps).2))
  else (s_seed s, s_eve n ps)
/-- what a drawn deed leaves -/
def frd (h h' : qm_H) : Prop := pers h h' ∧ h'.1 26 22 = h.1 26 22 ∧ h'.1 26 23 = h.1 26 23
theorem fr.d {h h' : qm_H} (a : fr h h') : frd h h' := ⟨a.ps, a.2.2 22 (by decide), a.2.2 23 (by decide)⟩
theorem frd.tr {h h1 h2 : qm_H} (a : frd h h1) (b : frd h1 h2) : frd h h2 := ⟨a.1.tr b.1, b.2.1.trans a.2.1, b.2.2.trans a.2.2⟩
theorem frd.sd (h : qm_H) (v : Int32) : frd h (qm_si h 26 44 v) := ⟨pers.rf.s26, rfl, rfl⟩
theorem e_drawN {G : qm_G} (hG : G.2.2.2.2 = true) (d : Nat) (h : qm_H) {k : Nat} (hk : 0 < k) (hk2 : k < 2 ^ 31) (x : Int32) (hx : x = nI k) {s : Int32} (hs : h.1 26 44 = s) : qm_Ev G d 0 0 qyX10_draw [.ref 26, .int x] h (fun r h' => r = some (.int (s_draw s (nI k))) ∧ h' = qm_si h 26 44 (s_seed s)) := by
  rw [hx, ← hs]
  exact e_draw hG d h (nI k) (nI_ne0 hk hk2)
theorem e_drawDeed {G : qm_G} (hG : G.2.2.2.2 = true) (d : Nat) (h : qm_H) {t n : Nat} (ht : h.1 26 22 = nI t) (hk : t < 2) (hn : h.1 26 23 = nI n) (hn6 : n ≤ 6) : qm_Ev G (d + 4) 0 0 qyX10_drawDeed [.ref 26] h (fun r h' => r = none ∧ h'.1 26 44 = (s_dd (tw h t) n (h.1 26 44) (rps h)).1 ∧ rps h' = (s_dd (tw h t) n (h.1 26 44) (rps h)).2 ∧ frd h h') := by
  obtain ⟨s, hs⟩ : ∃ s, s = h.1 26 44 := ⟨_, rfl⟩
  rw [← hs]
  refine qm_Ev.by (M := mX10_drawDeed) okX10_drawDeed (Nat.le_of_ble_eq_true rfl) hG fun z hA => ?_
  refine qm_wp_ok hA [33, 41] 40 _ _ _ _ _ _ ?_
  refine ⟨rfl, 0, 0, _, e_draw hG (d + 3) h 8 (by decide), ⟨Nat.le_refl _, Nat.le_refl _⟩, ?_⟩
  rintro _ _ ⟨rfl, rfl⟩
  rw [← hs]
  obtain ⟨h1, hh1⟩ : ∃ x, x = qm_si h 26 44 (s_seed s) := ⟨_, rfl⟩
  rw [← hh1]
  have a1 : h1.1 26 44 = s_seed s := by rw [hh1]; rfl
  have a2 : rps h1 = rps h := by rw [hh1]; rfl
  have a3 : frd h h1 := by rw [hh1]; exact frd.sd h _
  have a4 : h1.1 26 23 = nI n := a3.2.2.trans hn
  have a5 : h1.1 26 22 = nI t := a3.2.1.trans ht
  have a6 : tw h1 t = tw h t := a3.1.row t
  have m41 : s_draw s 8 ≤ 5 → ¬ (¬ nI n ≤ 0 ∧ ¬ 5 ≤ s_draw s 8) → qm_PW G mX10_drawDeed z 41 0 0 [vr 26, vi (s_draw s 8), vu, vu] [] h1 := by
    intro c1 c2
    refine qm_wp_ok hA [] 60 _ _ _ _ _ _ ⟨rfl, fun (c3 : h1.1 26 23 ≤ 1) => ?_, fun (c3 : ¬ h1.1 26 23 ≤ 1) => ?_⟩
    · rw [a4] at c3
      have e : s_dd (tw h t) n s (rps h) = (s_seed s, rps h) := by rw [s_dd, if_pos c1, if_neg c2, if_pos c3]
      exact ⟨rfl, rfl, by rw [e]; exact a1, by rw [e]; exact a2, a3⟩
    · rw [a4] at c3
      have n2 : 2 ≤ n := by
        rcases Nat.lt_or_ge n 2 with q | q
        · exact absurd (nI_le (b := 1) (by omega) (by decide)) c3
        · exact q
      have en : nI n - 1 = nI (n - 1) := by
        have := nI_pred (n - 1)
        rw [show n - 1 + 1 = n by omega] at this
        exact this
      have a4' : h1.1 26 23 = nI n := a4
      obtain ⟨p, hp, ep⟩ := s_draw_nat (s_seed s) (k := n) (by omega) (by omega)
      obtain ⟨o, ho, eo⟩ := s_draw_nat (s_seed (s_seed s)) (k := n - 1) (by omega) (by omega)
      obtain ⟨c, hc, ec⟩ := s_draw_nat (s_seed (s_seed (s_seed s))) (k := 6) (by omega) (by omega)
      have ec' : s_draw (s_seed (s_seed (s_seed s))) 6 = nI c := ec
      have eoo : nI o + 1 + nI p - (nI o + 1 + nI p) / nI n * nI n = nI ((o + 1 + p) % n) := by
        rw [nI_1, nI_add]
        exact pk_rem (by omega) (by omega) (by omega)
      have e : s_dd (tw h t) n s (rps h) = (s_seed (s_seed (s_seed (s_seed s))), (s_does (tw h t) n 3 (nI p) (nI ((o + 1 + p) % n)) (nI c) (rps h)).2) := by
        rw [s_dd, if_pos c1, if_neg c2, if_neg c3, en, ep, eo, ec', eoo]
      refine ⟨rfl, rfl, 0, 0, _, e_drawN hG (d + 3) h1 (k := n) (by omega) (by omega) _ a4 a1, ⟨Nat.le_refl _, Nat.le_refl _⟩, ?_⟩
      rintro _ _ ⟨rfl, rfl⟩
      rw [ep]
      refine ⟨rfl, rfl, 0, 0, _, e_drawN hG (d + 3) (qm_si h1 26 44 (s_seed (s_seed s))) (k := n - 1) (by omega) (by omega) _ (by show h1.1 26 23 - 1 = _; rw [a4, en]) (s := s_seed (s_seed s)) rfl, ⟨Nat.le_refl _, Nat.le_refl _⟩, ?_⟩
      rintro _ _ ⟨rfl, rfl⟩
      rw [eo]
      refine ⟨rfl, by show ¬ h1.1 26 23 = 0; rw [a4]; exact nI_ne0 (by omega) (by omega), rfl, 0, 0, _, e_drawN hG (d + 3) (qm_si (qm_si h1 26 44 (s_seed (s_seed s))) 26 44 (s_seed (s_seed (s_seed s)))) (k := 6) (by omega) (by omega) _ rfl (s := s_seed (s_seed (s_seed s))) rfl, ⟨Nat.le_refl _, Nat.le_refl _⟩, ?_⟩
      rintro _ _ ⟨rfl, rfl⟩
      rw [ec]
      obtain ⟨h4, hh4⟩ : ∃ x, x = qm_si (qm_si (qm_si h1 26 44 (s_seed (s_seed s))) 26 44 (s_seed (s_seed (s_seed s)))) 26 44 (s_seed (s_seed (s_seed (s_seed s)))) := ⟨_, rfl⟩
      have b1 : h4.1 26 44 = s_seed (s_seed (s_seed (s_seed s))) := by rw [hh4]; rfl
      have b2 : rps h4 = rps h := by rw [hh4, ← a2]; rfl
      have b3 : frd h h4 := by rw [hh4]; exact ((a3.tr (frd.sd _ _)).tr (frd.sd _ _)).tr (frd.sd _ _)
      have b4 : (qm_si (qm_si (qm_si h1 26 44 (s_seed (s_seed s))) 26 44 (s_seed (s_seed (s_seed s)))) 26 44 (s_seed (s_seed (s_seed (s_seed s))))).1 26 22 = nI t := a5
      have b5 : (qm_si (qm_si (qm_si h1 26 44 (s_seed (s_seed s))) 26 44 (s_seed (s_seed (s_seed s)))) 26 44 (s_seed (s_seed (s_seed (s_seed s))))).1 26 23 = nI n := a4
      refine ⟨rfl, 0, 0, _, e_does hG d _ (t := t) (n := n) (wh := 3) b4 hk b5 hn6 (by decide) (nI p) _ (nI c) (fun q => absurd q (by decide)), ⟨Nat.le_refl _, Nat.le_refl _⟩, ?_⟩
      rintro _ h5 ⟨rfl, f1, f2⟩
      have f1' : rps h5 = (s_does (tw h4 t) n 3 (nI p) (nI o + 1 + nI p - (nI o + 1 + nI p) / h1.1 26 23 * h1.1 26 23) (nI c) (rps h4)).2 := by rw [hh4]; exact f1
      rw [a4, eoo] at f1'
      rw [← hh4] at f2
      refine ⟨rfl, rfl, ?_, ?_, b3.tr f2.d⟩
      · rw [e, f2.2.2 44 (by decide)]; exact b1
      · rw [e, f1', b2, b3.1.row t]
  have m33 : ∀ wh : Nat, wh < 3 → s_draw s 8 ≤ 5 → (¬ nI n ≤ 0 ∧ ¬ 5 ≤ s_draw s 8) → (if 2 ≤ s_draw s 8 then (if 4 ≤ s_draw s 8 then 2 else 1) else 0) = wh → qm_PW G mX10_drawDeed z 33 0 0 [vr 26, vi (s_draw s 8), vi (s_draw (s_seed s) (nI n)), vu] [.int (nI wh), .ref 26] (qm_si h1 26 44 (s_seed (s_seed s))) := by
    intro wh hwh c1 c2 c3
    obtain ⟨f, hf, ef⟩ := s_draw_nat (s_seed (s_seed s)) (k := 6) (by omega) (by omega)
    have ef' : s_draw (s_seed (s_seed s)) 6 = nI f := ef
    have e : s_dd (tw h t) n s (rps h) = (s_seed (s_seed (s_seed s)), (s_does (tw h t) n wh (s_draw (s_seed s) (nI n)) (nI f) (-1) (rps h)).2) := by
      rw [s_dd, if_pos c1, if_pos c2, c3, ef']
    refine qm_wp_ok hA [] 60 _ _ _ _ _ _ ⟨rfl, 0, 0, _, e_drawN hG (d + 3) (qm_si h1 26 44 (s_seed (s_seed s))) (k := 6) (by omega) (by omega) _ rfl (s := s_seed (s_seed s)) rfl, ⟨Nat.le_refl _, Nat.le_refl _⟩, ?_⟩
    rintro _ _ ⟨rfl, rfl⟩
    rw [ef]
    obtain ⟨h4, hh4⟩ : ∃ x, x = qm_si (qm_si h1 26 44 (s_seed (s_seed s))) 26 44 (s_seed (s_seed (s_seed s))) := ⟨_, rfl⟩
    have b1 : h4.1 26 44 = s_seed (s_seed (s_seed s)) := by rw [hh4]; rfl
    have b2 : rps h4 = rps h := by rw [hh4, ← a2]; rfl
    have b3 : frd h h4 := by rw [hh4]; exact (a3.tr (frd.sd _ _)).tr (frd.sd _ _)
    have k := e_does hG d h4 (t := t) (n := n) (wh := wh) (b3.2.1.trans ht) hk (b3.2.2.trans hn) hn6 (by omega) (s_draw (s_seed s) (nI n)) (nI f) (-1) (fun _ => ⟨f, hf, rfl⟩)
    rw [hh4] at k
    refine ⟨rfl, 0, 0, _, k, ⟨Nat.le_refl _, Nat.le_refl _⟩, ?_⟩
    rintro _ h5 ⟨rfl, f1, f2⟩
    rw [← hh4] at f1 f2
    refine ⟨rfl, rfl, ?_, ?_, b3.tr f2.d⟩
    · rw [e, f2.2.2 44 (by decide)]; exact b1
    · rw [e, f1, b2, b3.1.row t]
  refine ⟨fun c => ⟨rfl, fun (c2 : h1.1 26 23 ≤ 0) => ?_, fun (c2 : ¬ h1.1 26 23 ≤ 0) => ⟨fun c3 => ?_, fun c3 => ?_⟩⟩, fun c => ?_⟩
  · rw [a4] at c2
    exact m41 c (fun q => q.1 c2)
  · exact m41 c (fun q => q.2 c3)
  · rw [a4] at c2
    have n1 : 0 < n := by
      rcases Nat.eq_zero_or_pos n with q | q
      · exact absurd (by rw [q]; decide) c2
      · exact q
    refine ⟨rfl, rfl, 0, 0, _, e_drawN hG (d + 3) h1 (k := n) n1 (by omega) _ a4 a1, ⟨Nat.le_refl _, Nat.le_refl _⟩, ?_⟩
    rintro _ _ ⟨rfl, rfl⟩
    refine ⟨fun c4 => ⟨fun c5 => ?_, fun c5 => ?_⟩, fun c4 => ?_⟩
    · exact m33 2 (by decide) c ⟨c2, c3⟩ (by rw [if_pos c4, if_pos c5])
    · exact m33 1 (by decide) c ⟨c2, c3⟩ (by rw [if_pos c4, if_neg c5])
    · exact m33 0 (by decide) c ⟨c2, c3⟩ (by rw [if_neg c4])
  · have e : s_dd (tw h t) n s (rps h) = (s_seed s, s_eve n (rps h)) := by rw [s_dd, if_neg c]
    refine ⟨rfl, 0, 0, _, e_eve hG (d + 3) h1 a4 hn6, ⟨Nat.le_refl _, Nat.le_refl _⟩, ?_⟩
    rintro _ h2 ⟨rfl, f1, f2⟩
    refine ⟨rfl, rfl, ?_, ?_, a3.tr f2.d⟩
    · rw [e, f2.2.2 44 (by decide)]; exact a1
    · rw [e, f1, a2]
def s_draws (w : Nat → Int32) (n : Nat) (s : Int32) (ps : PSt) : Nat → Int32 × PSt
  | 0 => (s, ps)
  | k + 1 => s_dd w n (s_draws w n s ps k).1 (s_draws w n s ps k).2
def p_drawn (h : qm_H) (mt : Nat) (a sd k what : Int32) : Int32 := if inb k 61 && inb a mt then s_of (nn (tw h a.toNatClampNeg)) (s_draws (tw h a.toNatClampNeg) (nn (tw h a.toNatClampNeg)) sd (s_init (tw h a.toNatClampNeg)) k.toNatClampNeg).2 what else -1
theorem a_drawn {G : qm_G} (hG : G.2.2.2.2 = true) (d : Nat) (h : qm_H) {mt my ml : Nat} (hS : ST h mt my ml) (a sd k what : Int32) : qm_Ev G (d + 5) 0 0 qyX10_drawn [.ref 26, .int a, .int sd, .int k, .int what] h (fun r h' => r = some (.int (p_drawn h mt a sd k what)) ∧ pers h h') := by
  refine qm_Ev.by (M := mX10_drawn) okX10_drawn (Nat.le_of_ble_eq_true rfl) hG fun z hA => ?_
  obtain ⟨s1, s2, -, -, -, -, hT, -, -⟩ := hS
  refine qm_wp_ok hA [19] 40 _ _ _ _ _ _ ?_
  refine ⟨rfl, trivial, 0, 0, _, e_in hG (d + 4) (qm_si h 26 0 0) k 0 60, ⟨Nat.le_refl _, Nat.le_refl _⟩, ?_⟩
  rintro _ _ ⟨rfl, rfl⟩
  refine b2_eq (fun hb => ?_) (fun hb => ⟨trivial, by rw [p_drawn, show inb k 61 = false from hb]; rfl, pers.rf.s26⟩)
  have hb1 : inb k 61 = true := hb
  obtain ⟨kk, hkk, rfl⟩ := inb_e (by omega) hb1
  refine ⟨rfl, 0, 0, _, e_handC hG (d + 2) (qm_si h 26 0 0) (mt := mt) s1 s2 a, ⟨Nat.le_refl _, Nat.le_refl _⟩, ?_⟩
  rintro _ _ (⟨t, ht, rfl, rfl, rfl⟩ | ⟨e0, rfl, rfl⟩)
  · obtain ⟨i1, i2⟩ := p_in ht s2
    have vT := hT t ht
    have n6 := vT.1
    have eP : p_drawn h mt (nI t) sd (nI kk) what = s_of (nn (tw h t)) (s_draws (tw h t) (nn (tw h t)) sd (s_init (tw h t)) kk).2 what := by
      rw [p_drawn, hb1, i1, i2, nI_clamp (by omega)]; rfl
    refine ⟨fun _ => ⟨rfl, trivial, ?_⟩, fun q => absurd q (by decide)⟩
    have fin : pers h (hnd (qm_si h 26 0 0) t) := pers.rf.s26.tr (hnd.ps _ t)
    have loop : ∀ r i : Nat, i + r = kk → ∀ h2 : qm_H, h2.1 26 44 = (s_draws (tw h t) (nn (tw h t)) sd (s_init (tw h t)) i).1 → rps h2 = (s_draws (tw h t) (nn (tw h t)) sd (s_init (tw h t)) i).2 → frd (hnd (qm_si h 26 0 0) t) h2 → qm_PW G mX10_drawn z 19 0 0 [vr 26, vi (nI t), vi sd, vi (nI kk), vi what, vi (nI i)] [] h2 := by
      intro r
      induction r with
      | zero =>
        intro i hi h2 f1 f2 f3
        obtain rfl : i = kk := hi
        refine qm_wp_ok hA [] 30 _ _ _ _ _ _ ⟨fun _ => ⟨rfl, 0, 0, _, e_ofState hG (d + 4) h2 (n := nn (tw h t)) (f3.2.2.trans vT.2.1) n6 what, ⟨Nat.le_refl _, Nat.le_refl _⟩, ?_⟩, fun q => absurd (Int32.le_refl _) q⟩
        rintro _ _ ⟨rfl, rfl⟩
        exact ⟨trivial, by rw [eP, f2], fin.tr f3.1⟩
      | succ r ih =>
        intro i hi h2 f1 f2 f3
        have g1 : tw h2 t = tw h t := f3.1.row t
        refine qm_wp_ok hA [19] 30 _ _ _ _ _ _ ⟨fun q => absurd q (nI_ge (by omega) (by omega)), fun _ => ⟨rfl, 0, 0, _, e_drawDeed hG d h2 (t := t) (n := nn (tw h t)) f3.2.1 (by omega) (f3.2.2.trans vT.2.1) n6, ⟨Nat.le_refl _, Nat.le_refl _⟩, ?_⟩⟩
        rintro _ h3 ⟨rfl, k1, k2, k3⟩
        rw [g1, f1, f2] at k1 k2
        have kx := ih (i + 1) (by omega) h3 k1 k2 (f3.tr k3)
        rw [← nI_1] at kx
        exact kx
    exact loop kk 0 (Nat.zero_add kk) _ rfl rfl (frd.sd _ _)
  · exact ⟨fun q => absurd rfl q, fun _ => ⟨trivial, by rw [p_drawn, e0, Bool.and_false]; rfl, pers.rf.s26⟩⟩
