/-! the class: the next token -/
def ck (k : Nat) : Nat := if k = 0 then 0 else if k = 1 then 4 else k - 1
def CTK (h : qm_H) (B : Nat → Nat) (L a : Nat) : Prop := h.1 8 5 = nI (tE B L a) ∧ h.1 8 7 = nI (tB B L a) ∧ h.1 8 6 = nI (ck (tK B L a)) ∧ (tK B L a = 3 → h.1 8 8 = nI (tV B L a))
theorem c_nextToken {G : qm_G} (hG : G.2.2.2.2 = true) (d : Nat) (h : qm_H) {B : Nat → Nat} {L a : Nat} (hB : TP (h.1 2) B) (hL : L ≤ 600) (ha : h.1 8 5 = nI a) (haL : a ≤ L) : qm_Ev G (d + 2) 0 0 qyX2_nextToken [.ref 8, .ref 2, .int (nI L)] h (fun r h' => r = none ∧ CTK h' B L a ∧ cf h h' ∧ a ≤ tB B L a ∧ tB B L a ≤ tE B L a ∧ tE B L a ≤ L) := by
  obtain ⟨b1, b2, b3⟩ := ru_spec (p := pB B L) L a (fun j hj => pB_no (by omega))
  rw [← tB] at b1 b2 b3
  have bL : tB B L a ≤ L := by
    rcases Nat.lt_or_ge L (tB B L a) with e | e
    · have := b2 L haL e
      rw [pB_no (Nat.le_refl _)] at this
      exact absurd this (by decide)
    · exact e
  refine qm_Ev.by (M := mX2_nextToken) okX2_nextToken (Nat.le_of_ble_eq_true rfl) hG fun z hA => ?_
  have fr1 : ∀ h', cf h h' → TP (h'.1 2) B := fun h' c => by rw [c.1.2 2 (by decide)]; exact hB
  obtain ⟨b, hb⟩ : ∃ b, b = tB B L a := ⟨_, rfl⟩
  rw [← hb] at b1 b2 b3 bL
  have fin : ∀ h' e k, cf h h' → tKE B L b = (k, e) → b ≤ e → e ≤ L → h'.1 8 5 = nI e → h'.1 8 7 = nI b → h'.1 8 6 = nI (ck k) → (k = 3 → h'.1 8 8 = nI (nv B b (e - b))) → qm_PW G mX2_nextToken z 89 0 0 [vr 8, vr 2, vi (nI L)] [] (h') := by
    intro h' e k c1 c2 c3 c4 c5 c6 c7 c8
    have eK : tK B L a = k := by rw [tK, ← hb, c2]
    have eE : tE B L a = e := by rw [tE, ← hb, c2]
    refine qm_wp_ok hA [] 10 _ _ _ _ _ _ ⟨rfl, rfl, ⟨by rw [c5, eE], by rw [c6, hb], by rw [c7, eK], fun q => ?_⟩, c1, by omega, by omega, by omega⟩
    rw [c8 (by omega), tV, eE, ← hb]
  have m44 : ∀ h', cf h h' → b < L → pL B L b = true → h'.1 8 5 = nI b → h'.1 8 7 = nI b → h'.1 8 6 = nI 1 → qm_PW G mX2_nextToken z 44 0 0 [vr 8, vr 2, vi (nI L)] [] (h') := by
    intro h' c1 hbL hlet c2 c3 c4
    obtain ⟨e1, e2, e3⟩ := ru_spec (p := pL B L) L b (fun j hj => pL_no (by omega))
    have eL : ru (pL B L) L b ≤ L := by
      rcases Nat.lt_or_ge L (ru (pL B L) L b) with q | q
      · have := e2 L bL q
        rw [pL_no (Nat.le_refl _)] at this
        exact absurd this (by decide)
      · exact q
    obtain ⟨e, he⟩ : ∃ e, e = ru (pL B L) L b := ⟨_, rfl⟩
    rw [← he] at e1 e2 e3 eL
    have eKE : tKE B L b = (2, e) := by rw [tKE, if_pos hbL, if_pos hlet, he]
    refine qm_for (P := fun i => ∀ h', cf h h' → h'.1 8 5 = nI (b + i) → h'.1 8 7 = nI b → h'.1 8 6 = nI 1 → qm_PW G mX2_nextToken z 44 0 0 [vr 8, vr 2, vi (nI L)] [] (h')) (N := e - b) ?_ ?_ h' c1 c2 c3 c4
    · intro h' c1 c2 c3 c4
      rw [show b + (e - b) = e by omega] at c2
      have hB' := fr1 h' c1
      refine qm_wp_ok hA [89] 40 _ _ _ _ _ _ ⟨rfl, fun _ => fin h' e 2 c1 eKE e1 eL c2 c3 c4 (fun z => by omega), fun (q : ¬ nI L ≤ h'.1 8 5) => ⟨rfl, rfl, ?_, ?_⟩⟩
      · show vp_in (h'.1 8 5) 600
        rw [c2] at q ⊢
        exact vp_in_nI (by have : ¬ L ≤ e := fun z => q (nI_le z (by omega)); omega) (by decide)
      · rw [c2] at q
        have hlt : e < L := by have : ¬ L ≤ e := fun z => q (nI_le z (by omega)); omega
        have g := c_isLetter hG (d + 1) h' (hB' e (by omega)).2
        have eb : byI (B e) = h'.1 2 (h'.1 8 5).toNatClampNeg := by rw [c2, nI_clamp (by omega), (hB' e (by omega)).1]
        rw [eb] at g
        refine ⟨0, 0, _, g, ⟨Nat.le_refl _, Nat.le_refl _⟩, ?_⟩
        rintro _ _ ⟨rfl, rfl⟩
        rw [pL_at hlt, e3]
        exact ⟨fun _ => fin h' e 2 c1 eKE e1 eL c2 c3 c4 (fun z => by omega), fun q => absurd rfl q⟩
    · intro i hi nx h' c1 c2 c3 c4
      have hB' := fr1 h' c1
      have hp := e2 (b + i) (by omega) (by omega)
      have hin : vp_in (h'.1 8 5) 600 := by rw [c2]; exact vp_in_nI (by omega) (by decide)
      have eb : byI (B (b + i)) = h'.1 2 (h'.1 8 5).toNatClampNeg := by rw [c2, nI_clamp (by omega), (hB' _ (by omega)).1]
      have g := c_isLetter hG (d + 1) h' (hB' (b + i) (by omega)).2
      rw [eb] at g
      refine qm_wp_ok hA [44, 89] 40 _ _ _ _ _ _ ⟨rfl, fun (q : nI L ≤ h'.1 8 5) => absurd q (by rw [c2]; exact nI_ge (by omega) (by omega)), fun _ => ⟨rfl, rfl, hin, 0, 0, _, g, ⟨Nat.le_refl _, Nat.le_refl _⟩, ?_⟩⟩
      rintro _ _ ⟨rfl, rfl⟩
      rw [pL_at (show b + i < L by omega), hp]
      refine ⟨fun q => absurd q (by decide), fun _ => ⟨rfl, rfl, trivial, nx _ (c1.s (by decide)) ?_ ?_ ?_⟩⟩
      · refine (si_s _ _ _ _).trans ?_
        show h'.1 8 5 + 1 = _
        rw [c2, nI_1, Nat.add_assoc]
      · exact (si_o _ _ _ (by decide)).trans c3
      · exact (si_o _ _ _ (by decide)).trans c4
  have m23 : ∀ h', cf h h' → h'.1 8 5 = nI b → qm_PW G mX2_nextToken z 23 0 0 [vr 8, vr 2, vi (nI L)] [] (h') := by
    intro h0 c0 c2
    obtain ⟨h', hh⟩ : ∃ h', h' = qm_si h0 8 7 (h0.1 8 5) := ⟨_, rfl⟩
    have c1 : cf h h' := by rw [hh]; exact c0.s (by decide)
    have c5 : h'.1 8 5 = nI b := by rw [hh]; exact (si_o _ _ _ (by decide)).trans c2
    have c7 : h'.1 8 7 = nI b := by rw [hh, si_s, c2]
    have hB' := fr1 h' c1
    have go : qm_PW G mX2_nextToken z 27 0 0 [vr 8, vr 2, vi (nI L)] [] (h') := by
      by_cases hbL : b < L
      · have hin : vp_in (h'.1 8 5) 600 := by rw [c5]; exact vp_in_nI (by omega) (by decide)
        have eb : byI (B b) = h'.1 2 (h'.1 8 5).toNatClampNeg := by rw [c5, nI_clamp (by omega), (hB' _ (by omega)).1]
        have g := c_isLetter hG (d + 1) h' (hB' b (by omega)).2
        have g2 := c_isDigit hG (d + 1) h' (hB' b (by omega)).2
        rw [eb] at g g2
        refine qm_wp_ok hA [44, 72, 89] 60 _ _ _ _ _ _ ⟨rfl, fun _ => ⟨rfl, rfl, hin, 0, 0, _, g, ⟨Nat.le_refl _, Nat.le_refl _⟩, ?_⟩, fun (q : ¬ h'.1 8 5 < nI L) => absurd (by rw [c5]; exact nI_lt hbL (by omega)) q⟩
        rintro _ _ ⟨rfl, rfl⟩
        rw [pL_at hbL]
        refine b2_eq (fun hlet => ⟨rfl, trivial, m44 _ (c1.s (by decide)) hbL hlet ((si_o _ _ _ (by decide)).trans c5) ((si_o _ _ _ (by decide)).trans c7) (si_s _ _ _ _)⟩) (fun hnl => ⟨rfl, rfl, hin, 0, 0, _, g2, ⟨Nat.le_refl _, Nat.le_refl _⟩, ?_⟩)
        rintro _ _ ⟨rfl, rfl⟩
        rw [pD_at hbL]
        refine b2_eq (fun hdig => ⟨rfl, 0, 0, _, c_readNumber hG d h' hB' hL (by omega) c5 c7 rfl, ⟨Nat.le_refl _, Nat.le_refl _⟩, ?_⟩) (fun hnd => ?_)
        · rintro _ h2 ⟨rfl, r1, ⟨r2, r3⟩, r4, r5, r6, r7⟩
          refine fin h2 _ (if ru (pD B L) L b - b ≤ 2 then 3 else 1) (c1.tr r1) (by rw [tKE, if_pos hbL, if_neg (by rw [hnl]; decide), if_pos hdig]) r2 r3 r4 r5 ?_ (fun _ => r7)
          rw [r6]
          congr 1
          split <;> rfl
        · have eKE : tKE B L b = ((if B b = 59 then 4 else 1), b + 1) := by rw [tKE, if_pos hbL, if_neg (by rw [hnl]; decide), if_neg (by rw [hnd]; decide)]
          have e59 := by_eq (b := B b) (c := 59) (hB' b (by omega)).2 (by decide)
          rw [eb] at e59
          refine qm_wp_ok hA [89] 40 _ _ _ _ _ _ ⟨rfl, rfl, hin, fun (q : ¬ h'.1 2 (h'.1 8 5).toNatClampNeg = nI 59) => ⟨rfl, trivial, rfl, rfl, trivial, fin _ (b + 1) 1 ((c1.s (by decide)).s (by decide)) ?_ (by omega) (by omega) ?_ ?_ ?_ (fun z => by omega)⟩, fun (q : h'.1 2 (h'.1 8 5).toNatClampNeg = nI 59) => ⟨rfl, trivial, rfl, rfl, trivial, fin _ (b + 1) 4 ((c1.s (by decide)).s (by decide)) ?_ (by omega) (by omega) ?_ ?_ ?_ (fun z => by omega)⟩⟩
          · rw [eKE, if_neg (fun z => q (e59.mpr z))]
          · refine (si_s _ _ _ _).trans ?_
            show (qm_si h' 8 6 4).1 8 5 + 1 = _
            rw [si_o _ _ _ (by decide), c5, nI_1]
          · exact (si_o _ _ _ (by decide)).trans ((si_o _ _ _ (by decide)).trans c7)
          · exact (si_o _ _ _ (by decide)).trans (si_s _ _ _ _)
          · rw [eKE, if_pos (e59.mp q)]
          · refine (si_s _ _ _ _).trans ?_
            show (qm_si h' 8 6 3).1 8 5 + 1 = _
            rw [si_o _ _ _ (by decide), c5, nI_1]
          · exact (si_o _ _ _ (by decide)).trans ((si_o _ _ _ (by decide)).trans c7)
          · exact (si_o _ _ _ (by decide)).trans (si_s _ _ _ _)
      · refine qm_wp_ok hA [89] 40 _ _ _ _ _ _ ⟨rfl, fun (q : h'.1 8 5 < nI L) => absurd q (by rw [c5]; exact Int32.not_lt.mpr (nI_le (by omega) (by omega))), fun _ => ⟨rfl, trivial, fin _ b 0 (c1.s (by decide)) (by rw [tKE, if_neg hbL]) (Nat.le_refl _) bL ((si_o _ _ _ (by decide)).trans c5) ((si_o _ _ _ (by decide)).trans c7) (si_s _ _ _ _) (fun z => by omega)⟩⟩
    rw [hh] at go
    exact qm_wp_ok hA [27] 20 _ _ _ _ _ _ ⟨rfl, rfl, trivial, go⟩
  refine qm_for (P := fun i => ∀ h', cf h h' → h'.1 8 5 = nI (a + i) → qm_PW G mX2_nextToken z 0 0 0 [vr 8, vr 2, vi (nI L)] [] (h')) (N := b - a) ?_ ?_ h cf.rf ha
  · intro h' c1 c2
    rw [show a + (b - a) = b by omega] at c2
    have hB' := fr1 h' c1
    refine qm_wp_ok hA [0, 23] 60 _ _ _ _ _ _ ⟨rfl, fun _ => m23 h' c1 c2, fun (q : ¬ nI L ≤ h'.1 8 5) => ?_⟩
    rw [c2] at q
    have hlt : b < L := by have : ¬ L ≤ b := fun z => q (nI_le z (by omega)); omega
    have hin : vp_in (h'.1 8 5) 600 := by rw [c2]; exact vp_in_nI (by omega) (by decide)
    have eb : byI (B b) = h'.1 2 (h'.1 8 5).toNatClampNeg := by rw [c2, nI_clamp (by omega), (hB' _ (by omega)).1]
    have e10 := by_eq (b := B b) (c := 10) (hB' b (by omega)).2 (by decide)
    have e32 := by_eq (b := B b) (c := 32) (hB' b (by omega)).2 (by decide)
    rw [eb] at e10 e32
    have nb : ¬ B b = 10 ∧ ¬ B b = 32 := by
      rw [pB, decide_eq_true hlt, Bool.true_and, Bool.or_eq_false_iff] at b3
      exact ⟨of_decide_eq_false b3.1, of_decide_eq_false b3.2⟩
    exact ⟨rfl, rfl, hin, fun (q : h'.1 2 (h'.1 8 5).toNatClampNeg = nI 10) => absurd (e10.mp q) nb.1, fun _ => ⟨rfl, rfl, hin, fun _ => m23 h' c1 c2, fun (q : h'.1 2 (h'.1 8 5).toNatClampNeg = nI 32) => absurd (e32.mp q) nb.2⟩⟩
  · intro i hi nx h' c1 c2
    have hB' := fr1 h' c1
    have hp := b2 (a + i) (by omega) (by omega)
    rw [pB, Bool.and_eq_true, Bool.or_eq_true, decide_eq_true_eq, decide_eq_true_eq, decide_eq_true_eq] at hp
    obtain ⟨hiL, hp⟩ := hp
    have hin : vp_in (h'.1 8 5) 600 := by rw [c2]; exact vp_in_nI (by omega) (by decide)
    have eb : byI (B (a + i)) = h'.1 2 (h'.1 8 5).toNatClampNeg := by rw [c2, nI_clamp (by omega), (hB' _ (by omega)).1]
    have e10 := by_eq (b := B (a + i)) (c := 10) (hB' _ (by omega)).2 (by decide)
    have e32 := by_eq (b := B (a + i)) (c := 32) (hB' _ (by omega)).2 (by decide)
    rw [eb] at e10 e32
    have nx' : qm_PW G mX2_nextToken z 0 0 0 [vr 8, vr 2, vi (nI L)] [] (qm_si h' 8 5 (h'.1 8 5 + 1)) := nx _ (c1.s (by decide)) (by rw [si_s, c2, nI_1, Nat.add_assoc])
    refine qm_wp_ok hA [0, 23] 60 _ _ _ _ _ _ ⟨rfl, fun (q : nI L ≤ h'.1 8 5) => absurd q (by rw [c2]; exact nI_ge hiL (by omega)), fun _ => ⟨rfl, rfl, hin, fun _ => ⟨rfl, rfl, trivial, nx'⟩, fun (q : ¬ h'.1 2 (h'.1 8 5).toNatClampNeg = nI 10) => ⟨rfl, rfl, hin, fun (q2 : ¬ h'.1 2 (h'.1 8 5).toNatClampNeg = nI 32) => ?_, fun _ => ⟨rfl, rfl, trivial, nx'⟩⟩⟩⟩
    rcases hp with z | z
    · exact absurd (e10.mpr z) q
    · exact absurd (e32.mpr z) q2
