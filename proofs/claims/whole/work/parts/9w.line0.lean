/-! the class: faults, counts, bounds of a line -/
/-- of the reader's own numbers, only those in K change -/
def cg (K : List Nat) (h h' : qm_H) : Prop := sb [8] h h' ∧ ∀ k, k ∉ K → h'.1 8 k = h.1 8 k
theorem cg.rf {K : List Nat} {h : qm_H} : cg K h h := ⟨sb.rf, fun _ _ => rfl⟩
theorem cg.tr {K : List Nat} {h h1 h2 : qm_H} (a : cg K h h1) (b : cg K h1 h2) : cg K h h2 := ⟨a.1.tr b.1, fun k hk => (b.2 k hk).trans (a.2 k hk)⟩
theorem cg.mono {K K' : List Nat} {h h' : qm_H} (a : cg K h h') (hk : ∀ k, k ∈ K → k ∈ K') : cg K' h h' := ⟨a.1, fun k q => a.2 k (fun z => q (hk k z))⟩
theorem cg.s {K : List Nat} {h h1 : qm_H} (a : cg K h h1) {k : Nat} {v : Int32} (hk : k ∈ K) : cg K h (qm_si h1 8 k v) := by
  refine ⟨a.1.si (List.mem_singleton.mpr rfl), fun j hj => ?_⟩
  rw [si_row, up_n _ _ (fun e => hj (by rw [e]; exact hk))]; exact a.2 j hj
/-- the reader's fault and its place -/
def FLc (h : qm_H) (flt : Nat × Nat) : Prop := h.1 8 0 = nI flt.1 ∧ h.1 8 1 = (if flt.1 = 0 then -1 else nI flt.2) ∧ flt.1 ≤ 4
theorem FLc.cg {K : List Nat} {h h' : qm_H} {flt : Nat × Nat} (k : FLc h flt) (a : cg K h h') (h0 : 0 ∉ K) (h1 : 1 ∉ K) : FLc h' flt := ⟨by rw [a.2 0 h0]; exact k.1, by rw [a.2 1 h1]; exact k.2.1, k.2.2⟩
theorem c_refuse {G : qm_G} (hG : G.2.2.2.2 = true) (d : Nat) (h : qm_H) : qm_Ev G d 0 0 qyX2_refuse [.ref 8] h (fun r h' => r = some (.int 0) ∧ h'.1 8 0 = 1 ∧ h'.1 8 1 = h.1 8 7 ∧ cg [0, 1] h h') := by
  refine qm_Ev.run (M := mX2_refuse) okX2_refuse rfl hG fun z => ?_
  refine ⟨rfl, trivial, rfl, rfl, trivial, rfl, rfl, ?_, ?_, (cg.rf.s (by decide)).s (by decide)⟩
  · exact (si_o _ _ _ (by decide)).trans (si_s _ _ _ _)
  · exact (si_s _ _ _ _).trans (si_o _ _ _ (by decide))
theorem c_blame {G : qm_G} (hG : G.2.2.2.2 = true) (d : Nat) (h : qm_H) {flt : Nat × Nat} (hF : FLc h flt) {f p : Nat} (hf : 1 ≤ f) (hf4 : f ≤ 4) : qm_Ev G d 0 0 qyX2_blame [.ref 8, .int (nI f), .int (nI p)] h (fun r h' => r = none ∧ FLc h' (fs1 flt f p) ∧ cg [0, 1] h h') := by
  obtain ⟨f1, f2, f3⟩ := hF
  by_cases c : flt.1 = 0
  · rw [fs1, if_pos c]
    refine qm_Ev.run (M := mX2_blame) okX2_blame rfl hG fun z => ?_
    refine ⟨rfl, fun (q : ¬ h.1 8 0 = 0) => absurd (by rw [f1, c]; rfl) q, fun _ => ⟨rfl, trivial, rfl, trivial, rfl, rfl, ⟨?_, ?_, hf4⟩, (cg.rf.s (by decide)).s (by decide)⟩⟩
    · exact (si_o _ _ _ (by decide)).trans (si_s _ _ _ _)
    · rw [if_neg (show ¬ f = 0 by omega)]; exact si_s _ _ _ _
  · rw [fs1, if_neg c]
    refine qm_Ev.run (M := mX2_blame) okX2_blame rfl hG fun z => ?_
    refine ⟨rfl, fun _ => ⟨rfl, rfl, ⟨f1, f2, f3⟩, cg.rf⟩, fun (q : h.1 8 0 = 0) => absurd ((nI_eq (a := flt.1) (b := 0) (by omega) (by omega)).mp (by rw [← f1]; exact q)) c⟩
theorem c_countLine {G : qm_G} (hG : G.2.2.2.2 = true) (d : Nat) (h : qm_H) {flt : Nat × Nat} (hF : FLc h flt) {w s m p : Nat} (hw : w < 12) (hs : s < 3) (hm : h.1 8 4 = nI m) (hm6 : m ≤ 150) (h7 : h.1 8 7 = nI p) : qm_Ev G (d + 1) 0 0 qyX2_countLine [.ref 8, .int (nI w), .int (nI s)] h (fun r h' => r = none ∧ FLc h' (if cnd s w && decide (lim s ≤ m) then fs1 flt 3 p else flt) ∧ h'.1 8 4 = nI (m + (if cnd s w then 1 else 0)) ∧ cg [0, 1, 4] h h') := by
  have hl : lim s ≤ 40 := (by decide : ∀ s, s < 3 → lim s ≤ 40) s hs
  have hq : Value.int (qm_sti 2 (nI s).toNatClampNeg) = .int (nI (lim s)) := by
    rw [nI_clamp (by omega), (by decide : ∀ s, s < 3 → qm_sti 2 s = nI (lim s)) s hs]
  refine qm_Ev.by (M := mX2_countLine) okX2_countLine (Nat.le_of_ble_eq_true rfl) hG fun z hA => ?_
  have go : cnd s w = true → qm_PW G mX2_countLine z 10 0 0 [vr 8, vi (nI w), vi (nI s)] [] (h) := by
    intro c
    obtain ⟨h1, hh1⟩ : ∃ h1, h1 = qm_si h 8 4 (h.1 8 4 + 1) := ⟨_, rfl⟩
    have e4 : h1.1 8 4 = nI (m + 1) := by rw [hh1, si_s, hm, nI_1]
    have e7 : h1.1 8 7 = nI p := by rw [hh1, si_o _ _ _ (by decide), h7]
    have c1 : cg [0, 1, 4] h h1 := by rw [hh1]; exact cg.rf.s (by decide)
    have F1 : FLc h1 flt := by
      rw [hh1]
      exact ⟨by rw [si_o _ _ _ (by decide)]; exact hF.1, by rw [si_o _ _ _ (by decide)]; exact hF.2.1, hF.2.2⟩
    have g18 : qm_PW G mX2_countLine z 18 0 0 [vr 8, vi (nI w), vi (nI s)] [.int (h1.1 8 4)] (h1) := by
      refine sp_gets hA rfl rfl rfl 2 rfl (k1 := 468) (by decide +kernel) ?_
      refine qm_wp_ok hA [20] 10 _ _ _ _ _ _ ?_
      refine sp_ti hA rfl rfl rfl 2 rfl (x := nI s) (y := nI (lim s)) (vp_in_nI (by omega) (by decide)) hq ?_
      refine qm_wp_ok hA [] 20 _ _ _ _ _ _ ⟨fun (q : h1.1 8 4 ≤ nI (lim s)) => ⟨rfl, rfl, ?_, ?_, c1⟩, fun (q : ¬ h1.1 8 4 ≤ nI (lim s)) => ⟨rfl, rfl, ?_⟩⟩
      · rw [e4] at q
        have := (nI_leI (by omega) (by omega)).mp q
        rw [decide_eq_false (show ¬ lim s ≤ m by omega), Bool.and_false]; exact F1
      · rw [e4, if_pos c]
      · rw [e4] at q
        have hle : lim s ≤ m := by have : ¬ m + 1 ≤ lim s := fun z => q (nI_le z (by omega)); omega
        have g := c_blame hG d h1 F1 (f := 3) (p := p) (by decide) (by decide)
        rw [← e7] at g
        refine ⟨0, 0, _, g, ⟨Nat.le_refl _, Nat.le_refl _⟩, ?_⟩
        rintro _ h2 ⟨rfl, b1, b2⟩
        refine ⟨rfl, rfl, ?_, ?_, c1.tr (b2.mono (by decide))⟩
        · rw [c, decide_eq_true hle]; exact b1
        · rw [b2.2 4 (by decide), e4, if_pos c]
    rw [hh1] at g18
    exact qm_wp_ok hA [18] 20 _ _ _ _ _ _ ⟨rfl, rfl, trivial, rfl, g18⟩
  refine qm_wp_ok hA [10] 20 _ _ _ _ _ _ ⟨fun q => absurd q (nI_pos (by omega)), fun _ => ⟨fun q => absurd q (nI_ge (b := 3) hs (by decide)), fun _ => ⟨fun (q : ¬ nI s = 0) => go ?_, fun (q : nI s = 0) => ⟨fun (q2 : nI w = 0) => go ?_, fun (q2 : ¬ nI w = 0) => ⟨rfl, rfl, ?_, ?_, cg.rf⟩⟩⟩⟩⟩
  · have : ¬ s = 0 := fun z => q (by rw [z]; rfl)
    rw [cnd, decide_eq_true this]; rfl
  · have : w = 0 := (nI_eq (a := w) (b := 0) (by omega) (by omega)).mp q2
    rw [cnd, decide_eq_true this, Bool.or_true]
  · have z1 : s = 0 := (nI_eq (a := s) (b := 0) (by omega) (by omega)).mp q
    have z2 : ¬ w = 0 := fun z => q2 (by rw [z]; rfl)
    rw [cnd, decide_eq_false (show ¬ ¬ s = 0 from fun z => z z1), decide_eq_false z2]; exact hF
  · have z1 : s = 0 := (nI_eq (a := s) (b := 0) (by omega) (by omega)).mp q
    have z2 : ¬ w = 0 := fun z => q2 (by rw [z]; rfl)
    rw [cnd, decide_eq_false (show ¬ ¬ s = 0 from fun z => z z1), decide_eq_false z2]; exact hm
theorem c_mostOf {G : qm_G} (hG : G.2.2.2.2 = true) (d : Nat) (h : qm_H) {w k : Nat} (hw : w < 12) (hk : 1 ≤ k) (hk3 : k ≤ 3) : qm_Ev G d 0 0 qyX2_mostOf [.int (nI w), .int (nI k)] h (fun r h' => r = some (.int (nI (mo w k))) ∧ h = h') := by
  have q4 : Value.int (qm_sti 4 (nI w).toNatClampNeg) = .int (nI (mo w 1)) := by
    rw [nI_clamp (by omega), (by decide : ∀ w, w < 12 → qm_sti 4 w = nI (mo w 1)) w hw]
  have q5 : Value.int (qm_sti 5 (nI w).toNatClampNeg) = .int (nI (mo w 2)) := by
    rw [nI_clamp (by omega), (by decide : ∀ w, w < 12 → qm_sti 5 w = nI (mo w 2)) w hw]
  refine qm_Ev.by (M := mX2_mostOf) okX2_mostOf (Nat.le_of_ble_eq_true rfl) hG fun z hA => ?_
  refine qm_wp_ok hA [7] 20 _ _ _ _ _ _ ⟨fun q => absurd q (nI_pos (by omega)), fun _ => ⟨fun _ => ?_, fun q => absurd (nI_lt (b := 12) hw (by decide)) q⟩⟩
  rcases (by omega : k = 1 ∨ k = 2 ∨ k = 3) with e | e | e <;> subst e
  · refine qm_wp_ok hA [10] 10 _ _ _ _ _ _ ⟨fun q => absurd rfl q, fun _ => ?_⟩
    refine sp_gets hA rfl rfl rfl 4 rfl (k1 := 479) (by decide +kernel) ?_
    refine qm_wp_ok hA [12] 10 _ _ _ _ _ _ ?_
    refine sp_ti hA rfl rfl rfl 4 rfl (x := nI w) (y := nI (mo w 1)) (vp_in_nI (by omega) (by decide)) q4 ?_
    exact qm_wp_ok hA [] 10 _ _ _ _ _ _ ⟨trivial, rfl, rfl⟩
  · refine qm_wp_ok hA [17] 10 _ _ _ _ _ _ ⟨fun _ => ⟨fun q => absurd rfl q, fun _ => ?_⟩, fun q => absurd q (by decide)⟩
    refine sp_gets hA rfl rfl rfl 5 rfl (k1 := 481) (by decide +kernel) ?_
    refine qm_wp_ok hA [19] 10 _ _ _ _ _ _ ?_
    refine sp_ti hA rfl rfl rfl 5 rfl (x := nI w) (y := nI (mo w 2)) (vp_in_nI (by omega) (by decide)) q5 ?_
    exact qm_wp_ok hA [] 10 _ _ _ _ _ _ ⟨trivial, rfl, rfl⟩
  · exact qm_wp_ok hA [] 10 _ _ _ _ _ _ ⟨fun _ => ⟨fun _ => ⟨trivial, rfl, rfl⟩, fun q => absurd q (by decide)⟩, fun q => absurd q (by decide)⟩
theorem c_again {G : qm_G} (hG : G.2.2.2.2 = true) (d : Nat) (h : qm_H) {w k b : Nat} (hw : w < 12) (hk : k ≤ 3) (hb : b + 3 < 600) : qm_Ev G d 0 0 qyX2_isTheFirstAgain [.ref 8, .int (nI w), .int (nI k), .int (nI b)] h (fun r h' => r = some (.int (b2 (decide (k = 2) && (unl w && decide (h.1 9 (b + 1) = h.1 9 (b + 2)))))) ∧ h = h') := by
  obtain ⟨V, hV⟩ : ∃ V, V = (decide (k = 2) && (unl w && decide (h.1 9 (b + 1) = h.1 9 (b + 2)))) := ⟨_, rfl⟩
  rw [← hV]
  have i1 : vp_in (nI b + 1) 600 := by rw [nI_1]; exact vp_in_nI (by omega) (by decide)
  have i2 : vp_in (nI b + 2) 600 := by rw [show nI b + 2 = nI (b + 2) from nI_add b 2]; exact vp_in_nI (by omega) (by decide)
  have e1 : (nI b + 1).toNatClampNeg = b + 1 := by rw [nI_1, nI_clamp (by omega)]
  have e2 : (nI b + 2).toNatClampNeg = b + 2 := by rw [show nI b + 2 = nI (b + 2) from nI_add b 2, nI_clamp (by omega)]
  refine qm_Ev.by (M := mX2_isTheFirstAgain) okX2_isTheFirstAgain (Nat.le_of_ble_eq_true rfl) hG fun z hA => ?_
  have m12 : ∀ u, u = unl w → qm_PW G mX2_isTheFirstAgain z 12 0 0 [vr 8, vi (nI w), vi (nI k), vi (nI b), vu] [.int (b2 u)] (h) := by
    intro u hu
    by_cases c : k = 2
    · subst c
      cases u with
      | false =>
        have eV : V = false := by rw [hV, ← hu]; rfl
        exact qm_wp_ok hA [] 20 _ _ _ _ _ _ ⟨fun q => absurd rfl q, fun _ => ⟨fun _ => ⟨rfl, congV (by rw [eV]; rfl), rfl⟩, fun q => absurd rfl q⟩⟩
      | true =>
        have eV : V = decide (h.1 9 (b + 1) = h.1 9 (b + 2)) := by rw [hV, ← hu]; rfl
        refine qm_wp_ok hA [] 40 _ _ _ _ _ _ ⟨fun q => absurd rfl q, fun _ => ⟨fun q => absurd q (by decide), fun _ => ⟨rfl, _, rfl, rfl, i1, rfl, _, rfl, rfl, i2, fun (q : ¬ h.1 9 (nI b + 1).toNatClampNeg = h.1 9 (nI b + 2).toNatClampNeg) => ⟨rfl, congV ?_, rfl⟩, fun (q : h.1 9 (nI b + 1).toNatClampNeg = h.1 9 (nI b + 2).toNatClampNeg) => ⟨rfl, congV ?_, rfl⟩⟩⟩⟩
        · rw [e1, e2] at q
          rw [eV, decide_eq_false q]; rfl
        · rw [e1, e2] at q
          rw [eV, decide_eq_true q]; rfl
    · have eV : V = false := by rw [hV, decide_eq_false c, Bool.false_and]
      exact qm_wp_ok hA [] 20 _ _ _ _ _ _ ⟨fun _ => ⟨rfl, congV (by rw [eV]; rfl), rfl⟩, fun (q : nI k = nI 2) => absurd ((nI_eq (by omega) (by omega)).mp q) c⟩
  have nw : ∀ c, c < 12 → ¬ w = c → ¬ nI w = nI c := fun c hc z q => z ((nI_eq (by omega) (by omega)).mp q)
  by_cases c2 : w = 2
  · have hu : true = unl w := by rw [c2]; rfl
    subst c2
    exact qm_wp_ok hA [12] 20 _ _ _ _ _ _ ⟨fun _ => m12 true hu, fun q => absurd rfl q⟩
  · by_cases c4 : w = 4
    · have hu : true = unl w := by rw [c4]; rfl
      subst c4
      exact qm_wp_ok hA [12] 20 _ _ _ _ _ _ ⟨fun q => absurd q (by decide), fun _ => ⟨fun _ => m12 true hu, fun q => absurd rfl q⟩⟩
    · by_cases c8 : w = 8
      · have hu : true = unl w := by rw [c8]; rfl
        subst c8
        exact qm_wp_ok hA [12] 20 _ _ _ _ _ _ ⟨fun q => absurd q (by decide), fun _ => ⟨fun q => absurd q (by decide), fun _ => ⟨fun q => absurd rfl q, fun _ => m12 true hu⟩⟩⟩
      · have hu : false = unl w := by rw [unl, decide_eq_false c2, decide_eq_false c4, decide_eq_false c8]; rfl
        exact qm_wp_ok hA [12] 20 _ _ _ _ _ _ ⟨fun q => absurd q (nw 2 (by decide) c2), fun _ => ⟨fun q => absurd q (nw 4 (by decide) c4), fun _ => ⟨fun _ => m12 false hu, fun q => absurd q (nw 8 (by decide) c8)⟩⟩⟩
