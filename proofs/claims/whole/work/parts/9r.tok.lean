/-! the class: the signs of a tape -/
theorem by_L : ∀ b, b < 256 → (decide (byI b < 97) || decide (122 < byI b)) = !(decide (97 ≤ b) && decide (b ≤ 122)) := by decide +kernel
theorem by_D : ∀ b, b < 256 → (decide (byI b < 48) || decide (57 < byI b)) = !(decide (48 ≤ b) && decide (b ≤ 57)) := by decide +kernel
theorem by_lo : ∀ b, b < 128 → byI b = nI b := by decide +kernel
theorem by_hi : ∀ b, b < 256 → 128 ≤ b → byI b < 0 := by decide +kernel
theorem by_eq {b c : Nat} (hb : b < 256) (hc : c < 128) : byI b = nI c ↔ b = c := by
  rcases Nat.lt_or_ge b 128 with z | z
  · rw [by_lo b z]; exact nI_eq (by omega) (by omega)
  · refine ⟨fun e => ?_, fun e => by omega⟩
    have := by_hi b hb z
    rw [e] at this
    exact absurd this (nI_pos (by omega))
def ltr (b : Nat) : Bool := decide (97 ≤ b) && decide (b ≤ 122)
def dgt (b : Nat) : Bool := decide (48 ≤ b) && decide (b ≤ 57)
theorem pL_at {B : Nat → Nat} {L j : Nat} (h : j < L) : ltr (B j) = pL B L j := by rw [pL, decide_eq_true h, Bool.true_and]; rfl
theorem pD_at {B : Nat → Nat} {L j : Nat} (h : j < L) : dgt (B j) = pD B L j := by rw [pD, decide_eq_true h, Bool.true_and]; rfl
theorem c_isLetter {G : qm_G} (hG : G.2.2.2.2 = true) (d : Nat) (h : qm_H) {b : Nat} (hb : b < 256) : qm_Ev G d 0 0 qyX2_isLetter [.int (byI b)] h (fun r h' => r = some (.int (b2 (ltr b))) ∧ h = h') := by
  have e := by_L b hb
  obtain ⟨x, hx⟩ : ∃ x, x = byI b := ⟨_, rfl⟩
  rw [← hx] at e ⊢
  by_cases c1 : x < 97
  · have e0 : ltr b = false := by
      rw [decide_eq_true c1, Bool.true_or] at e
      rw [ltr]; cases q : (decide (97 ≤ b) && decide (b ≤ 122)) <;> rw [q] at e <;> first | rfl | exact absurd e (by decide)
    rw [e0]
    refine qm_Ev.run (M := mX2_isLetter) okX2_isLetter rfl hG fun z => ?_
    exact ⟨fun _ => ⟨rfl, rfl, rfl⟩, fun z => absurd c1 z⟩
  · by_cases c2 : (122 : Int32) < x
    · have e0 : ltr b = false := by
        rw [decide_eq_true c2, Bool.or_true] at e
        rw [ltr]; cases q : (decide (97 ≤ b) && decide (b ≤ 122)) <;> rw [q] at e <;> first | rfl | exact absurd e (by decide)
      rw [e0]
      refine qm_Ev.run (M := mX2_isLetter) okX2_isLetter rfl hG fun z => ?_
      exact ⟨fun z => absurd z c1, fun _ => ⟨fun _ => ⟨rfl, rfl, rfl⟩, fun z => absurd c2 z⟩⟩
    · have e0 : ltr b = true := by
        rw [decide_eq_false c1, decide_eq_false c2] at e
        rw [ltr]; cases q : (decide (97 ≤ b) && decide (b ≤ 122)) <;> rw [q] at e <;> first | rfl | exact absurd e (by decide)
      rw [e0]
      refine qm_Ev.run (M := mX2_isLetter) okX2_isLetter rfl hG fun z => ?_
      exact ⟨fun z => absurd z c1, fun _ => ⟨fun z => absurd z c2, fun _ => ⟨rfl, rfl, rfl⟩⟩⟩
theorem c_isDigit {G : qm_G} (hG : G.2.2.2.2 = true) (d : Nat) (h : qm_H) {b : Nat} (hb : b < 256) : qm_Ev G d 0 0 qyX2_isDigit [.int (byI b)] h (fun r h' => r = some (.int (b2 (dgt b))) ∧ h = h') := by
  have e := by_D b hb
  obtain ⟨x, hx⟩ : ∃ x, x = byI b := ⟨_, rfl⟩
  rw [← hx] at e ⊢
  by_cases c1 : x < 48
  · have e0 : dgt b = false := by
      rw [decide_eq_true c1, Bool.true_or] at e
      rw [dgt]; cases q : (decide (48 ≤ b) && decide (b ≤ 57)) <;> rw [q] at e <;> first | rfl | exact absurd e (by decide)
    rw [e0]
    refine qm_Ev.run (M := mX2_isDigit) okX2_isDigit rfl hG fun z => ?_
    exact ⟨fun _ => ⟨rfl, rfl, rfl⟩, fun z => absurd c1 z⟩
  · by_cases c2 : (57 : Int32) < x
    · have e0 : dgt b = false := by
        rw [decide_eq_true c2, Bool.or_true] at e
        rw [dgt]; cases q : (decide (48 ≤ b) && decide (b ≤ 57)) <;> rw [q] at e <;> first | rfl | exact absurd e (by decide)
      rw [e0]
      refine qm_Ev.run (M := mX2_isDigit) okX2_isDigit rfl hG fun z => ?_
      exact ⟨fun z => absurd z c1, fun _ => ⟨fun _ => ⟨rfl, rfl, rfl⟩, fun z => absurd c2 z⟩⟩
    · have e0 : dgt b = true := by
        rw [decide_eq_false c1, decide_eq_false c2] at e
        rw [dgt]; cases q : (decide (48 ≤ b) && decide (b ≤ 57)) <;> rw [q] at e <;> first | rfl | exact absurd e (by decide)
      rw [e0]
      refine qm_Ev.run (M := mX2_isDigit) okX2_isDigit rfl hG fun z => ?_
      exact ⟨fun z => absurd z c1, fun _ => ⟨fun z => absurd z c2, fun _ => ⟨rfl, rfl, rfl⟩⟩⟩
theorem si_o (h : qm_H) (p : Nat) {k j : Nat} (v : Int32) (hj : j ≠ k) : (qm_si h p k v).1 p j = h.1 p j := by rw [si_row, up_n _ _ hj]
/-- only the reader's place, token, start, number change -/
def cf (h h' : qm_H) : Prop := sb [8] h h' ∧ ∀ k, k ∉ [5, 6, 7, 8] → h'.1 8 k = h.1 8 k
theorem cf.rf {h : qm_H} : cf h h := ⟨sb.rf, fun _ _ => rfl⟩
theorem cf.tr {h h1 h2 : qm_H} (a : cf h h1) (b : cf h1 h2) : cf h h2 := ⟨a.1.tr b.1, fun k hk => (b.2 k hk).trans (a.2 k hk)⟩
theorem cf.s {h h1 : qm_H} (a : cf h h1) {k : Nat} {v : Int32} (hk : k ∈ [5, 6, 7, 8]) : cf h (qm_si h1 8 k v) := by
  refine ⟨a.1.si (List.mem_singleton.mpr rfl), fun j hj => ?_⟩
  rw [si_row, up_n _ _ (fun e => hj (by rw [e]; exact hk))]; exact a.2 j hj
theorem c_readNumber {G : qm_G} (hG : G.2.2.2.2 = true) (d : Nat) (h : qm_H) {B : Nat → Nat} {L b e : Nat} (hB : TP (h.1 2) B) (hL : L ≤ 600) (hbL : b ≤ L) (h5 : h.1 8 5 = nI b) (h7 : h.1 8 7 = nI b) (he : e = ru (pD B L) L b) : qm_Ev G (d + 1) 0 0 qyX2_readNumber [.ref 8, .ref 2, .int (nI L)] h (fun r h' => r = none ∧ cf h h' ∧ (b ≤ e ∧ e ≤ L) ∧ h'.1 8 5 = nI e ∧ h'.1 8 7 = nI b ∧ h'.1 8 6 = nI (if e - b ≤ 2 then 2 else 4) ∧ h'.1 8 8 = nI (nv B b (e - b))) := by
  obtain ⟨e1, e2, e3⟩ := ru_spec (p := pD B L) L b (fun j hj => pD_no (by omega))
  rw [← he] at e1 e2 e3
  have eL : e ≤ L := by
    rcases Nat.lt_or_ge L e with q | q
    · have := e2 L hbL q
      rw [pD_no (Nat.le_refl _)] at this
      exact absurd this (by decide)
    · exact q
  have dig : ∀ j, j < e - b → 48 ≤ B (b + j) ∧ B (b + j) ≤ 57 := fun j hj => by
    have := e2 (b + j) (by omega) (by omega)
    rw [pD, Bool.and_eq_true, Bool.and_eq_true, decide_eq_true_eq, decide_eq_true_eq, decide_eq_true_eq] at this
    exact this.2
  refine qm_Ev.by (M := mX2_readNumber) okX2_readNumber (Nat.le_of_ble_eq_true rfl) hG fun z hA => ?_
  refine qm_wp_ok hA [3] 20 _ _ _ _ _ _ ?_
  refine ⟨rfl, trivial, ?_⟩
  have m40 : ∀ h', cf h h' → h'.1 8 5 = nI e → h'.1 8 7 = nI b → h'.1 8 8 = nI (nv B b (e - b)) → qm_PW G mX2_readNumber z 40 0 0 [vr 8, vr 2, vi (nI L)] [] (h') := by
    intro h' c1 c2 c3 c4
    have es : h'.1 8 5 - h'.1 8 7 = nI (e - b) := by rw [c2, c3, pk_sub (by omega)]
    refine qm_wp_ok hA [] 40 _ _ _ _ _ _ ⟨rfl, rfl, fun (q : (2 : Int32) < h'.1 8 5 - h'.1 8 7) => ⟨rfl, trivial, rfl, rfl, c1.s (by decide), ⟨e1, eL⟩, ?_, ?_, ?_, ?_⟩, fun (q : ¬ (2 : Int32) < h'.1 8 5 - h'.1 8 7) => ⟨rfl, trivial, rfl, rfl, c1.s (by decide), ⟨e1, eL⟩, ?_, ?_, ?_, ?_⟩⟩
    · rw [si_row, up_n _ _ (by decide), c2]
    · rw [si_row, up_n _ _ (by decide), c3]
    · rw [es] at q
      have : ¬ e - b ≤ 2 := fun z => absurd (nI_le z (by decide)) (Int32.not_le.mpr q)
      exact (si_s _ _ _ _).trans (by rw [if_neg this]; rfl)
    · rw [si_row, up_n _ _ (by decide), c4]
    · rw [si_row, up_n _ _ (by decide), c2]
    · rw [si_row, up_n _ _ (by decide), c3]
    · rw [es] at q
      have : e - b ≤ 2 := (nI_leI (by omega) (by omega)).mp (Int32.not_lt.mp q)
      exact (si_s _ _ _ _).trans (by rw [if_pos this]; rfl)
    · rw [si_row, up_n _ _ (by decide), c4]
  have start := qm_for (P := fun i => ∀ h', cf h h' → h'.1 8 5 = nI (b + i) → h'.1 8 7 = nI b → h'.1 8 8 = nI (nv B b i) → qm_PW G mX2_readNumber z 3 0 0 [vr 8, vr 2, vi (nI L)] [] (h')) (N := e - b) ?_ ?_
  · refine start (qm_si h 8 8 0) (cf.rf.s (by decide)) ?_ ?_ ?_
    · rw [si_row, up_n _ _ (by decide), h5]; rfl
    · rw [si_row, up_n _ _ (by decide), h7]
    · rw [si_row, up_s]; rfl
  · intro h' c1 c2 c3 c4
    rw [show b + (e - b) = e by omega] at c2
    have hB' : TP (h'.1 2) B := by rw [c1.1.2 2 (by decide)]; exact hB
    refine qm_wp_ok hA [40] 40 _ _ _ _ _ _ ⟨rfl, fun _ => m40 h' c1 c2 c3 c4, fun (q : ¬ nI L ≤ h'.1 8 5) => ⟨rfl, rfl, ?_, ?_⟩⟩
    · show vp_in (h'.1 8 5) 600
      rw [c2] at q ⊢
      exact vp_in_nI (by have : ¬ L ≤ e := fun z => q (nI_le z (by omega)); omega) (by decide)
    · rw [c2] at q
      have hlt : e < L := by have : ¬ L ≤ e := fun z => q (nI_le z (by omega)); omega
      have g := c_isDigit hG d h' (hB' e (by omega)).2
      have eb : byI (B e) = h'.1 2 (h'.1 8 5).toNatClampNeg := by rw [c2, nI_clamp (by omega), (hB' e (by omega)).1]
      rw [eb] at g
      refine ⟨0, 0, _, g, ⟨Nat.le_refl _, Nat.le_refl _⟩, ?_⟩
      rintro _ _ ⟨rfl, rfl⟩
      rw [pD_at hlt, e3]
      exact ⟨fun _ => m40 h' c1 c2 c3 c4, fun q => absurd rfl q⟩
  · intro i hi nx h' c1 c2 c3 c4
    have hB' : TP (h'.1 2) B := by rw [c1.1.2 2 (by decide)]; exact hB
    have hp := e2 (b + i) (by omega) (by omega)
    have hiL : b + i < L := by omega
    obtain ⟨v1, v2, v3⟩ := nv_le (B := B) (b := b) i (fun j hj => dig j (by omega))
    have hdi := dig i hi
    have hin : vp_in (h'.1 8 5) 600 := by rw [c2]; exact vp_in_nI (by omega) (by decide)
    have eb : h'.1 2 (h'.1 8 5).toNatClampNeg = byI (B (b + i)) := by rw [c2, nI_clamp (by omega), (hB' _ (by omega)).1]
    have es : h'.1 8 5 - h'.1 8 7 = nI i := by rw [c2, c3, pk_sub (by omega), Nat.add_sub_cancel_left]
    have m33 : ∀ h', cf h h' → h'.1 8 5 = nI (b + i) → h'.1 8 7 = nI b → h'.1 8 8 = nI (nv B b (i + 1)) → qm_PW G mX2_readNumber z 33 0 0 [vr 8, vr 2, vi (nI L)] [] (h') := by
      intro h' c1 c2 c3 c4
      refine qm_wp_ok hA [3] 20 _ _ _ _ _ _ ⟨rfl, rfl, trivial, nx _ (c1.s (by decide)) ?_ ?_ ?_⟩
      · refine (si_s _ _ _ _).trans ?_
        show h'.1 8 5 + 1 = _
        rw [c2, nI_1, Nat.add_assoc]
      · rw [si_row, up_n _ _ (by decide), c3]
      · rw [si_row, up_n _ _ (by decide), c4]
    refine qm_wp_ok hA [33, 40] 60 _ _ _ _ _ _ ⟨rfl, fun (q : nI L ≤ h'.1 8 5) => absurd q (by rw [c2]; exact nI_ge hiL (by omega)), fun _ => ⟨rfl, rfl, hin, ?_⟩⟩
    have g := c_isDigit hG d h' (hB' (b + i) (by omega)).2
    rw [← eb] at g
    refine ⟨0, 0, _, g, ⟨Nat.le_refl _, Nat.le_refl _⟩, ?_⟩
    rintro _ _ ⟨rfl, rfl⟩
    rw [pD_at hiL, hp]
    refine ⟨fun q => absurd q (by decide), fun _ => ⟨rfl, rfl, fun (q : (2 : Int32) ≤ h'.1 8 5 - h'.1 8 7) => m33 h' c1 c2 c3 ?_, fun (q : ¬ (2 : Int32) ≤ h'.1 8 5 - h'.1 8 7) => ⟨rfl, rfl, rfl, hin, rfl, trivial, m33 _ (c1.s (by decide)) ?_ ?_ ?_⟩⟩⟩
    · rw [es] at q
      have := (nI_leI (a := 2) (by omega) (by omega)).mp q
      rw [nv, if_neg (by omega)]; exact c4
    · rw [si_row, up_n _ _ (by decide), c2]
    · rw [si_row, up_n _ _ (by decide), c3]
    · rw [es] at q
      have hi2 : ¬ 2 ≤ i := fun z => q (nI_le (a := 2) z (by omega))
      refine (si_s _ _ _ _).trans ?_
      show (10 : Int32) * h'.1 8 8 + h'.1 2 (h'.1 8 5).toNatClampNeg - 48 = _
      rw [eb, c4, by_lo _ (by omega), nv, if_pos (by omega), show (10 : Int32) = nI 10 from rfl, show (48 : Int32) = nI 48 from rfl, pk_mul, nI_add, pk_sub (by omega)]
